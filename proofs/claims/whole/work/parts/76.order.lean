/-! Arrays.fill of the kept years; the order by ranks -/
theorem fill19 (k : Nat × (Int → Int)) (d : Nat) {σ : St} (v : Int) : ∀ (t : Nat) (i : Int) (τ : St), 0 ≤ i → i + t = 8 → (∀ j, 0 ≤ j → j < i → τ 19 j = v) → (∀ q, q ≠ 19 → τ q = σ q) → ∃ ρ, (∀ j, 0 ≤ j → j < 8 → ρ 19 j = v) ∧ (∀ q, q ≠ 19 → ρ q = σ q) ∧ out (WV k) (EV k d) MJ7_fill_53178 5 [vR 19, vI v, vI i, vI 8] [] τ = some (none, ρ) := by
  intro t
  induction t with
  | zero =>
    intro i τ i0 i1 h1 h2
    have e : i = 8 := by omega
    subst e
    exact ⟨τ, h1, h2, by rw [bJ7_fill19_5, if_neg (by decide)]⟩
  | succ t ih =>
    intro i τ i0 i1 h1 h2
    push_cast at i1
    rw [bJ7_fill19_5, w32_id (a := i) (by omega) (by omega), show w32 8 = 8 by decide, if_pos (by omega), if_pos (by omega)]
    refine ih (i + 1) _ (by omega) (by omega) (fun j j0 j1 => ?_) (fun q hq => by rw [st2_ne hq]; exact h2 q hq)
    by_cases z : j = i
    · rw [z, st2_eq]
    · rw [st2_idx z]; exact h1 j j0 (by omega)
/-- how many feasts stand ahead of a place in the loops by ranks -/
def cB (σ : St) (r f : Int) : Nat → Int
  | 0 => 0
  | m + 1 => cB σ r f m + (if r < σ 17 m ∨ (σ 17 m = r ∧ (m : Int) < f) then 1 else 0)
theorem cB_s (σ : St) (r f : Int) (m : Nat) : cB σ r f (m + 1) = cB σ r f m + (if r < σ 17 m ∨ (σ 17 m = r ∧ (m : Int) < f) then 1 else 0) := rfl
theorem cB_b (σ : St) (r f : Int) (m : Nat) : 0 ≤ cB σ r f m ∧ cB σ r f m ≤ m := by
  induction m with
  | zero => exact ⟨Int.le_refl 0, Int.le_refl 0⟩
  | succ m ih => rw [cB_s]; push_cast; split <;> omega
theorem cB_all (σ : St) (r f : Int) (m : Nat) (h : ∀ j : Nat, j < m → r < σ 17 j ∨ (σ 17 j = r ∧ (j : Int) < f)) : cB σ r f m = m := by
  induction m with
  | zero => rfl
  | succ m ih => rw [cB_s, ih (fun j hj => h j (by omega)), if_pos (h m (by omega))]; push_cast; omega
theorem cB_no (σ : St) (r f : Int) (m : Nat) (h : ∀ j : Nat, j < m → ¬ (r < σ 17 j ∨ (σ 17 j = r ∧ (j : Int) < f))) : cB σ r f m = 0 := by
  induction m with
  | zero => rfl
  | succ m ih => rw [cB_s, ih (fun j hj => h j (by omega)), if_neg (h m (by omega))]; omega
theorem cB_c (σ : St) {r f r2 f2 : Int} (m : Nat) (h : ∀ j : Nat, j < m → ((r < σ 17 j ∨ (σ 17 j = r ∧ (j : Int) < f)) ↔ (r2 < σ 17 j ∨ (σ 17 j = r2 ∧ (j : Int) < f2)))) : cB σ r f m = cB σ r2 f2 m := by
  induction m with
  | zero => rfl
  | succ m ih =>
    rw [cB_s, cB_s, ih (fun j hj => h j (by omega))]
    by_cases z : r < σ 17 m ∨ (σ 17 m = r ∧ (m : Int) < f)
    · rw [if_pos z, if_pos ((h m (by omega)).1 z)]
    · rw [if_neg z, if_neg (fun w => z ((h m (by omega)).2 w))]
theorem cB_step (σ : St) {r f : Int} (f0 : 0 ≤ f) (hr : σ 17 f = r) : ∀ m : Nat, cB σ r (f + 1) m = cB σ r f m + (if f < m then 1 else 0) := by
  intro m
  induction m with
  | zero => rw [if_neg (by omega)]; rfl
  | succ m ih =>
    rw [cB_s, cB_s, ih]
    by_cases z : (m : Int) = f
    · rw [z, if_neg (by omega), if_pos (show r < σ 17 f ∨ (σ 17 f = r ∧ f < f + 1) by omega), if_neg (show ¬ (r < σ 17 f ∨ (σ 17 f = r ∧ f < f)) by omega), if_pos (by push_cast; omega)]
    · have e : (r < σ 17 m ∨ (σ 17 m = r ∧ (m : Int) < f + 1)) ↔ (r < σ 17 m ∨ (σ 17 m = r ∧ (m : Int) < f)) := by omega
      by_cases w : r < σ 17 m ∨ (σ 17 m = r ∧ (m : Int) < f)
      · rw [if_pos w, if_pos (e.2 w)]
        by_cases l : f < m
        · rw [if_pos l, if_pos (by push_cast; omega)]
        · rw [if_neg l, if_neg (by push_cast; omega)]; omega
      · rw [if_neg w, if_neg (fun x => w (e.1 x))]
        by_cases l : f < m
        · rw [if_pos l, if_pos (by push_cast; omega)]; omega
        · rw [if_neg l, if_neg (by push_cast; omega)]
def SB (σ τ : St) (nx r f : Int) : Prop := (∀ q, q ≠ 18 → τ q = σ q) ∧ nx = cB σ r f (σ 3 6).toNat ∧ (∀ j, 0 ≤ j → j < nx → 0 ≤ τ 18 j ∧ τ 18 j < σ 3 6 ∧ bfr σ r f (τ 18 j)) ∧ (∀ i j, 0 ≤ i → i < j → j < nx → bef σ (τ 18 i) (τ 18 j)) ∧ ∀ g, 0 ≤ g → g < σ 3 6 → bfr σ r f g → ∃ j, 0 ≤ j ∧ j < nx ∧ τ 18 j = g
def RK (σ : St) : Prop := (0 ≤ σ 3 6 ∧ σ 3 6 ≤ 60) ∧ ∀ i, 0 ≤ i → i < σ 3 6 → 0 ≤ σ 17 i ∧ σ 17 i ≤ 9
theorem sort_in (k : Nat × (Int → Int)) (d : Nat) {σ : St} (hK : RK σ) {r : Int} (r0 : 0 ≤ r) (r9 : r ≤ 9) : ∀ (t : Nat) (f nx : Int) (τ : St), 0 ≤ f → f + t = σ 3 6 → SB σ τ nx r f → ∃ ρ nx2 u, SB σ ρ nx2 r (σ 3 6) ∧ out (WV k) (EV k d) MX2_sortByRank 11 [vR 3, vI nx, vI r, vI f] [] τ = out (WV k) (EV k d) MX2_sortByRank 5 [vR 3, vI nx2, vI (r - 1), u] [] ρ := by
  have f1 := hK.1
  intro t
  induction t with
  | zero =>
    intro f nx τ f0 ft hS
    have e : f = σ 3 6 := by omega
    subst e
    refine ⟨τ, nx, vI (σ 3 6), hS, ?_⟩
    rw [bX2_sortByRank_11, hS.1 3 (by decide), if_neg (by omega), show r + -1 = r - 1 by omega]
  | succ t ih =>
    intro f nx τ f0 ft hS
    push_cast at ft
    obtain ⟨s1, s2, s3, s4, s5⟩ := hS
    have fl : f < σ 3 6 := by omega
    have rk := hK.2 f f0 fl
    have cb := cB_b σ r f (σ 3 6).toNat
    rw [bX2_sortByRank_11, s1 3 (by decide), s1 17 (by decide), w32_id (a := f) (by omega) (by omega), w32_id (a := σ 3 6) (by omega) (by omega), if_pos fl, if_pos (show 0 ≤ f ∧ f < 60 by omega), w32_id (a := σ 17 f) (by omega) (by omega), w32_id (a := r) (by omega) (by omega), w32_id (a := nx) (by omega) (by omega), show w32 60 = 60 by decide]
    by_cases q : σ 17 f = r
    · have cs := cB_step σ f0 q (σ 3 6).toNat
      rw [if_pos (by omega)] at cs
      have cb2 := cB_b σ r (f + 1) (σ 3 6).toNat
      rw [if_pos q, if_pos (show nx < 60 by omega), if_pos (show 0 ≤ nx ∧ nx < 60 by omega)]
      refine ih (f + 1) (nx + 1) _ (by omega) (by omega) ⟨fun q hq => by rw [st2_ne hq]; exact s1 q hq, by omega, fun j j0 j1 => ?_, fun i j i0 ij j1 => ?_, fun g g0 g1 gb => ?_⟩
      · by_cases z : j = nx
        · rw [z, st2_eq]; exact ⟨f0, fl, Or.inr ⟨q, by omega⟩⟩
        · rw [st2_idx z]
          obtain ⟨a1, a2, a3⟩ := s3 j j0 (by omega)
          exact ⟨a1, a2, by unfold bfr at a3 ⊢; omega⟩
      · rw [st2_idx (show i ≠ nx by omega)]
        by_cases z : j = nx
        · rw [z, st2_eq]
          obtain ⟨a1, a2, a3⟩ := s3 i i0 (by omega)
          unfold bfr at a3
          unfold bef
          omega
        · rw [st2_idx z]; exact s4 i j i0 ij (by omega)
      · by_cases z : g = f
        · exact ⟨nx, by omega, by omega, by rw [st2_eq, z]⟩
        · obtain ⟨j, j0, j1, j2⟩ := s5 g g0 g1 (by unfold bfr at gb ⊢; omega)
          exact ⟨j, j0, by omega, by rw [st2_idx (by omega)]; exact j2⟩
    · rw [if_neg q]
      have iff : ∀ g, bfr σ r (f + 1) g ↔ bfr σ r f g := by
        intro g
        unfold bfr
        constructor
        · rintro (z | ⟨z, w⟩)
          · exact Or.inl z
          · by_cases e : g = f
            · rw [e] at z; exact absurd z q
            · exact Or.inr ⟨z, by omega⟩
        · rintro (z | ⟨z, w⟩)
          · exact Or.inl z
          · exact Or.inr ⟨z, by omega⟩
      refine ih (f + 1) nx _ (by omega) (by omega) ⟨s1, by rw [s2]; exact cB_c σ _ (fun j _ => (iff j).symm), fun j j0 j1 => ?_, s4, fun g g0 g1 gb => s5 g g0 g1 ((iff g).1 gb)⟩
      obtain ⟨a1, a2, a3⟩ := s3 j j0 j1
      exact ⟨a1, a2, (iff _).2 a3⟩
theorem sort_out (k : Nat × (Int → Int)) (d : Nat) {σ : St} (hK : RK σ) : ∀ (t : Nat) (r nx : Int) (τ : St) (u : PV), r + 1 = t → r ≤ 9 → SB σ τ nx r 0 → ∃ ρ, SB σ ρ (σ 3 6) (-1) 0 ∧ out (WV k) (EV k d) MX2_sortByRank 5 [vR 3, vI nx, vI r, u] [] τ = some (none, ρ) := by
  have f1 := hK.1
  intro t
  induction t with
  | zero =>
    intro r nx τ u rt r9 hS
    have e : r = -1 := by omega
    subst e
    refine ⟨τ, ?_, by rw [bX2_sortByRank_5, if_pos (by decide)]⟩
    have a := cB_all σ (-1) 0 (σ 3 6).toNat (fun j hj => Or.inl (by have := hK.2 j (by omega) (by omega); omega))
    have b := hS.2.1
    rw [show nx = σ 3 6 by omega] at hS
    exact hS
  | succ t ih =>
    intro r nx τ u rt r9 hS
    push_cast at rt
    obtain ⟨ρ1, nx2, u2, m1, m2⟩ := sort_in k d hK (show 0 ≤ r by omega) r9 (σ 3 6).toNat 0 nx τ (by omega) (by omega) hS
    have iff : ∀ g, 0 ≤ g → g < σ 3 6 → (bfr σ (r - 1) 0 g ↔ bfr σ r (σ 3 6) g) := by
      intro g g0 g1
      unfold bfr
      omega
    have m3 : SB σ ρ1 nx2 (r - 1) 0 := by
      obtain ⟨s1, s2, s3, s4, s5⟩ := m1
      refine ⟨s1, by rw [s2]; exact cB_c σ _ (fun j hj => (iff j (by omega) (by omega)).symm), fun j j0 j1 => ?_, s4, fun g g0 g1 gb => s5 g g0 g1 ((iff g g0 g1).1 gb)⟩
      obtain ⟨a1, a2, a3⟩ := s3 j j0 j1
      exact ⟨a1, a2, (iff _ a1 a2).2 a3⟩
    obtain ⟨ρ, n1, n2⟩ := ih (r - 1) nx2 ρ1 u2 (by omega) (by omega) m3
    refine ⟨ρ, n1, ?_⟩
    rw [bX2_sortByRank_5, w32_id (a := r) (by omega) (by omega), if_neg (by omega), m2, n2]
theorem X2_changed_ok (k : Nat × (Int → Int)) (d : Nat) {σ : St} (hK : RK σ) : ∃ ρ, EV k (d + 2) mX2_changed [vR 3] σ = some (none, ρ) ∧ ORD ρ ∧ CV ρ ∧ ∀ q, q ∉ [18, 19] → ρ q = σ q := by
  have f1 := hK.1
  obtain ⟨ρ1, a1, a2, a3⟩ := fill19 k d (σ := σ) (-1) 8 0 σ (by omega) rfl (fun j _ _ => by omega) (fun _ _ => rfl)
  have K1 : RK ρ1 := by
    unfold RK
    rw [a2 3 (by decide), a2 17 (by decide)]
    exact hK
  have e6 : ρ1 3 6 = σ 3 6 := by rw [a2 3 (by decide)]
  obtain ⟨ρ, b1, b2⟩ := sort_out k d K1 10 9 0 ρ1 vU rfl (by omega) ⟨fun _ _ => rfl, (cB_no ρ1 9 0 _ (fun j hj => by have := K1.2 j (by omega) (by omega); omega)).symm, fun j j0 j1 => by omega, fun i j i0 ij j1 => by omega, fun g g0 g1 gb => by have := K1.2 g g0 g1; unfold bfr at gb; omega⟩
  obtain ⟨s1, s2, s3, s4, s5⟩ := b1
  have e3 := s1 3 (by decide)
  have e17 := s1 17 (by decide)
  have e19 := s1 19 (by decide)
  refine ⟨ρ, ?_, ⟨?_, ?_, ?_⟩, ?_, fun q hq => ?_⟩
  · rw [eX2_changed, bX2_changed_0, eJ7_fill19, bJ7_fill19_0, a3, jbV_some, eX2_sortByRank, bX2_sortByRank_0, b2, jbV_some]
  · rw [e3]
    intro i i0 i1
    obtain ⟨c1, c2, c3⟩ := s3 i i0 i1
    exact ⟨c1, c2⟩
  · rw [e3]
    intro i j i0 ij j1
    have := s4 i j i0 ij j1
    unfold bef at this ⊢
    rw [e17]
    exact this
  · rw [e3]
    intro g g0 g1
    exact s5 g g0 g1 (by have := K1.2 g g0 g1; unfold bfr; omega)
  · intro s s0 s1
    rw [e19, a1 s s0 s1]
    exact ⟨by unfold I32; omega, fun w => by omega⟩
  · rw [s1 q (by rintro rfl; exact hq (by decide)), a2 q (by rintro rfl; exact hq (by decide))]
