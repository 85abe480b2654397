/-! the reference's placing: the loops over ranks and feasts -/
def DD (σ : St) (r f j : Int) : Prop := σ 17 j = 0 ∨ r < σ 17 j ∨ (σ 17 j = r ∧ j < f)
def L9 (σ τ : St) (s y r f : Int) : Prop := (∀ q, q ≠ 46 → q ≠ 47 → τ q = σ q) ∧ (∀ p, p < s ∨ s + 60 ≤ p → τ 46 p = σ 46 p ∧ τ 47 p = σ 47 p) ∧ ∀ j, 0 ≤ j → j < σ 3 6 → τ 46 (s + j) = um σ y j ∧ (DD σ r f j → cls σ y (fun g => τ 47 (s + g)) j) ∧ (¬ DD σ r f j → τ 47 (s + j) = -2)
theorem cls_b {σ : St} {y : Int} {p : Int → Int} {f : Int} (h0 : 0 ≤ σ 17 f) (c : cls σ y p f) : -2 ≤ p f ∧ p f ≤ 1500000 := by
  have ub := um_b σ y f
  by_cases q : um σ y f = -2
  · rw [c.1 q]; omega
  · by_cases r : σ 17 f = 0
    · rw [c.2.1 q r]; omega
    · obtain ⟨v, _, e⟩ := c.2.2 q (by omega)
      rw [e]
      exact dyn_b v
theorem L9_B {σ τ : St} {s y r f : Int} (hF : FV σ) (hR : FR σ σ) (h : L9 σ τ s y r f) : B9 τ s := by
  have f1 := hF.1
  obtain ⟨h1, h2, h3⟩ := h
  have e12 : τ 33 12 = σ 3 6 := by rw [h1 33 (by decide) (by decide), hR.1]
  refine ⟨by rw [e12]; exact f1, fun j j0 j1 => ?_⟩
  rw [e12] at j1
  obtain ⟨a1, a2, a3⟩ := h3 j j0 j1
  have rk := (hF.2 j j0 j1).2
  refine ⟨by rw [h1 44 (by decide) (by decide), (hR.2 j j0 j1).2.2.2.2]; exact rk, ?_⟩
  by_cases q : DD σ r f j
  · exact cls_b (p := fun g => τ 47 (s + g)) rk.1 (a2 q)
  · rw [a3 q]; omega
theorem L9_tk {σ τ : St} {s y r f : Int} (hR : FR σ σ) (h : L9 σ τ s y r f) (hf : σ 17 f = r) (r0 : 0 < r) {x : Int} (x0 : 0 ≤ x) (v : Int) : tk9 τ s x ↔ Tf σ (fun g => if g = f then v else τ 47 (s + g)) f x := by
  obtain ⟨h1, h2, h3⟩ := h
  have e12 : τ 33 12 = σ 3 6 := by rw [h1 33 (by decide) (by decide), hR.1]
  constructor
  · rintro ⟨j, j0, j1, j2, j3⟩
    rw [e12] at j1
    rw [h1 44 (by decide) (by decide), (hR.2 j j0 j1).2.2.2.2] at j2
    obtain ⟨a1, a2, a3⟩ := h3 j j0 j1
    by_cases q : DD σ r f j
    · have b : bef σ j f := by
        unfold DD at q
        unfold bef
        omega
      have ne : j ≠ f := by
        intro z
        rw [z] at b
        unfold bef at b
        omega
      exact ⟨j, j0, j1, j2, b, by simp only [if_neg ne]; exact j3⟩
    · rw [a3 q] at j3
      omega
  · rintro ⟨g, g0, g1, g2, g3, g4⟩
    have ne : g ≠ f := by
      intro z
      rw [z] at g3
      unfold bef at g3
      omega
    simp only [if_neg ne] at g4
    exact ⟨g, g0, by rw [e12]; exact g1, by rw [h1 44 (by decide) (by decide), (hR.2 g g0 g1).2.2.2.2]; exact g2, g4⟩
theorem L9_put {σ τ : St} {s y r f v : Int} (h : L9 σ τ s y r f) (s1 : 0 ≤ f) (f60 : f < 60) (hf : σ 17 f = r) (r0 : 0 < r) (hv : cls σ y (fun g => if g = f then v else τ 47 (s + g)) f) : L9 σ (st2 τ 47 (s + f) v) s y r (f + 1) := by
  obtain ⟨h1, h2, h3⟩ := h
  have p47 : ∀ g, st2 τ 47 (s + f) v 47 (s + g) = if g = f then v else τ 47 (s + g) := by
    intro g
    by_cases z : g = f
    · rw [z, st2_eq, if_pos rfl]
    · rw [st2_idx (by omega), if_neg z]
  have pe : (fun g => st2 τ 47 (s + f) v 47 (s + g)) = fun g => if g = f then v else τ 47 (s + g) := funext p47
  refine ⟨fun q a b => by rw [st2_ne b]; exact h1 q a b, fun p hp => ?_, fun j j0 j1 => ?_⟩
  · rw [st2_cell (show (46 : Nat) ≠ 47 by decide), st2_idx (by omega)]
    exact h2 p hp
  · obtain ⟨a1, a2, a3⟩ := h3 j j0 j1
    rw [pe, st2_cell (show (46 : Nat) ≠ 47 by decide), p47 j]
    refine ⟨a1, fun q => ?_, fun q => ?_⟩
    · by_cases z : j = f
      · rw [z]; exact hv
      · have q' : DD σ r f j := by unfold DD at q ⊢; omega
        have c := a2 q'
        by_cases zr : σ 17 j = 0
        · exact ⟨fun w => by simp only [if_neg z]; exact c.1 w, fun w w2 => by simp only [if_neg z]; exact c.2.1 w w2, fun _ w2 => by omega⟩
        · refine cls_c (p := fun g => τ 47 (s + g)) (by simp only [if_neg z]) (fun g _ _ gb => ?_) c
          have ne : g ≠ f := by
            intro w
            rw [w] at gb
            unfold bef at gb
            unfold DD at q'
            omega
          simp only [if_neg ne]
    · have z : j ≠ f := by
        intro w
        apply q
        unfold DD
        rw [w]
        omega
      rw [if_neg z]
      exact a3 (by unfold DD at q ⊢; omega)
theorem X9_place_in (k : Nat × (Int → Int)) (d : Nat) {σ : St} (hF : FV σ) (hR : FR σ σ) {s y r : Int} (s1 : 0 ≤ s) (s2 : s ≤ 180) (r1 : 0 < r) (r2 : r ≤ 9) : ∀ (t : Nat) (f : Int) (τ : St) (u5 u6 u7 u8 : PV), 0 ≤ f → f + t = σ 3 6 → L9 σ τ s y r f → ∃ ρ v4 v5 v6 v7 v8, L9 σ ρ s y r (σ 3 6) ∧ out (WV k) (EV k (d + 2)) MX9_place 261 [vR 33, vI s, vI y, vI r, vI f, u5, u6, u7, u8] [] τ = out (WV k) (EV k (d + 2)) MX9_place 254 [vR 33, vI s, vI y, vI (r - 1), v4, v5, v6, v7, v8] [] ρ := by
  have f1 := hF.1
  intro t
  induction t with
  | zero =>
    intro f τ u5 u6 u7 u8 f0 ft hL
    have e : f = σ 3 6 := by omega
    subst e
    refine ⟨τ, vI (σ 3 6), u5, u6, u7, u8, hL, ?_⟩
    rw [bX9_place_261, hL.1 33 (by decide) (by decide), hR.1, if_neg (by omega), show r + -1 = r - 1 by omega]
  | succ t ih =>
    intro f τ u5 u6 u7 u8 f0 ft hL
    push_cast at ft
    have fl : f < σ 3 6 := by omega
    obtain ⟨h1, h2, h3⟩ := id hL
    obtain ⟨a1, a2, a3⟩ := h3 f f0 fl
    obtain ⟨fo, rk⟩ := hF.2 f f0 fl
    have ub := um_b σ y f
    have uo := um_or y f0 fo
    have hf : 0 ≤ f ∧ f < 60 := by omega
    have hs : 0 ≤ s + f ∧ s + f < 240 := by omega
    rw [bX9_place_261, h1 33 (by decide) (by decide), hR.1, h1 44 (by decide) (by decide), w32_id (a := f) (by omega) (by omega), (hR.2 f f0 fl).2.2.2.2, w32_id (a := σ 3 6) (by omega) (by omega), w32_id (a := σ 17 f) (by omega) (by omega), w32_id (a := r) (by omega) (by omega), w32_id (a := s + f) (by omega) (by omega), a1, w32_id (a := um σ y f) (by omega) (by omega), show w32 (-2) = -2 by decide]
    simp only [if_pos fl, if_pos hf, if_pos hs]
    by_cases qr : σ 17 f = r
    · rw [if_pos qr]
      have nd : ¬ DD σ r f f := by unfold DD; omega
      by_cases qu : um σ y f = -2
      · rw [if_pos qu]
        have hp := L9_put (v := -2) hL f0 hf.2 qr r1 ⟨fun _ => by simp only [if_pos], fun w => absurd qu w, fun w => absurd qu w⟩
        have same : st2 τ 47 (s + f) (-2) = τ := by
          funext q p
          unfold st2
          by_cases z : q = 47 ∧ p = s + f
          · rw [if_pos z, z.1, z.2, a3 nd]
          · rw [if_neg z]
        rw [same] at hp
        exact ih (f + 1) τ _ _ _ _ (by omega) (by omega) hp
      · rw [if_neg qu]
        have hB := L9_B hF hR hL
        obtain ⟨N, n1, n2, n3⟩ := exStop (fun j => ¬ tk9 τ s (um σ y f + j)) (1500001 - um σ y f).toNat (by
          rintro ⟨j, j0, j1, j2, j3⟩
          have := (hB.2 j j0 j1).2
          omega)
        have hLF : LF (tk9 τ s) (um σ y f) (um σ y f + N) := by
          refine ⟨by omega, fun x x1 x2 => ?_, n2⟩
          have w := n3 (x - um σ y f).toNat (by omega)
          rw [show um σ y f + ((x - um σ y f).toNat : Int) = x by omega] at w
          exact Classical.byContradiction w
        rw [X9_place_find k (d + 1) hB s1 s2 f0 hf.2 (r := um σ y f + N) (by omega) u6 u7 u8 N (um σ y f) (by omega) rfl hLF]
        refine ih (f + 1) _ _ _ _ _ (by omega) (by omega) (L9_put hL f0 hf.2 qr r1 ⟨fun w => absurd w qu, fun _ w => by omega, fun _ _ => ⟨_, LF_c (fun x x1 => L9_tk hR hL qr r1 (by omega) _) hLF, by simp only [if_pos]⟩⟩)
    · rw [if_neg qr]
      refine ih (f + 1) τ _ _ _ _ (by omega) (by omega) ⟨h1, h2, fun j j0 j1 => ?_⟩
      obtain ⟨b1, b2, b3⟩ := h3 j j0 j1
      have iff : DD σ r (f + 1) j ↔ DD σ r f j := by
        unfold DD
        constructor
        · rintro (z | z | ⟨z, w⟩)
          · exact Or.inl z
          · exact Or.inr (Or.inl z)
          · by_cases e : j = f
            · rw [e] at z; exact absurd z qr
            · exact Or.inr (Or.inr ⟨z, by omega⟩)
        · rintro (z | z | ⟨z, w⟩)
          · exact Or.inl z
          · exact Or.inr (Or.inl z)
          · exact Or.inr (Or.inr ⟨z, by omega⟩)
      exact ⟨b1, fun z => b2 (iff.1 z), fun z => b3 (fun w => z (iff.2 w))⟩
theorem L9_down {σ τ : St} {s y r : Int} (hF : FV σ) (h : L9 σ τ s y r (σ 3 6)) : L9 σ τ s y (r - 1) 0 := by
  obtain ⟨h1, h2, h3⟩ := h
  refine ⟨h1, h2, fun j j0 j1 => ?_⟩
  obtain ⟨b1, b2, b3⟩ := h3 j j0 j1
  have iff : DD σ (r - 1) 0 j ↔ DD σ r (σ 3 6) j := by unfold DD; omega
  exact ⟨b1, fun z => b2 (iff.1 z), fun z => b3 (fun w => z (iff.2 w))⟩
theorem L9_start {σ τ : St} {s y : Int} (hF : FV σ) (h : K9 σ τ s y (σ 3 6)) : L9 σ τ s y 9 0 := by
  obtain ⟨h1, h2, h3⟩ := h
  refine ⟨h1, h2, fun j j0 j1 => ?_⟩
  obtain ⟨b1, b2⟩ := h3 j j0 j1
  have rk := (hF.2 j j0 j1).2
  refine ⟨b1, fun z => ?_, fun z => ?_⟩
  · have r0 : σ 17 j = 0 := by unfold DD at z; omega
    rw [if_pos r0] at b2
    exact ⟨fun w => by show τ 47 (s + j) = -2; rw [b2]; exact w, fun _ _ => b2, fun _ w => by omega⟩
  · have r0 : ¬ σ 17 j = 0 := fun w => z (Or.inl w)
    rw [if_neg r0] at b2
    exact b2
theorem L9_end {σ τ : St} {s y : Int} (hF : FV σ) (h : L9 σ τ s y 0 0) : PLs σ y (fun g => τ 47 (s + g)) := by
  intro f f0 f1
  exact ((h.2.2 f f0 f1).2.1 (by have := (hF.2 f f0 f1).2; unfold DD; omega))
theorem X9_place_out (k : Nat × (Int → Int)) (d : Nat) {σ : St} (hF : FV σ) (hR : FR σ σ) {s y : Int} (s1 : 0 ≤ s) (s2 : s ≤ 180) : ∀ (t : Nat) (r : Int) (τ : St) (u4 u5 u6 u7 u8 : PV), r = t → r ≤ 9 → L9 σ τ s y r 0 → ∃ ρ, L9 σ ρ s y 0 0 ∧ out (WV k) (EV k (d + 2)) MX9_place 254 [vR 33, vI s, vI y, vI r, u4, u5, u6, u7, u8] [] τ = some (none, ρ) := by
  have f1 := hF.1
  intro t
  induction t with
  | zero =>
    intro r τ u4 u5 u6 u7 u8 rt r9 hL
    subst rt
    exact ⟨τ, hL, by rw [bX9_place_254]; rfl⟩
  | succ t ih =>
    intro r τ u4 u5 u6 u7 u8 rt r9 hL
    push_cast at rt
    obtain ⟨ρ1, v4, v5, v6, v7, v8, m1, m2⟩ := X9_place_in k d hF hR (y := y) s1 s2 (show 0 < r by omega) r9 (σ 3 6).toNat 0 τ u5 u6 u7 u8 (by omega) (by omega) hL
    obtain ⟨ρ, n1, n2⟩ := ih (r - 1) ρ1 v4 v5 v6 v7 v8 (by omega) (by omega) (L9_down hF m1)
    refine ⟨ρ, n1, ?_⟩
    rw [bX9_place_254, w32_id (a := r) (by omega) (by omega), if_pos (by omega), m2, n2]
theorem X9_place_ok (k : Nat × (Int → Int)) (d : Nat) {σ : St} (hC : CF σ) (hM : MR σ) (hF : FV σ) (hR : FR σ σ) {s y : Int} (y1 : 0 ≤ y) (y2 : y ≤ 5000) (s1 : 0 ≤ s) (s2 : s ≤ 180) : ∃ ρ, EV k (d + 8) mX9_place [vR 33, vI s, vI y] σ = some (none, ρ) ∧ (∀ q, q ≠ 46 → q ≠ 47 → ρ q = σ q) ∧ (∀ p, p < s ∨ s + 60 ≤ p → ρ 46 p = σ 46 p ∧ ρ 47 p = σ 47 p) ∧ (∀ j, 0 ≤ j → j < σ 3 6 → ρ 46 (s + j) = um σ y j) ∧ PLs σ y (fun g => ρ 47 (s + g)) := by
  have f1 := hF.1
  obtain ⟨ρ1, v4, v5, v6, v7, v8, m1, m2⟩ := X9_place_days k d hC hM hF hR y1 y2 s1 s2 (σ 3 6).toNat 0 σ vU vU vU vU vU (by omega) (by omega) ⟨fun _ _ _ => rfl, fun _ _ => ⟨rfl, rfl⟩, fun j _ _ => by omega⟩
  obtain ⟨ρ, n1, n2⟩ := X9_place_out k (d + 5) hF hR (y := y) s1 s2 9 9 ρ1 v4 v5 v6 v7 v8 rfl (by omega) (L9_start hF m1)
  refine ⟨ρ, ?_, n1.1, n1.2.1, fun j j0 j1 => (n1.2.2 j j0 j1).1, L9_end hF n1⟩
  rw [eX9_place, bX9_place_0, m2, n2]
