/-! the tape: load, byteAt, spoil, wipe, verify -/
def TR (S T : St) : Prop := (0 ≤ S 6 1 ∧ S 6 1 ≤ 1200) ∧ T 33 34 = S 6 1 ∧ (∀ i, 0 ≤ i → i < 1200 → 0 ≤ S 31 i ∧ S 31 i ≤ 255) ∧ ∀ i, 0 ≤ i → i < S 6 1 → jand (T 55 i) 255 = S 31 i
def ap (S : St) (v : Int) : St := st2 (st2 S 31 (S 6 1) (jand v 255)) 6 1 (S 6 1 + 1)
def pt (T : St) (v : Int) : St := st2 (st2 T 55 (T 33 34) (b8 (b8 v))) 33 34 (T 33 34 + 1)
theorem ap_61 (S : St) (v : Int) : ap S v 6 1 = S 6 1 + 1 := st2_eq _ _ _ _
theorem pt_34 (T : St) (v : Int) : pt T v 33 34 = T 33 34 + 1 := st2_eq _ _ _ _
theorem ap_31 (S : St) (v i : Int) : ap S v 31 i = if i = S 6 1 then jand v 255 else S 31 i := by
  unfold ap
  rw [st2_cell (by decide)]
  by_cases z : i = S 6 1
  · rw [if_pos z, z, st2_eq]
  · rw [if_neg z, st2_idx z]
theorem pt_55 (T : St) (v i : Int) : pt T v 55 i = if i = T 33 34 then b8 (b8 v) else T 55 i := by
  unfold pt
  rw [st2_cell (by decide)]
  by_cases z : i = T 33 34
  · rw [if_pos z, z, st2_eq]
  · rw [if_neg z, st2_idx z]
theorem TR_ap {S T : St} (h : TR S T) (l : S 6 1 < 1200) {v w : Int} (e : jand v 255 = jand w 255) : TR (ap S v) (pt T w) := by
  obtain ⟨h1, h2, h3, h4⟩ := h
  refine ⟨by rw [ap_61]; omega, by rw [ap_61, pt_34, h2], fun i i0 i1 => ?_, fun i i0 i1 => ?_⟩
  · rw [ap_31]
    by_cases z : i = S 6 1
    · rw [if_pos z]; exact jand_b v
    · rw [if_neg z]; exact h3 i i0 i1
  · rw [ap_61] at i1
    rw [ap_31, pt_55, h2]
    by_cases z : i = S 6 1
    · rw [if_pos z, if_pos z, jand_b8, e]
    · rw [if_neg z, if_neg z]; exact h4 i i0 (by omega)
def apN (S : St) (x : Int) : Nat → St
  | 0 => S
  | i + 1 => apN (ap S (jshr x (8 * (i : Int)))) x i
def ptN (T : St) (x : Int) : Nat → St
  | 0 => T
  | i + 1 => ptN (pt T (jshr x (8 * (i : Int)))) x i
def TE (S S' : St) : Prop := (∀ q, q ∉ [6, 31] → S' q = S q) ∧ ∀ a : Int, a ≠ 1 → S' 6 a = S 6 a
def RT (T T' : St) : Prop := (∀ q, q ∉ [33, 55] → T' q = T q) ∧ ∀ a : Int, a ≠ 34 → T' 33 a = T 33 a
theorem TE.refl (S : St) : TE S S := ⟨fun _ _ => rfl, fun _ _ => rfl⟩
theorem RT.refl (S : St) : RT S S := ⟨fun _ _ => rfl, fun _ _ => rfl⟩
theorem TE.trans {σ τ ρ : St} (h : TE σ τ) (g : TE τ ρ) : TE σ ρ := ⟨fun q hq => (g.1 q hq).trans (h.1 q hq), fun a ha => (g.2 a ha).trans (h.2 a ha)⟩
theorem RT.trans {σ τ ρ : St} (h : RT σ τ) (g : RT τ ρ) : RT σ ρ := ⟨fun q hq => (g.1 q hq).trans (h.1 q hq), fun a ha => (g.2 a ha).trans (h.2 a ha)⟩
theorem TE_ap (S : St) (v : Int) : TE S (ap S v) := ⟨fun q hq => by unfold ap; rw [st2_ne (by rintro rfl; exact hq (by decide)), st2_ne (by rintro rfl; exact hq (by decide))], fun a ha => by unfold ap; rw [st2_idx ha, st2_cell (by decide)]⟩
theorem RT_pt (T : St) (v : Int) : RT T (pt T v) := ⟨fun q hq => by unfold pt; rw [st2_ne (by rintro rfl; exact hq (by decide)), st2_ne (by rintro rfl; exact hq (by decide))], fun a ha => by unfold pt; rw [st2_idx ha, st2_cell (by decide)]⟩
theorem TE_apN (x : Int) : ∀ (n : Nat) (S : St), TE S (apN S x n) ∧ apN S x n 6 1 = S 6 1 + n := by
  intro n
  induction n with
  | zero => intro S; exact ⟨TE.refl S, by show S 6 1 = S 6 1 + 0; omega⟩
  | succ n ih =>
    intro S
    obtain ⟨h1, h2⟩ := ih (ap S (jshr x (8 * (n : Int))))
    refine ⟨(TE_ap S _).trans h1, ?_⟩
    show apN (ap S (jshr x (8 * (n : Int)))) x n 6 1 = _
    rw [h2, ap_61]
    push_cast
    omega
theorem RT_ptN (x : Int) : ∀ (n : Nat) (T : St), RT T (ptN T x n) ∧ ptN T x n 33 34 = T 33 34 + n := by
  intro n
  induction n with
  | zero => intro T; exact ⟨RT.refl T, by show T 33 34 = T 33 34 + 0; omega⟩
  | succ n ih =>
    intro T
    obtain ⟨h1, h2⟩ := ih (pt T (jshr x (8 * (n : Int))))
    refine ⟨(RT_pt T _).trans h1, ?_⟩
    show ptN (pt T (jshr x (8 * (n : Int)))) x n 33 34 = _
    rw [h2, pt_34]
    push_cast
    omega
theorem TR_N (x : Int) : ∀ (n : Nat) (S T : St), TR S T → S 6 1 + n ≤ 1200 → TR (apN S x n) (ptN T x n) := by
  intro n
  induction n with
  | zero => intro S T h _; exact h
  | succ n ih =>
    intro S T h l
    push_cast at l
    exact ih _ _ (TR_ap h (by omega) rfl) (by rw [ap_61]; omega)
theorem append_loop (k : Nat × (Int → Int)) (d : Nat) (x m : Int) : ∀ (n : Nat) (S : St), 0 ≤ S 6 1 → S 6 1 + n ≤ 1200 → out (WV k) (EV k d) MX6_append 4 [vR 6, vI x, vI m, vI ((n : Int) - 1)] [] S = some (none, apN S x n) := by
  intro n
  induction n with
  | zero =>
    intro S s0 s1
    rw [bX6_append_4, w32_id (by omega) (by omega), if_pos (by omega)]
    rfl
  | succ n ih =>
    intro S s0 s1
    push_cast at s1 ⊢
    rw [show (n : Int) + 1 - 1 = n by omega, bX6_append_4, w32_id (a := (n : Int)) (by omega) (by omega), if_neg (by omega), w32_id (a := S 6 1) (by omega) (by omega), show w32 1200 = 1200 by decide, if_pos (show S 6 1 < 1200 by omega), if_pos (by omega), st2_cell (show (6 : Nat) ≠ 31 by decide), show (n : Int) + -1 = n - 1 by omega]
    exact ih _ (by rw [st2_eq]; omega) (by rw [st2_eq]; omega)
theorem X6_append_ok (k : Nat × (Int → Int)) (d : Nat) (x : Int) (n : Nat) {S : St} (s0 : 0 ≤ S 6 1) (s1 : S 6 1 + n ≤ 1200) : EV k (d + 1) mX6_append [vR 6, vI x, vI (n : Int)] S = some (none, apN S x n) := by
  rw [eX6_append, bX6_append_0]
  exact append_loop k d x n n S s0 s1
theorem X9_put_ok (k : Nat × (Int → Int)) (d : Nat) (x : Int) {T : St} (s0 : 0 ≤ T 33 34) (s1 : T 33 34 < 1200) : EV k (d + 1) mX9_put [vR 33, vI x] T = some (none, pt T x) := by
  rw [eX9_put, bX9_put_0, w32_id (a := T 33 34) (by omega) (by omega), if_pos ⟨s0, s1⟩, st2_cell (show (33 : Nat) ≠ 55 by decide)]
  rfl
theorem load9_loop (k : Nat × (Int → Int)) (d : Nat) (x m : Int) : ∀ (n : Nat) (T : St), 0 ≤ T 33 34 → T 33 34 + n ≤ 1200 → out (WV k) (EV k (d + 1)) MX9_load 30 [vR 33, vI x, vI m, vI ((n : Int) - 1)] [] T = ansI (T 33 34 + n) (ptN T x n) := by
  intro n
  induction n with
  | zero =>
    intro T s0 s1
    rw [bX9_load_30, w32_id (by omega) (by omega), if_pos (by omega)]
    exact ansI_c (by omega)
  | succ n ih =>
    intro T s0 s1
    push_cast at s1 ⊢
    rw [show (n : Int) + 1 - 1 = n by omega, bX9_load_30, w32_id (a := (n : Int)) (by omega) (by omega), if_neg (by omega), X9_put_ok k d _ s0 (by omega), jbV_some, show (n : Int) + -1 = n - 1 by omega, ih _ (by rw [pt_34]; omega) (by rw [pt_34]; omega), pt_34]
    exact ansI_c (by omega)
/-- what a call that writes the tape alone leaves -/
def TpE (σ ρ : St) : Prop := TR ρ ρ ∧ (∀ q, q ∉ [6, 31, 33, 55] → ρ q = σ q) ∧ (∀ a : Int, a ≠ 1 → ρ 6 a = σ 6 a) ∧ ∀ a : Int, a ≠ 34 → ρ 33 a = σ 33 a
theorem TpE_of {σ S ρ : St} (h1 : TE σ S) (h2 : RT S ρ) (h : TR S ρ) : TpE σ ρ := by
  obtain ⟨t1, t2, t3, t4⟩ := h
  have e6 : ρ 6 = S 6 := h2.1 6 (by decide)
  have e31 : ρ 31 = S 31 := h2.1 31 (by decide)
  refine ⟨⟨by rw [e6]; exact t1, by rw [e6]; exact t2, by rw [e31]; exact t3, by rw [e6, e31]; exact t4⟩, fun q hq => ?_, fun a ha => by rw [e6]; exact h1.2 a ha, fun a ha => by rw [h2.2 a ha, h1.1 33 (by decide)]⟩
  simp only [List.mem_cons, not_or] at hq
  rw [h2.1 q (by simp [hq]), h1.1 q (by simp [hq])]
theorem TR_te {σ S T : St} (h : TE σ S) (g : TR T σ) : TR T S := by
  obtain ⟨t1, t2, t3, t4⟩ := g
  exact ⟨t1, by rw [h.1 33 (by decide)]; exact t2, t3, by rw [h.1 55 (by decide)]; exact t4⟩
theorem Td_load (k : Nat × (Int → Int)) (d : Nat) {σ : St} (h : TR σ σ) {v n : Int} (h1 : I32 v) (h2 : I32 n) : ∃ a σ1 ρ, EV k (d + 10) mX8_load [vR 0, vI v, vI n] σ = ansI a σ1 ∧ EV k (d + 10) mX9_load [vR 33, vI v, vI n] σ1 = ansI a ρ ∧ TpE σ ρ := by
  obtain ⟨t1, t2, t3, t4⟩ := id h
  unfold I32 at h2
  have self : TpE σ σ := TpE_of (TE.refl σ) (RT.refl σ) h
  rw [eX8_load, bX8_load_0, w32_id (a := n) h2.1 h2.2, w32_1, show w32 4 = 4 by decide, show w32 1200 = 1200 by decide]
  have X9 : ∀ τ : St, τ 33 34 = σ 6 1 → EV k (d + 10) mX9_load [vR 33, vI v, vI n] τ = if 1 ≤ n ∧ n ≤ 4 then (if 1200 < w32 (σ 6 1 + n) then ansI (-4) τ else out (WV k) (EV k (d + 9)) MX9_load 30 [vR 33, vI v, vI n, vI (n - 1)] [] τ) else ansI (-1) τ := by
    intro τ e
    rw [eX9_load, bX9_load_0, X9_in_ok k (d + 8) τ h2.1 h2.2 (by omega) (by omega) (by omega) (by omega), jbI_some, ib, e, show w32 1200 = 1200 by decide]
  by_cases z : 1 ≤ n ∧ n ≤ 4
  · rw [if_neg (show ¬ n < 1 by omega), if_neg (show ¬ 4 < n by omega), w32_id (a := σ 6 1 + n) (by omega) (by omega)]
    by_cases y : 1200 < σ 6 1 + n
    · rw [if_pos y]
      exact ⟨-4, σ, σ, rfl, by rw [X9 σ t2, if_pos z, w32_id (a := σ 6 1 + n) (by omega) (by omega), if_pos y], self⟩
    · rw [if_neg y]
      obtain ⟨m, hm⟩ : ∃ m : Nat, n = m := ⟨n.toNat, by omega⟩
      subst hm
      obtain ⟨a1, a2⟩ := TE_apN v m σ
      have tr := TR_te a1 h
      rw [X6_append_ok k (d + 8) v m t1.1 (by omega), jbV_some]
      refine ⟨σ 6 1 + m, apN σ v m, ptN (apN σ v m) v m, by rw [a2], ?_, TpE_of a1 (RT_ptN v m _).1 (TR_N v m σ _ tr (by omega))⟩
      rw [X9 _ tr.2.1, if_pos z, w32_id (a := σ 6 1 + (m : Int)) (by omega) (by omega), if_neg y, load9_loop k (d + 8) v m m _ (by rw [tr.2.1]; omega) (by rw [tr.2.1]; omega), tr.2.1]
  · refine ⟨-1, σ, σ, ?_, by rw [X9 σ t2, if_neg z], self⟩
    by_cases y : n < 1
    · rw [if_pos y]
    · rw [if_neg y, if_pos (by omega)]
theorem Td_byteAt (k : Nat × (Int → Int)) (d : Nat) {σ : St} (h : TR σ σ) {i : Int} (h1 : I32 i) : Tw k (d + 10) mX8_byteAt mX9_byteAt [vI i] σ := by
  obtain ⟨t1, t2, t3, t4⟩ := id h
  unfold I32 at h1
  refine ⟨if 0 ≤ i ∧ i < σ 6 1 then σ 31 i else -2, σ, ?_, ?_, Sc.rfl σ⟩
  · rw [eX8_byteAt, bX8_byteAt_0, w32_id (a := i) h1.1 h1.2, w32_id (a := σ 6 1) (by omega) (by omega)]
    by_cases y : i < 0
    · rw [if_pos y, if_neg (by omega)]
    · by_cases z : i < σ 6 1
      · rw [if_neg y, if_pos z, if_pos (by omega), if_pos (by omega)]
      · rw [if_neg y, if_neg z, if_neg (by omega)]
  · rw [eX9_byteAt, bX9_byteAt_0, t2, X9_in_ok k (d + 8) σ h1.1 h1.2 (by omega) (by omega) (by omega) (by omega), jbI_some, ib, w32_id (a := i) h1.1 h1.2]
    by_cases z : 0 ≤ i ∧ i < σ 6 1
    · rw [if_pos (show 0 ≤ i ∧ i ≤ σ 6 1 - 1 by omega), if_pos (by omega), if_pos z, t4 i z.1 z.2]
    · rw [if_neg (show ¬ (0 ≤ i ∧ i ≤ σ 6 1 - 1) by omega), if_neg z]
theorem Td_spoil (k : Nat × (Int → Int)) (d : Nat) {σ : St} (h : TR σ σ) {i m : Int} (h1 : I32 i) : ∃ a σ1 ρ, EV k (d + 10) mX8_spoil [vR 0, vI i, vI m] σ = ansI a σ1 ∧ EV k (d + 10) mX9_spoil [vR 33, vI i, vI m] σ1 = ansI a ρ ∧ TpE σ ρ := by
  obtain ⟨t1, t2, t3, t4⟩ := id h
  unfold I32 at h1
  have self : TpE σ σ := TpE_of (TE.refl σ) (RT.refl σ) h
  rw [eX8_spoil, bX8_spoil_0, w32_id (a := i) h1.1 h1.2, w32_id (a := σ 6 1) (by omega) (by omega)]
  by_cases z : 0 ≤ i ∧ i < σ 6 1
  · have hi : 0 ≤ i ∧ i < 1200 := by omega
    rw [if_neg (show ¬ i < 0 by omega), if_pos z.2]
    simp only [if_pos hi]
    rw [st2_eq]
    have xb := jand_xor (σ 55 i) m
    rw [t4 i z.1 z.2] at xb
    have te : TE σ (st2 σ 31 i (jxor (σ 31 i) (jand m 255))) := ⟨fun q hq => st2_ne (by rintro rfl; exact hq (by decide)), fun a _ => st2_cell (by decide) a⟩
    have rt : RT (st2 σ 31 i (jxor (σ 31 i) (jand m 255))) (st2 (st2 σ 31 i (jxor (σ 31 i) (jand m 255))) 55 i (b8 (b8 (jxor (σ 55 i) m)))) := ⟨fun q hq => st2_ne (by rintro rfl; exact hq (by decide)), fun a _ => st2_cell (by decide) a⟩
    refine ⟨_, _, st2 (st2 σ 31 i (jxor (σ 31 i) (jand m 255))) 55 i (b8 (b8 (jxor (σ 55 i) m))), rfl, ?_, TpE_of te rt ⟨?_, ?_, ?_, ?_⟩⟩
    · rw [eX9_spoil, bX9_spoil_0, st2_cell (show (33 : Nat) ≠ 31 by decide), t2, X9_in_ok k (d + 8) _ h1.1 h1.2 (by omega) (by omega) (by omega) (by omega), jbI_some, ib, w32_id (a := i) h1.1 h1.2, if_pos (show 0 ≤ i ∧ i ≤ σ 6 1 - 1 by omega)]
      simp only [if_pos hi]
      rw [st2_eq, st2_cell (show (55 : Nat) ≠ 31 by decide), jand_b8, xb]
    · exact t1
    · exact t2
    · intro j j0 j1
      by_cases y : j = i
      · rw [y, st2_eq, ← xb]; exact jand_b _
      · rw [st2_idx y]; exact t3 j j0 j1
    · intro j j0 j1
      by_cases y : j = i
      · rw [y, st2_eq, st2_eq, jand_b8, xb]
      · rw [st2_idx y, st2_idx y, st2_idx y]; exact t4 j j0 j1
  · refine ⟨-2, σ, σ, ?_, ?_, self⟩
    · by_cases y : i < 0
      · rw [if_pos y]
      · rw [if_neg y, if_neg (by omega)]
    · rw [eX9_spoil, bX9_spoil_0, t2, X9_in_ok k (d + 8) σ h1.1 h1.2 (by omega) (by omega) (by omega) (by omega), jbI_some, ib, if_neg (by omega)]
theorem Td_wipe (k : Nat × (Int → Int)) (d : Nat) {σ : St} (h : TR σ σ) : ∃ a σ1 ρ, EV k (d + 10) mX8_wipe [vR 0] σ = ansI a σ1 ∧ EV k (d + 10) mX9_wipe [vR 33] σ1 = ansI a ρ ∧ TpE σ ρ := by
  obtain ⟨t1, t2, t3, t4⟩ := id h
  refine ⟨σ 6 1, st2 σ 6 1 0, st2 (st2 σ 6 1 0) 33 34 0, ?_, ?_, TpE_of (S := st2 σ 6 1 0) ⟨fun q hq => st2_ne (by rintro rfl; exact hq (by decide)), fun a ha => st2_idx ha⟩ ⟨fun q hq => st2_ne (by rintro rfl; exact hq (by decide)), fun a ha => st2_idx ha⟩ ⟨?_, ?_, ?_, ?_⟩⟩
  · rw [eX8_wipe, bX8_wipe_0]
  · rw [eX9_wipe, bX9_wipe_0, st2_cell (show (33 : Nat) ≠ 6 by decide), t2]
  · rw [st2_eq]; omega
  · rw [st2_eq, st2_eq]
  · exact t3
  · intro i i0 i1
    rw [st2_eq] at i1
    omega
