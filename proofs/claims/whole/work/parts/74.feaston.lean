/-! the feasts of a day, by ranks -/
def nth (o p : Int → Int) (n : Int) : Nat → Int → Int → Int
  | 0, _, _ => -2
  | t + 1, i, L => if p (o i) = n then (if L = 0 then o i else nth o p n t (i + 1) (L - 1)) else nth o p n t (i + 1) L
theorem nth_s (o p : Int → Int) (n : Int) (t : Nat) (i L : Int) : nth o p n (t + 1) i L = if p (o i) = n then (if L = 0 then o i else nth o p n t (i + 1) (L - 1)) else nth o p n t (i + 1) L := rfl
theorem nth_neg (o p : Int → Int) (n : Int) : ∀ (t : Nat) (i L : Int), L < 0 → nth o p n t i L = -2 := by
  intro t
  induction t with
  | zero => intro i L _; rfl
  | succ t ih =>
    intro i L h
    rw [nth_s]
    split
    · rw [if_neg (by omega)]; exact ih _ _ (by omega)
    · exact ih _ _ h
theorem X8_feastOn_loop (k : Nat × (Int → Int)) (d : Nat) {σ : St} (h : HQ σ) {y n q : Int} (y1 : 0 ≤ y) (y2 : y ≤ 5000) (hT : PT σ y) (n1 : 0 ≤ n) (n2 : n ≤ 1500000) (hq : I32 q) : ∀ (t : Nat) (i x : Int) (u : PV), 0 ≤ i → i + t = σ 3 6 → 0 ≤ x → x ≤ i → out (WV k) (EV k (d + 2)) MX8_feastOn 31 [vR 0, vI n, vI q, vI x, vI i, u] [] σ = ansI (nth (σ 18) (PD σ y) n t i (q - x)) σ := by
  obtain ⟨g1, g2, g3, g4, g5, g6, g7⟩ := id h
  have f1 := g3.1
  unfold I32 at hq
  intro t
  induction t with
  | zero =>
    intro i x u i0 i1 x0 x1
    rw [bX8_feastOn_31, w32_id (a := i) (by omega) (by omega), w32_id (a := σ 3 6) (by omega) (by omega), if_neg (by omega)]
    rfl
  | succ t ih =>
    intro i x u i0 i1 x0 x1
    push_cast at i1
    have of := g5.1 i i0 (by omega)
    have pb := PD_b h y1 y2 of.1 of.2
    rw [bX8_feastOn_31, w32_id (a := i) (by omega) (by omega), w32_id (a := σ 3 6) (by omega) (by omega), if_pos (by omega), X2_inOrder_ok k d g3 i0 (by omega), jbI_some, X2_placedDay_ok k d g3 hT of.1 of.2, jbI_some, w32_id (a := PD σ y (σ 18 i)) (by omega) (by omega), w32_id (a := n) (by omega) (by omega), w32_id (a := x) (by omega) (by omega), w32_id (a := q) (by omega) (by omega), nth_s]
    by_cases z : PD σ y (σ 18 i) = n
    · rw [if_pos z, if_pos z]
      by_cases w : x = q
      · rw [if_pos w, if_pos (by omega)]
      · rw [if_neg w, if_neg (by omega), ih (i + 1) (x + 1) _ (by omega) (by omega) (by omega) (by omega), show q - (x + 1) = q - x - 1 by omega]
    · rw [if_neg z, if_neg z]
      exact ih (i + 1) x _ (by omega) (by omega) (by omega) (by omega)
/-- how far the reference has come -/
def bfr (σ : St) (r f g : Int) : Prop := r < σ 17 g ∨ (σ 17 g = r ∧ g < f)
theorem X9_feastAt_in (k : Nat × (Int → Int)) (d : Nat) {σ : St} (h : HQ σ) {s y n q : Int} (y1 : 0 ≤ y) (y2 : y ≤ 5000) (s1 : 0 ≤ s) (s2 : s ≤ 180) (hT : KT σ s y) (n1 : 0 ≤ n) (n2 : n ≤ 1500000) {r : Int} (r0 : 0 ≤ r) (r9 : r ≤ 9) : ∀ (t : Nat) (f i L : Int), 0 ≤ f → f + t = σ 3 6 → 0 ≤ i → i ≤ σ 3 6 → 0 ≤ L → L ≤ 2147483647 → (∀ j, 0 ≤ j → j < i → bfr σ r f (σ 18 j)) → (∀ j, i ≤ j → j < σ 3 6 → ¬ bfr σ r f (σ 18 j)) → ∃ i2 L2 u6, 0 ≤ i2 ∧ i2 ≤ σ 3 6 ∧ 0 ≤ L2 ∧ L2 ≤ 2147483647 ∧ (∀ j, 0 ≤ j → j < i2 → bfr σ r (σ 3 6) (σ 18 j)) ∧ (∀ j, i2 ≤ j → j < σ 3 6 → ¬ bfr σ r (σ 3 6) (σ 18 j)) ∧ (out (WV k) (EV k d) MX9_feastAt 29 [vR 33, vI n, vI q, vI s, vI L, vI r, vI f] [] σ = ansI (nth (σ 18) (PD σ y) n (σ 3 6 - i).toNat i L) σ ∨ (out (WV k) (EV k d) MX9_feastAt 29 [vR 33, vI n, vI q, vI s, vI L, vI r, vI f] [] σ = out (WV k) (EV k d) MX9_feastAt 17 [vR 33, vI n, vI q, vI s, vI L2, vI (r - 1), u6] [] σ ∧ nth (σ 18) (PD σ y) n (σ 3 6 - i).toNat i L = nth (σ 18) (PD σ y) n (σ 3 6 - i2).toNat i2 L2)) := by
  obtain ⟨g1, g2, g3, g4, g5, g6, g7⟩ := id h
  have f1 := g3.1
  intro t
  induction t with
  | zero =>
    intro f i L f0 ft i0 i1 l0 l1 hb hn
    have e : f = σ 3 6 := by omega
    subst e
    refine ⟨i, L, vI (σ 3 6), i0, i1, l0, l1, hb, hn, Or.inr ⟨?_, rfl⟩⟩
    rw [bX9_feastAt_29, g4.1, if_neg (by omega), show r + -1 = r - 1 by omega]
  | succ t ih =>
    intro f i L f0 ft i0 i1 l0 l1 hb hn
    push_cast at ft
    have fl : f < σ 3 6 := by omega
    have rk := (g3.2 f f0 fl).2
    have pb := PD_b h y1 y2 f0 fl
    obtain ⟨t1, t2⟩ := hT f f0 fl
    have eq : out (WV k) (EV k d) MX9_feastAt 29 [vR 33, vI n, vI q, vI s, vI L, vI r, vI f] [] σ = if σ 17 f = r then (if PD σ y f = n then (if L = 0 then ansI f σ else out (WV k) (EV k d) MX9_feastAt 29 [vR 33, vI n, vI q, vI s, vI (L - 1), vI r, vI (f + 1)] [] σ) else out (WV k) (EV k d) MX9_feastAt 29 [vR 33, vI n, vI q, vI s, vI L, vI r, vI (f + 1)] [] σ) else out (WV k) (EV k d) MX9_feastAt 29 [vR 33, vI n, vI q, vI s, vI L, vI r, vI (f + 1)] [] σ := by
      rw [bX9_feastAt_29, g4.1, w32_id (a := f) (by omega) (by omega), w32_id (a := σ 3 6) (by omega) (by omega), if_pos fl, if_pos (show 0 ≤ f ∧ f < 60 by omega), (g4.2 f f0 fl).2.2.2.2, w32_id (a := σ 17 f) (by omega) (by omega), w32_id (a := r) (by omega) (by omega), w32_id (a := s + f) (by omega) (by omega), t2, w32_id (a := PD σ y f) (by omega) (by omega), w32_id (a := n) (by omega) (by omega), w32_id (a := L) (by omega) (by omega), if_pos (show 0 ≤ s + f ∧ s + f < 240 by omega), show L + -1 = L - 1 by omega]
    rw [eq]
    by_cases qr : σ 17 f = r
    · -- f is the next of the order
      obtain ⟨m, m0, m1, m2⟩ := g5.2.2 f f0 fl
      have nb : ¬ bfr σ r f f := by unfold bfr; omega
      have mi : m = i := by
        have a : i ≤ m := by
          apply Classical.byContradiction
          intro w
          have := hb m m0 (by omega)
          rw [m2] at this
          exact nb this
        apply Classical.byContradiction
        intro w
        have b := (ORD_bef g5 i0 (by omega) m0 m1).2 (show i < m by omega)
        rw [m2] at b
        refine hn i (by omega) (by omega) ?_
        unfold bef at b
        unfold bfr
        omega
      subst mi
      have hb2 : ∀ j, 0 ≤ j → j < m + 1 → bfr σ r (f + 1) (σ 18 j) := by
        intro j j0 j1
        by_cases w : j = m
        · rw [w, m2]; unfold bfr; omega
        · have := hb j j0 (by omega)
          unfold bfr at this ⊢
          omega
      have hn2 : ∀ j, m + 1 ≤ j → j < σ 3 6 → ¬ bfr σ r (f + 1) (σ 18 j) := by
        intro j j0 j1
        have a := hn j (by omega) j1
        have b := (ORD_bef g5 m0 m1 (show 0 ≤ j by omega) j1).2 (by omega)
        rw [m2] at b
        unfold bef at b
        unfold bfr at a ⊢
        omega
      rw [if_pos qr, show (σ 3 6 - m).toNat = (σ 3 6 - (m + 1)).toNat + 1 by omega, nth_s, m2]
      by_cases z : PD σ y f = n
      · rw [if_pos z, if_pos z]
        by_cases w : L = 0
        · rw [if_pos w, if_pos w]
          obtain ⟨i2, L2, u6, a1, a2, a3, a4, a5, a6, _⟩ := ih (f + 1) (m + 1) 0 (by omega) (by omega) (by omega) (by omega) (by omega) (by omega) hb2 hn2
          exact ⟨i2, L2, u6, a1, a2, a3, a4, a5, a6, Or.inl rfl⟩
        · rw [if_neg w, if_neg w]
          exact ih (f + 1) (m + 1) (L - 1) (by omega) (by omega) (by omega) (by omega) (by omega) (by omega) hb2 hn2
      · rw [if_neg z, if_neg z]
        exact ih (f + 1) (m + 1) L (by omega) (by omega) (by omega) (by omega) l0 l1 hb2 hn2
    · rw [if_neg qr]
      have iff : ∀ g, bfr σ r (f + 1) g ↔ bfr σ r f g := by
        intro g
        unfold bfr
        constructor
        · rintro (z | ⟨z, w⟩)
          · exact Or.inl z
          · by_cases e : g = f
            · rw [e] at z; exact absurd z qr
            · exact Or.inr ⟨z, by omega⟩
        · rintro (z | ⟨z, w⟩)
          · exact Or.inl z
          · exact Or.inr ⟨z, by omega⟩
      exact ih (f + 1) i L (by omega) (by omega) i0 i1 l0 l1 (fun j a b => (iff _).2 (hb j a b)) (fun j a b c => hn j a b ((iff _).1 c))
theorem X9_feastAt_out (k : Nat × (Int → Int)) (d : Nat) {σ : St} (h : HQ σ) {s y n q : Int} (y1 : 0 ≤ y) (y2 : y ≤ 5000) (s1 : 0 ≤ s) (s2 : s ≤ 180) (hT : KT σ s y) (n1 : 0 ≤ n) (n2 : n ≤ 1500000) (q0 : 0 ≤ q) (q1 : q ≤ 2147483647) : ∀ (t : Nat) (r i L : Int) (u : PV), r + 1 = t → r ≤ 9 → 0 ≤ i → i ≤ σ 3 6 → 0 ≤ L → L ≤ 2147483647 → (∀ j, 0 ≤ j → j < i → r < σ 17 (σ 18 j)) → (∀ j, i ≤ j → j < σ 3 6 → ¬ r < σ 17 (σ 18 j)) → out (WV k) (EV k d) MX9_feastAt 17 [vR 33, vI n, vI q, vI s, vI L, vI r, u] [] σ = ansI (nth (σ 18) (PD σ y) n (σ 3 6 - i).toNat i L) σ := by
  obtain ⟨g1, g2, g3, g4, g5, g6, g7⟩ := id h
  have f1 := g3.1
  intro t
  induction t with
  | zero =>
    intro r i L u rt r9 i0 i1 l0 l1 hb hn
    have e : i = σ 3 6 := by
      apply Classical.byContradiction
      intro w
      have of := g5.1 i i0 (by omega)
      have rk := (g3.2 (σ 18 i) of.1 of.2).2
      exact hn i (by omega) (by omega) (by omega)
    rw [bX9_feastAt_17, w32_id (a := r) (by omega) (by omega), if_pos (by omega), e, show (σ 3 6 - σ 3 6).toNat = 0 by omega]
    rfl
  | succ t ih =>
    intro r i L u rt r9 i0 i1 l0 l1 hb hn
    push_cast at rt
    rw [bX9_feastAt_17, w32_id (a := r) (by omega) (by omega), if_neg (by omega), w32_id (a := q) (by omega) (by omega), if_neg (by omega)]
    obtain ⟨i2, L2, u6, a1, a2, a3, a4, a5, a6, a7⟩ := X9_feastAt_in k d h (q := q) y1 y2 s1 s2 hT n1 n2 (show 0 ≤ r by omega) r9 (σ 3 6).toNat 0 i L (by omega) (by omega) i0 i1 l0 l1 (fun j j0 j1 => Or.inl (hb j j0 j1)) (fun j j0 j1 w => by
      rcases w with w | w
      · exact hn j j0 j1 w
      · have of := g5.1 j (by omega) j1
        omega)
    rcases a7 with a7 | ⟨a7, a8⟩
    · exact a7
    · rw [a7, a8]
      refine ih (r - 1) i2 L2 u6 (by omega) (by omega) a1 a2 a3 a4 (fun j j0 j1 => ?_) (fun j j0 j1 w => ?_)
      · have := a5 j j0 j1
        unfold bfr at this
        omega
      · have := a6 j j0 j1
        have of := g5.1 j (by omega) j1
        unfold bfr at this
        omega
theorem exYr {σ : St} (hC : CF σ) (n : Int) : ∃ y, IsY σ 0 n y ∧ 0 ≤ y ∧ y ≤ 5000 := by
  obtain ⟨y, hy⟩ := exY hC (c := 0) (by omega) (by omega) (show yfst 0 ≤ ylst (σ 1 2) 0 by show (0 : Int) ≤ 5000; omega) n
  exact ⟨y, hy, hy.1, hy.2.1⟩
theorem X9_feastAt_ok (k : Nat × (Int → Int)) (d : Nat) {σ : St} (h : HQ σ) {n q y : Int} (n1 : 0 ≤ n) (n2 : n ≤ 1500000) (hq : I32 q) (hy : IsY σ 0 n y) : ∃ ρ, EV k (d + 10) mX9_feastAt [vR 33, vI n, vI q] σ = ansI (nth (σ 18) (PD σ y) n (σ 3 6).toNat 0 q) ρ ∧ RE σ ρ ∧ C9 ρ := by
  have y1 : 0 ≤ y := hy.1
  have y2 : y ≤ 5000 := hy.2.1
  unfold I32 at hq
  obtain ⟨ρ, j, r1, r2, r3, r4, r5, r6⟩ := kept9 k d h y1 y2
  have H := h.re r4 r5
  have e6 : ρ 3 6 = σ 3 6 := r4.fs.2.2.2.2.2.2.2.2.2
  have e18 : ρ 18 = σ 18 := r4.1 18 (by decide)
  refine ⟨ρ, ?_, r4, r5⟩
  rw [eX9_feastAt, bX9_feastAt_0, X9_yearOf_ok k (d + 4) h.1 (by omega) (by omega) (by omega) (by omega) hy, jbI_some, r1, jbI_some]
  by_cases z : q < 0
  · rw [bX9_feastAt_17, show w32 9 = 9 by decide, if_neg (by omega), w32_id (a := q) (by omega) (by omega), if_pos z, nth_neg _ _ _ _ _ _ z]
  · have o := X9_feastAt_out k (d + 9) H (q := q) y1 y2 (by omega) (by omega) r6 n1 n2 (by omega) hq.2 10 9 0 q vU rfl (by omega) (by omega) (by have := H.2.2.1.1; omega) (by omega) hq.2 (fun j a b => by omega) (fun j a b c => by
      have of := H.2.2.2.2.1.1 j a b
      have rk := (H.2.2.1.2 (ρ 18 j) of.1 of.2).2
      omega)
    rw [o, e18, r4.fs.pd, e6, show (σ 3 6 - 0).toNat = (σ 3 6).toNat by omega]
theorem Qw_feastOn (k : Nat × (Int → Int)) (d : Nat) {σ : St} (h : HQ σ) {n q : Int} (h1 : I32 n) (h2 : I32 q) : Qw k (d + 12) mX8_feastOn mX9_feastOn [vI n, vI q] σ := by
  obtain ⟨g1, g2, g3, g4, g5, g6, g7⟩ := id h
  have f1 := g3.1
  have b1 := h1
  unfold I32 at b1
  by_cases z : 0 ≤ n ∧ n ≤ 1500000
  · obtain ⟨y, hy, y1, y2⟩ := exYr g1 n
    obtain ⟨σ1, p1, p2, p3, p4, _⟩ := place2 k (d + 5) h y1 y2
    have H1 := h.ce p2 p3
    have e6 : σ1 3 6 = σ 3 6 := p2.fs.2.2.2.2.2.2.2.2.2
    have hy1 : IsY σ1 0 n y := by
      have a : σ1 1 2 = σ 1 2 := by rw [p2.1 1 (by decide)]
      have b := p2.1 9 (by decide)
      unfold IsY
      rw [Ys_same a b, Ys_same a b, a]
      exact hy
    obtain ⟨ρ, r1, r2, r3⟩ := X9_feastAt_ok k (d + 1) H1 z.1 z.2 h2 hy1
    refine ⟨nth (σ1 18) (PD σ1 y) n (σ1 3 6).toNat 0 q, σ1, ρ, ?_, ?_, p2, p3, r2, r3⟩
    · rw [eX8_feastOn, bX8_feastOn_0, X8_isDay_ok k (d + 10) σ b1.1 b1.2, jbI_some, ib, if_pos z, X0_yearOf_ok k (d + 8) g1 (by omega) (by omega) (by omega) (by omega) (by omega) hy, jbI_some, p1, jbV_some, X8_feastOn_loop k (d + 9) H1 y1 y2 p4 z.1 z.2 h2 (σ1 3 6).toNat 0 0 vU (by omega) (by omega) (by omega) (by omega), show q - 0 = q by omega]
    · rw [eX9_feastOn, bX9_feastOn_0, w32_id (a := n) b1.1 b1.2, X9_isDay_ok k (d + 10) σ1 (by omega) (by omega), jbI_some, ib, if_pos z, r1, jbI_some]
  · refine Qw.same (a := -3) h ?_ ?_
    · rw [eX8_feastOn, bX8_feastOn_0, X8_isDay_ok k (d + 10) σ b1.1 b1.2, jbI_some, ib, if_neg z]
    · rw [eX9_feastOn, bX9_feastOn_0, w32_id (a := n) b1.1 b1.2, X9_isDay_ok k (d + 10) σ (by omega) (by omega), jbI_some, ib, if_neg z]
