
theorem X9_yearOf_loop (k : Nat × (Int → Int)) (d : Nat) {σ : St} (hC : CF σ) {c n y0 : Int} (h1 : 0 ≤ c) (h2 : c ≤ 6) (n1 : -100000000 ≤ n) (n2 : n ≤ 100000000) (hy : IsY σ c n y0) : ∀ (t : Nat) (lo hi : Int) (u : PV), hi - lo < 2 ^ t → yfst c ≤ lo → hi ≤ 5000 → lo ≤ y0 → y0 ≤ hi → out (WV k) (EV k (d + 4)) MX9_yearOf 9 [vI c, vI n, vI lo, vI hi, u] [] σ = ansI y0 σ := by
  have hf := yfst_b c
  have e5 : ylst (σ 1 2) c = 5000 := by unfold ylst; rw [if_neg (by omega)]
  obtain ⟨a1, a2, a3, a4⟩ := hy
  intro t
  induction t with
  | zero =>
    intro lo hi u b3 b4 b5 b6 b7
    rw [bX9_yearOf_9]
    simp at b3
    rw [if_neg (by simp (disch := omega) only [w32_id]; omega)]
    exact ansI_c (by omega)
  | succ t ih =>
    intro lo hi u b3 b4 b5 b6 b7
    rw [bX9_yearOf_9]
    by_cases q : lo < hi
    · rw [if_pos (by simp (disch := omega) only [w32_id]; omega)]
      have e : jq (lo + hi + 1) 2 = (lo + hi + 1) / 2 := jq_pos (by omega) (by omega) (by omega) (by omega)
      rw [e]
      have hv : YV c ((lo + hi + 1) / 2) := ⟨by omega, by omega, fun _ => by omega⟩
      have bb := Ys_b hC h1 (by omega) hv (fun _ => by omega)
      rw [X9_start_ok k d σ h1 h2 hv]
      simp only [jbI_some]
      have p2 : (2 : Int) ^ (t + 1) = 2 * 2 ^ t := by rw [Int.pow_succ]; omega
      rw [p2] at b3
      by_cases g : n < Ys σ c ((lo + hi + 1) / 2)
      · rw [if_pos (by simp (disch := omega) only [w32_id]; exact g)]
        have : y0 ≤ (lo + hi + 1) / 2 - 1 := by
          apply Decidable.byContradiction
          intro z
          have := Ys_mono hC h1 (by omega) (a := (lo + hi + 1) / 2) (b := y0) (by omega) (by omega) (by omega)
          omega
        exact ih _ _ _ (by omega) b4 (by omega) b6 this
      · rw [if_neg (by simp (disch := omega) only [w32_id]; exact g)]
        have : (lo + hi + 1) / 2 ≤ y0 := by
          apply Decidable.byContradiction
          intro z
          have := Ys_mono hC h1 (by omega) (a := y0 + 1) (b := (lo + hi + 1) / 2) (by omega) (by omega) (by omega)
          omega
        exact ih _ _ _ (by omega) (by omega) b5 this b7
    · rw [if_neg (by simp (disch := omega) only [w32_id]; omega)]
      exact ansI_c (by omega)
theorem X9_yearOf_ok (k : Nat × (Int → Int)) (d : Nat) {σ : St} (hC : CF σ) {c n y : Int} (h1 : 0 ≤ c) (h2 : c ≤ 6) (n1 : -100000000 ≤ n) (n2 : n ≤ 100000000) (hy : IsY σ c n y) : EV k (d + 5) mX9_yearOf [vI c, vI n] σ = ansI y σ := by
  have hf := yfst_b c
  have e5 : ylst (σ 1 2) c = 5000 := by unfold ylst; rw [if_neg (by omega)]
  rw [eX9_yearOf, bX9_yearOf_0, X9_firstYear_ok k (d + 3) σ h1 (by omega)]
  simp only [jbI_some]
  have := hy.1
  have := hy.2.1
  exact X9_yearOf_loop k d hC h1 h2 n1 n2 hy 13 _ _ _ (by omega) (by omega) (by omega) (by omega) (by omega)

abbrev fd (σ : St) (y m dd : Int) : St := st2 (st2 (st2 σ 33 3 y) 33 4 m) 33 5 dd
theorem st2_same (σ : St) (q : Nat) (k v w : Int) : st2 (st2 σ q k v) q k w = st2 σ q k w := by
  funext a b
  simp only [st2]
  split <;> rfl
theorem CF_st2 {σ : St} (h : CF σ) {q : Nat} {k v : Int} (q1 : q ≠ 1) (q8 : q ≠ 8) (q9 : q ≠ 9) : CF (st2 σ q k v) := by
  unfold CF
  rw [st2_ne (Ne.symm q1), st2_ne (Ne.symm q8), st2_ne (Ne.symm q9)]
  exact h
theorem MR_st2 {σ : St} (h : MR σ) {k v : Int} (k0 : k ≠ 0) : MR (st2 σ 33 k v) := by
  unfold MR
  rw [st2_ne (p := 1) (by decide), st2_ne (p := 34) (by decide), st2_ne (p := 35) (by decide), st2_ne (p := 9) (by decide), st2_idx (Ne.symm k0)]
  exact h
theorem rs_mono {σ : St} (h : CF σ) {a b : Int} (h0 : 0 ≤ a) (hab : a ≤ b) (hb : b ≤ σ 1 2) : σ 9 a + (b - a) ≤ σ 9 b := by
  obtain ⟨t, ht⟩ : ∃ t : Nat, b = a + t := ⟨(b - a).toNat, by omega⟩
  subst ht
  clear hab
  induction t with
  | zero => simp
  | succ t ih =>
    have i := ih (by push_cast at hb; omega)
    have := h.2.2 (a + t) (by omega) (by push_cast at hb; omega)
    rw [show a + ((t + 1 : Nat) : Int) = a + t + 1 by push_cast; omega]
    omega
theorem IsD.row {σ : St} (hC : CF σ) {n y m dd : Int} (h : IsD σ 7 n y m dd) : 0 ≤ 10 * (y - 1) + m - 1 ∧ 10 * (y - 1) + m ≤ σ 1 2 ∧ 1 ≤ y ∧ 1 ≤ m ∧ m ≤ 10 ∧ n = σ 9 (10 * (y - 1) + m - 1) + dd - 1 ∧ 1 ≤ dd ∧ n < σ 9 (10 * (y - 1) + m) := by
  obtain ⟨a1, a2, a3, a4, a5, a6, a7⟩ := h
  have y1 : 1 ≤ y := a1
  have e := Ms7 hC y1 a3 a4 a2
  have el : Ml σ 7 y m = σ 9 (clR (σ 1 2) (10 * (y - 1) + m)) - σ 9 (clR (σ 1 2) (10 * (y - 1) + m - 1)) := rfl
  have c1 : clR (σ 1 2) (10 * (y - 1) + m) = 10 * (y - 1) + m := by unfold clR; rw [if_neg (by omega), if_neg (by omega)]
  have c2 : clR (σ 1 2) (10 * (y - 1) + m - 1) = 10 * (y - 1) + m - 1 := by unfold clR; rw [if_neg (by omega), if_neg (by omega)]
  rw [c1, c2] at el
  refine ⟨by omega, by omega, y1, a3, e.2.2, by omega, a5, by omega⟩
theorem row_isD {σ : St} (hC : CF σ) {n j : Int} (j1 : 0 ≤ j) (j2 : j < σ 1 2) (n1 : σ 9 j ≤ n) (n2 : n < σ 9 (j + 1)) : IsD σ 7 n (j / 10 + 1) (j % 10 + 1) (n - σ 9 j + 1) := by
  have hn := hC.1
  have hy : j / 10 + 1 ≤ (σ 1 2 + 9) / 10 := by omega
  have hm : j % 10 + 1 ≤ Mi σ 7 (j / 10 + 1) := by
    show j % 10 + 1 ≤ (if 10 ≤ σ 1 2 - 10 * (j / 10 + 1 - 1) then 10 else σ 1 2 - 10 * (j / 10 + 1 - 1))
    split <;> omega
  have e := Ms7 hC (y := j / 10 + 1) (m := j % 10 + 1) (by omega) (by omega) hm hy
  have el : Ml σ 7 (j / 10 + 1) (j % 10 + 1) = σ 9 (clR (σ 1 2) (10 * (j / 10 + 1 - 1) + (j % 10 + 1))) - σ 9 (clR (σ 1 2) (10 * (j / 10 + 1 - 1) + (j % 10 + 1) - 1)) := rfl
  rw [show 10 * (j / 10 + 1 - 1) + (j % 10 + 1) = j + 1 by omega, show j + 1 - 1 = j by omega] at el
  rw [show 10 * (j / 10 + 1 - 1) + (j % 10 + 1) - 1 = j by omega] at e
  have c1 : clR (σ 1 2) (j + 1) = j + 1 := by unfold clR; rw [if_neg (by omega), if_neg (by omega)]
  have c2 : clR (σ 1 2) j = j := by unfold clR; rw [if_neg (by omega), if_neg (by omega)]
  rw [c1, c2] at el
  exact ⟨show (1 : Int) ≤ _ by omega, hy, by omega, hm, by omega, by omega, by omega⟩
theorem X9_find_rows (k : Nat × (Int → Int)) (d : Nat) {σ : St} (hC : CF σ) (hM : MR σ) {n y m dd : Int} (n1 : -100000000 ≤ n) (n2 : n ≤ 100000000) (hD : IsD σ 7 n y m dd) : ∀ (t : Nat) (j : Int), 0 ≤ j → j + t = 10 * (y - 1) + m - 1 → out (WV k) (EV k d) MX9_find 8 [vR 33, vI 7, vI n, vI j] [] σ = ansI 1 (fd σ y m dd) := by
  have hn := hC.1
  obtain ⟨r1, r2, r3, r4, r5, r6, r7, r8⟩ := hD.row hC
  intro t
  induction t with
  | zero =>
    intro j j0 j1
    have mr := hM.2 j (by omega) (by omega)
    have cc := hC.2.2 j (by omega) (by omega)
    have ej : j = 10 * (y - 1) + m - 1 := by omega
    have ej2 : j + 1 = 10 * (y - 1) + m := by omega
    rw [← ej] at r6
    rw [← ej2] at r8
    rw [bX9_find_8, hM.1, w32_id (a := j) (by omega) (by omega), mr.1, mr.2]
    simp (disch := omega) only [w32_id]
    rw [if_pos (by omega), if_pos (by omega), if_neg (by omega), if_pos (by omega), if_pos (by omega), if_pos (by omega), if_pos (by omega)]
    rw [st2_cell (by decide), st2_cell (by decide), mr.1]
    simp (disch := omega) only [jq_pos, jr_pos]
    rw [show j / 10 + 1 = y by omega, show j % 10 + 1 = m by omega, show n - σ 9 j + 1 = dd by omega]
  | succ t ih =>
    intro j j0 j1
    push_cast at j1
    have mr := hM.2 j (by omega) (by omega)
    have cc := hC.2.2 j (by omega) (by omega)
    have mo := rs_mono hC (a := j + 1) (b := 10 * (y - 1) + m - 1) (by omega) (by omega) (by omega)
    rw [bX9_find_8, hM.1, w32_id (a := j) (by omega) (by omega), mr.1, mr.2]
    simp (disch := omega) only [w32_id]
    rw [if_pos (by omega), if_pos (by omega), if_neg (by omega), if_pos (by omega), if_pos (by omega), if_neg (by omega)]
    exact ih _ (by omega) (by omega)
theorem X9_find_norow (k : Nat × (Int → Int)) (d : Nat) {σ : St} (hC : CF σ) (hM : MR σ) {n : Int} (n1 : -100000000 ≤ n) (n2 : n ≤ 100000000) (hD : ∀ j, 0 ≤ j → j < σ 1 2 → n < σ 9 j ∨ σ 9 (j + 1) ≤ n) : ∀ (t : Nat) (j : Int), 0 ≤ j → j + t = σ 1 2 → out (WV k) (EV k d) MX9_find 8 [vR 33, vI 7, vI n, vI j] [] σ = ansI 0 σ := by
  have hn := hC.1
  intro t
  induction t with
  | zero =>
    intro j j0 j1
    rw [bX9_find_8, hM.1, w32_id (a := j) (by omega) (by omega)]
    simp (disch := omega) only [w32_id]
    rw [if_neg (by omega)]
  | succ t ih =>
    intro j j0 j1
    push_cast at j1
    have mr := hM.2 j (by omega) (by omega)
    have cc := hC.2.2 j (by omega) (by omega)
    have q := hD j (by omega) (by omega)
    rw [bX9_find_8, hM.1, w32_id (a := j) (by omega) (by omega), mr.1, mr.2]
    simp (disch := omega) only [w32_id]
    rw [if_pos (by omega), if_pos (by omega)]
    by_cases q1 : n < σ 9 j
    · rw [if_pos q1]
      exact ih _ (by omega) (by omega)
    · rw [if_neg q1, if_pos (by omega), if_pos (by omega), if_neg (by omega)]
      exact ih _ (by omega) (by omega)
theorem X9_find_loop (k : Nat × (Int → Int)) (d : Nat) {σ : St} (hC : CF σ) (hM : MR σ) {c n y m dd : Int} (h1 : 0 ≤ c) (h2 : c ≤ 7) (n1 : -100000000 ≤ n) (n2 : n ≤ 100000000) (hn : c = 7 → 0 < σ 1 2) (hD : IsD σ c n y m dd) : ∀ (t : Nat) (j : Int), 1 ≤ j → j + t = m → out (WV k) (EV k (d + 5)) MX9_find 112 [vR 33, vI c, vI n, vI (n - Ms σ c y j)] [] (st2 (st2 σ 33 3 y) 33 4 j) = ansI 1 (fd σ y m dd) := by
  obtain ⟨a1, a2, a3, a4, a5, a6, a7⟩ := hD
  have kk := KF_all hC h1 h2 a1 a2
  intro t
  induction t with
  | zero =>
    intro j j0 j1
    have e : j = m := by omega
    subst e
    have bb := Ms_b hC h1 h2 hn a1 a2 a3 a4
    rw [bX9_find_112]
    rw [show (st2 (st2 σ 33 3 y) 33 4 j) 33 3 = y from rfl, show (st2 (st2 σ 33 3 y) 33 4 j) 33 4 = j from st2_eq _ _ _ _]
    rw [X9_lengthOf_ok k d (σ := st2 (st2 σ 33 3 y) 33 4 j) (CF_st2 (CF_st2 hC (by decide) (by decide) (by decide)) (by decide) (by decide) (by decide)) (MR_st2 (MR_st2 hM (by decide)) (by decide)) h1 h2 a1 a2 a3 a4]
    simp only [jbI_some]
    rw [show Ml (st2 (st2 σ 33 3 y) 33 4 j) c y j = Ml σ c y j from rfl]
    rw [if_pos (by simp (disch := omega) only [w32_id]; omega), show n - Ms σ c y j + 1 = dd by omega]
  | succ t ih =>
    intro j j0 j1
    push_cast at j1
    have bb := Ms_b hC h1 h2 hn a1 a2 (m := j) (by omega) (by omega)
    have b2 := Ms_b hC h1 h2 hn a1 a2 a3 a4
    have st := smI_s (Ml σ c y) (a := j - 1) (by omega)
    rw [show j - 1 + 1 = j by omega] at st
    have e2 : Ms σ c y (j + 1) = Ms σ c y j + Ml σ c y j := by
      show Ys σ c y + smI (Ml σ c y) (j + 1 - 1) = Ys σ c y + smI (Ml σ c y) (j - 1) + Ml σ c y j
      rw [show j + 1 - 1 = j by omega]; omega
    have mo : Ms σ c y (j + 1) ≤ Ms σ c y m := by
      have := smI_mono (f := Ml σ c y) (a := j + 1 - 1) (b := m - 1) (by omega) (by omega) (fun i i1 i2 => (kk.2.2.1 i (by omega) (by omega)).1)
      show Ys σ c y + smI (Ml σ c y) (j + 1 - 1) ≤ Ys σ c y + smI (Ml σ c y) (m - 1)
      omega
    have C2 : CF (st2 (st2 σ 33 3 y) 33 4 j) := CF_st2 (CF_st2 hC (by decide) (by decide) (by decide)) (by decide) (by decide) (by decide)
    have M2 : MR (st2 (st2 σ 33 3 y) 33 4 j) := MR_st2 (MR_st2 hM (by decide)) (by decide)
    have ll := X9_lengthOf_ok k d (σ := st2 (st2 σ 33 3 y) 33 4 j) C2 M2 h1 h2 a1 a2 (m := j) (by omega) (show j ≤ Mi σ c y by omega)
    rw [show Ml (st2 (st2 σ 33 3 y) 33 4 j) c y j = Ml σ c y j from rfl] at ll
    rw [bX9_find_112]
    rw [show (st2 (st2 σ 33 3 y) 33 4 j) 33 3 = y from rfl, show (st2 (st2 σ 33 3 y) 33 4 j) 33 4 = j from st2_eq _ _ _ _]
    rw [ll]
    simp only [jbI_some]
    rw [if_neg (by simp (disch := omega) only [w32_id]; omega)]
    rw [show (st2 (st2 σ 33 3 y) 33 4 j) 33 3 = y from rfl, show (st2 (st2 σ 33 3 y) 33 4 j) 33 4 = j from st2_eq _ _ _ _]
    rw [ll]
    simp only [jbI_some]
    rw [show (st2 (st2 σ 33 3 y) 33 4 j) 33 4 = j from st2_eq _ _ _ _, st2_same]
    rw [show n - Ms σ c y j - Ml σ c y j = n - Ms σ c y (j + 1) by omega]
    exact ih _ (by omega) (by omega)
theorem X9_find_ok (k : Nat × (Int → Int)) (d : Nat) {σ : St} (hC : CF σ) (hM : MR σ) {c n y m dd : Int} (h1 : 0 ≤ c) (h2 : c ≤ 7) (n1 : -100000000 ≤ n) (n2 : n ≤ 100000000) (hD : IsD σ c n y m dd) : EV k (d + 6) mX9_find [vR 33, vI c, vI n] σ = ansI 1 (fd σ y m dd) := by
  rw [eX9_find, bX9_find_0]
  by_cases c7 : c = 7
  · subst c7
    rw [if_pos rfl]
    obtain ⟨r1, r2, r3, r4, r5, r6, r7, r8⟩ := hD.row hC
    exact X9_find_rows k (d + 5) hC hM n1 n2 hD (10 * (y - 1) + m - 1).toNat 0 (by omega) (by omega)
  · have hY := hD.isY hC h1 h2
    have hv := YV_of hD.1 (show y ≤ 5000 from by have := hD.2.1; have := ylst_b (c := c) hC.1.1 hC.1.2; omega)
    rw [if_neg (by rw [w32_id (by omega) (by omega)]; exact c7), X9_yearOf_ok k d hC h1 (by omega) n1 n2 hY]
    simp only [jbI_some]
    rw [show (st2 (st2 σ 33 3 y) 33 4 1) 33 3 = y from rfl, X9_start_ok k (d + 1) _ h1 (by omega) hv.1]
    simp only [jbI_some]
    have e : Ys (st2 (st2 σ 33 3 y) 33 4 1) c y = Ms σ c y 1 := by
      show Ys σ c y = Ys σ c y + smI (Ml σ c y) (1 - 1)
      rw [show (1 : Int) - 1 = 0 by omega, smI_0]; omega
    rw [e]
    have := hD.2.2.1
    exact X9_find_loop k d hC hM h1 h2 n1 n2 (fun q => absurd q c7) hD (m - 1).toNat 1 (by omega) (by omega)
theorem X9_find_no (k : Nat × (Int → Int)) (d : Nat) {σ : St} (hC : CF σ) (hM : MR σ) {n : Int} (n1 : -100000000 ≤ n) (n2 : n ≤ 100000000) (hD : σ 1 2 = 0 ∨ n < σ 9 0 ∨ σ 9 (σ 1 2) ≤ n) : EV k (d + 1) mX9_find [vR 33, vI 7, vI n] σ = ansI 0 σ := by
  rw [eX9_find, bX9_find_0, if_pos rfl]
  have hn := hC.1
  refine X9_find_norow k d hC hM n1 n2 (fun j j1 j2 => ?_) (σ 1 2).toNat 0 (by omega) (by omega)
  have := rs_mono hC (a := 0) (b := j) (by omega) (by omega) (by omega)
  have := rs_mono hC (a := j + 1) (b := σ 1 2) (by omega) (by omega) (by omega)
  omega
