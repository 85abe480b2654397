
def Sc (σ τ : St) : Prop := τ = σ ∨ ∃ y m dd, τ = fd σ y m dd
theorem Sc.rfl (σ : St) : Sc σ σ := Or.inl (Eq.refl σ)
theorem Sc.fd (σ : St) (y m dd : Int) : Sc σ (fd σ y m dd) := Or.inr ⟨y, m, dd, Eq.refl _⟩
theorem fd_fd (σ : St) (y m dd y2 m2 d2 : Int) : fd (fd σ y m dd) y2 m2 d2 = fd σ y2 m2 d2 := by
  funext a b
  simp only [fd, st2]
  repeat' split
  all_goals rfl
def I32 (x : Int) : Prop := -2147483648 ≤ x ∧ x ≤ 2147483647
def Tw (k : Nat × (Int → Int)) (D : Nat) (m8 m9 : Nat) (as : List PV) (σ : St) : Prop := ∃ a τ, EV k D m8 (vR 0 :: as) σ = ansI a σ ∧ EV k D m9 (vR 33 :: as) σ = ansI a τ ∧ Sc σ τ
def HD (σ : St) (c n : Int) : Prop := c = 7 → 0 < σ 1 2 ∧ σ 9 0 ≤ n ∧ n < σ 9 (σ 1 2)
theorem exRow {σ : St} {n : Int} (h0 : σ 9 0 ≤ n) : ∀ t : Nat, n < σ 9 t → ∃ j, 0 ≤ j ∧ j < (t : Int) ∧ σ 9 j ≤ n ∧ n < σ 9 (j + 1) := by
  intro t
  induction t with
  | zero => intro h; exact absurd h (by simpa using h0)
  | succ t ih =>
    intro h
    push_cast at h
    by_cases q : n < σ 9 t
    · obtain ⟨j, j1, j2, j3, j4⟩ := ih q
      exact ⟨j, j1, by push_cast; omega, j3, j4⟩
    · exact ⟨t, by omega, by push_cast; omega, by omega, h⟩
theorem HD.ex {σ : St} (hC : CF σ) {c n : Int} (h1 : 0 ≤ c) (h2 : c ≤ 7) (n1 : 0 ≤ n) (n2 : n ≤ 1500001) (h : HD σ c n) : ∃ y m dd, IsD σ c n y m dd := by
  by_cases c7 : c = 7
  · subst c7
    obtain ⟨q1, q2, q3⟩ := h rfl
    obtain ⟨j, j1, j2, j3, j4⟩ := exRow (σ := σ) (n := n) q2 (σ 1 2).toNat (by rw [show ((σ 1 2).toNat : Int) = σ 1 2 by omega]; exact q3)
    exact ⟨_, _, _, row_isD hC j1 (by omega) j3 j4⟩
  · exact exD6 hC h1 (by omega) n1 n2
theorem IsD.pos {σ : St} (hC : CF σ) {c n y m dd : Int} (h1 : 0 ≤ c) (h2 : c ≤ 7) (h : IsD σ c n y m dd) : c = 7 → 0 < σ 1 2 := by
  intro e
  subst e
  have := h.row hC
  omega
theorem X0_hasDate_yes (k : Nat × (Int → Int)) (d : Nat) {σ : St} (hC : CF σ) {c n : Int} (h1 : 0 ≤ c) (h2 : c ≤ 7) (n1 : 0 ≤ n) (n2 : n ≤ 1500001) (h : HD σ c n) : EV k (d + 2) mX0_hasDate [vR 1, vI c, vI n] σ = ansI 1 σ := by
  have hn := hC.1
  rw [eX0_hasDate, bX0_hasDate_0]
  by_cases c7 : c = 7
  · subst c7
    obtain ⟨q1, q2, q3⟩ := h rfl
    have b0 := rs_b hC (j := 0) (by omega) (by omega) q1
    have b1 := rs_b hC (j := σ 1 2) (by omega) (by omega) q1
    rw [X0_startOfRow_ok k d hC (by omega) (by omega)]
    simp only [jbI_some]
    rw [show clR (σ 1 2) (σ 1 2) = σ 1 2 by unfold clR; rw [if_neg (by omega), if_neg (by omega)]]
    rw [show w32 0 = 0 by decide]
    simp (disch := omega) only [w32_id]
    rw [if_pos trivial, if_pos q1, if_pos (by decide), if_neg (by omega), if_pos q3]
  · rw [if_neg (by rw [w32_id (by omega) (by omega)]; exact c7)]
theorem X0_hasDate_no (k : Nat × (Int → Int)) (d : Nat) {σ : St} (hC : CF σ) {c n : Int} (h1 : 0 ≤ c) (h2 : c ≤ 7) (n1 : 0 ≤ n) (n2 : n ≤ 1500001) (h : ¬ HD σ c n) : EV k (d + 2) mX0_hasDate [vR 1, vI c, vI n] σ = ansI 0 σ ∧ EV k (d + 1) mX9_find [vR 33, vI c, vI n] σ = EV k (d + 1) mX9_find [vR 33, vI 7, vI n] σ ∧ (σ 1 2 = 0 ∨ n < σ 9 0 ∨ σ 9 (σ 1 2) ≤ n) := by
  have hn := hC.1
  have c7 : c = 7 := Decidable.byContradiction fun q => h fun e => absurd e q
  subst c7
  have h3 : σ 1 2 = 0 ∨ n < σ 9 0 ∨ σ 9 (σ 1 2) ≤ n := by
    apply Decidable.byContradiction
    intro q
    exact h fun _ => by omega
  refine ⟨?_, rfl, h3⟩
  rw [eX0_hasDate, bX0_hasDate_0, if_pos rfl]
  by_cases q1 : σ 1 2 = 0
  · rw [q1, if_neg (by decide)]
  · have b0 := rs_b hC (j := 0) (by omega) (by omega) (by omega)
    have b1 := rs_b hC (j := σ 1 2) (by omega) (by omega) (by omega)
    rw [X0_startOfRow_ok k d hC (by omega) (by omega)]
    simp only [jbI_some]
    rw [show clR (σ 1 2) (σ 1 2) = σ 1 2 by unfold clR; rw [if_neg (by omega), if_neg (by omega)]]
    rw [show w32 0 = 0 by decide]
    simp (disch := omega) only [w32_id]
    rw [if_pos (by omega), if_pos (by decide)]
    by_cases q2 : n < σ 9 0
    · rw [if_pos q2]
    · rw [if_neg q2, if_neg (by omega)]
theorem Tw_toDay (k : Nat × (Int → Int)) (d : Nat) {σ : St} (hC : CF σ) (hM : MR σ) {c y m dd : Int} (h1 : I32 c) (h2 : I32 y) (h3 : I32 m) (h4 : I32 dd) : Tw k (d + 10) mX8_toDay mX9_toDay [vI c, vI y, vI m, vI dd] σ := by
  unfold I32 at h1 h2 h3 h4
  unfold Tw
  rw [eX8_toDay, bX8_toDay_0, eX9_toDay, bX9_toDay_0, X8_isCalendar_ok k (d + 8) σ h1.1 h1.2, X9_isCalendar_ok k (d + 7) σ h1.1 h1.2]
  simp only [jbI_some, ib]
  by_cases hc : 0 ≤ c ∧ c ≤ 7
  · rw [if_pos hc, if_pos hc, X0_hasMonth_ok k (d + 5) hC hc.1 hc.2 h2.1 h2.2 h3.1 h3.2, X9_isMonth_ok k (d + 3) hC hM hc.1 hc.2 h2.1 h2.2 h3.1 h3.2]
    simp only [jbI_some, ib]
    by_cases hm : yfst c ≤ y ∧ y ≤ ylst (σ 1 2) c ∧ 1 ≤ m ∧ m ≤ Mi σ c y
    · rw [if_pos hm, if_pos hm]
      rw [w32_id (a := dd) h4.1 h4.2, w32_1]
      by_cases q1 : dd < 1
      · rw [if_pos q1, if_pos q1]
        exact ⟨_, _, rfl, rfl, Sc.rfl σ⟩
      · have hl := ylst_b (c := c) hC.1.1 hC.1.2
        have kk := KF_all hC hc.1 hc.2 hm.1 hm.2.1
        have kk2 := kk.2.1
        have hn : c = 7 → 0 < σ 1 2 := by
          intro e
          subst e
          have a1 : y ≤ (σ 1 2 + 9) / 10 := hm.2.1
          have a2 : (1 : Int) ≤ y := hm.1
          omega
        have bb := Ms_b hC hc.1 hc.2 hn hm.1 hm.2.1 hm.2.2.1 hm.2.2.2
        rw [if_neg q1, if_neg q1, X0_daysInMonth_ok k (d + 6) hC hc.1 hc.2 hm.1 (by omega) hn hm.2.2.1 (by omega), X9_lengthOf_ok k (d + 4) hC hM hc.1 hc.2 hm.1 hm.2.1 hm.2.2.1 hm.2.2.2]
        simp only [jbI_some]
        rw [w32_id (a := Ml σ c y m) (by omega) (by omega)]
        by_cases q2 : Ml σ c y m < dd
        · rw [if_pos q2, if_pos q2]
          exact ⟨_, _, rfl, rfl, Sc.rfl σ⟩
        · rw [if_neg q2, if_neg q2, X0_monthStart_ok k (d + 6) hC hc.1 hc.2 hm.1 (by omega) hn hm.2.2.1 (by omega), X9_monthStart_ok k (d + 3) hC hM hc.1 hc.2 hm.1 hm.2.1 hm.2.2.1 hm.2.2.2]
          simp only [jbI_some]
          rw [X8_dayOrOutside_ok k (d + 7) σ (by omega) (by omega), w32_id (a := Ms σ c y m + dd - 1) (by omega) (by omega), X9_isDay_ok k (d + 8) σ (by omega) (by omega)]
          simp only [jbI_some, ib]
          refine ⟨_, σ, rfl, ?_, Sc.rfl σ⟩
          unfold dyo
          split <;> rfl
    · rw [if_neg hm, if_neg hm]
      exact ⟨_, _, rfl, rfl, Sc.rfl σ⟩
  · rw [if_neg hc, if_neg hc]
    exact ⟨_, _, rfl, rfl, Sc.rfl σ⟩
theorem Tw_monthLength (k : Nat × (Int → Int)) (d : Nat) {σ : St} (hC : CF σ) (hM : MR σ) {c y m : Int} (h1 : I32 c) (h2 : I32 y) (h3 : I32 m) : Tw k (d + 10) mX8_monthLength mX9_monthLength [vI c, vI y, vI m] σ := by
  unfold I32 at h1 h2 h3
  unfold Tw
  rw [eX8_monthLength, bX8_monthLength_0, eX9_monthLength, bX9_monthLength_0, X8_isCalendar_ok k (d + 8) σ h1.1 h1.2, X9_isCalendar_ok k (d + 7) σ h1.1 h1.2]
  simp only [jbI_some, ib]
  by_cases hc : 0 ≤ c ∧ c ≤ 7
  · rw [if_pos hc, if_pos hc, X0_hasMonth_ok k (d + 5) hC hc.1 hc.2 h2.1 h2.2 h3.1 h3.2, X9_isMonth_ok k (d + 3) hC hM hc.1 hc.2 h2.1 h2.2 h3.1 h3.2]
    simp only [jbI_some, ib]
    by_cases hm : yfst c ≤ y ∧ y ≤ ylst (σ 1 2) c ∧ 1 ≤ m ∧ m ≤ Mi σ c y
    · have hl := ylst_b (c := c) hC.1.1 hC.1.2
      have kk2 := (KF_all hC hc.1 hc.2 hm.1 hm.2.1).2.1
      have hn : c = 7 → 0 < σ 1 2 := by
        intro e
        subst e
        have a1 : y ≤ (σ 1 2 + 9) / 10 := hm.2.1
        have a2 : (1 : Int) ≤ y := hm.1
        omega
      rw [if_pos hm, if_pos hm, X0_daysInMonth_ok k (d + 6) hC hc.1 hc.2 hm.1 (by omega) hn hm.2.2.1 (by omega), X9_lengthOf_ok k (d + 4) hC hM hc.1 hc.2 hm.1 hm.2.1 hm.2.2.1 hm.2.2.2]
      simp only [jbI_some]
      exact ⟨_, _, rfl, rfl, Sc.rfl σ⟩
    · rw [if_neg hm, if_neg hm]
      exact ⟨_, _, rfl, rfl, Sc.rfl σ⟩
  · rw [if_neg hc, if_neg hc]
    exact ⟨_, _, rfl, rfl, Sc.rfl σ⟩
theorem Tw_months (k : Nat × (Int → Int)) (d : Nat) {σ : St} (hC : CF σ) (hM : MR σ) {c y : Int} (h1 : I32 c) (h2 : I32 y) : Tw k (d + 10) mX8_months mX9_months [vI c, vI y] σ := by
  unfold I32 at h1 h2
  unfold Tw
  rw [eX8_months, bX8_months_0, eX9_months, bX9_months_0, X8_isCalendar_ok k (d + 8) σ h1.1 h1.2, X9_isCalendar_ok k (d + 7) σ h1.1 h1.2]
  simp only [jbI_some, ib]
  by_cases hc : 0 ≤ c ∧ c ≤ 7
  · rw [if_pos hc, if_pos hc, X0_hasYear_ok k (d + 7) hC hc.1 hc.2 h2.1 h2.2, X9_isYear_ok k (d + 7) hC hM hc.1 hc.2 h2.1 h2.2]
    simp only [jbI_some, ib]
    by_cases hm : yfst c ≤ y ∧ y ≤ ylst (σ 1 2) c
    · have hl := ylst_b (c := c) hC.1.1 hC.1.2
      have hf := yfst_b c
      rw [if_pos hm, if_pos hm, X0_monthsIn_M k (d + 6) hC hc.1 hc.2 (by omega) (by omega), X9_monthsIn_ok k (d + 4) hC hM hc.1 hc.2 (by omega) (by omega)]
      simp only [jbI_some]
      exact ⟨_, _, rfl, rfl, Sc.rfl σ⟩
    · rw [if_neg hm, if_neg hm]
      exact ⟨_, _, rfl, rfl, Sc.rfl σ⟩
  · rw [if_neg hc, if_neg hc]
    exact ⟨_, _, rfl, rfl, Sc.rfl σ⟩
theorem X9_yearLength_loop (k : Nat × (Int → Int)) (d : Nat) {σ : St} (hC : CF σ) (hM : MR σ) {y : Int} (c : Int) (hy1 : 1 ≤ y) (hy2 : y ≤ ylst (σ 1 2) 7) : ∀ (t : Nat) (x m : Int), 1 ≤ m → m + t = Mi σ 7 y + 1 → x = smI (Ml σ 7 y) (m - 1) → out (WV k) (EV k (d + 5)) MX9_yearLength 46 [vR 33, vI c, vI y, vI x, vI m] [] σ = ansI (smI (Ml σ 7 y) (Mi σ 7 y)) σ := by
  have hl := ylst_b (c := 7) hC.1.1 hC.1.2
  have kk := (KF_all hC (c := 7) (by omega) (by omega) (show yfst 7 ≤ y from hy1) hy2)
  have k2 : Mi σ 7 y ≤ 10 := kk.2.1
  have k1 := kk.1
  intro t
  induction t with
  | zero =>
    intro x m m1 m2 e
    rw [bX9_yearLength_46, X9_monthsIn_ok k d hC hM (by omega) (by omega) (by omega) (by omega)]
    simp only [jbI_some]
    rw [if_pos (by simp (disch := omega) only [w32_id]; omega)]
    exact ansI_c (by rw [e, show m - 1 = Mi σ 7 y by omega])
  | succ t ih =>
    intro x m m1 m2 e
    push_cast at m2
    rw [bX9_yearLength_46, X9_monthsIn_ok k d hC hM (by omega) (by omega) (by omega) (by omega)]
    simp only [jbI_some]
    rw [if_neg (by simp (disch := omega) only [w32_id]; omega), X9_lengthOf_ok k d hC hM (by omega) (by omega) (show yfst 7 ≤ y from hy1) hy2 m1 (by omega)]
    simp only [jbI_some]
    have st := smI_s (Ml σ 7 y) (a := m - 1) (by omega)
    rw [show m - 1 + 1 = m by omega] at st
    exact ih _ _ (by omega) (by omega) (by rw [show m + 1 - 1 = m by omega, st, e])
theorem Tw_yearLength (k : Nat × (Int → Int)) (d : Nat) {σ : St} (hC : CF σ) (hM : MR σ) {c y : Int} (h1 : I32 c) (h2 : I32 y) : Tw k (d + 10) mX8_yearLength mX9_yearLength [vI c, vI y] σ := by
  unfold I32 at h1 h2
  unfold Tw
  rw [eX8_yearLength, bX8_yearLength_0, eX9_yearLength, bX9_yearLength_0, X8_isCalendar_ok k (d + 8) σ h1.1 h1.2, X9_isCalendar_ok k (d + 7) σ h1.1 h1.2]
  simp only [jbI_some, ib]
  by_cases hc : 0 ≤ c ∧ c ≤ 7
  · rw [if_pos hc, if_pos hc, X0_hasYear_ok k (d + 7) hC hc.1 hc.2 h2.1 h2.2, X9_isYear_ok k (d + 7) hC hM hc.1 hc.2 h2.1 h2.2]
    simp only [jbI_some, ib]
    by_cases hm : yfst c ≤ y ∧ y ≤ ylst (σ 1 2) c
    · have hl := ylst_b (c := c) hC.1.1 hC.1.2
      have hf := yfst_b c
      have hv := YV_of hm.1 (show y ≤ 5000 by omega)
      have kk := KF_all hC hc.1 hc.2 hm.1 hm.2
      rw [if_pos hm, if_pos hm, X0_daysInYear_ok k (d + 6) hC hc.1 hc.2 hv.1 hv.2]
      simp only [jbI_some]
      by_cases c7 : c = 7
      · subst c7
        have k1 := kk.1
        rw [if_pos rfl, X9_yearLength_loop k (d + 4) hC hM 7 hm.1 hm.2 (Mi σ 7 y).toNat 0 1 (by omega) (by omega) (by rw [show (1 : Int) - 1 = 0 by omega, smI_0])]
        exact ⟨_, _, rfl, ansI_c (by have := kk.2.2.2.1; omega), Sc.rfl σ⟩
      · rw [if_neg (by rw [w32_id (by omega) (by omega)]; exact c7), X9_start_ok k (d + 5) σ hc.1 (by omega) hv.2]
        simp only [jbI_some]
        rw [X9_start_ok k (d + 5) σ hc.1 (by omega) hv.1]
        simp only [jbI_some]
        exact ⟨_, _, rfl, rfl, Sc.rfl σ⟩
    · rw [if_neg hm, if_neg hm]
      exact ⟨_, _, rfl, rfl, Sc.rfl σ⟩
  · rw [if_neg hc, if_neg hc]
    exact ⟨_, _, rfl, rfl, Sc.rfl σ⟩
