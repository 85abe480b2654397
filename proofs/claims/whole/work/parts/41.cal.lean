theorem X0_firstYear_ok (k : Nat × (Int → Int)) (d : Nat) (σ : St) {c : Int} (h1 : 0 ≤ c) (h2 : c ≤ 7) : EV k (d + 1) mX0_firstYear [vI c] σ = ansI (yfst c) σ := by
  rw [eX0_firstYear, bX0_firstYear_0]
  simp (disch := omega) only [w32_id]
  unfold yfst
  repeat' split
  all_goals first | rfl | omega
theorem X0_lastYear_ok (k : Nat × (Int → Int)) (d : Nat) {σ : St} (hC : CF σ) {c : Int} (h1 : 0 ≤ c) (h2 : c ≤ 7) : EV k (d + 1) mX0_lastYear [vR 1, vI c] σ = ansI (ylst (σ 1 2) c) σ := by
  have := hC.1
  rw [eX0_lastYear, bX0_lastYear_0]
  simp (disch := omega) only [w32_id, jq_pos]
  unfold ylst
  split
  · exact ansI_c (by omega)
  · rfl
theorem X0_startOfRow_ok (k : Nat × (Int → Int)) (d : Nat) {σ : St} (hC : CF σ) {j : Int} (h1 : -100000 ≤ j) (h2 : j ≤ 100000) : EV k (d + 1) mX0_startOfRow [vR 1, vI j] σ = ansI (σ 9 (clR (σ 1 2) j)) σ := by
  have := hC.1
  rw [eX0_startOfRow, bX0_startOfRow_0]
  simp (disch := omega) only [w32_id]
  unfold clR
  repeat' split
  all_goals first | rfl | omega
theorem X0_hasYear_ok (k : Nat × (Int → Int)) (d : Nat) {σ : St} (hC : CF σ) {c y : Int} (h1 : 0 ≤ c) (h2 : c ≤ 7) (h3 : -2147483648 ≤ y) (h4 : y ≤ 2147483647) : EV k (d + 2) mX0_hasYear [vR 1, vI c, vI y] σ = ansI (if yfst c ≤ y ∧ y ≤ ylst (σ 1 2) c then 1 else 0) σ := by
  have := hC.1
  have hf : 0 ≤ yfst c ∧ yfst c ≤ 1 := by unfold yfst; split <;> omega
  have hl : 0 ≤ ylst (σ 1 2) c ∧ ylst (σ 1 2) c ≤ 5000 := by unfold ylst; split <;> omega
  rw [eX0_hasYear, bX0_hasYear_0, X0_firstYear_ok k d σ h1 h2]
  simp only [jbI_some]
  rw [X0_lastYear_ok k d hC h1 h2]
  simp (disch := omega) only [jbI_some, w32_id]
  repeat' split
  all_goals first | rfl | omega
theorem X0_elapsedDays_ok (k : Nat × (Int → Int)) (d : Nat) (σ : St) {y : Int} (h1 : 1 ≤ y) (h2 : y ≤ 5003) : EV k (d + 1) mX0_elapsedDays [vI y] σ = ansI (elap y) σ := by
  have hm := elM_b h1 h2
  have hd := elD_b h1 h2
  rw [eX0_elapsedDays, bX0_elapsedDays_0]
  have e1 : jq (235 * y - 234) 19 = elM y := by rw [jq_pos (by omega) (by omega) (by omega) (by omega)]; rfl
  rw [e1]
  have e2 : 29 * elM y + jq (12084 + 13753 * elM y) 25920 = elD y := by rw [jq_pos (by omega) (by omega) (by omega) (by omega)]; rfl
  rw [e2]
  simp (disch := omega) only [w32_id, jr_pos]
  unfold elap
  split <;> rfl
theorem X0_countedYearStart_ok (k : Nat × (Int → Int)) (d : Nat) (σ : St) {y : Int} (h1 : 1 ≤ y) (h2 : y ≤ 5002) : EV k (d + 2) mX0_countedYearStart [vI y] σ = ansI (cys y) σ := by
  have a1 := elap_b h1 (show y ≤ 5003 by omega)
  have a2 := elap_b (show 1 ≤ y + 1 by omega) (show y + 1 ≤ 5003 by omega)
  rw [eX0_countedYearStart, bX0_countedYearStart_0, X0_elapsedDays_ok k d σ h1 (by omega)]
  simp only [jbI_some]
  rw [X0_elapsedDays_ok k d σ (y := y + 1) (by omega) (by omega)]
  simp (disch := omega) only [jbI_some, w32_id]
  unfold cys
  by_cases c1 : elap (y + 1) - elap y = 356
  · rw [if_pos c1, if_pos c1]
  · rw [if_neg c1, if_neg c1]
    by_cases c2 : 1 < y
    · have a3 := elap_b (show 1 ≤ y - 1 by omega) (show y - 1 ≤ 5003 by omega)
      rw [if_pos c2, X0_elapsedDays_ok k d σ (y := y - 1) (by omega) (by omega)]
      simp (disch := omega) only [jbI_some, w32_id]
      by_cases c3 : elap y - elap (y - 1) = 382
      · rw [if_pos c3, if_pos ⟨c2, c3⟩]
      · rw [if_neg c3, if_neg (fun h => c3 h.2)]
    · rw [if_neg c2, if_neg (fun h => c2 h.1)]
/-- a year of which the beginning can be told -/
def YV (c y : Int) : Prop := yfst c ≤ y ∧ y ≤ 5002 ∧ (c = 4 → y ≤ 5001)
theorem yfst_b (c : Int) : 0 ≤ yfst c ∧ yfst c ≤ 1 ∧ (yfst c = 0 → c = 0 ∨ c = 1 ∨ c = 5 ∨ c = 6) := by unfold yfst; split <;> omega
theorem greg_b {y : Int} (h1 : 0 ≤ y) (h2 : y ≤ 5002) : 0 ≤ greg y ∧ greg y ≤ 1900000 := by unfold greg; omega
abbrev Ys (σ : St) (c y : Int) : Int := ysn (σ 1 2) (σ 9) c y
theorem X0_yearStart_ok (k : Nat × (Int → Int)) (d : Nat) {σ : St} (hC : CF σ) {c y : Int} (h1 : 0 ≤ c) (h2 : c ≤ 7) (hy : YV c y) : EV k (d + 2) mX0_yearStart [vR 1, vI c, vI y] σ = ansI (Ys σ c y) σ := by
  obtain ⟨y0, y2, y3⟩ := hy
  have hf := yfst_b c
  have y1 : 0 ≤ y := by omega
  have hg := greg_b y1 y2
  rw [eX0_yearStart, bX0_yearStart_0]
  have e1 : 365 * y + jq (y + 3) 4 - jq (y + 99) 100 + jq (y + 399) 400 = greg y := by
    rw [jq_pos (by omega) (by omega) (by omega) (by omega), jq_pos (by omega) (by omega) (by omega) (by omega), jq_pos (by omega) (by omega) (by omega) (by omega)]; rfl
  rw [e1]
  simp (disch := omega) only [w32_id, jq_pos, jr_pos]
  unfold Ys ysn
  by_cases c0 : c = 0
  · simp only [if_pos c0]
  · simp only [if_neg c0]
    by_cases c1 : c = 1
    · simp only [if_pos c1]; rfl
    · simp only [if_neg c1]
      by_cases c2 : c = 2
      · simp only [if_pos c2]
      · simp only [if_neg c2]
        by_cases c3 : c = 3
        · simp only [if_pos c3]
        · simp only [if_neg c3]
          by_cases c4 : c = 4
          · have := y3 c4
            simp only [if_pos c4]
            rw [if_neg (by omega), if_pos (by omega), if_pos (by omega), hC.2.1 y (by omega) (by omega)]
          · simp only [if_neg c4]
            by_cases c5 : c = 5
            · simp only [if_pos c5]; rfl
            · simp only [if_neg c5]
              by_cases c6 : c = 6
              · simp only [if_pos c6]
              · simp only [if_neg c6]
                rw [X0_startOfRow_ok k d hC (by omega) (by omega)]
                rfl
theorem J9_min_ok (k : Nat × (Int → Int)) (d : Nat) (σ : St) {a b : Int} (h1 : -2147483648 ≤ a) (h2 : a ≤ 2147483647) (h3 : -2147483648 ≤ b) (h4 : b ≤ 2147483647) : EV k (d + 1) mJ9_min_7cf53 [vI a, vI b] σ = ansI (if a ≤ b then a else b) σ := by
  rw [eJ9_min_7cf53, bJ9_min_7cf53_0]
  simp (disch := omega) only [w32_id]
  repeat' split
  all_goals first | rfl | omega
theorem J9_max_ok (k : Nat × (Int → Int)) (d : Nat) (σ : St) {a b : Int} (h1 : -2147483648 ≤ a) (h2 : a ≤ 2147483647) (h3 : -2147483648 ≤ b) (h4 : b ≤ 2147483647) : EV k (d + 1) mJ9_max_7cf53 [vI a, vI b] σ = ansI (if b ≤ a then a else b) σ := by
  rw [eJ9_max_7cf53, bJ9_max_7cf53_0]
  simp (disch := omega) only [w32_id]
  repeat' split
  all_goals first | rfl | omega
theorem wks_b {y : Int} (h1 : 0 ≤ y) (h2 : y ≤ 5002) : -63 ≤ wks y ∧ wks y ≤ 1900000 := by
  have := greg_b h1 h2
  unfold wks; omega
theorem Ys_b {σ : St} (hC : CF σ) {c y : Int} (h1 : 0 ≤ c) (h2 : c ≤ 7) (hy : YV c y) (hn : c = 7 → 0 < σ 1 2) : -63 ≤ Ys σ c y ∧ Ys σ c y ≤ 1900003 := by
  obtain ⟨y0, y2, y3⟩ := hy
  have hf := yfst_b c
  have y1 : 0 ≤ y := by omega
  have hg := greg_b y1 y2
  have hw := wks_b y1 y2
  unfold Ys ysn
  split
  · omega
  · split
    · unfold juln; omega
    · split
      · omega
      · split
        · omega
        · split
          · rename_i c4
            have := cys_b (show 1 ≤ y by omega) y2
            omega
          · split
            · omega
            · split
              · omega
              · have h := clR_b (j := 10 * (y - 1)) hC.1.1
                have := rs_b hC h.1 h.2 (hn (by omega))
                omega
theorem X0_daysInYear_ok (k : Nat × (Int → Int)) (d : Nat) {σ : St} (hC : CF σ) {c y : Int} (h1 : 0 ≤ c) (h2 : c ≤ 7) (hy : YV c y) (hy2 : YV c (y + 1)) : EV k (d + 3) mX0_daysInYear [vR 1, vI c, vI y] σ = ansI (Ys σ c (y + 1) - Ys σ c y) σ := by
  rw [eX0_daysInYear, bX0_daysInYear_0, X0_yearStart_ok k d hC h1 h2 hy2]
  simp only [jbI_some]
  rw [X0_yearStart_ok k d hC h1 h2 hy]
  rfl
theorem Ys5 (σ : St) (y : Int) : Ys σ 5 y = wks y := by simp [Ys, ysn]
theorem X0_monthsIn_ok (k : Nat × (Int → Int)) (d : Nat) {σ : St} (hC : CF σ) {c y : Int} (h1 : 0 ≤ c) (h2 : c ≤ 7) (hy1 : 0 ≤ y) (hy2 : y ≤ 5001) : EV k (d + 3) mX0_monthsIn [vR 1, vI c, vI y] σ = ansI (mis (σ 1 2) c y) σ := by
  have hn := hC.1
  rw [eX0_monthsIn, bX0_monthsIn_0]
  simp (disch := omega) only [w32_id, jr_pos]
  unfold mis
  by_cases c2 : c = 2
  · simp only [if_pos c2]
  · simp only [if_neg c2]
    by_cases c4 : c = 4
    · subst c4; simp only [if_pos, if_neg, show ¬ (4 : Int) = 3 by decide, if_false]
      split <;> rfl
    · simp only [if_neg c4]
      by_cases c5 : c = 5
      · subst c5
        have b1 := wks_b hy1 (show y ≤ 5002 by omega)
        have b2 := wks_b (show 0 ≤ y + 1 by omega) (show y + 1 ≤ 5002 by omega)
        have b3 : wks y ≤ wks (y + 1) := by unfold wks greg; omega
        simp only [show ¬ (5 : Int) = 3 by decide, if_false, if_true]
        rw [X0_yearStart_ok k d hC (by decide) (by decide) (show YV 5 (y + 1) from ⟨by have := yfst_b 5; omega, by omega, fun h => by omega⟩)]
        simp only [jbI_some]
        rw [X0_yearStart_ok k d hC (by decide) (by decide) (show YV 5 y from ⟨by rw [show yfst 5 = 0 from rfl]; omega, by omega, fun h => by omega⟩)]
        simp only [jbI_some, Ys5]
        rw [jq_pos (by omega) (by omega) (by omega) (by omega)]
      · simp only [if_neg c5]
        by_cases c6 : c = 6
        · subst c6; simp
        · simp only [if_neg c6]
          by_cases c7 : c = 7
          · subst c7
            simp only [show ¬ (7 : Int) = 3 by decide, if_false, if_true]
            rw [J9_min_ok k (d + 1) σ (by omega) (by omega) (by omega) (by omega)]
            rfl
          · simp only [if_neg c7]
            split <;> rfl
