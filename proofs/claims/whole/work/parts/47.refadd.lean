
theorem ib {p : Prop} [Decidable p] {α : Type} (a b : α) : (if w32 (if p then 1 else 0) = 0 then a else b) = if p then b else a := by
  by_cases q : p
  · rw [if_pos q, if_pos q, if_neg (by decide)]
  · rw [if_neg q, if_neg q, if_pos (by decide)]
def dyo (r : Int) : Int := if 0 ≤ r ∧ r ≤ 1500000 then r else -3
theorem X9_isCalendar_ok (k : Nat × (Int → Int)) (d : Nat) (σ : St) {c : Int} (h1 : -2147483648 ≤ c) (h2 : c ≤ 2147483647) : EV k (d + 2) mX9_isCalendar [vI c] σ = ansI (if 0 ≤ c ∧ c ≤ 7 then 1 else 0) σ := by
  rw [eX9_isCalendar, bX9_isCalendar_0, X9_in_ok k d σ h1 h2 (by omega) (by omega) (by omega) (by omega)]
  simp only [jbI_some]
  rw [if_pos (by split <;> decide)]
theorem X8_isCalendar_ok (k : Nat × (Int → Int)) (d : Nat) (σ : St) {c : Int} (h1 : -2147483648 ≤ c) (h2 : c ≤ 2147483647) : EV k (d + 1) mX8_isCalendar [vI c] σ = ansI (if 0 ≤ c ∧ c ≤ 7 then 1 else 0) σ := by
  rw [eX8_isCalendar, bX8_isCalendar_0]
  simp (disch := omega) only [w32_id]
  repeat' split
  all_goals first | rfl | omega
theorem X8_isDay_ok (k : Nat × (Int → Int)) (d : Nat) (σ : St) {c : Int} (h1 : -2147483648 ≤ c) (h2 : c ≤ 2147483647) : EV k (d + 1) mX8_isDay [vI c] σ = ansI (if 0 ≤ c ∧ c ≤ 1500000 then 1 else 0) σ := by
  rw [eX8_isDay, bX8_isDay_0]
  simp (disch := omega) only [w32_id]
  repeat' split
  all_goals first | rfl | omega
theorem X8_dayOrOutside_ok (k : Nat × (Int → Int)) (d : Nat) (σ : St) {c : Int} (h1 : -2147483648 ≤ c) (h2 : c ≤ 2147483647) : EV k (d + 2) mX8_dayOrOutside [vI c] σ = ansI (dyo c) σ := by
  rw [eX8_dayOrOutside, bX8_dayOrOutside_0, X8_isDay_ok k d σ h1 h2]
  simp only [jbI_some]
  unfold dyo
  by_cases q : 0 ≤ c ∧ c ≤ 1500000
  · rw [if_pos q, if_pos q, if_neg (by decide)]
  · rw [if_neg q, if_neg q, if_pos (by decide)]
theorem X9_cut_ok (k : Nat × (Int → Int)) (d : Nat) {σ : St} (hC : CF σ) (hM : MR σ) {c y m dd : Int} (h1 : 0 ≤ c) (h2 : c ≤ 7) (hy1 : yfst c ≤ y) (hy2 : y ≤ ylst (σ 1 2) c) (m1 : 1 ≤ m) (m2 : m ≤ 100000000) (d1 : 1 ≤ dd) (d2 : dd ≤ 100000) : EV k (d + 7) mX9_cut [vR 33, vI c, vI y, vI m, vI dd] σ = ansI (dyo (Cut σ c y (if m ≤ Mi σ c y then m else Mi σ c y) dd)) σ := by
  have hn := hC.1
  have hl := ylst_b (c := c) hC.1.1 hC.1.2
  have hf := yfst_b c
  have hc : c = 7 → 0 < σ 1 2 := by
    intro e
    subst e
    have : y ≤ (σ 1 2 + 9) / 10 := hy2
    have : (1 : Int) ≤ y := hy1
    omega
  have kk := KF_all hC h1 h2 hy1 hy2
  have k1 := kk.1
  have hmm : mmx c ≤ 53 := by unfold mmx; repeat' split; all_goals omega
  have k2 := kk.2.1
  rw [eX9_cut, bX9_cut_0, X9_isYear_ok k (d + 4) hC hM h1 h2 (by omega) (by omega)]
  simp only [jbI_some]
  rw [ib, if_pos ⟨hy1, hy2⟩, X9_monthsIn_ok k (d + 1) hC hM h1 h2 (by omega) (by omega)]
  simp only [jbI_some]
  have main : ∀ q : Int, 1 ≤ q → q ≤ Mi σ c y → out (WV k) (EV k (d + 6)) MX9_cut 32 [vR 33, vI c, vI y, vI m, vI dd, vU, vU, vU] [vI q] σ = ansI (dyo (Cut σ c y q dd)) σ := by
    intro q q1 q2
    have bb := Ms_b hC h1 h2 hc hy1 hy2 q1 q2
    have fin : ∀ e : Int, 1 ≤ e → e ≤ Ml σ c y q → out (WV k) (EV k (d + 6)) MX9_cut 60 [vR 33, vI c, vI y, vI m, vI dd, vI q, vU, vU] [vI e] σ = ansI (dyo (Ms σ c y q + e - 1)) σ := by
      intro e e1 e2
      rw [bX9_cut_60, X9_monthStart_ok k d hC hM h1 h2 hy1 hy2 q1 q2]
      simp only [jbI_some]
      rw [w32_id (a := Ms σ c y q + e - 1) (by omega) (by omega), X9_isDay_ok k (d + 5) σ (by omega) (by omega)]
      simp only [jbI_some]
      unfold dyo
      by_cases g : 0 ≤ Ms σ c y q + e - 1 ∧ Ms σ c y q + e - 1 ≤ 1500000
      · rw [if_pos g, if_pos g, if_neg (by decide)]
      · rw [if_neg g, if_neg g, if_pos (by decide)]
    have ll := X9_lengthOf_ok k (d + 1) hC hM h1 h2 hy1 hy2 q1 q2
    rw [bX9_cut_32, ll]
    simp only [jbI_some]
    by_cases g : dd ≤ Ml σ c y q
    · rw [if_neg (by simp (disch := omega) only [w32_id]; omega), fin dd d1 g]
      exact ansI_c (by unfold Cut; rw [if_pos g])
    · rw [if_pos (by simp (disch := omega) only [w32_id]; omega), ll]
      simp only [jbI_some]
      rw [fin _ (by omega) (by omega)]
      exact ansI_c (by unfold Cut; rw [if_neg g])
  by_cases g : m ≤ Mi σ c y
  · rw [if_neg (by simp (disch := omega) only [w32_id]; omega), main m m1 g, if_pos g]
  · rw [if_pos (by simp (disch := omega) only [w32_id]; omega), X9_monthsIn_ok k (d + 1) hC hM h1 h2 (by omega) (by omega)]
    simp only [jbI_some]
    rw [main _ k1 (by omega), if_neg g]
theorem X9_cut_no (k : Nat × (Int → Int)) (d : Nat) {σ : St} (hC : CF σ) (hM : MR σ) {c y m dd : Int} (h1 : 0 ≤ c) (h2 : c ≤ 7) (y1 : -2147483648 ≤ y) (y2 : y ≤ 2147483647) (hy : y < yfst c ∨ ylst (σ 1 2) c < y) : EV k (d + 3) mX9_cut [vR 33, vI c, vI y, vI m, vI dd] σ = ansI (-3) σ := by
  rw [eX9_cut, bX9_cut_0, X9_isYear_ok k d hC hM h1 h2 y1 y2]
  simp only [jbI_some]
  rw [ib, if_neg (by omega)]
theorem mah_b {σ : St} (hC : CF σ) {c y : Int} (h1 : 0 ≤ c) (h2 : c ≤ 7) (hy1 : yfst c ≤ y) (hy2 : y ≤ ylst (σ 1 2) c + 1) : 0 ≤ mah (σ 1 2) c y ∧ mah (σ 1 2) c y ≤ 1000000 := by
  have hn := hC.1
  have hl := ylst_b (c := c) hC.1.1 hC.1.2
  have z := mah_0 (σ 1 2) c h1 h2 hn.1
  have := mah_mono hC h1 h2 (a := yfst c) (b := y) (by omega) hy1 hy2
  have hf := yfst_b c
  refine ⟨by omega, ?_⟩
  unfold mah
  have := wks_b (y := y) (by omega) (by omega)
  repeat' split
  all_goals omega
theorem X9_monthsOn_down (k : Nat × (Int → Int)) (d : Nat) {σ : St} (hC : CF σ) (hM : MR σ) {c x y2 m2 : Int} (h1 : 0 ≤ c) (h2 : c ≤ 7) (a1 : yfst c ≤ y2) (a2 : y2 ≤ ylst (σ 1 2) c) (b1 : 1 ≤ m2) (b2 : m2 ≤ Mi σ c y2) (d1 : 1 ≤ σ 33 5) (d2 : σ 33 5 ≤ 100000) : ∀ (t : Nat) (y m r : Int), y2 + t = y → y ≤ ylst (σ 1 2) c → 1 ≤ m → m ≤ Mi σ c y → r ≤ 0 → mah (σ 1 2) c y + m - 1 + r = mah (σ 1 2) c y2 + m2 - 1 → out (WV k) (EV k (d + 7)) MX9_monthsOn 67 [vR 33, vI c, vI x, vI y, vI m, vI r] [] σ = ansI (dyo (Cut σ c y2 m2 (σ 33 5))) σ := by
  have hl := ylst_b (c := c) hC.1.1 hC.1.2
  have hf := yfst_b c
  have hmm : mmx c ≤ 53 := by unfold mmx; repeat' split; all_goals omega
  intro t
  induction t with
  | zero =>
    intro y m r e1 e2 e3 e4 e5 e6
    have : y = y2 := by omega
    subst this
    have kk := (KF_all hC h1 h2 a1 a2).2.1
    have ec : m + r = m2 := by omega
    rw [bX9_monthsOn_67, ec, X9_cut_ok k d hC hM h1 h2 a1 a2 b1 (by omega) d1 d2, if_pos b2]
    simp only [jbI_some]
    rw [show w32 m2 = m2 from w32_id (by omega) (by omega), show w32 1 = 1 from w32_1, if_neg (show ¬ m2 < 1 by omega)]
    split <;> rfl
  | succ t ih =>
    intro y m r e1 e2 e3 e4 e5 e6
    push_cast at e1
    have kk := (KF_all hC h1 h2 (y := y) (by omega) e2).2.1
    have kp := KF_all hC h1 h2 (y := y - 1) (by omega) (by omega)
    have k5 := kp.2.2.2.2
    rw [show y - 1 + 1 = y by omega] at k5
    have mm := mah_mono hC h1 h2 (a := y2 + 1) (b := y) (by omega) (by omega) (by omega)
    have k52 := (KF_all hC h1 h2 a1 a2).2.2.2.2
    have q1 := mah_b hC h1 h2 (y := y) (by omega) (by omega)
    have q2 := mah_b hC h1 h2 (y := y2) (by omega) (by omega)
    have k1 := kp.1
    rw [bX9_monthsOn_67, show y + (-1) = y - 1 by omega, X9_isYear_ok k (d + 5) hC hM h1 h2 (by omega) (by omega)]
    simp only [jbI_some]
    rw [if_pos (by simp (disch := omega) only [w32_id]; omega), if_pos (by simp (disch := omega) only [w32_id]; omega), if_pos (show yfst c ≤ y - 1 ∧ y - 1 ≤ ylst (σ 1 2) c by omega), if_neg (by decide), X9_monthsIn_ok k (d + 2) hC hM h1 h2 (by omega) (by omega)]
    simp only [jbI_some]
    exact ih _ _ _ (by omega) (by omega) k1 (by omega) (by omega) (by omega)
theorem X9_monthsOn_dno (k : Nat × (Int → Int)) (d : Nat) {σ : St} (hC : CF σ) (hM : MR σ) {c x : Int} (h1 : 0 ≤ c) (h2 : c ≤ 7) : ∀ (t : Nat) (y m r : Int), yfst c + t = y → y ≤ ylst (σ 1 2) c → 1 ≤ m → m ≤ Mi σ c y → -100000000 ≤ r → mah (σ 1 2) c y + m - 1 + r < 0 → out (WV k) (EV k (d + 7)) MX9_monthsOn 67 [vR 33, vI c, vI x, vI y, vI m, vI r] [] σ = ansI (-3) σ := by
  have hl := ylst_b (c := c) hC.1.1 hC.1.2
  have hf := yfst_b c
  have hmm : mmx c ≤ 53 := by unfold mmx; repeat' split; all_goals omega
  intro t
  induction t with
  | zero =>
    intro y m r e1 e2 e3 e4 e5 e6
    have : y = yfst c := by omega
    subst this
    have kk := (KF_all hC h1 h2 (y := yfst c) (by omega) e2).2.1
    have z := mah_0 (σ 1 2) c h1 h2 hC.1.1
    rw [bX9_monthsOn_67, X9_isYear_ok k (d + 5) hC hM h1 h2 (by omega) (by omega)]
    simp only [jbI_some]
    rw [if_pos (by simp (disch := omega) only [w32_id]; omega), if_pos (by simp (disch := omega) only [w32_id]; omega), ib, if_neg (by omega)]
  | succ t ih =>
    intro y m r e1 e2 e3 e4 e5 e6
    push_cast at e1
    have kk := (KF_all hC h1 h2 (y := y) (by omega) e2).2.1
    have kp := KF_all hC h1 h2 (y := y - 1) (by omega) (by omega)
    have k5 := kp.2.2.2.2
    rw [show y - 1 + 1 = y by omega] at k5
    have k1 := kp.1
    have q1 := mah_b hC h1 h2 (y := y) (by omega) (by omega)
    rw [bX9_monthsOn_67, show y + (-1) = y - 1 by omega, X9_isYear_ok k (d + 5) hC hM h1 h2 (by omega) (by omega)]
    simp only [jbI_some]
    rw [if_pos (by simp (disch := omega) only [w32_id]; omega), if_pos (by simp (disch := omega) only [w32_id]; omega), if_pos (show yfst c ≤ y - 1 ∧ y - 1 ≤ ylst (σ 1 2) c by omega), if_neg (by decide), X9_monthsIn_ok k (d + 2) hC hM h1 h2 (by omega) (by omega)]
    simp only [jbI_some]
    exact ih _ _ _ (by omega) (by omega) k1 (by omega) (by omega) (by omega)
theorem X9_monthsOn_up (k : Nat × (Int → Int)) (d : Nat) {σ : St} (hC : CF σ) (hM : MR σ) {c x y2 m2 : Int} (h1 : 0 ≤ c) (h2 : c ≤ 7) (a1 : yfst c ≤ y2) (a2 : y2 ≤ ylst (σ 1 2) c) (b1 : 1 ≤ m2) (b2 : m2 ≤ Mi σ c y2) (d1 : 1 ≤ σ 33 5) (d2 : σ 33 5 ≤ 100000) : ∀ (t : Nat) (y m r : Int), y + t = y2 → yfst c ≤ y → 1 ≤ m → m ≤ Mi σ c y → 0 ≤ r → mah (σ 1 2) c y + m - 1 + r = mah (σ 1 2) c y2 + m2 - 1 → out (WV k) (EV k (d + 7)) MX9_monthsOn 14 [vR 33, vI c, vI x, vI y, vI m, vI r] [] σ = ansI (dyo (Cut σ c y2 m2 (σ 33 5))) σ := by
  have hl := ylst_b (c := c) hC.1.1 hC.1.2
  have hf := yfst_b c
  have hmm : mmx c ≤ 53 := by unfold mmx; repeat' split; all_goals omega
  intro t
  induction t with
  | zero =>
    intro y m r e1 e2 e3 e4 e5 e6
    have : y = y2 := by omega
    subst this
    have kk := (KF_all hC h1 h2 a1 a2).2.1
    have ec : m + r = m2 := by omega
    have fin : out (WV k) (EV k (d + 7)) MX9_monthsOn 67 [vR 33, vI c, vI x, vI y, vI m, vI r] [] σ = ansI (dyo (Cut σ c y m2 (σ 33 5))) σ := by
      rw [bX9_monthsOn_67, ec, X9_cut_ok k d hC hM h1 h2 a1 a2 b1 (by omega) d1 d2, if_pos b2]
      simp only [jbI_some]
      rw [if_neg (by simp (disch := omega) only [w32_id]; omega)]
    rw [bX9_monthsOn_14, ec, X9_monthsIn_ok k (d + 2) hC hM h1 h2 (by omega) (by omega)]
    simp only [jbI_some]
    rw [if_neg (show ¬ w32 (Mi σ c y) < w32 m2 by simp (disch := omega) only [w32_id]; omega), fin]
    split <;> rfl
  | succ t ih =>
    intro y m r e1 e2 e3 e4 e5 e6
    push_cast at e1
    have kp := KF_all hC h1 h2 (y := y) (by omega) (by omega)
    have kk := kp.2.1
    have k5 := kp.2.2.2.2
    have kn := (KF_all hC h1 h2 (y := y + 1) (by omega) (by omega)).1
    have mm := mah_mono hC h1 h2 (a := y + 1) (b := y2) (by omega) (by omega) (by omega)
    have q1 := mah_b hC h1 h2 (y := y) (by omega) (by omega)
    have q2 := mah_b hC h1 h2 (y := y2) (by omega) (by omega)
    have k3 := (KF_all hC h1 h2 a1 a2).2.1
    rw [bX9_monthsOn_14, X9_monthsIn_ok k (d + 2) hC hM h1 h2 (by omega) (by omega)]
    simp only [jbI_some]
    rw [if_pos (by simp (disch := omega) only [w32_id]; omega), if_pos (by simp (disch := omega) only [w32_id]; omega), X9_monthsIn_ok k (d + 2) hC hM h1 h2 (by omega) (by omega)]
    simp only [jbI_some]
    rw [X9_isYear_ok k (d + 5) hC hM h1 h2 (by omega) (by omega)]
    simp only [jbI_some]
    rw [if_pos (show yfst c ≤ y + 1 ∧ y + 1 ≤ ylst (σ 1 2) c by omega), if_neg (by decide)]
    exact ih _ _ _ (by omega) (by omega) (by omega) kn (by omega) (by omega)
theorem X9_monthsOn_uno (k : Nat × (Int → Int)) (d : Nat) {σ : St} (hC : CF σ) (hM : MR σ) {c x : Int} (h1 : 0 ≤ c) (h2 : c ≤ 7) : ∀ (t : Nat) (y m r : Int), y + t = ylst (σ 1 2) c → yfst c ≤ y → 1 ≤ m → m ≤ Mi σ c y → r ≤ 100000000 → mah (σ 1 2) c (ylst (σ 1 2) c + 1) ≤ mah (σ 1 2) c y + m - 1 + r → out (WV k) (EV k (d + 7)) MX9_monthsOn 14 [vR 33, vI c, vI x, vI y, vI m, vI r] [] σ = ansI (-3) σ := by
  have hl := ylst_b (c := c) hC.1.1 hC.1.2
  have hf := yfst_b c
  have hmm : mmx c ≤ 53 := by unfold mmx; repeat' split; all_goals omega
  intro t
  induction t with
  | zero =>
    intro y m r e1 e2 e3 e4 e5 e6
    have ey : y = ylst (σ 1 2) c := by omega
    have kp := KF_all hC h1 h2 (y := y) (by omega) (by omega)
    have kk := kp.2.1
    have k5 := kp.2.2.2.2
    rw [← ey] at e6
    rw [bX9_monthsOn_14, X9_monthsIn_ok k (d + 2) hC hM h1 h2 (by omega) (by omega)]
    simp only [jbI_some]
    rw [if_pos (by simp (disch := omega) only [w32_id]; omega), if_pos (by simp (disch := omega) only [w32_id]; omega), X9_monthsIn_ok k (d + 2) hC hM h1 h2 (by omega) (by omega)]
    simp only [jbI_some]
    rw [X9_isYear_ok k (d + 5) hC hM h1 h2 (by omega) (by omega)]
    simp only [jbI_some]
    rw [if_neg (show ¬ (yfst c ≤ y + 1 ∧ y + 1 ≤ ylst (σ 1 2) c) by omega), if_pos (by decide)]
  | succ t ih =>
    intro y m r e1 e2 e3 e4 e5 e6
    push_cast at e1
    have kp := KF_all hC h1 h2 (y := y) (by omega) (by omega)
    have kk := kp.2.1
    have k5 := kp.2.2.2.2
    have kn := (KF_all hC h1 h2 (y := y + 1) (by omega) (by omega)).1
    have mm := mah_mono hC h1 h2 (a := y + 1) (b := ylst (σ 1 2) c + 1) (by omega) (by omega) (by omega)
    rw [bX9_monthsOn_14, X9_monthsIn_ok k (d + 2) hC hM h1 h2 (by omega) (by omega)]
    simp only [jbI_some]
    rw [if_pos (by simp (disch := omega) only [w32_id]; omega), if_pos (by simp (disch := omega) only [w32_id]; omega), X9_monthsIn_ok k (d + 2) hC hM h1 h2 (by omega) (by omega)]
    simp only [jbI_some]
    rw [X9_isYear_ok k (d + 5) hC hM h1 h2 (by omega) (by omega)]
    simp only [jbI_some]
    rw [if_pos (show yfst c ≤ y + 1 ∧ y + 1 ≤ ylst (σ 1 2) c by omega), if_neg (by decide)]
    exact ih _ _ _ (by omega) (by omega) (by omega) kn (by omega) (by omega)
theorem exMi {σ : St} (hC : CF σ) {c i : Int} (h1 : 0 ≤ c) (h2 : c ≤ 7) (i0 : 0 ≤ i) (i1 : i < mah (σ 1 2) c (ylst (σ 1 2) c + 1)) (hl : yfst c ≤ ylst (σ 1 2) c) : ∃ y m, yfst c ≤ y ∧ y ≤ ylst (σ 1 2) c ∧ 1 ≤ m ∧ m ≤ Mi σ c y ∧ i = mah (σ 1 2) c y + m - 1 := by
  have z := mah_0 (σ 1 2) c h1 h2 hC.1.1
  have main : ∀ t : Nat, yfst c + t ≤ ylst (σ 1 2) c → i < mah (σ 1 2) c (yfst c + t + 1) → ∃ y, yfst c ≤ y ∧ y ≤ ylst (σ 1 2) c ∧ mah (σ 1 2) c y ≤ i ∧ i < mah (σ 1 2) c (y + 1) := by
    intro t
    induction t with
    | zero =>
      intro a b
      exact ⟨yfst c, by omega, by omega, by omega, by simpa using b⟩
    | succ t ih =>
      intro a b
      push_cast at a b
      by_cases q : i < mah (σ 1 2) c (yfst c + t + 1)
      · exact ih (by omega) q
      · exact ⟨yfst c + t + 1, by omega, by omega, by omega, by rw [show yfst c + t + 1 + 1 = yfst c + (t + 1) + 1 by omega]; exact b⟩
  obtain ⟨y, q1, q2, q3, q4⟩ := main (ylst (σ 1 2) c - yfst c).toNat (by omega) (by rw [show yfst c + ((ylst (σ 1 2) c - yfst c).toNat : Int) + 1 = ylst (σ 1 2) c + 1 by omega]; exact i1)
  have k5 := (KF_all hC h1 h2 q1 q2).2.2.2.2
  exact ⟨y, i - mah (σ 1 2) c y + 1, q1, q2, by omega, by omega, by omega⟩
theorem X9_monthsOn_ok (k : Nat × (Int → Int)) (d : Nat) {σ : St} (hC : CF σ) (hM : MR σ) {c x y2 m2 : Int} (h1 : 0 ≤ c) (h2 : c ≤ 7) (x1 : -1000000 ≤ x) (x2 : x ≤ 1000000) (a1 : yfst c ≤ y2) (a2 : y2 ≤ ylst (σ 1 2) c) (b1 : 1 ≤ m2) (b2 : m2 ≤ Mi σ c y2) (d1 : 1 ≤ σ 33 5) (d2 : σ 33 5 ≤ 100000) (c1 : yfst c ≤ σ 33 3) (c2 : σ 33 3 ≤ ylst (σ 1 2) c) (e1 : 1 ≤ σ 33 4) (e2 : σ 33 4 ≤ Mi σ c (σ 33 3)) (he : mah (σ 1 2) c (σ 33 3) + σ 33 4 - 1 + x = mah (σ 1 2) c y2 + m2 - 1) : EV k (d + 8) mX9_monthsOn [vR 33, vI c, vI x] σ = ansI (dyo (Cut σ c y2 m2 (σ 33 5))) σ := by
  have k0 := (KF_all hC h1 h2 c1 c2).2.2.2.2
  have k2 := (KF_all hC h1 h2 a1 a2).2.2.2.2
  rw [eX9_monthsOn, bX9_monthsOn_0]
  by_cases q : 0 ≤ x
  · have : σ 33 3 ≤ y2 := by
      apply Decidable.byContradiction
      intro g
      have := mah_mono hC h1 h2 (a := y2 + 1) (b := σ 33 3) (by omega) (by omega) (by omega)
      omega
    exact X9_monthsOn_up k d hC hM h1 h2 a1 a2 b1 b2 d1 d2 (y2 - σ 33 3).toNat _ _ _ (by omega) c1 e1 e2 q he
  · have : y2 ≤ σ 33 3 := by
      apply Decidable.byContradiction
      intro g
      have := mah_mono hC h1 h2 (a := σ 33 3 + 1) (b := y2) (by omega) (by omega) (by omega)
      omega
    rw [bX9_monthsOn_14, if_neg (by simp (disch := omega) only [w32_id]; omega)]
    exact X9_monthsOn_down k d hC hM h1 h2 a1 a2 b1 b2 d1 d2 (σ 33 3 - y2).toNat _ _ _ (by omega) c2 e1 e2 (by omega) he
theorem X9_monthsOn_no (k : Nat × (Int → Int)) (d : Nat) {σ : St} (hC : CF σ) (hM : MR σ) {c x : Int} (h1 : 0 ≤ c) (h2 : c ≤ 7) (x1 : -1000000 ≤ x) (x2 : x ≤ 1000000) (c1 : yfst c ≤ σ 33 3) (c2 : σ 33 3 ≤ ylst (σ 1 2) c) (e1 : 1 ≤ σ 33 4) (e2 : σ 33 4 ≤ Mi σ c (σ 33 3)) (he : mah (σ 1 2) c (σ 33 3) + σ 33 4 - 1 + x < 0 ∨ mah (σ 1 2) c (ylst (σ 1 2) c + 1) ≤ mah (σ 1 2) c (σ 33 3) + σ 33 4 - 1 + x) : EV k (d + 8) mX9_monthsOn [vR 33, vI c, vI x] σ = ansI (-3) σ := by
  have k0 := (KF_all hC h1 h2 c1 c2).2.2.2.2
  have mb := mah_b hC h1 h2 (y := σ 33 3) (by omega) (by omega)
  have mm := mah_mono hC h1 h2 (a := σ 33 3 + 1) (b := ylst (σ 1 2) c + 1) (by omega) (by omega) (by omega)
  rw [eX9_monthsOn, bX9_monthsOn_0]
  by_cases q : mah (σ 1 2) c (σ 33 3) + σ 33 4 - 1 + x < 0
  · rw [bX9_monthsOn_14, if_neg (by simp (disch := omega) only [w32_id]; omega)]
    exact X9_monthsOn_dno k d hC hM h1 h2 (σ 33 3 - yfst c).toNat _ _ _ (by omega) c2 e1 e2 (by omega) q
  · exact X9_monthsOn_uno k d hC hM h1 h2 (ylst (σ 1 2) c - σ 33 3).toNat _ _ _ (by omega) c1 e1 e2 (by omega) (by omega)
