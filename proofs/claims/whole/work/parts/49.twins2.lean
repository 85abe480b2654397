
theorem i10 {α : Type} (a b : α) : (if w32 1 = 0 then a else b) = b := if_neg (by decide)
theorem i00 {α : Type} (a b : α) : (if w32 0 = 0 then a else b) = a := if_pos (by decide)
theorem X9_find_c7 (k : Nat × (Int → Int)) (d : Nat) {σ : St} (hC : CF σ) (hM : MR σ) {c n : Int} (h1 : 0 ≤ c) (h2 : c ≤ 7) (n1 : 0 ≤ n) (n2 : n ≤ 1500000) (h : ¬ HD σ c n) : EV k (d + 1) mX9_find [vR 33, vI c, vI n] σ = ansI 0 σ := by
  have q := X0_hasDate_no k d hC h1 h2 n1 (by omega) h
  rw [q.2.1]
  exact X9_find_no k d hC hM (by omega) (by omega) q.2.2
theorem X0_weekdayOf_ok (k : Nat × (Int → Int)) (d : Nat) {σ : St} {c n : Int} (h1 : 0 ≤ c) (h2 : c ≤ 7) : EV k (d + 1) mX0_weekdayOf [vR 1, vI c, vI n] σ = ansI (if c = 6 then jr (n + 7) 20 else if c = 7 then jr (n - σ 9 0) 10 else jr n 7) σ := by
  rw [eX0_weekdayOf, bX0_weekdayOf_0, w32_id (a := c) (by omega) (by omega), show w32 0 = 0 by decide]
  rw [if_pos (show (0 : Int) ≤ 0 ∧ (0 : Int) < 501 by decide)]
  repeat' split
  all_goals first | rfl | omega
theorem Tw_fromDay (k : Nat × (Int → Int)) (d : Nat) {σ : St} (hC : CF σ) (hM : MR σ) {c n x : Int} (h1 : I32 c) (h2 : I32 n) (h3 : I32 x) : Tw k (d + 10) mX8_fromDay mX9_fromDay [vI c, vI n, vI x] σ := by
  unfold I32 at h1 h2 h3
  unfold Tw
  rw [eX8_fromDay, bX8_fromDay_0, eX9_fromDay, bX9_fromDay_0, X8_isCalendar_ok k (d + 8) σ h1.1 h1.2, X9_isCalendar_ok k (d + 7) σ h1.1 h1.2]
  simp only [jbI_some, ib]
  by_cases hc : 0 ≤ c ∧ c ≤ 7
  · rw [if_pos hc, if_pos hc, X9_in_ok k (d + 8) σ h3.1 h3.2 (by omega) (by omega) (by omega) (by omega)]
    simp only [jbI_some, ib]
    rw [w32_id (a := x) h3.1 h3.2, show w32 4 = 4 by decide]
    by_cases hx : 0 ≤ x ∧ x ≤ 4
    · rw [if_neg (show ¬ x < 0 by omega), if_neg (show ¬ 4 < x by omega), if_pos hx, w32_id (a := n) h2.1 h2.2, X8_isDay_ok k (d + 8) σ h2.1 h2.2, X9_isDay_ok k (d + 8) σ (by omega) (by omega)]
      simp only [jbI_some, ib]
      by_cases hn : 0 ≤ n ∧ n ≤ 1500000
      · rw [if_pos hn, if_pos hn]
        by_cases hd : HD σ c n
        · obtain ⟨y, m, dd, hD⟩ := hd.ex hC hc.1 hc.2 hn.1 (by omega)
          have hp := hD.pos hC hc.1 hc.2
          rw [X0_hasDate_yes k (d + 7) hC hc.1 hc.2 hn.1 (by omega) hd, X9_find_ok k (d + 3) hC hM hc.1 hc.2 (by omega) (by omega) hD]
          simp only [jbI_some, i10]
          by_cases x0 : x = 0
          · rw [if_pos x0, if_pos x0, X0_yearOf_ok k (d + 6) hC hc.1 hc.2 hp (by omega) (by omega) (hD.isY hC hc.1 hc.2)]
            simp only [jbI_some]
            exact ⟨_, _, rfl, rfl, Sc.fd _ _ _ _⟩
          by_cases x1 : x = 1
          · rw [if_neg x0, if_neg x0, if_pos x1, if_pos x1, X0_monthOf_ok k (d + 5) hC hc.1 hc.2 hp (by omega) (by omega) hD]
            simp only [jbI_some]
            exact ⟨_, _, rfl, rfl, Sc.fd _ _ _ _⟩
          by_cases x2 : x = 2
          · rw [if_neg x0, if_neg x0, if_neg x1, if_neg x1, if_pos x2, if_pos x2, X0_dayOf_ok k (d + 4) hC hc.1 hc.2 hp (by omega) (by omega) hD]
            simp only [jbI_some]
            exact ⟨_, _, rfl, rfl, Sc.fd _ _ _ _⟩
          by_cases x3 : x = 3
          · rw [if_neg x0, if_neg x0, if_neg x1, if_neg x1, if_neg x2, if_neg x2, if_pos x3, if_pos x3, X0_weekdayOf_ok k (d + 8) hc.1 hc.2]
            simp only [jbI_some]
            rw [w32_id (a := c) (by omega) (by omega), show w32 6 = 6 by decide, show w32 7 = 7 by decide, show w32 0 = 0 by decide, if_pos (show (0 : Int) ≤ 0 ∧ (0 : Int) < 500 by decide)]
            refine ⟨_, _, rfl, ?_, Sc.fd _ y m dd⟩
            by_cases c6 : c = 6
            · rw [if_pos c6, if_pos c6]
            · rw [if_neg c6, if_neg c6]
              by_cases c7 : c = 7
              · rw [if_pos c7, if_pos c7, show fd σ y m dd 34 0 = σ 34 0 from rfl, (hM.2 0 (by omega) (hp c7)).1]
              · rw [if_neg c7, if_neg c7]
          · rw [if_neg x0, if_neg x0, if_neg x1, if_neg x1, if_neg x2, if_neg x2, if_neg x3, if_neg x3]
            rw [w32_id (a := c) (by omega) (by omega), show w32 6 = 6 by decide]
            by_cases c6 : c = 6
            · rw [if_pos c6, if_pos c6]
              exact ⟨_, _, rfl, rfl, Sc.fd _ _ _ _⟩
            · rw [if_neg c6, if_neg c6]
              exact ⟨_, _, rfl, rfl, Sc.fd _ _ _ _⟩
        · obtain ⟨q1, q2, q3⟩ := X0_hasDate_no k (d + 7) hC hc.1 hc.2 hn.1 (by omega) hd
          rw [q1, X9_find_c7 k (d + 8) hC hM hc.1 hc.2 hn.1 hn.2 hd]
          simp only [jbI_some, i00]
          exact ⟨_, _, rfl, rfl, Sc.rfl σ⟩
      · rw [if_neg hn, if_neg hn]
        exact ⟨_, _, rfl, rfl, Sc.rfl σ⟩
    · rw [if_neg hx]
      refine ⟨_, _, ?_, rfl, Sc.rfl σ⟩
      by_cases x0 : x < 0
      · rw [if_pos x0]
      · rw [if_neg x0, if_pos (by omega)]
  · rw [if_neg hc, if_neg hc]
    exact ⟨_, _, rfl, rfl, Sc.rfl σ⟩
theorem Cut_b {σ : St} (hC : CF σ) {c y m dd : Int} (h1 : 0 ≤ c) (h2 : c ≤ 7) (a1 : yfst c ≤ y) (a2 : y ≤ ylst (σ 1 2) c) (m1 : 1 ≤ m) (m2 : m ≤ Mi σ c y) (d1 : 1 ≤ dd) : Ms σ c y m ≤ Cut σ c y m dd ∧ Cut σ c y m dd < Ms σ c y m + Ml σ c y m ∧ -63 ≤ Cut σ c y m dd ∧ Cut σ c y m dd ≤ 1900003 ∧ IsD σ c (Cut σ c y m dd) y m (if dd ≤ Ml σ c y m then dd else Ml σ c y m) := by
  have hn : c = 7 → 0 < σ 1 2 := by
    intro e
    subst e
    have b1 : y ≤ (σ 1 2 + 9) / 10 := a2
    have b2 : (1 : Int) ≤ y := a1
    omega
  have bb := Ms_b hC h1 h2 hn a1 a2 m1 m2
  have hq : 1 ≤ (if dd ≤ Ml σ c y m then dd else Ml σ c y m) ∧ (if dd ≤ Ml σ c y m then dd else Ml σ c y m) ≤ Ml σ c y m := by split <;> omega
  have e : Cut σ c y m dd = Ms σ c y m + (if dd ≤ Ml σ c y m then dd else Ml σ c y m) - 1 := rfl
  exact ⟨by omega, by omega, by omega, by omega, a1, a2, m1, m2, hq.1, hq.2, e⟩
theorem Cut_same {σ τ : St} (a : τ 1 2 = σ 1 2) (b : τ 9 = σ 9) (c y m dd : Int) : Cut τ c y m dd = Cut σ c y m dd := by
  have e : Ml τ c y = Ml σ c y := by funext j; simp only [Ml, Mls, Ys, a, b]
  have e2 : Ys τ c y = Ys σ c y := by simp only [Ys, a, b]
  unfold Cut Ms
  rw [e, e2]
theorem fd_C {σ : St} (h : CF σ) (y m dd : Int) : CF (fd σ y m dd) := CF_st2 (CF_st2 (CF_st2 h (by decide) (by decide) (by decide)) (by decide) (by decide) (by decide)) (by decide) (by decide) (by decide)
theorem fd_M {σ : St} (h : MR σ) (y m dd : Int) : MR (fd σ y m dd) := MR_st2 (MR_st2 (MR_st2 h (by decide)) (by decide)) (by decide)
theorem fd_ne (σ : St) (y m dd : Int) {q : Nat} (h : q ≠ 33) : fd σ y m dd q = σ q := by
  unfold fd
  rw [st2_ne h, st2_ne h, st2_ne h]
theorem fd_3 (σ : St) (y m dd : Int) : fd σ y m dd 33 3 = y := rfl
theorem fd_4 (σ : St) (y m dd : Int) : fd σ y m dd 33 4 = m := rfl
theorem fd_5 (σ : St) (y m dd : Int) : fd σ y m dd 33 5 = dd := st2_eq _ _ _ _
theorem X9_monthsOn_fd (k : Nat × (Int → Int)) (d : Nat) {σ : St} (hC : CF σ) (hM : MR σ) {c x y2 m2 y m dd : Int} (h1 : 0 ≤ c) (h2 : c ≤ 7) (x1 : -1000000 ≤ x) (x2 : x ≤ 1000000) (a1 : yfst c ≤ y2) (a2 : y2 ≤ ylst (σ 1 2) c) (b1 : 1 ≤ m2) (b2 : m2 ≤ Mi σ c y2) (d1 : 1 ≤ dd) (d2 : dd ≤ 100000) (c1 : yfst c ≤ y) (c2 : y ≤ ylst (σ 1 2) c) (e1 : 1 ≤ m) (e2 : m ≤ Mi σ c y) (he : mah (σ 1 2) c y + m - 1 + x = mah (σ 1 2) c y2 + m2 - 1) : EV k (d + 8) mX9_monthsOn [vR 33, vI c, vI x] (fd σ y m dd) = ansI (dyo (Cut σ c y2 m2 dd)) (fd σ y m dd) := by
  have e12 : fd σ y m dd 1 2 = σ 1 2 := by rw [fd_ne _ _ _ _ (by decide)]
  have := X9_monthsOn_ok k d (fd_C hC y m dd) (fd_M hM y m dd) (c := c) (x := x) (y2 := y2) (m2 := m2) h1 h2 x1 x2 a1 (by rw [e12]; exact a2) b1 (by rw [show Mi (fd σ y m dd) c y2 = mis (fd σ y m dd 1 2) c y2 from rfl, e12]; exact b2) (by rw [fd_5]; exact d1) (by rw [fd_5]; exact d2) (by rw [fd_3]; exact c1) (by rw [fd_3, e12]; exact c2) (by rw [fd_4]; exact e1) (by rw [fd_3, fd_4, show Mi (fd σ y m dd) c y = mis (fd σ y m dd 1 2) c y from rfl, e12]; exact e2) (by rw [fd_3, fd_4, e12]; exact he)
  rw [this, fd_5, Cut_same e12 (fd_ne _ _ _ _ (by decide))]
theorem X9_monthsOn_fdno (k : Nat × (Int → Int)) (d : Nat) {σ : St} (hC : CF σ) (hM : MR σ) {c x y m dd : Int} (h1 : 0 ≤ c) (h2 : c ≤ 7) (x1 : -1000000 ≤ x) (x2 : x ≤ 1000000) (c1 : yfst c ≤ y) (c2 : y ≤ ylst (σ 1 2) c) (e1 : 1 ≤ m) (e2 : m ≤ Mi σ c y) (he : mah (σ 1 2) c y + m - 1 + x < 0 ∨ mah (σ 1 2) c (ylst (σ 1 2) c + 1) ≤ mah (σ 1 2) c y + m - 1 + x) : EV k (d + 8) mX9_monthsOn [vR 33, vI c, vI x] (fd σ y m dd) = ansI (-3) (fd σ y m dd) := by
  have e12 : fd σ y m dd 1 2 = σ 1 2 := by rw [fd_ne _ _ _ _ (by decide)]
  exact X9_monthsOn_no k d (fd_C hC y m dd) (fd_M hM y m dd) (c := c) (x := x) h1 h2 x1 x2 (by rw [fd_3]; exact c1) (by rw [fd_3, e12]; exact c2) (by rw [fd_4]; exact e1) (by rw [fd_3, fd_4, show Mi (fd σ y m dd) c y = mis (fd σ y m dd 1 2) c y from rfl, e12]; exact e2) (by rw [fd_3, fd_4, e12]; exact he)
theorem X9_cut_fd (k : Nat × (Int → Int)) (d : Nat) {σ : St} (hC : CF σ) (hM : MR σ) {c y m dd u v w : Int} (h1 : 0 ≤ c) (h2 : c ≤ 7) (hy1 : yfst c ≤ y) (hy2 : y ≤ ylst (σ 1 2) c) (m1 : 1 ≤ m) (m2 : m ≤ 100000000) (d1 : 1 ≤ dd) (d2 : dd ≤ 100000) : EV k (d + 7) mX9_cut [vR 33, vI c, vI y, vI m, vI dd] (fd σ u v w) = ansI (dyo (Cut σ c y (if m ≤ Mi σ c y then m else Mi σ c y) dd)) (fd σ u v w) := by
  have e12 : fd σ u v w 1 2 = σ 1 2 := by rw [fd_ne _ _ _ _ (by decide)]
  rw [X9_cut_ok k d (fd_C hC u v w) (fd_M hM u v w) h1 h2 hy1 (by rw [e12]; exact hy2) m1 m2 d1 d2, Cut_same e12 (fd_ne _ _ _ _ (by decide)), show Mi (fd σ u v w) c y = mis (fd σ u v w 1 2) c y from rfl, e12]
theorem X9_cut_fdno (k : Nat × (Int → Int)) (d : Nat) {σ : St} (hC : CF σ) (hM : MR σ) {c y m dd u v w : Int} (h1 : 0 ≤ c) (h2 : c ≤ 7) (y1 : -2147483648 ≤ y) (y2 : y ≤ 2147483647) (hy : y < yfst c ∨ ylst (σ 1 2) c < y) : EV k (d + 3) mX9_cut [vR 33, vI c, vI y, vI m, vI dd] (fd σ u v w) = ansI (-3) (fd σ u v w) := by
  have e12 : fd σ u v w 1 2 = σ 1 2 := by rw [fd_ne _ _ _ _ (by decide)]
  exact X9_cut_no k d (fd_C hC u v w) (fd_M hM u v w) h1 h2 y1 y2 (by rw [e12]; exact hy)
theorem Tw_addMonths (k : Nat × (Int → Int)) (d : Nat) {σ : St} (hC : CF σ) (hM : MR σ) {c n x : Int} (h1 : I32 c) (h2 : I32 n) (h3 : I32 x) : Tw k (d + 10) mX8_addMonths mX9_addMonths [vI c, vI n, vI x] σ := by
  unfold I32 at h1 h2 h3
  unfold Tw
  rw [eX8_addMonths, bX8_addMonths_0, eX9_addMonths, bX9_addMonths_0, eX9_added, bX9_added_0, X8_isCalendar_ok k (d + 8) σ h1.1 h1.2, X9_isCalendar_ok k (d + 6) σ h1.1 h1.2]
  simp only [jbI_some, ib]
  by_cases hc : 0 ≤ c ∧ c ≤ 7
  · rw [if_pos hc, if_pos hc, X9_in_ok k (d + 7) σ h3.1 h3.2 (by omega) (by omega) (by omega) (by omega)]
    simp only [jbI_some, ib]
    rw [w32_id (a := x) h3.1 h3.2, show w32 60000 = 60000 from w32_id (by omega) (by omega), show w32 (-60000) = -60000 from w32_id (by omega) (by omega)]
    by_cases hx : -60000 ≤ x ∧ x ≤ 60000
    · rw [if_neg (show ¬ x < -60000 by omega), if_neg (show ¬ 60000 < x by omega), if_pos hx, w32_id (a := n) h2.1 h2.2, X8_isDay_ok k (d + 8) σ h2.1 h2.2, X9_isDay_ok k (d + 7) σ (by omega) (by omega)]
      simp only [jbI_some, ib]
      by_cases hn : 0 ≤ n ∧ n ≤ 1500000
      · rw [if_pos hn, if_pos hn]
        by_cases hd : HD σ c n
        · obtain ⟨y, m, dd, hD⟩ := hd.ex hC hc.1 hc.2 hn.1 (by omega)
          have hp := hD.pos hC hc.1 hc.2
          have hD2 := hD
          obtain ⟨g1, g2, g3, g4, g5, g6, g7⟩ := hD2
          have hl := ylst_b (c := c) hC.1.1 hC.1.2
          have kk := KF_all hC hc.1 hc.2 g1 g2
          have k2 := kk.2.1
          have kl := (kk.2.2.1 m g3 g4).2
          have hmm : mmx c ≤ 53 := by unfold mmx; repeat' split; all_goals omega
          have mb := mah_b hC hc.1 hc.2 (y := y) (by omega) (by omega)
          have mb2 := mah_b hC hc.1 hc.2 (y := ylst (σ 1 2) c + 1) (by omega) (by omega)
          rw [X0_hasDate_yes k (d + 7) hC hc.1 hc.2 hn.1 (by omega) hd, X9_find_ok k (d + 2) hC hM hc.1 hc.2 (by omega) (by omega) hD]
          rw [jbI_some, jbI_some, i10, i10, i00, X0_monthIndex_ok k (d + 4) hC hc.1 hc.2 hp (by omega) (by omega) hD]
          simp only [jbI_some]
          rw [w32_id (a := mah (σ 1 2) c y + m - 1 + x) (by omega) (by omega)]
          by_cases q1 : mah (σ 1 2) c y + m - 1 + x < 0
          · rw [if_pos q1, X9_monthsOn_fdno k d hC hM hc.1 hc.2 (by omega) (by omega) g1 g2 g3 g4 (Or.inl q1)]
            simp only [jbI_some]
            exact ⟨_, _, rfl, rfl, Sc.fd _ _ _ _⟩
          · rw [if_neg q1, X0_monthsInAll_ok k (d + 5) hC hc.1 hc.2]
            simp only [jbI_some]
            rw [w32_id (a := mah (σ 1 2) c (ylst (σ 1 2) c + 1)) (by omega) (by omega)]
            by_cases q2 : mah (σ 1 2) c y + m - 1 + x < mah (σ 1 2) c (ylst (σ 1 2) c + 1)
            · obtain ⟨y2, m2, p1, p2, p3, p4, p5⟩ := exMi hC hc.1 hc.2 (by omega) q2 (by omega)
              have cb := Cut_b hC hc.1 hc.2 p1 p2 p3 p4 g5
              rw [if_pos q2, X0_dayOf_ok k (d + 4) hC hc.1 hc.2 hp (by omega) (by omega) hD]
              simp only [jbI_some]
              rw [p5, X0_dayInMonth_ok k (d + 4) hC hc.1 hc.2 hp p1 p2 p3 p4 g5 (by omega)]
              simp only [jbI_some]
              rw [X8_dayOrOutside_ok k (d + 7) σ (by omega) (by omega), X9_monthsOn_fd k d hC hM hc.1 hc.2 (by omega) (by omega) p1 p2 p3 p4 g5 (show dd ≤ 100000 by omega) g1 g2 g3 g4 p5]
              simp only [jbI_some]
              exact ⟨_, _, rfl, rfl, Sc.fd _ _ _ _⟩
            · rw [if_neg q2, X9_monthsOn_fdno k d hC hM hc.1 hc.2 (by omega) (by omega) g1 g2 g3 g4 (Or.inr (show mah (σ 1 2) c (ylst (σ 1 2) c + 1) ≤ mah (σ 1 2) c y + m - 1 + x by omega))]
              simp only [jbI_some]
              exact ⟨_, _, rfl, rfl, Sc.fd _ _ _ _⟩
        · obtain ⟨q1, q2, q3⟩ := X0_hasDate_no k (d + 7) hC hc.1 hc.2 hn.1 (by omega) hd
          rw [q1, X9_find_c7 k (d + 7) hC hM hc.1 hc.2 hn.1 hn.2 hd]
          simp only [jbI_some, i00]
          exact ⟨_, _, rfl, rfl, Sc.rfl σ⟩
      · rw [if_neg hn, if_neg hn]
        exact ⟨_, _, rfl, rfl, Sc.rfl σ⟩
    · rw [if_neg hx]
      refine ⟨_, _, ?_, rfl, Sc.rfl σ⟩
      by_cases x0 : x < -60000
      · rw [if_pos x0]
      · rw [if_neg x0, if_pos (by omega)]
  · rw [if_neg hc, if_neg hc]
    exact ⟨_, _, rfl, rfl, Sc.rfl σ⟩
theorem Tw_addYears (k : Nat × (Int → Int)) (d : Nat) {σ : St} (hC : CF σ) (hM : MR σ) {c n x : Int} (h1 : I32 c) (h2 : I32 n) (h3 : I32 x) : Tw k (d + 10) mX8_addYears mX9_addYears [vI c, vI n, vI x] σ := by
  unfold I32 at h1 h2 h3
  unfold Tw
  rw [eX8_addYears, bX8_addYears_0, eX9_addYears, bX9_addYears_0, eX9_added, bX9_added_0, X8_isCalendar_ok k (d + 8) σ h1.1 h1.2, X9_isCalendar_ok k (d + 6) σ h1.1 h1.2]
  simp only [jbI_some, ib]
  by_cases hc : 0 ≤ c ∧ c ≤ 7
  · rw [if_pos hc, if_pos hc, X9_in_ok k (d + 7) σ h3.1 h3.2 (by omega) (by omega) (by omega) (by omega)]
    simp only [jbI_some, ib]
    rw [w32_id (a := x) h3.1 h3.2, show w32 5000 = 5000 by decide, show w32 (-5000) = -5000 by decide]
    by_cases hx : -5000 ≤ x ∧ x ≤ 5000
    · rw [if_neg (show ¬ x < -5000 by omega), if_neg (show ¬ 5000 < x by omega), if_pos hx, w32_id (a := n) h2.1 h2.2, X8_isDay_ok k (d + 8) σ h2.1 h2.2, X9_isDay_ok k (d + 7) σ (by omega) (by omega)]
      simp only [jbI_some, ib]
      by_cases hn : 0 ≤ n ∧ n ≤ 1500000
      · rw [if_pos hn, if_pos hn]
        by_cases hd : HD σ c n
        · obtain ⟨y, m, dd, hD⟩ := hd.ex hC hc.1 hc.2 hn.1 (by omega)
          have hp := hD.pos hC hc.1 hc.2
          have hD2 := hD
          obtain ⟨g1, g2, g3, g4, g5, g6, g7⟩ := hD2
          have hl := ylst_b (c := c) hC.1.1 hC.1.2
          have hf := yfst_b c
          have kk := KF_all hC hc.1 hc.2 g1 g2
          have k2 := kk.2.1
          have kl := (kk.2.2.1 m g3 g4).2
          have hmm : mmx c ≤ 53 := by unfold mmx; repeat' split; all_goals omega
          rw [X0_hasDate_yes k (d + 7) hC hc.1 hc.2 hn.1 (by omega) hd, X9_find_ok k (d + 2) hC hM hc.1 hc.2 (by omega) (by omega) hD]
          simp only [jbI_some, i10, i00]
          rw [X0_yearOf_ok k (d + 6) hC hc.1 hc.2 hp (by omega) (by omega) (hD.isY hC hc.1 hc.2)]
          simp only [jbI_some]
          rw [X0_hasYear_ok k (d + 7) hC hc.1 hc.2 (by omega) (by omega)]
          simp only [jbI_some, ib]
          rw [show fd σ y m dd 33 3 = y from rfl, show fd σ y m dd 33 4 = m from rfl, show fd σ y m dd 33 5 = dd from st2_eq _ _ _ _]
          by_cases q : yfst c ≤ y + x ∧ y + x ≤ ylst (σ 1 2) c
          · have kq := KF_all hC hc.1 hc.2 q.1 q.2
            have cb := Cut_b hC hc.1 hc.2 q.1 q.2 (m := if m ≤ Mi σ c (y + x) then m else Mi σ c (y + x)) (dd := dd) (by have := kq.1; split <;> omega) (by split <;> omega) g5
            rw [if_pos q, X0_anniversary_ok k (d + 3) hC hc.1 hc.2 hp (by omega) (by omega) hD q.1 q.2]
            simp only [jbI_some]
            rw [X8_dayOrOutside_ok k (d + 7) σ (by omega) (by omega), X9_cut_fd k (d + 1) hC hM hc.1 hc.2 q.1 q.2 g3 (by omega) g5 (by omega)]
            simp only [jbI_some]
            exact ⟨_, _, rfl, rfl, Sc.fd _ _ _ _⟩
          · rw [if_neg q, X9_cut_fdno k (d + 5) hC hM hc.1 hc.2 (by omega) (by omega) (show y + x < yfst c ∨ ylst (σ 1 2) c < y + x by omega)]
            simp only [jbI_some]
            exact ⟨_, _, rfl, rfl, Sc.fd _ _ _ _⟩
        · obtain ⟨q1, q2, q3⟩ := X0_hasDate_no k (d + 7) hC hc.1 hc.2 hn.1 (by omega) hd
          rw [q1, X9_find_c7 k (d + 7) hC hM hc.1 hc.2 hn.1 hn.2 hd]
          simp only [jbI_some, i00]
          exact ⟨_, _, rfl, rfl, Sc.rfl σ⟩
      · rw [if_neg hn, if_neg hn]
        exact ⟨_, _, rfl, rfl, Sc.rfl σ⟩
    · rw [if_neg hx]
      refine ⟨_, _, ?_, rfl, Sc.rfl σ⟩
      by_cases x0 : x < -5000
      · rw [if_pos x0]
      · rw [if_neg x0, if_pos (by omega)]
  · rw [if_neg hc, if_neg hc]
    exact ⟨_, _, rfl, rfl, Sc.rfl σ⟩
