
theorem IsD_same {σ τ : St} (a : τ 1 2 = σ 1 2) (b : τ 9 = σ 9) {c n y m dd : Int} (h : IsD σ c n y m dd) : IsD τ c n y m dd := by
  obtain ⟨a1, a2, a3, a4, a5, a6, a7⟩ := h
  have e : Ml τ c y = Ml σ c y := by funext j; simp only [Ml, Mls, Ys, a, b]
  have e2 : Ys τ c y = Ys σ c y := by simp only [Ys, a, b]
  have e3 : Mi τ c y = Mi σ c y := by simp only [Mi, a]
  refine ⟨a1, by rw [a]; exact a2, a3, by rw [e3]; exact a4, a5, by rw [e]; exact a6, ?_⟩
  rw [a7]
  unfold Ms
  rw [e, e2]
theorem X9_find_fd (k : Nat × (Int → Int)) (d : Nat) {σ : St} (hC : CF σ) (hM : MR σ) {c n y m dd u v w : Int} (h1 : 0 ≤ c) (h2 : c ≤ 7) (n1 : -100000000 ≤ n) (n2 : n ≤ 100000000) (hD : IsD σ c n y m dd) : EV k (d + 6) mX9_find [vR 33, vI c, vI n] (fd σ u v w) = ansI 1 (fd σ y m dd) := by
  have e12 : fd σ u v w 1 2 = σ 1 2 := by rw [fd_ne _ _ _ _ (by decide)]
  rw [X9_find_ok k d (fd_C hC u v w) (fd_M hM u v w) h1 h2 n1 n2 (IsD_same e12 (fd_ne _ _ _ _ (by decide)) hD), fd_fd]
theorem diff_core (k : Nat × (Int → Int)) (d : Nat) {σ : St} (hC : CF σ) (hM : MR σ) {c n b w y m dd : Int} (h1 : 0 ≤ c) (h2 : c ≤ 7) (n1 : 0 ≤ n) (n2 : n ≤ 1500000) (b1 : n ≤ b) (b2 : b ≤ 1500000) (w1 : 0 ≤ w) (w2 : w ≤ 2) (hD : IsD σ c n y m dd) : ∃ a τ, Sc σ τ ∧
    (jbI (EV k (d + 9) mX8_wholeYears [vR 0, vI c, vI n, vI b] σ) (fun r6 τ6 => jbI (EV k (d + 9) mX0_anniversary [vR 1, vI c, vI n, vI (y + r6)] τ6) (fun r7 τ7 => jbI (EV k (d + 9) mX8_wholeMonths [vR 0, vI c, vI r7, vI b] τ7) (fun r8 τ8 => if w = 0 then some (some (vI r6), τ8) else if w = 1 then some (some (vI r8), τ8) else jbI (EV k (d + 9) mX0_monthIndex [vR 1, vI c, vI r7] τ8) (fun r9 τ9 => jbI (EV k (d + 9) mX0_dayOf [vR 1, vI c, vI r7] τ9) (fun r10 τ10 => jbI (EV k (d + 9) mX0_dayInMonth [vR 1, vI c, vI (r9 + r8), vI r10] τ10) (fun r11 τ11 => some (some (vI (b - r11)), τ11))))))) = ansI a σ) ∧
    out (WV k) (EV k (d + 9)) MX9_difference 64 [vR 33, vI c, vI n, vI b, vI w, vI n, vI 0, vI 1, vU, vU, vU, vU] [] (fd σ y m dd) = ansI a τ := by
  have hl := ylst_b (c := c) hC.1.1 hC.1.2
  have hf := yfst_b c
  have hp := hD.pos hC h1 h2
  have hyr := hD.year hC h1 h2
  obtain ⟨g1, g2, g3, g4, g5, g6, g7⟩ := id hD
  obtain ⟨N, N1, N2, N3⟩ := exStop (sY σ c y m dd b) (ylst (σ 1 2) c - y).toNat (Or.inl (by omega))
  have ai := An_in hC h1 h2 (m := m) (dd := dd) (Y := y + N) (by omega) (by omega) g3 g5
  obtain ⟨m2, d2, hB⟩ := ai.2.2.2.2
  have eA := An_self hD
  have bs : 0 ≤ An σ c m dd (y + N) ∧ An σ c m dd (y + N) ≤ b := by
    by_cases q : N = 0
    · subst q
      rw [show y + ((0 : Nat) : Int) = y by simp, eA]
      omega
    · have ns := N3 (N - 1) (by omega)
      unfold sY at ns
      rw [show y + ((N - 1 : Nat) : Int) = y + N - 1 by omega, show y + (N : Int) - 1 + 1 = y + N by omega] at ns
      have mo := Ys_mono hC h1 h2 (a := y + 1) (b := y + N) (by omega) (by omega) (by omega)
      have : ¬ b < An σ c m dd (y + N) := fun z => ns (Or.inr z)
      omega
  obtain ⟨q1, q2, q3, q4, q5, q6, q7⟩ := id hB
  have kq := KF_all hC h1 h2 q1 q2
  have kl := (kq.2.2.1 m2 q3 q4).2
  have k5 := kq.2.2.2.2
  have mb := mah_b hC h1 h2 (y := ylst (σ 1 2) c + 1) (by omega) (by omega)
  have mb2 := mah_b hC h1 h2 (y := y + N) (by omega) (by omega)
  have mm := mah_mono hC h1 h2 (a := y + N + 1) (b := ylst (σ 1 2) c + 1) (by omega) (by omega) (by omega)
  obtain ⟨P, P1, P2, P3⟩ := exStop (sM σ c (mah (σ 1 2) c (y + N) + m2 - 1) d2 b) (mah (σ 1 2) c (ylst (σ 1 2) c + 1) - (mah (σ 1 2) c (y + N) + m2 - 1) - 1).toNat (Or.inl (by omega))
  obtain ⟨v2, ⟨y3, m3, r1, r2, r3, r4, r5, r6⟩, hM9⟩ := X9_diff_months k (d + 1) hC hM (w := w) (a5 := An σ c m dd (y + N)) (a6 := N) (a8 := 1) (x2 := n) h1 h2 bs.1 b2 (by omega) hB (N := P) (by omega) P2 P3 P 0 (An σ c m dd (y + N)) vU (by omega) (by omega) ⟨y + N, m2, q1, q2, q3, q4, by omega, by have := An_self hB; unfold An at this; rw [if_pos q4] at this; exact this.symm⟩
  obtain ⟨v, hY9⟩ := X9_diff_years k (d + 2) hC hM (w := w) h1 h2 n1 n2 b1 b2 hD (N := N) (by omega) N2 N3 N 0 vU (by omega) (by omega)
  rw [show y + (0 : Int) = y by omega, eA] at hY9
  have cb := Cut_b hC h1 h2 r1 r2 r3 r4 q5
  refine ⟨if w = 0 then (N : Int) else if w = 1 then (P : Int) else b - v2, if w = 0 then fd σ y m dd else fd σ (y + N) m2 d2, ?_, ?_, ?_⟩
  · split
    · exact Sc.fd _ _ _ _
    · exact Sc.fd _ _ _ _
  · rw [X8_wholeYears_ok k (d + 2) hC h1 h2 n1 n2 b1 b2 hD (N := N) (by omega) N2 N3, jbI_some, X0_anniversary_ok k (d + 3) hC h1 h2 hp (by omega) (by omega) hD (by omega) (by omega), jbI_some]
    rw [eX8_wholeMonths, bX8_wholeMonths_0, X0_dayOf_ok k (d + 3) hC h1 h2 hp (by omega) (by omega) hB, jbI_some, X0_monthIndex_ok k (d + 3) hC h1 h2 hp (by omega) (by omega) hB, jbI_some, X0_monthsInAll_ok k (d + 4) hC h1 h2, jbI_some]
    rw [X8_wholeMonths_loop k (d + 3) hC h1 h2 hp (by omega) q5 (by omega) (by omega) b2 (by omega) (N := P) (by omega) P2 P3 P _ (by omega) (by omega), jbI_some]
    by_cases w0 : w = 0
    · rw [if_pos w0, if_pos w0]
    · rw [if_neg w0, if_neg w0]
      by_cases w1 : w = 1
      · rw [if_pos w1, if_pos w1]
      · rw [if_neg w1, if_neg w1, X0_monthIndex_ok k (d + 4) hC h1 h2 hp (by omega) (by omega) hB, jbI_some, X0_dayOf_ok k (d + 4) hC h1 h2 hp (by omega) (by omega) hB, jbI_some, r5, X0_dayInMonth_ok k (d + 4) hC h1 h2 hp r1 r2 r3 r4 q5 (by omega), jbI_some, r6]
  · rw [hY9, bX9_difference_64, i00, w32_id (a := w) (by omega) (by omega)]
    by_cases w0 : w = 0
    · rw [if_pos w0, if_pos w0, if_pos w0]
    · rw [if_neg w0, if_neg w0, if_neg w0, X9_find_fd k (d + 3) hC hM h1 h2 (by omega) (by omega) hB, jbI_some, hM9, w32_id (a := w) (by omega) (by omega), w32_1]
      split <;> rfl
theorem Tw_difference (k : Nat × (Int → Int)) (d : Nat) {σ : St} (hC : CF σ) (hM : MR σ) {c n b w : Int} (h1 : I32 c) (h2 : I32 n) (h3 : I32 b) (h4 : I32 w) : Tw k (d + 10) mX8_difference mX9_difference [vI c, vI n, vI b, vI w] σ := by
  unfold I32 at h1 h2 h3 h4
  unfold Tw
  rw [eX8_difference, bX8_difference_0, eX9_difference, bX9_difference_0, X8_isCalendar_ok k (d + 8) σ h1.1 h1.2, X9_isCalendar_ok k (d + 7) σ h1.1 h1.2, jbI_some, jbI_some, ib, ib]
  by_cases hc : 0 ≤ c ∧ c ≤ 7
  · rw [if_pos hc, if_pos hc, X9_in_ok k (d + 8) σ h4.1 h4.2 (by omega) (by omega) (by omega) (by omega), jbI_some, ib]
    rw [w32_id (a := w) h4.1 h4.2, show w32 2 = 2 by decide, w32_id (a := n) h2.1 h2.2, w32_id (a := b) h3.1 h3.2]
    by_cases hx : 0 ≤ w ∧ w ≤ 2
    · rw [if_neg (show ¬ w < 0 by omega), if_neg (show ¬ 2 < w by omega), if_pos hx]
      by_cases hb : b < n
      · rw [if_pos hb, if_pos hb]
        exact ⟨_, _, rfl, rfl, Sc.rfl σ⟩
      · rw [if_neg hb, if_neg hb, X8_isDay_ok k (d + 8) σ h2.1 h2.2, X9_isDay_ok k (d + 8) σ (by omega) (by omega), jbI_some, jbI_some, ib, ib]
        by_cases hn : 0 ≤ n ∧ n ≤ 1500000
        · rw [if_pos hn, if_pos hn, X8_isDay_ok k (d + 8) σ h3.1 h3.2, X9_isDay_ok k (d + 8) σ (by omega) (by omega), jbI_some, jbI_some, ib, ib]
          by_cases hm : 0 ≤ b ∧ b ≤ 1500000
          · rw [if_pos hm, if_pos hm]
            by_cases hd : HD σ c n
            · obtain ⟨y, m, dd, hD⟩ := hd.ex hC hc.1 hc.2 hn.1 (by omega)
              have hp := hD.pos hC hc.1 hc.2
              rw [X0_hasDate_yes k (d + 7) hC hc.1 hc.2 hn.1 (by omega) hd, X9_find_ok k (d + 3) hC hM hc.1 hc.2 (by omega) (by omega) hD, jbI_some, jbI_some, i10, i10, X0_yearOf_ok k (d + 6) hC hc.1 hc.2 hp (by omega) (by omega) (hD.isY hC hc.1 hc.2), jbI_some]
              obtain ⟨a, τ, t1, t2, t3⟩ := diff_core k d hC hM hc.1 hc.2 hn.1 hn.2 (show n ≤ b by omega) hm.2 hx.1 hx.2 hD
              exact ⟨a, τ, t2, t3, t1⟩
            · obtain ⟨q1, q2, q3⟩ := X0_hasDate_no k (d + 7) hC hc.1 hc.2 hn.1 (by omega) hd
              rw [q1, X9_find_c7 k (d + 8) hC hM hc.1 hc.2 hn.1 hn.2 hd, jbI_some, jbI_some, i00, i00]
              exact ⟨_, _, rfl, rfl, Sc.rfl σ⟩
          · rw [if_neg hm, if_neg hm]
            exact ⟨_, _, rfl, rfl, Sc.rfl σ⟩
        · rw [if_neg hn, if_neg hn]
          exact ⟨_, _, rfl, rfl, Sc.rfl σ⟩
    · rw [if_neg hx]
      refine ⟨_, _, ?_, rfl, Sc.rfl σ⟩
      by_cases x0 : w < 0
      · rw [if_pos x0]
      · rw [if_neg x0, if_pos (by omega)]
  · rw [if_neg hc, if_neg hc]
    exact ⟨_, _, rfl, rfl, Sc.rfl σ⟩
