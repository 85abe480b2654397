
theorem exStop (p : Nat → Prop) : ∀ B : Nat, p B → ∃ N, N ≤ B ∧ p N ∧ ∀ j, j < N → ¬ p j := by
  intro B
  induction B using Nat.strongRecOn with
  | _ B ih =>
    intro h
    by_cases q : ∃ j, j < B ∧ p j
    · obtain ⟨j, j1, j2⟩ := q
      obtain ⟨N, n1, n2, n3⟩ := ih j j1 j2
      exact ⟨N, by omega, n2, n3⟩
    · exact ⟨B, Nat.le_refl B, h, fun j j1 j2 => q ⟨j, j1, j2⟩⟩
abbrev An (σ : St) (c m dd Y : Int) : Int := Cut σ c Y (if m ≤ Mi σ c Y then m else Mi σ c Y) dd
theorem An_in {σ : St} (hC : CF σ) {c m dd Y : Int} (h1 : 0 ≤ c) (h2 : c ≤ 7) (a1 : yfst c ≤ Y) (a2 : Y ≤ ylst (σ 1 2) c) (m1 : 1 ≤ m) (d1 : 1 ≤ dd) : Ys σ c Y ≤ An σ c m dd Y ∧ An σ c m dd Y < Ys σ c (Y + 1) ∧ -63 ≤ An σ c m dd Y ∧ An σ c m dd Y ≤ 1900003 ∧ ∃ m2 d2, IsD σ c (An σ c m dd Y) Y m2 d2 := by
  have kk := KF_all hC h1 h2 a1 a2
  have k1 := kk.1
  have q1 : 1 ≤ (if m ≤ Mi σ c Y then m else Mi σ c Y) := by split <;> omega
  have q2 : (if m ≤ Mi σ c Y then m else Mi σ c Y) ≤ Mi σ c Y := by split <;> omega
  have cb := Cut_b hC h1 h2 a1 a2 q1 q2 d1
  have mi := Ms_in hC h1 h2 a1 a2 q1 q2
  have e : An σ c m dd Y = Cut σ c Y (if m ≤ Mi σ c Y then m else Mi σ c Y) dd := rfl
  exact ⟨by omega, by omega, by omega, by omega, _, _, cb.2.2.2.2⟩
theorem An_self {σ : St} {c n y m dd : Int} (h : IsD σ c n y m dd) : An σ c m dd y = n := by
  obtain ⟨a1, a2, a3, a4, a5, a6, a7⟩ := h
  unfold An Cut
  rw [if_pos a4, if_pos a6, a7]
def sY (σ : St) (c y m dd b : Int) (N : Nat) : Prop := ylst (σ 1 2) c ≤ y + N ∨ b < An σ c m dd (y + N + 1)
theorem X8_wholeYears_loop (k : Nat × (Int → Int)) (d : Nat) {σ : St} (hC : CF σ) {c n y m dd b : Int} (h1 : 0 ≤ c) (h2 : c ≤ 7) (n1 : 0 ≤ n) (n2 : n ≤ 1500000) (b1 : n ≤ b) (b2 : b ≤ 1500000) (hD : IsD σ c n y m dd) {N : Nat} (hN : y + N ≤ ylst (σ 1 2) c) (s1 : sY σ c y m dd b N) (s2 : ∀ j, j < N → ¬ sY σ c y m dd b j) : ∀ (t : Nat) (x : Int), y ≤ x → x + t = y + N → out (WV k) (EV k (d + 6)) MX8_wholeYears 39 [vR 0, vI c, vI n, vI b, vI y, vI (ylst (σ 1 2) c), vI x] [] σ = ansI N σ := by
  have hl := ylst_b (c := c) hC.1.1 hC.1.2
  have hf := yfst_b c
  have hp := hD.pos hC h1 h2
  obtain ⟨g1, g2, g3, g4, g5, g6, g7⟩ := id hD
  intro t
  induction t with
  | zero =>
    intro x x1 x2
    have ex : x = y + N := by omega
    rw [bX8_wholeYears_39]
    by_cases q : x < ylst (σ 1 2) c
    · have ai := An_in hC h1 h2 (m := m) (dd := dd) (Y := x + 1) (by omega) (by omega) g3 g5
      have s3 : b < An σ c m dd (x + 1) := by
        rcases s1 with s | s
        · omega
        · rw [ex]; exact s
      rw [if_pos (by simp (disch := omega) only [w32_id]; exact q), X0_anniversary_ok k d hC h1 h2 hp (by omega) (by omega) hD (by omega) (by omega), jbI_some]
      rw [if_pos (by rw [w32_id (a := b) (by omega) (by omega), w32_id (a := An σ c m dd (x + 1)) (by omega) (by omega)]; exact s3)]
      exact ansI_c (by omega)
    · rw [if_neg (by simp (disch := omega) only [w32_id]; exact q)]
      exact ansI_c (by omega)
  | succ t ih =>
    intro x x1 x2
    push_cast at x2
    have ns := s2 (x - y).toNat (by omega)
    unfold sY at ns
    rw [show y + ((x - y).toNat : Int) = x by omega] at ns
    have ai := An_in hC h1 h2 (m := m) (dd := dd) (Y := x + 1) (by omega) (by omega) g3 g5
    have s3 : ¬ b < An σ c m dd (x + 1) := fun z => ns (Or.inr z)
    have s4 : x < ylst (σ 1 2) c := Decidable.byContradiction fun z => ns (Or.inl (by omega))
    rw [bX8_wholeYears_39, if_pos (by simp (disch := omega) only [w32_id]; exact s4), X0_anniversary_ok k d hC h1 h2 hp (by omega) (by omega) hD (by omega) (by omega), jbI_some]
    rw [if_neg (by rw [w32_id (a := b) (by omega) (by omega), w32_id (a := An σ c m dd (x + 1)) (by omega) (by omega)]; exact s3)]
    exact ih _ (by omega) (by omega)
theorem X8_wholeYears_ok (k : Nat × (Int → Int)) (d : Nat) {σ : St} (hC : CF σ) {c n y m dd b : Int} (h1 : 0 ≤ c) (h2 : c ≤ 7) (n1 : 0 ≤ n) (n2 : n ≤ 1500000) (b1 : n ≤ b) (b2 : b ≤ 1500000) (hD : IsD σ c n y m dd) {N : Nat} (hN : y + N ≤ ylst (σ 1 2) c) (s1 : sY σ c y m dd b N) (s2 : ∀ j, j < N → ¬ sY σ c y m dd b j) : EV k (d + 7) mX8_wholeYears [vR 0, vI c, vI n, vI b] σ = ansI N σ := by
  have hl := ylst_b (c := c) hC.1.1 hC.1.2
  have hf := yfst_b c
  have hp := hD.pos hC h1 h2
  obtain ⟨g1, g2, g3, g4, g5, g6, g7⟩ := id hD
  obtain ⟨yb, hy⟩ := exY hC h1 h2 (by omega) b
  obtain ⟨p1, p2, p3, p4⟩ := id hy
  rw [eX8_wholeYears, bX8_wholeYears_0, X0_yearOf_ok k (d + 3) hC h1 h2 hp (by omega) (by omega) (hD.isY hC h1 h2), jbI_some, X0_lastYear_ok k (d + 5) hC h1 h2, jbI_some, X0_yearOf_ok k (d + 3) hC h1 h2 hp (by omega) (by omega) hy, jbI_some, J9_max_ok k (d + 5) σ (by omega) (by omega) (by omega) (by omega), jbI_some]
  have key : (if yb - 1 ≤ y then y else yb - 1) ≤ y + N := by
    split
    · omega
    · apply Decidable.byContradiction
      intro z
      rcases s1 with s | s
      · omega
      · have ai := An_in hC h1 h2 (m := m) (dd := dd) (Y := y + N + 1) (by omega) (by omega) g3 g5
        have mo := Ys_mono hC h1 h2 (a := y + N + 1 + 1) (b := yb) (by omega) (by omega) (by omega)
        omega
  exact X8_wholeYears_loop k d hC h1 h2 n1 n2 b1 b2 hD hN s1 s2 (y + N - (if yb - 1 ≤ y then y else yb - 1)).toNat _ (by split <;> omega) (by omega)
theorem X9_diff_years (k : Nat × (Int → Int)) (d : Nat) {σ : St} (hC : CF σ) (hM : MR σ) {c n y m dd b w : Int} (h1 : 0 ≤ c) (h2 : c ≤ 7) (n1 : 0 ≤ n) (n2 : n ≤ 1500000) (b1 : n ≤ b) (b2 : b ≤ 1500000) (hD : IsD σ c n y m dd) {N : Nat} (hN : y + N ≤ ylst (σ 1 2) c) (s1 : sY σ c y m dd b N) (s2 : ∀ j, j < N → ¬ sY σ c y m dd b j) : ∀ (t : Nat) (x : Int) (u : PV), 0 ≤ x → x + t = N → ∃ v : Int, out (WV k) (EV k (d + 7)) MX9_difference 64 [vR 33, vI c, vI n, vI b, vI w, vI (An σ c m dd (y + x)), vI x, vI 1, u, vU, vU, vU] [] (fd σ y m dd) = out (WV k) (EV k (d + 7)) MX9_difference 64 [vR 33, vI c, vI n, vI b, vI w, vI (An σ c m dd (y + N)), vI N, vI 0, vI v, vU, vU, vU] [] (fd σ y m dd) := by
  have hl := ylst_b (c := c) hC.1.1 hC.1.2
  have hf := yfst_b c
  have hp := hD.pos hC h1 h2
  have hyr := hD.year hC h1 h2
  obtain ⟨g1, g2, g3, g4, g5, g6, g7⟩ := id hD
  have kk := KF_all hC h1 h2 g1 g2
  have k2 := kk.2.1
  have kl := (kk.2.2.1 m g3 g4).2
  have hmm : mmx c ≤ 53 := by unfold mmx; repeat' split; all_goals omega
  intro t
  induction t with
  | zero =>
    intro x u x1 x2
    have ex : x = N := by omega
    subst ex
    rw [bX9_difference_64, if_neg (by decide), fd_3, fd_4, fd_5]
    by_cases q : y + N < ylst (σ 1 2) c
    · have ai := An_in hC h1 h2 (m := m) (dd := dd) (Y := y + N + 1) (by omega) (by omega) g3 g5
      have s3 : b < An σ c m dd (y + N + 1) := by
        rcases s1 with s | s
        · omega
        · exact s
      rw [X9_cut_fd k d hC hM h1 h2 (by omega) (by omega) g3 (by omega) g5 (by omega), jbI_some]
      refine ⟨dyo (An σ c m dd (y + N + 1)), ?_⟩
      have hd : dyo (An σ c m dd (y + N + 1)) = -3 ∨ (dyo (An σ c m dd (y + N + 1)) = An σ c m dd (y + N + 1) ∧ 0 ≤ An σ c m dd (y + N + 1) ∧ An σ c m dd (y + N + 1) ≤ 1500000) := by
        unfold dyo
        split
        · exact Or.inr ⟨rfl, by assumption⟩
        · exact Or.inl rfl
      rcases hd with hd | hd
      · rw [hd, if_pos (by decide), bX9_difference_109, i00, i00, show (N : Int) + 0 = N by omega]
      · rw [hd.1, if_neg (by rw [w32_id (by omega) (by omega)]; omega), if_pos (by rw [w32_id (a := b) (by omega) (by omega), w32_id (a := An σ c m dd (y + N + 1)) (by omega) (by omega)]; exact s3), bX9_difference_109, i00, i00, show (N : Int) + 0 = N by omega]
    · refine ⟨-3, ?_⟩
      rw [X9_cut_fdno k (d + 4) hC hM h1 h2 (by omega) (by omega) (by omega), jbI_some, if_pos (by decide), bX9_difference_109, i00, i00, show (N : Int) + 0 = N by omega]
  | succ t ih =>
    intro x u x1 x2
    push_cast at x2
    have ns := s2 x.toNat (by omega)
    unfold sY at ns
    rw [show (x.toNat : Int) = x by omega] at ns
    have ai := An_in hC h1 h2 (m := m) (dd := dd) (Y := y + x + 1) (by omega) (by omega) g3 g5
    have s3 : ¬ b < An σ c m dd (y + x + 1) := fun z => ns (Or.inr z)
    have s4 : y + x < ylst (σ 1 2) c := Decidable.byContradiction fun z => ns (Or.inl (by omega))
    have mo := Ys_mono hC h1 h2 (a := y + 1) (b := y + x + 1) (by omega) (by omega) (by omega)
    have hd : dyo (An σ c m dd (y + x + 1)) = An σ c m dd (y + x + 1) := by
      unfold dyo
      exact if_pos ⟨by omega, by omega⟩
    rw [bX9_difference_64, if_neg (by decide), fd_3, fd_4, fd_5, X9_cut_fd k d hC hM h1 h2 (by omega) (by omega) g3 (by omega) g5 (by omega), jbI_some]
    rw [hd, if_neg (by rw [w32_id (by omega) (by omega)]; omega), if_neg (by rw [w32_id (a := b) (by omega) (by omega), w32_id (a := An σ c m dd (y + x + 1)) (by omega) (by omega)]; exact s3), bX9_difference_109, i10, i10, show y + x + 1 = y + (x + 1) by omega]
    exact ih _ _ (by omega) (by omega)
def sM (σ : St) (c i dd b : Int) (N : Nat) : Prop := mah (σ 1 2) c (ylst (σ 1 2) c + 1) ≤ i + N + 1 ∨ ∃ y m, yfst c ≤ y ∧ y ≤ ylst (σ 1 2) c ∧ 1 ≤ m ∧ m ≤ Mi σ c y ∧ i + N + 1 = mah (σ 1 2) c y + m - 1 ∧ b < Cut σ c y m dd
theorem mah_one {σ : St} (hC : CF σ) {c y m y2 m2 : Int} (h1 : 0 ≤ c) (h2 : c ≤ 7) (a1 : yfst c ≤ y) (a2 : y ≤ ylst (σ 1 2) c) (a3 : 1 ≤ m) (a4 : m ≤ Mi σ c y) (b1 : yfst c ≤ y2) (b2 : y2 ≤ ylst (σ 1 2) c) (b3 : 1 ≤ m2) (b4 : m2 ≤ Mi σ c y2) (h : mah (σ 1 2) c y + m - 1 = mah (σ 1 2) c y2 + m2 - 1) : y = y2 ∧ m = m2 := by
  have k1 := (KF_all hC h1 h2 a1 a2).2.2.2.2
  have k2 := (KF_all hC h1 h2 b1 b2).2.2.2.2
  have : y = y2 := by
    rcases Int.lt_trichotomy y y2 with q | q | q
    · have := mah_mono hC h1 h2 (a := y + 1) (b := y2) (by omega) (by omega) (by omega)
      omega
    · exact q
    · have := mah_mono hC h1 h2 (a := y2 + 1) (b := y) (by omega) (by omega) (by omega)
      omega
  subst this
  exact ⟨rfl, by omega⟩
theorem X8_wholeMonths_loop (k : Nat × (Int → Int)) (d : Nat) {σ : St} (hC : CF σ) {c i dd b n : Int} (h1 : 0 ≤ c) (h2 : c ≤ 7) (hp : c = 7 → 0 < σ 1 2) (i0 : 0 ≤ i) (d1 : 1 ≤ dd) (d2 : dd ≤ 1000) (b1 : 0 ≤ b) (b2 : b ≤ 1500000) (hl0 : yfst c ≤ ylst (σ 1 2) c) {N : Nat} (hN : i + N < mah (σ 1 2) c (ylst (σ 1 2) c + 1)) (s1 : sM σ c i dd b N) (s2 : ∀ j, j < N → ¬ sM σ c i dd b j) : ∀ (t : Nat) (x : Int), i ≤ x → x + t = i + N → out (WV k) (EV k (d + 5)) MX8_wholeMonths 36 [vR 0, vI c, vI n, vI b, vI dd, vI i, vI (mah (σ 1 2) c (ylst (σ 1 2) c + 1)), vI x] [] σ = ansI N σ := by
  have hl := ylst_b (c := c) hC.1.1 hC.1.2
  have mb := mah_b hC h1 h2 (y := ylst (σ 1 2) c + 1) (by omega) (by omega)
  intro t
  induction t with
  | zero =>
    intro x x1 x2
    have ex : x = i + N := by omega
    rw [bX8_wholeMonths_36]
    by_cases q : x + 1 < mah (σ 1 2) c (ylst (σ 1 2) c + 1)
    · obtain ⟨y2, m2, p1, p2, p3, p4, p5⟩ := exMi hC h1 h2 (i := x + 1) (by omega) q hl0
      have cb := Cut_b hC h1 h2 p1 p2 p3 p4 d1
      have s3 : b < Cut σ c y2 m2 dd := by
        rcases s1 with s | ⟨y3, m3, r1, r2, r3, r4, r5, r6⟩
        · omega
        · obtain ⟨e1, e2⟩ := mah_one hC h1 h2 r1 r2 r3 r4 p1 p2 p3 p4 (by omega)
          rw [← e1, ← e2]; exact r6
      rw [if_pos (by rw [w32_id (by omega) (by omega), w32_id (by omega) (by omega)]; exact q), p5, X0_dayInMonth_ok k d hC h1 h2 hp p1 p2 p3 p4 d1 (by omega), jbI_some]
      rw [if_pos (by rw [w32_id (a := b) (by omega) (by omega), w32_id (a := Cut σ c y2 m2 dd) (by omega) (by omega)]; exact s3)]
      exact ansI_c (by omega)
    · rw [if_neg (by rw [w32_id (by omega) (by omega), w32_id (by omega) (by omega)]; exact q)]
      exact ansI_c (by omega)
  | succ t ih =>
    intro x x1 x2
    push_cast at x2
    have ns := s2 (x - i).toNat (by omega)
    unfold sM at ns
    rw [show i + ((x - i).toNat : Int) = x by omega] at ns
    have s4 : x + 1 < mah (σ 1 2) c (ylst (σ 1 2) c + 1) := Decidable.byContradiction fun z => ns (Or.inl (by omega))
    obtain ⟨y2, m2, p1, p2, p3, p4, p5⟩ := exMi hC h1 h2 (i := x + 1) (by omega) s4 hl0
    have cb := Cut_b hC h1 h2 p1 p2 p3 p4 d1
    have s3 : ¬ b < Cut σ c y2 m2 dd := fun z => ns (Or.inr ⟨y2, m2, p1, p2, p3, p4, p5, z⟩)
    rw [bX8_wholeMonths_36, if_pos (by rw [w32_id (by omega) (by omega), w32_id (by omega) (by omega)]; exact s4), p5, X0_dayInMonth_ok k d hC h1 h2 hp p1 p2 p3 p4 d1 (by omega), jbI_some]
    rw [if_neg (by rw [w32_id (a := b) (by omega) (by omega), w32_id (a := Cut σ c y2 m2 dd) (by omega) (by omega)]; exact s3), ← p5]
    exact ih _ (by omega) (by omega)
theorem X9_diff_months (k : Nat × (Int → Int)) (d : Nat) {σ : St} (hC : CF σ) (hM : MR σ) {c n y m dd b w a5 a6 a8 : Int} (h1 : 0 ≤ c) (h2 : c ≤ 7) (n1 : 0 ≤ n) (b2 : b ≤ 1500000) (b3 : 0 ≤ b) (hD : IsD σ c n y m dd) {N : Nat} (hN : mah (σ 1 2) c y + m - 1 + N < mah (σ 1 2) c (ylst (σ 1 2) c + 1)) (s1 : sM σ c (mah (σ 1 2) c y + m - 1) dd b N) (s2 : ∀ j, j < N → ¬ sM σ c (mah (σ 1 2) c y + m - 1) dd b j) {x2 : Int} : ∀ (t : Nat) (x v : Int) (u : PV), 0 ≤ x → x + t = N → (∃ y2 m2, yfst c ≤ y2 ∧ y2 ≤ ylst (σ 1 2) c ∧ 1 ≤ m2 ∧ m2 ≤ Mi σ c y2 ∧ mah (σ 1 2) c y + m - 1 + x = mah (σ 1 2) c y2 + m2 - 1 ∧ v = Cut σ c y2 m2 dd) → ∃ v2 : Int, (∃ y2 m2, yfst c ≤ y2 ∧ y2 ≤ ylst (σ 1 2) c ∧ 1 ≤ m2 ∧ m2 ≤ Mi σ c y2 ∧ mah (σ 1 2) c y + m - 1 + N = mah (σ 1 2) c y2 + m2 - 1 ∧ v2 = Cut σ c y2 m2 dd) ∧ out (WV k) (EV k (d + 8)) MX9_difference 170 [vR 33, vI c, vI x2, vI b, vI w, vI a5, vI a6, vI 1, vI a8, vI v, vI x, u] [] (fd σ y m dd) = (if w32 w = w32 1 then ansI N (fd σ y m dd) else ansI (b - v2) (fd σ y m dd)) := by
  have hl := ylst_b (c := c) hC.1.1 hC.1.2
  have hf := yfst_b c
  have hp := hD.pos hC h1 h2
  obtain ⟨g1, g2, g3, g4, g5, g6, g7⟩ := id hD
  have kk := KF_all hC h1 h2 g1 g2
  have k2 := kk.2.1
  have k5 := kk.2.2.2.2
  have kl := (kk.2.2.1 m g3 g4).2
  have hmm : mmx c ≤ 53 := by unfold mmx; repeat' split; all_goals omega
  have mb := mah_b hC h1 h2 (y := ylst (σ 1 2) c + 1) (by omega) (by omega)
  have mb2 := mah_b hC h1 h2 (y := y) (by omega) (by omega)
  intro t
  induction t with
  | zero =>
    intro x v u x1 x3 hv
    have ex : x = N := by omega
    subst ex
    refine ⟨v, hv, ?_⟩
    have fin : ∀ v8 : Int, out (WV k) (EV k (d + 8)) MX9_difference 202 [vR 33, vI c, vI x2, vI b, vI w, vI a5, vI a6, vI 1, vI a8, vI v, vI N, vI v8] [vI 0] (fd σ y m dd) = (if w32 w = w32 1 then ansI N (fd σ y m dd) else ansI (b - v) (fd σ y m dd)) := by
      intro v8
      rw [bX9_difference_202, i00, i00, bX9_difference_170, i00, show (N : Int) + 0 = N by omega]
    rw [bX9_difference_170, i10]
    by_cases q : mah (σ 1 2) c y + m - 1 + N + 1 < mah (σ 1 2) c (ylst (σ 1 2) c + 1)
    · obtain ⟨y2, m2, p1, p2, p3, p4, p5⟩ := exMi hC h1 h2 (i := mah (σ 1 2) c y + m - 1 + N + 1) (by omega) q (by omega)
      have cb := Cut_b hC h1 h2 p1 p2 p3 p4 g5
      have s3 : b < Cut σ c y2 m2 dd := by
        rcases s1 with s | ⟨y3, m3, r1, r2, r3, r4, r5, r6⟩
        · omega
        · obtain ⟨e1, e2⟩ := mah_one hC h1 h2 r1 r2 r3 r4 p1 p2 p3 p4 (by omega)
          rw [← e1, ← e2]; exact r6
      rw [X9_monthsOn_fd k d hC hM h1 h2 (by omega) (by omega) p1 p2 p3 p4 g5 (by omega) g1 g2 g3 g4 (by omega), jbI_some]
      have hd : dyo (Cut σ c y2 m2 dd) = -3 ∨ (dyo (Cut σ c y2 m2 dd) = Cut σ c y2 m2 dd ∧ 0 ≤ Cut σ c y2 m2 dd ∧ Cut σ c y2 m2 dd ≤ 1500000) := by
        unfold dyo
        split
        · exact Or.inr ⟨rfl, by assumption⟩
        · exact Or.inl rfl
      rcases hd with hd | hd
      · rw [hd, if_pos (by decide)]
        exact fin _
      · rw [hd.1, if_neg (by rw [w32_id (by omega) (by omega)]; omega), if_pos (by rw [w32_id (a := b) (by omega) (by omega), w32_id (a := Cut σ c y2 m2 dd) (by omega) (by omega)]; exact s3)]
        exact fin _
    · rw [X9_monthsOn_fdno k d hC hM h1 h2 (by omega) (by omega) g1 g2 g3 g4 (Or.inr (by omega)), jbI_some, if_pos (by decide)]
      exact fin _
  | succ t ih =>
    intro x v u x1 x3 hv
    push_cast at x3
    have ns := s2 x.toNat (by omega)
    unfold sM at ns
    rw [show (x.toNat : Int) = x by omega] at ns
    have s4 : mah (σ 1 2) c y + m - 1 + x + 1 < mah (σ 1 2) c (ylst (σ 1 2) c + 1) := Decidable.byContradiction fun z => ns (Or.inl (by omega))
    obtain ⟨y2, m2, p1, p2, p3, p4, p5⟩ := exMi hC h1 h2 (i := mah (σ 1 2) c y + m - 1 + x + 1) (by omega) s4 (by omega)
    have cb := Cut_b hC h1 h2 p1 p2 p3 p4 g5
    have s3 : ¬ b < Cut σ c y2 m2 dd := fun z => ns (Or.inr ⟨y2, m2, p1, p2, p3, p4, p5, z⟩)
    have pos : 0 ≤ Cut σ c y2 m2 dd := by
      have mi := Ms_in hC h1 h2 p1 p2 p3 p4
      have yr := hD.year hC h1 h2
      rcases Int.lt_trichotomy y y2 with q | q | q
      · have := Ys_mono hC h1 h2 (a := y + 1) (b := y2) (by omega) (by omega) (by omega)
        omega
      · subst q
        have : m ≤ m2 - 1 := by omega
        have sm := smI_mono (f := Ml σ c y) (a := m - 1) (b := m2 - 1) (by omega) (by omega) (fun j j1 j2 => (kk.2.2.1 j (by omega) (by omega)).1)
        have st := smI_s (Ml σ c y) (a := m - 1) (by omega)
        rw [show m - 1 + 1 = m by omega] at st
        have sm2 := smI_mono (f := Ml σ c y) (a := m) (b := m2 - 1) (by omega) (by omega) (fun j j1 j2 => (kk.2.2.1 j (by omega) (by omega)).1)
        have e1 : Ms σ c y m2 = Ys σ c y + smI (Ml σ c y) (m2 - 1) := rfl
        have e2 : Ms σ c y m = Ys σ c y + smI (Ml σ c y) (m - 1) := rfl
        omega
      · have := mah_mono hC h1 h2 (a := y2 + 1) (b := y) (by omega) (by omega) (by omega)
        have := (KF_all hC h1 h2 p1 p2).2.2.2.2
        omega
    have hd : dyo (Cut σ c y2 m2 dd) = Cut σ c y2 m2 dd := by
      unfold dyo
      exact if_pos ⟨by omega, by omega⟩
    rw [bX9_difference_170, i10, X9_monthsOn_fd k d hC hM h1 h2 (by omega) (by omega) p1 p2 p3 p4 g5 (by omega) g1 g2 g3 g4 (by omega), jbI_some]
    rw [hd, if_neg (by rw [w32_id (by omega) (by omega)]; omega), if_neg (by rw [w32_id (a := b) (by omega) (by omega), w32_id (a := Cut σ c y2 m2 dd) (by omega) (by omega)]; exact s3), bX9_difference_202, i10, i10]
    exact ih _ _ _ (by omega) (by omega) ⟨y2, m2, p1, p2, p3, p4, by omega, rfl⟩
