/-! sums of months -/
def smN (f : Int → Int) : Nat → Int
  | 0 => 0
  | j + 1 => smN f j + f ((j : Int) + 1)
def smI (f : Int → Int) (a : Int) : Int := smN f a.toNat
theorem smI_0 (f : Int → Int) : smI f 0 = 0 := rfl
theorem smI_s (f : Int → Int) {a : Int} (h : 0 ≤ a) : smI f (a + 1) = smI f a + f (a + 1) := by
  unfold smI
  rw [show (a + 1).toNat = a.toNat + 1 by omega, smN, show ((a.toNat : Nat) : Int) = a by omega]
theorem smI_cong {f g : Int → Int} {a : Int} (h : ∀ j, 1 ≤ j → j ≤ a → f j = g j) : smI f a = smI g a := by
  unfold smI
  have key : ∀ n : Nat, (n : Int) ≤ a → smN f n = smN g n := by
    intro n
    induction n with
    | zero => intro _; rfl
    | succ n ih => intro hn; rw [smN, smN, ih (by omega), h _ (by omega) (by omega)]
  by_cases ha : 0 ≤ a
  · exact key a.toNat (by omega)
  · rw [show a.toNat = 0 by omega]; rfl
theorem smI_const (v : Int) {a : Int} (h : 0 ≤ a) : smI (fun _ => v) a = v * a := by
  unfold smI
  have key : ∀ n : Nat, smN (fun _ => v) n = v * (n : Int) := by
    intro n
    induction n with
    | zero => simp [smN]
    | succ n ih => rw [smN, ih]; push_cast; rw [Int.mul_add, Int.mul_one]
  rw [key, show ((a.toNat : Nat) : Int) = a by omega]
def mah (n c y : Int) : Int := if c = 0 ∨ c = 1 then 12 * y else if c = 2 then 13 * (y - 1) else if c = 3 then 12 * (y - 1) else if c = 4 then (235 * y - 234) / 19 else if c = 5 then (wks y + 63) / 7 else if c = 6 then 18 * y else if n ≤ 10 * (y - 1) then n else 10 * (y - 1)
theorem X0_monthsAhead_ok (k : Nat × (Int → Int)) (d : Nat) {σ : St} (hC : CF σ) {c y : Int} (h1 : 0 ≤ c) (h2 : c ≤ 7) (hy1 : yfst c ≤ y) (hy2 : y ≤ 5001) : EV k (d + 3) mX0_monthsAhead [vR 1, vI c, vI y] σ = ansI (mah (σ 1 2) c y) σ := by
  have hn := hC.1
  have hf := yfst_b c
  rw [eX0_monthsAhead, bX0_monthsAhead_0]
  unfold mah
  by_cases c0 : c = 0
  · subst c0; rfl
  by_cases c1 : c = 1
  · subst c1; rfl
  have hy3 : 0 ≤ y := by omega
  by_cases c2 : c = 2
  · subst c2; rfl
  by_cases c3 : c = 3
  · subst c3; rfl
  by_cases c4 : c = 4
  · subst c4
    have : 1 ≤ y := by omega
    simp (disch := omega) [w32_id, jq_pos]
  by_cases c5 : c = 5
  · subst c5
    have b1 := wks_b hy3 (show y ≤ 5002 by omega)
    rw [X0_yearStart_ok k d hC (by decide) (by decide) (show YV 5 y from ⟨hy1, by omega, fun h => by omega⟩)]
    simp (disch := omega) [w32_id, jbI_some, Ys5, jq_pos]
  by_cases c6 : c = 6
  · subst c6; rfl
  · have c7 : c = 7 := by omega
    subst c7
    rw [J9_min_ok k (d + 1) σ (by omega) (by omega) (by omega) (by omega)]
    simp (disch := omega) [w32_id, jbI_some]
theorem ylst_b {n c : Int} (h1 : 0 ≤ n) (h2 : n ≤ 500) : 0 ≤ ylst n c ∧ ylst n c ≤ 5000 ∧ (c = 7 → ylst n c ≤ 50) := by unfold ylst; split <;> omega
theorem X0_monthsInAll_ok (k : Nat × (Int → Int)) (d : Nat) {σ : St} (hC : CF σ) {c : Int} (h1 : 0 ≤ c) (h2 : c ≤ 7) : EV k (d + 4) mX0_monthsInAll [vR 1, vI c] σ = ansI (mah (σ 1 2) c (ylst (σ 1 2) c + 1)) σ := by
  have hl := ylst_b (c := c) hC.1.1 hC.1.2
  have hf := yfst_b c
  rw [eX0_monthsInAll, bX0_monthsInAll_0, X0_lastYear_ok k (d + 2) hC h1 h2]
  simp only [jbI_some]
  rw [X0_monthsAhead_ok k d hC h1 h2 (by omega) (by omega)]
  rfl
theorem X0_sunMonthDays_ok (k : Nat × (Int → Int)) (d : Nat) (σ : St) {m yd : Int} (h1 : 1 ≤ m) (h2 : m ≤ 12) : EV k (d + 1) mX0_sunMonthDays [vI m, vI yd] σ = ansI (sunL m yd) σ := by
  rw [eX0_sunMonthDays, bX0_sunMonthDays_0]
  simp (disch := omega) only [w32_id]
  rw [if_neg (by omega), if_neg (by omega)]
  unfold sunL
  split
  · rfl
  · rw [if_pos (by omega)]
theorem X0_countedMonthDays_ok (k : Nat × (Int → Int)) (d : Nat) (σ : St) {m yd : Int} (h1 : 1 ≤ m) (h2 : m ≤ 13) (h3 : -100000000 ≤ yd) (h4 : yd ≤ 100000000) : EV k (d + 1) mX0_countedMonthDays [vI m, vI yd] σ = ansI (cntL m yd) σ := by
  have e : out (WV k) (EV k d) MX0_countedMonthDays 44 [vI m, vI yd, vU] [] σ = ansI (if (if 360 < yd ∧ 5 < m then m - 1 else m) % 2 = 1 then 30 else 29) σ := by
    rw [bX0_countedMonthDays_44]
    by_cases a : 360 < yd ∧ 5 < m
    · rw [if_pos (by simp (disch := omega) only [w32_id]; omega), if_pos (by simp (disch := omega) only [w32_id]; omega), if_pos a]
      simp (disch := omega) only [w32_id, jr_pos]
      split <;> rfl
    · rw [if_neg a]
      simp (disch := omega) only [w32_id, jr_pos]
      repeat' split
      all_goals first | rfl | omega
  rw [eX0_countedMonthDays, bX0_countedMonthDays_0]
  simp (disch := omega) only [w32_id, e]
  unfold cntL
  by_cases a : m = 2 ∧ (yd = 355 ∨ yd = 385)
  · rw [if_pos a]
    repeat' split
    all_goals first | rfl | omega
  · rw [if_neg a]
    by_cases b : m = 3 ∧ (yd = 353 ∨ yd = 383)
    · rw [if_pos b]
      repeat' split
      all_goals first | rfl | omega
    · rw [if_neg b]
      repeat' split
      all_goals first | rfl | omega
/-- how many months a year can have -/
def mmx (c : Int) : Int := if c = 5 then 53 else if c = 6 then 18 else if c = 2 ∨ c = 4 then 13 else if c = 7 then 10 else 12
abbrev Mls (σ : St) (c y m yd : Int) : Int := mln (σ 1 2) (σ 9) c y m yd
theorem X0_monthDays_ok (k : Nat × (Int → Int)) (d : Nat) {σ : St} (hC : CF σ) {c y m yd : Int} (h1 : 0 ≤ c) (h2 : c ≤ 7) (hy1 : 0 ≤ y) (hy2 : y ≤ 5001) (m1 : 1 ≤ m) (m2 : m ≤ mmx c) (h3 : -100000000 ≤ yd) (h4 : yd ≤ 100000000) : EV k (d + 2) mX0_monthDays [vR 1, vI c, vI y, vI m, vI yd] σ = ansI (Mls σ c y m yd) σ := by
  have hn := hC.1
  rw [eX0_monthDays, bX0_monthDays_0]
  unfold Mls mln mmx at *
  by_cases c0 : c = 0
  · subst c0
    rw [X0_sunMonthDays_ok k d σ m1 (by simpa using m2)]
    simp (disch := omega) [w32_id, jbI_some]
  by_cases c1 : c = 1
  · subst c1
    rw [X0_sunMonthDays_ok k d σ m1 (by simpa using m2)]
    simp (disch := omega) [w32_id, jbI_some]
  have hm : m ≤ 53 := by revert m2; repeat' split; all_goals omega
  by_cases c2 : c = 2
  · subst c2
    simp (disch := omega) [w32_id]
    split <;> rfl
  by_cases c3 : c = 3
  · subst c3
    simp (disch := omega) [w32_id, jr_pos]
    split <;> rfl
  by_cases c4 : c = 4
  · subst c4
    rw [X0_countedMonthDays_ok k d σ m1 (by simpa using m2) h3 h4]
    simp (disch := omega) [w32_id, jbI_some]
  by_cases c5 : c = 5
  · subst c5; simp (disch := omega) [w32_id]
  by_cases c6 : c = 6
  · subst c6; simp (disch := omega) [w32_id]
  · have c7 : c = 7 := by omega
    subst c7
    rw [X0_startOfRow_ok k d hC (by omega) (by omega)]
    simp (disch := omega) only [w32_id, jbI_some]
    rw [X0_startOfRow_ok k d hC (by omega) (by omega)]
    simp [jbI_some]
theorem X0_evenMonthDays_ok (k : Nat × (Int → Int)) (d : Nat) (σ : St) {c : Int} (h1 : 0 ≤ c) (h2 : c ≤ 7) : EV k (d + 1) mX0_evenMonthDays [vI c] σ = ansI (if c = 2 then 30 else if c = 5 then 7 else if c = 6 then 20 else 0) σ := by
  rw [eX0_evenMonthDays, bX0_evenMonthDays_0]
  simp (disch := omega) only [w32_id]
  repeat' split
  all_goals first | rfl | omega
/-- a month's length and first day -/
abbrev Ml (σ : St) (c y m : Int) : Int := Mls σ c y m (Ys σ c (y + 1) - Ys σ c y)
abbrev Ms (σ : St) (c y m : Int) : Int := Ys σ c y + smI (Ml σ c y) (m - 1)
theorem YV_of {c y : Int} (h1 : yfst c ≤ y) (h2 : y ≤ 5000) : YV c y ∧ YV c (y + 1) := ⟨⟨h1, by omega, fun _ => by omega⟩, ⟨by omega, by omega, fun _ => by omega⟩⟩
theorem X0_daysInMonth_ok (k : Nat × (Int → Int)) (d : Nat) {σ : St} (hC : CF σ) {c y m : Int} (h1 : 0 ≤ c) (h2 : c ≤ 7) (hy1 : yfst c ≤ y) (hy2 : y ≤ 5000) (hn : c = 7 → 0 < σ 1 2) (m1 : 1 ≤ m) (m2 : m ≤ mmx c) : EV k (d + 3) mX0_daysInMonth [vR 1, vI c, vI y, vI m] σ = ansI (Ml σ c y m) σ := by
  have hv := YV_of hy1 hy2
  have b1 := Ys_b hC h1 h2 hv.1 hn
  have b2 := Ys_b hC h1 h2 hv.2 hn
  have hf := yfst_b c
  rw [eX0_daysInMonth, bX0_daysInMonth_0, X0_yearStart_ok k d hC h1 h2 hv.2]
  simp only [jbI_some]
  rw [X0_yearStart_ok k d hC h1 h2 hv.1]
  simp only [jbI_some]
  rw [X0_monthDays_ok k d hC h1 h2 (by omega) (by omega) m1 m2 (by omega) (by omega)]
  rfl
theorem X0_monthStart_loop (k : Nat × (Int → Int)) (d : Nat) {σ : St} (hC : CF σ) {c y m yd : Int} (h1 : 0 ≤ c) (h2 : c ≤ 7) (hy1 : 0 ≤ y) (hy2 : y ≤ 5001) (m2 : m ≤ mmx c + 1) (h3 : -100000000 ≤ yd) (h4 : yd ≤ 100000000) (x5 : Int) : ∀ (n : Nat) (x4 x7 : Int), x7 + n = m → 1 ≤ x7 → out (WV k) (EV k (d + 2)) MX0_monthStart 45 [vR 1, vI c, vI y, vI m, vI x4, vI x5, vI yd, vI x7] [] σ = ansI (x4 + (smI (fun j => Mls σ c y j yd) (m - 1) - smI (fun j => Mls σ c y j yd) (x7 - 1))) σ := by
  have hm : mmx c ≤ 53 := by unfold mmx; repeat' split; all_goals omega
  intro n
  induction n with
  | zero =>
    intro x4 x7 e hx
    rw [bX0_monthStart_45, if_neg (by simp (disch := omega) only [w32_id]; omega)]
    exact ansI_c (by rw [show x7 = m by omega]; omega)
  | succ n ih =>
    intro x4 x7 e hx
    rw [bX0_monthStart_45, if_pos (by simp (disch := omega) only [w32_id]; omega), X0_monthDays_ok k d hC h1 h2 hy1 hy2 hx (by omega) h3 h4]
    simp only [jbI_some]
    rw [ih _ _ (by omega) (by omega)]
    have := smI_s (fun j => Mls σ c y j yd) (a := x7 - 1) (by omega)
    rw [show x7 - 1 + 1 = x7 by omega] at this
    exact ansI_c (by rw [show x7 + 1 - 1 = x7 by omega, this]; omega)
theorem X0_monthStart_ok (k : Nat × (Int → Int)) (d : Nat) {σ : St} (hC : CF σ) {c y m : Int} (h1 : 0 ≤ c) (h2 : c ≤ 7) (hy1 : yfst c ≤ y) (hy2 : y ≤ 5000) (hn : c = 7 → 0 < σ 1 2) (m1 : 1 ≤ m) (m2 : m ≤ mmx c) : EV k (d + 3) mX0_monthStart [vR 1, vI c, vI y, vI m] σ = ansI (Ms σ c y m) σ := by
  have hv := YV_of hy1 hy2
  have b1 := Ys_b hC h1 h2 hv.1 hn
  have b2 := Ys_b hC h1 h2 hv.2 hn
  have hf := yfst_b c
  have hm : mmx c ≤ 53 := by unfold mmx; repeat' split; all_goals omega
  rw [eX0_monthStart, bX0_monthStart_0, X0_yearStart_ok k d hC h1 h2 hv.1]
  simp only [jbI_some]
  rw [X0_evenMonthDays_ok k (d + 1) σ h1 h2]
  simp only [jbI_some]
  by_cases c2 : c = 2
  · subst c2
    rw [if_pos (by decide)]
    refine ansI_c ?_
    show _ = Ys σ 2 y + smI (Ml σ 2 y) (m - 1)
    rw [smI_cong (g := fun _ => 30) (fun j j1 j2 => by
      have : mmx 2 = 13 := rfl
      simp [Ml, Mls, mln]; omega), smI_const 30 (by omega)]
    rfl
  by_cases c5 : c = 5
  · subst c5
    rw [if_pos (by decide)]
    refine ansI_c ?_
    show _ = Ys σ 5 y + smI (Ml σ 5 y) (m - 1)
    rw [smI_cong (g := fun _ => 7) (fun j j1 j2 => by simp [Ml, Mls, mln]), smI_const 7 (by omega)]
    rfl
  by_cases c6 : c = 6
  · subst c6
    rw [if_pos (by decide)]
    refine ansI_c ?_
    show _ = Ys σ 6 y + smI (Ml σ 6 y) (m - 1)
    rw [smI_cong (g := fun _ => 20) (fun j j1 j2 => by simp [Ml, Mls, mln]), smI_const 20 (by omega)]
    rfl
  · rw [if_neg c2, if_neg c5, if_neg c6, if_neg (by decide), X0_yearStart_ok k d hC h1 h2 hv.2]
    simp only [jbI_some]
    rw [X0_monthStart_loop k d hC h1 h2 (by omega) (by omega) (by omega) (by omega) (by omega) _ (m - 1).toNat _ _ (by omega) (by omega)]
    exact ansI_c (by show Ys σ c y + (smI (Ml σ c y) (m - 1) - smI _ 0) = Ys σ c y + smI (Ml σ c y) (m - 1); rw [smI_0]; omega)
