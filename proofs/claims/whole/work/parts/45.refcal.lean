/-! the reference's calendars, in the same words -/
/-- the reference's rows are the component's -/
def MR (σ : St) : Prop := σ 33 0 = σ 1 2 ∧ ∀ j, 0 ≤ j → j < σ 1 2 → σ 34 j = σ 9 j ∧ σ 35 j = σ 9 (j + 1) - σ 9 j
theorem X9_in_ok (k : Nat × (Int → Int)) (d : Nat) (σ : St) {a b c : Int} (a1 : -2147483648 ≤ a) (a2 : a ≤ 2147483647) (b1 : -2147483648 ≤ b) (b2 : b ≤ 2147483647) (c1 : -2147483648 ≤ c) (c2 : c ≤ 2147483647) : EV k (d + 1) mX9_in [vI a, vI b, vI c] σ = ansI (if b ≤ a ∧ a ≤ c then 1 else 0) σ := by
  rw [eX9_in, bX9_in_0]
  simp (disch := omega) only [w32_id]
  repeat' split
  all_goals first | rfl | omega
theorem jlcp_lt {a b : Int} (a1 : -9223372036854775808 ≤ a) (a2 : a ≤ 9223372036854775807) (b1 : -9223372036854775808 ≤ b) (b2 : b ≤ 9223372036854775807) : jlcp a b = if b < a then 1 else if a = b then 0 else -1 := by
  unfold jlcp
  rw [w64_id a1 a2, w64_id b1 b2]
theorem X9_isDay_ok (k : Nat × (Int → Int)) (d : Nat) (σ : St) {a : Int} (a1 : -9223372036854775808 ≤ a) (a2 : a ≤ 9223372036854775807) : EV k (d + 1) mX9_isDay [vL a] σ = ansI (if 0 ≤ a ∧ a ≤ 1500000 then 1 else 0) σ := by
  rw [eX9_isDay, bX9_isDay_0, jlcp_lt a1 a2 (by omega) (by omega), jlcp_lt a1 a2 (by omega) (by omega)]
  have e1 : w32 1 = 1 := by decide
  have e0 : w32 0 = 0 := by decide
  have em : w32 (-1) = -1 := by decide
  repeat' split
  all_goals first | rfl | omega
theorem jr_neg {a b : Int} (a1 : -2147483648 ≤ a) (a2 : a ≤ 2147483647) (b1 : 1 ≤ b) (b2 : b ≤ 2147483647) : (if jr a b < 0 then jr a b + b else jr a b) = a % b := by
  have e : jr a b = a.tmod b := by unfold jr; rw [w32_id a1 a2, w32_id (by omega) b2]
  rw [e, Int.tmod_eq_emod]
  have h1 := Int.emod_nonneg a (show b ≠ 0 by omega)
  have h2 := Int.emod_lt_of_pos a (show 0 < b by omega)
  have hb : (b.natAbs : Int) = b := by omega
  split
  · split <;> omega
  · rw [hb]
    rename_i hq
    have : a % b ≠ 0 := by
      intro z
      exact hq (Or.inr (Int.dvd_of_emod_eq_zero z))
    split <;> omega
theorem jr_rng {a b : Int} (a1 : -2147483648 ≤ a) (a2 : a ≤ 2147483647) (b1 : 1 ≤ b) (b2 : b ≤ 2147483647) : -b < jr a b ∧ jr a b < b := by
  have e : jr a b = a.tmod b := by unfold jr; rw [w32_id a1 a2, w32_id (by omega) b2]
  rw [e]
  exact tmod_bounds (by omega)
theorem X9_rest_ok (k : Nat × (Int → Int)) (d : Nat) (σ : St) {a b : Int} (a1 : -2147483648 ≤ a) (a2 : a ≤ 2147483647) (b1 : 1 ≤ b) (b2 : b ≤ 1000000000) : EV k (d + 1) mX9_rest [vI a, vI b] σ = ansI (a % b) σ := by
  have hr := jr_rng a1 a2 b1 (show b ≤ 2147483647 by omega)
  rw [eX9_rest, bX9_rest_0, if_neg (by rw [w32_id (by omega) (by omega)]; omega), w32_id (by omega) (by omega)]
  have := jr_neg a1 a2 b1 (show b ≤ 2147483647 by omega)
  split
  · rename_i q
    rw [if_pos q] at this
    exact ansI_c this
  · rename_i q
    rw [if_neg q] at this
    exact ansI_c this
theorem X9_firstYear_ok (k : Nat × (Int → Int)) (d : Nat) (σ : St) {c : Int} (h1 : 0 ≤ c) (h2 : c ≤ 7) : EV k (d + 1) mX9_firstYear [vI c] σ = ansI (yfst c) σ := by
  rw [eX9_firstYear, bX9_firstYear_0]
  simp (disch := omega) only [w32_id]
  unfold yfst
  repeat' split
  all_goals first | rfl | omega
theorem X9_isYear_ok (k : Nat × (Int → Int)) (d : Nat) {σ : St} (hC : CF σ) (hM : MR σ) {c y : Int} (h1 : 0 ≤ c) (h2 : c ≤ 7) (h3 : -2147483648 ≤ y) (h4 : y ≤ 2147483647) : EV k (d + 2) mX9_isYear [vR 33, vI c, vI y] σ = ansI (if yfst c ≤ y ∧ y ≤ ylst (σ 1 2) c then 1 else 0) σ := by
  have := hC.1
  have hf := yfst_b c
  rw [eX9_isYear, bX9_isYear_0, X9_firstYear_ok k d σ h1 h2]
  simp only [jbI_some]
  rw [hM.1]
  simp (disch := omega) only [w32_id, jq_pos]
  unfold ylst
  repeat' split
  all_goals first | rfl | omega
theorem X9_isLeap_ok (k : Nat × (Int → Int)) (d : Nat) (σ : St) {c y : Int} (hc : c = 0 ∨ c = 1) (h1 : 0 ≤ y) (h2 : y ≤ 5002) : EV k (d + 1) mX9_isLeap [vI c, vI y] σ = ansI (if y % 4 = 0 ∧ (c = 1 ∨ y % 100 ≠ 0 ∨ y % 400 = 0) then 1 else 0) σ := by
  rw [eX9_isLeap, bX9_isLeap_0]
  simp (disch := omega) only [w32_id, jr_pos]
  repeat' split
  all_goals first | rfl | omega
def mleap (r : Int) : Bool := r == 2 || r == 5 || r == 7 || r == 10 || r == 13 || r == 16 || r == 18 || r == 21 || r == 24 || r == 26 || r == 29
theorem X9_isMoonLeap_ok (k : Nat × (Int → Int)) (d : Nat) (σ : St) {y : Int} (h1 : 0 ≤ y) (h2 : y ≤ 5002) : EV k (d + 1) mX9_isMoonLeap [vI y] σ = ansI (if mleap (y % 30) = true then 1 else 0) σ := by
  rw [eX9_isMoonLeap, bX9_isMoonLeap_0, jr_pos (by omega) (by omega) (by omega) (by omega), w32_id (by omega) (by omega)]
  generalize y % 30 = r
  simp only [show w32 2 = 2 by decide, show w32 5 = 5 by decide, show w32 7 = 7 by decide, show w32 10 = 10 by decide, show w32 13 = 13 by decide, show w32 16 = 16 by decide, show w32 18 = 18 by decide, show w32 21 = 21 by decide, show w32 24 = 24 by decide, show w32 26 = 26 by decide, show w32 29 = 29 by decide]
  unfold mleap
  simp only [Bool.or_eq_true, beq_iff_eq]
  repeat' split
  all_goals first | rfl | omega
/-- leap moons among the first r -/
def mlc (r : Int) : Int := (11 * r + 14) / 30
theorem mlc_tab : ∀ r : Nat, r < 30 → (mlc ((r : Int) + 1) = mlc r + (if mleap ((r : Int) + 1) = true then 1 else 0) ∨ r = 29) := by decide +kernel
theorem mleap_iff : ∀ r : Nat, r < 30 → (mleap (r : Int) = true ↔ 19 ≤ (11 * (r : Int) + 3) % 30) := by decide +kernel
theorem mleap_len {y : Int} (h : 0 ≤ y) : (11 * (y + 1) + 3) / 30 - (11 * y + 3) / 30 = if mleap (y % 30) = true then 1 else 0 := by
  have := mleap_iff (y % 30).toNat (by omega)
  rw [show (((y % 30).toNat : Nat) : Int) = y % 30 by omega] at this
  have e3 : (11 * (y % 30) + 3) % 30 = (11 * y + 3) % 30 := by omega
  rw [e3] at this
  split
  · rename_i q
    have := this.mp q
    omega
  · rename_i q
    have : ¬ 19 ≤ (11 * y + 3) % 30 := fun z => q (this.mpr z)
    omega
theorem X9_moonLeaps_loop (k : Nat × (Int → Int)) (d : Nat) (σ : St) {x : Int} (h1 : 0 ≤ x) (h2 : x ≤ 5002) : ∀ (t : Nat) (x1 x2 : Int), x2 + t = x % 30 + 1 → 1 ≤ x2 → out (WV k) (EV k (d + 1)) MX9_moonLeaps 10 [vI x, vI x1, vI x2] [] σ = ansI (x1 + (mlc (x % 30) - mlc (x2 - 1))) σ := by
  intro t
  induction t with
  | zero =>
    intro x1 x2 e hx
    rw [bX9_moonLeaps_10, if_pos (by simp (disch := omega) only [w32_id, jr_pos]; omega)]
    exact ansI_c (by rw [show x2 - 1 = x % 30 by omega]; omega)
  | succ t ih =>
    intro x1 x2 e hx
    rw [bX9_moonLeaps_10, if_neg (by simp (disch := omega) only [w32_id, jr_pos]; omega), X9_isMoonLeap_ok k d σ (by omega) (by omega)]
    simp only [jbI_some]
    have hm : x2 % 30 = x2 := by omega
    have tb := mlc_tab (x2 - 1).toNat (by omega)
    rw [show (((x2 - 1).toNat : Nat) : Int) = x2 - 1 by omega, show x2 - 1 + 1 = x2 by omega] at tb
    rw [hm]
    by_cases q : mleap x2 = true
    · rw [if_pos q] at tb ⊢
      rw [if_neg (by decide), ih _ _ (by omega) (by omega)]
      exact ansI_c (by rw [show x2 + 1 - 1 = x2 by omega]; omega)
    · rw [if_neg q] at tb ⊢
      rw [if_pos (by decide), ih _ _ (by omega) (by omega)]
      exact ansI_c (by rw [show x2 + 1 - 1 = x2 by omega]; omega)
theorem X9_moonLeaps_ok (k : Nat × (Int → Int)) (d : Nat) (σ : St) {x : Int} (h1 : 0 ≤ x) (h2 : x ≤ 5002) : EV k (d + 2) mX9_moonLeaps [vI x] σ = ansI ((11 * (x + 1) + 3) / 30) σ := by
  rw [eX9_moonLeaps, bX9_moonLeaps_0, X9_moonLeaps_loop k d σ h1 h2 (x % 30).toNat _ _ (by omega) (by omega), jq_pos (by omega) (by omega) (by omega) (by omega)]
  exact ansI_c (by unfold mlc; omega)
theorem X9_isLong_ok (k : Nat × (Int → Int)) (d : Nat) (σ : St) {y : Int} (h1 : 0 ≤ y) (h2 : y ≤ 5002) : EV k (d + 1) mX9_isLong [vI y] σ = ansI (if (7 * y + 1) % 19 < 7 then 1 else 0) σ := by
  rw [eX9_isLong, bX9_isLong_0]
  simp (disch := omega) only [w32_id, jr_pos]
  split <;> rfl
theorem X9_elapsed_ok (k : Nat × (Int → Int)) (d : Nat) (σ : St) {y : Int} (h1 : 1 ≤ y) (h2 : y ≤ 5003) : EV k (d + 2) mX9_elapsed [vI y] σ = ansI (elap y) σ := by
  have hm := elM_b h1 h2
  have hd := elD_b h1 h2
  rw [eX9_elapsed, bX9_elapsed_0]
  have e1 : jq (235 * y - 234) 19 = elM y := by rw [jq_pos (by omega) (by omega) (by omega) (by omega)]; rfl
  rw [e1]
  have e2 : 29 * elM y + jq (12084 + 13753 * elM y) 25920 = elD y := by rw [jq_pos (by omega) (by omega) (by omega) (by omega)]; rfl
  rw [e2, X9_rest_ok k d σ (by omega) (by omega) (by omega) (by omega)]
  simp (disch := omega) only [jbI_some, w32_id]
  unfold elap
  split
  · rfl
  · exact ansI_c (by omega)
theorem X9_elapsed_0 (k : Nat × (Int → Int)) (d : Nat) (σ : St) : EV k (d + 2) mX9_elapsed [vI 0] σ = ansI (-352) σ := by
  rw [eX9_elapsed, bX9_elapsed_0]
  have e1 : jq (235 * 0 - 234) 19 = -12 := by decide
  rw [e1]
  have e2 : 29 * (-12) + jq (12084 + 13753 * (-12)) 25920 = -353 := by decide
  rw [e2, X9_rest_ok k d σ (by omega) (by omega) (by omega) (by omega)]
  simp only [jbI_some]
  rw [if_pos (by decide)]
  rfl
theorem X9_newYear_ok (k : Nat × (Int → Int)) (d : Nat) (σ : St) {y : Int} (h1 : 1 ≤ y) (h2 : y ≤ 5002) : EV k (d + 3) mX9_newYear [vI y] σ = ansI (cys y) σ := by
  have a1 := elap_b h1 (show y ≤ 5003 by omega)
  have a2 := elap_b (show 1 ≤ y + 1 by omega) (show y + 1 ≤ 5003 by omega)
  rw [eX9_newYear, bX9_newYear_0, X9_elapsed_ok k d σ h1 (by omega)]
  simp only [jbI_some]
  rw [X9_elapsed_ok k d σ (y := y + 1) (by omega) (by omega)]
  simp (disch := omega) only [jbI_some, w32_id]
  unfold cys
  by_cases c1 : elap (y + 1) - elap y = 356
  · rw [if_pos c1, if_pos c1]
  · rw [if_neg c1, if_neg c1]
    by_cases c2 : 1 < y
    · have a3 := elap_b (show 1 ≤ y - 1 by omega) (show y - 1 ≤ 5003 by omega)
      rw [X9_elapsed_ok k d σ (y := y - 1) (by omega) (by omega)]
      simp (disch := omega) only [jbI_some, w32_id]
      by_cases c3 : elap y - elap (y - 1) = 382
      · rw [if_pos c3, if_pos ⟨c2, c3⟩]
      · rw [if_neg c3, if_neg (fun h => c3 h.2)]
        exact ansI_c (by omega)
    · obtain rfl : y = 1 := by omega
      rw [show (1 : Int) - 1 = 0 from rfl, X9_elapsed_0]
      simp only [jbI_some]
      rw [show elap 1 = 0 by decide, if_neg (by decide), if_neg (by decide)]
      rfl
theorem X9_start_ok (k : Nat × (Int → Int)) (d : Nat) (σ : St) {c y : Int} (h1 : 0 ≤ c) (h2 : c ≤ 6) (hy : YV c y) : EV k (d + 4) mX9_start [vI c, vI y] σ = ansI (Ys σ c y) σ := by
  obtain ⟨y0, y2, y3⟩ := hy
  have hf := yfst_b c
  have y1 : 0 ≤ y := by omega
  have hg := greg_b y1 y2
  rw [eX9_start, bX9_start_0]
  have e1 : 365 * y + jq (y + 3) 4 - jq (y + 99) 100 + jq (y + 399) 400 = greg y := by
    rw [jq_pos (by omega) (by omega) (by omega) (by omega), jq_pos (by omega) (by omega) (by omega) (by omega), jq_pos (by omega) (by omega) (by omega) (by omega)]; rfl
  rw [e1]
  unfold Ys ysn
  by_cases c0 : c = 0
  · subst c0; rfl
  by_cases c1 : c = 1
  · subst c1
    simp (disch := omega) [w32_id, jq_pos, juln]
  by_cases c2 : c = 2
  · subst c2
    simp (disch := omega) [w32_id, jq_pos]
  by_cases c3 : c = 3
  · subst c3
    rw [X9_moonLeaps_ok k (d + 1) σ (by omega) (by omega)]
    simp (disch := omega) [w32_id, jbI_some]
  by_cases c4 : c = 4
  · subst c4
    rw [X9_newYear_ok k d σ (by omega) (by omega)]
    simp (disch := omega) only [w32_id, jbI_some]
    rw [X9_newYear_ok k d σ (by omega) (by omega), cys_1]
    simp [jbI_some]
  by_cases c5 : c = 5
  · subst c5
    rw [X9_rest_ok k (d + 2) σ (by omega) (by omega) (by omega) (by omega)]
    simp (disch := omega) [w32_id, jbI_some]
    unfold wks
    omega
  · obtain rfl : c = 6 := by omega
    simp (disch := omega) [w32_id]
theorem X9_monthsIn_ok (k : Nat × (Int → Int)) (d : Nat) {σ : St} (hC : CF σ) (hM : MR σ) {c y : Int} (h1 : 0 ≤ c) (h2 : c ≤ 7) (hy1 : 0 ≤ y) (hy2 : y ≤ 5001) : EV k (d + 5) mX9_monthsIn [vR 33, vI c, vI y] σ = ansI (Mi σ c y) σ := by
  have hn := hC.1
  rw [eX9_monthsIn, bX9_monthsIn_0, hM.1]
  unfold Mi mis
  by_cases c0 : c = 0
  · subst c0; rfl
  by_cases c1 : c = 1
  · subst c1; rfl
  by_cases c2 : c = 2
  · subst c2; rfl
  by_cases c3 : c = 3
  · subst c3; rfl
  by_cases c4 : c = 4
  · subst c4
    rw [X9_isLong_ok k (d + 3) σ (by omega) (by omega)]
    simp (disch := omega) only [w32_id, jbI_some]
    by_cases q : (7 * y + 1) % 19 < 7
    · simp [q, show w32 1 = 1 by decide]
    · simp [q, show w32 0 = 0 by decide]
  by_cases c5 : c = 5
  · subst c5
    have b1 := wks_b hy1 (show y ≤ 5002 by omega)
    have b2 := wks_b (show 0 ≤ y + 1 by omega) (show y + 1 ≤ 5002 by omega)
    have b3 := wks_len hy1
    rw [X9_start_ok k d σ (by decide) (by decide) (show YV 5 (y + 1) from ⟨by have := yfst_b 5; omega, by omega, fun h => by omega⟩)]
    simp (disch := omega) only [w32_id, jbI_some]
    rw [X9_start_ok k d σ (by decide) (by decide) (show YV 5 y from ⟨by rw [show yfst 5 = 0 from rfl]; omega, by omega, fun h => by omega⟩)]
    simp only [jbI_some, Ys5]
    rw [jq_pos (by omega) (by omega) (by omega) (by omega)]
    rfl
  by_cases c6 : c = 6
  · subst c6; rfl
  · obtain rfl : c = 7 := by omega
    simp (disch := omega) only [w32_id]
    simp
    repeat' split
    all_goals first | rfl | omega | (exact ansI_c (by omega)) | skip
theorem greg_leap (y : Int) : greg (y + 1) - greg y = if y % 4 = 0 ∧ (y % 100 ≠ 0 ∨ y % 400 = 0) then 366 else 365 := by
  unfold greg
  have a : (y + 1 + 3) / 4 - (y + 3) / 4 = if y % 4 = 0 then 1 else 0 := by split <;> omega
  have b : (y + 1 + 99) / 100 - (y + 99) / 100 = if y % 100 = 0 then 1 else 0 := by split <;> omega
  have c : (y + 1 + 399) / 400 - (y + 399) / 400 = if y % 400 = 0 then 1 else 0 := by split <;> omega
  have e : 365 * (y + 1) + (y + 1 + 3) / 4 - (y + 1 + 99) / 100 + (y + 1 + 399) / 400 - (365 * y + (y + 3) / 4 - (y + 99) / 100 + (y + 399) / 400) = 365 + ((y + 1 + 3) / 4 - (y + 3) / 4) - ((y + 1 + 99) / 100 - (y + 99) / 100) + ((y + 1 + 399) / 400 - (y + 399) / 400) := by omega
  rw [e, a, b, c]
  have d1 : y % 100 = 0 → y % 4 = 0 := by omega
  have d2 : y % 400 = 0 → y % 100 = 0 := by omega
  repeat' split
  all_goals omega
theorem juln_leap (y : Int) : juln (y + 1) - juln y = if y % 4 = 0 then 366 else 365 := by
  unfold juln
  split <;> omega
theorem sunL_tab {m yd : Int} (m1 : 1 ≤ m) (m2 : m ≤ 12) : sunL m yd = if m = 2 then yd - 337 else if m = 4 ∨ m = 6 ∨ m = 9 ∨ m = 11 then 30 else 31 := by
  have : m = 1 ∨ m = 2 ∨ m = 3 ∨ m = 4 ∨ m = 5 ∨ m = 6 ∨ m = 7 ∨ m = 8 ∨ m = 9 ∨ m = 10 ∨ m = 11 ∨ m = 12 := by omega
  rcases this with rfl | rfl | rfl | rfl | rfl | rfl | rfl | rfl | rfl | rfl | rfl | rfl <;> simp [sunL, sunM]
theorem w32_1 : w32 1 = 1 := by decide
theorem X9_lengthOf_ok (k : Nat × (Int → Int)) (d : Nat) {σ : St} (hC : CF σ) (hM : MR σ) {c y m : Int} (h1 : 0 ≤ c) (h2 : c ≤ 7) (hy1 : yfst c ≤ y) (hy2 : y ≤ ylst (σ 1 2) c) (m1 : 1 ≤ m) (m2 : m ≤ Mi σ c y) : EV k (d + 5) mX9_lengthOf [vR 33, vI c, vI y, vI m] σ = ansI (Ml σ c y m) σ := by
  have hn := hC.1
  have hf := yfst_b c
  have hl := ylst_b (c := c) hC.1.1 hC.1.2
  rw [eX9_lengthOf, bX9_lengthOf_0]
  by_cases c0 : c = 0
  · subst c0
    have m3 : m ≤ 12 := m2
    have e : Ml σ 0 y m = sunL m (greg (y + 1) - greg y) := by show sunL m _ = sunL m _; congr 1; show greg (y + 1) - 60 - (greg y - 60) = _; omega
    rw [e, sunL_tab m1 m3, greg_leap, if_pos (by decide), X9_isLeap_ok k (d + 3) σ (Or.inl rfl) (by omega) (by omega)]
    simp (disch := omega) only [w32_id, jbI_some]
    by_cases q : m = 2
    · subst q
      by_cases q2 : y % 4 = 0 ∧ (y % 100 ≠ 0 ∨ y % 400 = 0)
      · rw [if_pos (show y % 4 = 0 ∧ ((0 : Int) = 1 ∨ y % 100 ≠ 0 ∨ y % 400 = 0) by omega)]
        simp [q2, w32_1]
      · rw [if_neg (show ¬ (y % 4 = 0 ∧ ((0 : Int) = 1 ∨ y % 100 ≠ 0 ∨ y % 400 = 0)) by omega)]
        simp [q2, w32_0]
    · simp only [if_neg q]
      repeat' split
      all_goals first | rfl | omega
  by_cases c1 : c = 1
  · subst c1
    have m3 : m ≤ 12 := m2
    have e : Ml σ 1 y m = sunL m (juln (y + 1) - juln y) := by show sunL m _ = sunL m _; congr 1; show juln (y + 1) - 62 - (juln y - 62) = _; omega
    rw [e, sunL_tab m1 m3, juln_leap, if_neg (by decide), if_pos (by decide), X9_isLeap_ok k (d + 3) σ (Or.inr rfl) (by omega) (by omega)]
    simp (disch := omega) only [w32_id, jbI_some]
    by_cases q : m = 2
    · subst q
      by_cases q2 : y % 4 = 0
      · simp [q2, w32_1]
      · simp [q2, w32_0]
    · simp only [if_neg q]
      repeat' split
      all_goals first | rfl | omega
  by_cases c2 : c = 2
  · subst c2
    have m3 : m ≤ 13 := m2
    have e : Ml σ 2 y m = if m = 13 then 365 * (y + 1 - 1) + (y + 1) / 4 - (365 * (y - 1) + y / 4) - 360 else 30 := rfl
    rw [e, if_neg (by decide), if_neg (by decide), if_pos (by decide), jr_pos (by omega) (by omega) (by omega) (by omega), w32_id (a := m) (by omega) (by omega), w32_id (a := y % 4) (by omega) (by omega), show w32 13 = 13 by decide, show w32 3 = 3 by decide]
    by_cases q : m = 13
    · rw [if_neg (by omega), if_pos q]
      split
      · exact ansI_c (by omega)
      · exact ansI_c (by omega)
    · rw [if_pos (by omega), if_neg q]
  by_cases c3 : c = 3
  · subst c3
    have m3 : m ≤ 12 := m2
    have e : Ml σ 3 y m = if m = 12 then 354 * (y + 1 - 1) + (11 * (y + 1) + 3) / 30 - (354 * (y - 1) + (11 * y + 3) / 30) - 325 else 30 - (m + 1) % 2 := rfl
    have ml := mleap_len (y := y) (by omega)
    rw [e, if_neg (by decide), if_neg (by decide), if_neg (by decide), if_pos (by decide), X9_isMoonLeap_ok k (d + 3) σ (by omega) (by omega)]
    simp (disch := omega) only [w32_id, jr_pos, jbI_some]
    by_cases q : m = 12
    · subst q
      by_cases q2 : mleap (y % 30) = true
      · rw [if_pos q2] at ml
        simp [q2, w32_1]; omega
      · rw [if_neg q2] at ml
        simp [q2, w32_0]; omega
    · simp only [if_neg q]
      repeat' split
      all_goals first | rfl | exact ansI_c (by omega) | omega
  by_cases c4 : c = 4
  · subst c4
    have y1 : 1 ≤ y := by omega
    have y2 : y ≤ 5000 := by omega
    have hc := cys_len y1 y2
    have hb1 := cys_b y1 (show y ≤ 5002 by omega)
    have hb2 := cys_b (show 1 ≤ y + 1 by omega) (show y + 1 ≤ 5002 by omega)
    have m3 : m ≤ 13 := by
      have : Mi σ 4 y ≤ 13 := by show (if (7 * y + 1) % 19 < 7 then 13 else 12 : Int) ≤ 13; split <;> omega
      omega
    have e : Ml σ 4 y m = cntL m (cys (y + 1) - cys y) := rfl
    have s4 : ∀ z, Ys σ 4 z = cys z := fun z => rfl
    rw [e, if_neg (by decide), if_neg (by decide), if_neg (by decide), if_neg (by decide), if_pos (by decide), X9_start_ok k d σ (by decide) (by decide) (show YV 4 (y + 1) from ⟨by have := yfst_b 4; omega, by omega, fun _ => by omega⟩)]
    simp only [jbI_some]
    rw [X9_start_ok k d σ (by decide) (by decide) (show YV 4 y from ⟨by have := yfst_b 4; omega, by omega, fun _ => by omega⟩)]
    simp only [jbI_some, s4]
    generalize hq : cys (y + 1) - cys y = q at hc ⊢
    have hq2 : -1000 ≤ q ∧ q ≤ 1000 := by revert hc; split <;> omega
    rw [X9_isLong_ok k (d + 3) σ (by omega) (by omega)]
    simp (disch := omega) only [w32_id, jr_pos, jbI_some]
    unfold cntL
    by_cases lg : (7 * y + 1) % 19 < 7
    · rw [if_pos lg] at hc
      simp only [lg, if_true, w32_1]
      simp
      repeat' split
      all_goals first | rfl | omega
    · rw [if_neg lg] at hc
      simp only [lg, if_false, w32_0]
      simp
      repeat' split
      all_goals first | rfl | omega
  by_cases c5 : c = 5
  · subst c5; rfl
  by_cases c6 : c = 6
  · subst c6; rfl
  · obtain rfl : c = 7 := by omega
    have b3 : 10 * (y - 1) + Mi σ 7 y ≤ σ 1 2 := by show 10 * (y - 1) + (if 10 ≤ σ 1 2 - 10 * (y - 1) then 10 else σ 1 2 - 10 * (y - 1)) ≤ σ 1 2; split <;> omega
    have b4 : Mi σ 7 y ≤ 10 := by show (if 10 ≤ σ 1 2 - 10 * (y - 1) then 10 else σ 1 2 - 10 * (y - 1)) ≤ 10; split <;> omega
    have hy3 : 1 ≤ y := hy1
    rw [if_neg (by decide), if_neg (by decide), if_neg (by decide), if_neg (by decide), if_neg (by decide), if_neg (by decide), if_neg (by decide), w32_id (by omega) (by omega), if_pos (by omega), (hM.2 _ (by omega) (by omega)).2]
    refine ansI_c ?_
    show _ = σ 9 (clR (σ 1 2) (10 * (y - 1) + m)) - σ 9 (clR (σ 1 2) (10 * (y - 1) + m - 1))
    have k1 : clR (σ 1 2) (10 * (y - 1) + m) = 10 * (y - 1) + m - 1 + 1 := by unfold clR; rw [if_neg (by omega), if_neg (by omega)]; omega
    have k2 : clR (σ 1 2) (10 * (y - 1) + m - 1) = 10 * (y - 1) + m - 1 := by unfold clR; rw [if_neg (by omega), if_neg (by omega)]
    rw [k1, k2]
/-- where a month begins, in rows -/
theorem Ms7 {σ : St} (hC : CF σ) {y m : Int} (hy1 : 1 ≤ y) (m1 : 1 ≤ m) (m2 : m ≤ Mi σ 7 y) (hy2 : y ≤ (σ 1 2 + 9) / 10) : Ms σ 7 y m = σ 9 (10 * (y - 1) + m - 1) ∧ 10 * (y - 1) + m ≤ σ 1 2 ∧ m ≤ 10 := by
  have hn := hC.1
  have b3 : 10 * (y - 1) + Mi σ 7 y ≤ σ 1 2 := by show 10 * (y - 1) + (if 10 ≤ σ 1 2 - 10 * (y - 1) then 10 else σ 1 2 - 10 * (y - 1)) ≤ σ 1 2; split <;> omega
  have b4 : Mi σ 7 y ≤ 10 := by show (if 10 ≤ σ 1 2 - 10 * (y - 1) then 10 else σ 1 2 - 10 * (y - 1)) ≤ 10; split <;> omega
  refine ⟨?_, by omega, by omega⟩
  show σ 9 (clR (σ 1 2) (10 * (y - 1))) + smI (fun m => (fun j => σ 9 (clR (σ 1 2) j)) (10 * (y - 1) + m) - (fun j => σ 9 (clR (σ 1 2) j)) (10 * (y - 1) + m - 1)) (m - 1) = _
  rw [smI_tele (fun j => σ 9 (clR (σ 1 2) j)) (10 * (y - 1)) (by omega)]
  show σ 9 (clR (σ 1 2) (10 * (y - 1))) + (σ 9 (clR (σ 1 2) (10 * (y - 1) + (m - 1))) - σ 9 (clR (σ 1 2) (10 * (y - 1)))) = _
  have k1 : clR (σ 1 2) (10 * (y - 1) + (m - 1)) = 10 * (y - 1) + m - 1 := by unfold clR; rw [if_neg (by omega), if_neg (by omega)]; omega
  rw [k1]; omega
theorem X9_monthStart_loop (k : Nat × (Int → Int)) (d : Nat) {σ : St} (hC : CF σ) (hM : MR σ) {c y m : Int} (h1 : 0 ≤ c) (h2 : c ≤ 7) (hy1 : yfst c ≤ y) (hy2 : y ≤ ylst (σ 1 2) c) (m2 : m ≤ Mi σ c y) : ∀ (n : Nat) (x4 x5 : Int), x5 + n = m → 1 ≤ x5 → out (WV k) (EV k (d + 5)) MX9_monthStart 47 [vR 33, vI c, vI y, vI m, vI x4, vI x5] [] σ = ansI (x4 + (smI (Ml σ c y) (m - 1) - smI (Ml σ c y) (x5 - 1))) σ := by
  have hm : mmx c ≤ 53 := by unfold mmx; repeat' split; all_goals omega
  have k2 := (KF_all hC h1 h2 hy1 hy2).2.1
  intro n
  induction n with
  | zero =>
    intro x4 x5 e hx
    rw [bX9_monthStart_47, if_neg (by simp (disch := omega) only [w32_id]; omega)]
    exact ansI_c (by rw [show x5 = m by omega]; omega)
  | succ n ih =>
    intro x4 x5 e hx
    rw [bX9_monthStart_47, if_pos (by simp (disch := omega) only [w32_id]; omega), X9_lengthOf_ok k d hC hM h1 h2 hy1 hy2 hx (by omega)]
    simp only [jbI_some]
    rw [ih _ _ (by omega) (by omega)]
    have := smI_s (Ml σ c y) (a := x5 - 1) (by omega)
    rw [show x5 - 1 + 1 = x5 by omega] at this
    exact ansI_c (by rw [show x5 + 1 - 1 = x5 by omega, this]; omega)
theorem X9_monthStart_ok (k : Nat × (Int → Int)) (d : Nat) {σ : St} (hC : CF σ) (hM : MR σ) {c y m : Int} (h1 : 0 ≤ c) (h2 : c ≤ 7) (hy1 : yfst c ≤ y) (hy2 : y ≤ ylst (σ 1 2) c) (m1 : 1 ≤ m) (m2 : m ≤ Mi σ c y) : EV k (d + 6) mX9_monthStart [vR 33, vI c, vI y, vI m] σ = ansI (Ms σ c y m) σ := by
  have hl := ylst_b (c := c) hC.1.1 hC.1.2
  have hv := YV_of hy1 (show y ≤ 5000 by omega)
  have hn := hC.1
  rw [eX9_monthStart, bX9_monthStart_0]
  by_cases c7 : c = 7
  · subst c7
    have hq := Ms7 hC hy1 m1 m2 hy2
    have hy3 : 1 ≤ y := hy1
    rw [if_pos (by decide), w32_id (by omega) (by omega), if_pos (by omega), (hM.2 _ (by omega) (by omega)).1]
    exact ansI_c hq.1.symm
  · rw [if_neg (by rw [w32_id (by omega) (by omega)]; exact c7), X9_start_ok k (d + 1) σ h1 (by omega) hv.1]
    simp only [jbI_some]
    by_cases c5 : c = 5
    · subst c5
      rw [if_pos (by decide)]
      refine ansI_c ?_
      show _ = Ys σ 5 y + smI (Ml σ 5 y) (m - 1)
      rw [smI_cong (g := fun _ => 7) (fun j j1 j2 => by simp [Ml, Mls, mln]), smI_const 7 (by omega)]
    · rw [if_neg (by rw [w32_id (by omega) (by omega)]; exact c5), X9_monthStart_loop k d hC hM h1 h2 hy1 hy2 m2 (m - 1).toNat _ _ (by omega) (by omega)]
      exact ansI_c (by show Ys σ c y + (smI (Ml σ c y) (m - 1) - smI (Ml σ c y) 0) = Ys σ c y + smI (Ml σ c y) (m - 1); rw [smI_0]; omega)
theorem X9_isMonth_ok (k : Nat × (Int → Int)) (d : Nat) {σ : St} (hC : CF σ) (hM : MR σ) {c y m : Int} (h1 : 0 ≤ c) (h2 : c ≤ 7) (h3 : -2147483648 ≤ y) (h4 : y ≤ 2147483647) (h5 : -2147483648 ≤ m) (h6 : m ≤ 2147483647) : EV k (d + 6) mX9_isMonth [vR 33, vI c, vI y, vI m] σ = ansI (if yfst c ≤ y ∧ y ≤ ylst (σ 1 2) c ∧ 1 ≤ m ∧ m ≤ Mi σ c y then 1 else 0) σ := by
  have hl := ylst_b (c := c) hC.1.1 hC.1.2
  have hf := yfst_b c
  rw [eX9_isMonth, bX9_isMonth_0, X9_isYear_ok k (d + 3) hC hM h1 h2 h3 h4]
  simp only [jbI_some]
  by_cases q : yfst c ≤ y ∧ y ≤ ylst (σ 1 2) c
  · have kk := KF_all hC h1 h2 q.1 q.2
    have hmm : mmx c ≤ 53 := by unfold mmx; repeat' split; all_goals omega
    have k1 := kk.1
    have k2 := kk.2.1
    rw [if_pos q, if_neg (by decide), X9_monthsIn_ok k d hC hM h1 h2 (by omega) (by omega)]
    simp (disch := omega) only [jbI_some, w32_id]
    repeat' split
    all_goals first | rfl | omega
  · rw [if_neg q, if_pos (by decide), if_neg (by omega)]
theorem X0_hasMonth_ok (k : Nat × (Int → Int)) (d : Nat) {σ : St} (hC : CF σ) {c y m : Int} (h1 : 0 ≤ c) (h2 : c ≤ 7) (h3 : -2147483648 ≤ y) (h4 : y ≤ 2147483647) (h5 : -2147483648 ≤ m) (h6 : m ≤ 2147483647) : EV k (d + 4) mX0_hasMonth [vR 1, vI c, vI y, vI m] σ = ansI (if yfst c ≤ y ∧ y ≤ ylst (σ 1 2) c ∧ 1 ≤ m ∧ m ≤ Mi σ c y then 1 else 0) σ := by
  have hl := ylst_b (c := c) hC.1.1 hC.1.2
  have hf := yfst_b c
  rw [eX0_hasMonth, bX0_hasMonth_0, X0_hasYear_ok k (d + 1) hC h1 h2 h3 h4]
  simp only [jbI_some]
  by_cases q : yfst c ≤ y ∧ y ≤ ylst (σ 1 2) c
  · have kk := KF_all hC h1 h2 q.1 q.2
    have hmm : mmx c ≤ 53 := by unfold mmx; repeat' split; all_goals omega
    have k1 := kk.1
    have k2 := kk.2.1
    rw [if_pos q, if_neg (by decide), X0_monthsIn_M k d hC h1 h2 (by omega) (by omega)]
    simp (disch := omega) only [jbI_some, w32_id]
    repeat' split
    all_goals first | rfl | omega
  · rw [if_neg q, if_pos (by decide), if_neg (by omega)]
