/-! whole numbers in range -/
theorem w64_id {a : Int} (h1 : -9223372036854775808 ≤ a) (h2 : a ≤ 9223372036854775807) : w64 a = a := by
  unfold w64
  rw [Int64.toInt_ofInt, show Int64.size = 18446744073709551616 from rfl, Int.bmod_def]
  split <;> omega
theorem w32_w32 (a : Int) : w32 (w32 a) = w32 a := w32_id (w32_lo a).1 (w32_lo a).2
theorem jq_pos {a b : Int} (h1 : 0 ≤ a) (h2 : a ≤ 2147483647) (h3 : 0 ≤ b) (h4 : b ≤ 2147483647) : jq a b = a / b := by
  unfold jq
  rw [w32_id (by omega) h2, w32_id (by omega) h4]
  exact Int.tdiv_eq_ediv_of_nonneg h1
theorem jr_pos {a b : Int} (h1 : 0 ≤ a) (h2 : a ≤ 2147483647) (h3 : 0 ≤ b) (h4 : b ≤ 2147483647) : jr a b = a % b := by
  unfold jr
  rw [w32_id (by omega) h2, w32_id (by omega) h4]
  exact Int.tmod_eq_emod_of_nonneg h1
theorem jlq_pos {a b : Int} (h1 : 0 ≤ a) (h2 : a ≤ 9223372036854775807) (h3 : 0 ≤ b) (h4 : b ≤ 9223372036854775807) : jlq a b = a / b := by
  unfold jlq
  rw [w64_id (by omega) h2, w64_id (by omega) h4]
  exact Int.tdiv_eq_ediv_of_nonneg h1
theorem st2_get (σ : St) (q : Nat) (k v : Int) (p : Nat) (j : Int) : st2 σ q k v p j = if p = q ∧ j = k then v else σ p j := rfl
theorem st2_eq (σ : St) (q : Nat) (k v : Int) : st2 σ q k v q k = v := by simp [st2]
theorem st2_cell {σ : St} {q : Nat} {k v : Int} {p : Nat} (h : p ≠ q) (j : Int) : st2 σ q k v p j = σ p j := by simp [st2, h]
theorem st2_idx {σ : St} {q : Nat} {k v : Int} {p : Nat} {j : Int} (h : j ≠ k) : st2 σ q k v p j = σ p j := by simp [st2, h]
/-- an int's answer -/
abbrev ansI (a : Int) (σ : St) : Option Rt := some (some (vI a), σ)
theorem ansI_c {a b : Int} {σ : St} (h : a = b) : (some (some (vI a), σ) : Option Rt) = some (some (vI b), σ) := by rw [h]
/-! the calendars' numbers; n, r: how many rows there are, and where they begin -/
def yfst (c : Int) : Int := if c = 0 ∨ c = 1 ∨ c = 5 ∨ c = 6 then 0 else 1
def ylst (n c : Int) : Int := if c = 7 then (n + 9) / 10 else 5000
def juln (y : Int) : Int := 365 * y + (y + 3) / 4
def greg (y : Int) : Int := 365 * y + (y + 3) / 4 - (y + 99) / 100 + (y + 399) / 400
def elM (y : Int) : Int := (235 * y - 234) / 19
def elD (y : Int) : Int := 29 * elM y + (12084 + 13753 * elM y) / 25920
def elap (y : Int) : Int := if 3 * (elD y + 1) % 7 < 3 then elD y + 1 else elD y
def cys (y : Int) : Int := if elap (y + 1) - elap y = 356 then elap y + 2 else if 1 < y ∧ elap y - elap (y - 1) = 382 then elap y + 1 else elap y
def clR (n j : Int) : Int := if j < 0 then 0 else if n < j then n else j
def wks (y : Int) : Int := greg y - 57 - (greg y - 57 + 63) % 7
def ysn (n : Int) (r : Int → Int) (c y : Int) : Int := if c = 0 then greg y - 60 else if c = 1 then juln y - 62 else if c = 2 then 365 * (y - 1) + y / 4 else if c = 3 then 354 * (y - 1) + (11 * y + 3) / 30 else if c = 4 then cys y else if c = 5 then wks y else if c = 6 then 360 * y else r (clR n (10 * (y - 1)))
def mis (n c y : Int) : Int := if c = 2 then 13 else if c = 4 then (if (7 * y + 1) % 19 < 7 then 13 else 12) else if c = 5 then (wks (y + 1) - wks y) / 7 else if c = 6 then 18 else if c = 7 then (if 10 ≤ n - 10 * (y - 1) then 10 else n - 10 * (y - 1)) else 12
def sunL (m yd : Int) : Int := if m = 2 then yd - 337 else sunM (m - 1)
def cntL (m yd : Int) : Int := if m = 2 ∧ (yd = 355 ∨ yd = 385) then 30 else if m = 3 ∧ (yd = 353 ∨ yd = 383) then 29 else if (if 360 < yd ∧ 5 < m then m - 1 else m) % 2 = 1 then 30 else 29
def mln (n : Int) (r : Int → Int) (c y m yd : Int) : Int := if c = 0 ∨ c = 1 then sunL m yd else if c = 2 then (if m = 13 then yd - 360 else 30) else if c = 3 then (if m = 12 then yd - 325 else 30 - (m + 1) % 2) else if c = 4 then cntL m yd else if c = 5 then 7 else if c = 6 then 20 else r (clR n (10 * (y - 1) + m)) - r (clR n (10 * (y - 1) + m - 1))
theorem elM_b {y : Int} (h1 : 1 ≤ y) (h2 : y ≤ 5003) : 0 ≤ elM y ∧ elM y ≤ 62000 := by unfold elM; omega
theorem elD_b {y : Int} (h1 : 1 ≤ y) (h2 : y ≤ 5003) : 0 ≤ elD y ∧ elD y ≤ 1900000 := by
  have := elM_b h1 h2
  unfold elD; omega
theorem elap_b {y : Int} (h1 : 1 ≤ y) (h2 : y ≤ 5003) : 0 ≤ elap y ∧ elap y ≤ 1900001 := by
  have := elD_b h1 h2
  unfold elap; split <;> omega
theorem cys_b {y : Int} (h1 : 1 ≤ y) (h2 : y ≤ 5002) : 0 ≤ cys y ∧ cys y ≤ 1900003 := by
  have := elap_b h1 (by omega)
  unfold cys; split
  · omega
  · split <;> omega
/-- what holds of the calendars' own cells -/
def CF (σ : St) : Prop := (0 ≤ σ 1 2 ∧ σ 1 2 ≤ 500) ∧ (∀ y, 1 ≤ y → y ≤ 5001 → σ 8 y = cys y) ∧ (∀ j, 0 ≤ j → j < σ 1 2 → 0 ≤ σ 9 j ∧ σ 9 j < σ 9 (j + 1) ∧ σ 9 (j + 1) ≤ σ 9 j + 200 ∧ σ 9 (j + 1) ≤ 1500001)
theorem rs_b {σ : St} (h : CF σ) {j : Int} (h0 : 0 ≤ j) (h1 : j ≤ σ 1 2) (h2 : 0 < σ 1 2) : 0 ≤ σ 9 j ∧ σ 9 j ≤ 1500001 := by
  by_cases hj : j < σ 1 2
  · have := h.2.2 j h0 hj
    omega
  · have := h.2.2 (j - 1) (by omega) (by omega)
    rw [show j - 1 + 1 = j by omega] at this
    omega
theorem clR_b {n j : Int} (h : 0 ≤ n) : 0 ≤ clR n j ∧ clR n j ≤ n := by unfold clR; split; omega; split <;> omega
