
theorem x32_neg (x y : Int32) : (x ^^^ y).toInt < 0 ↔ ¬ (x.toInt < 0 ↔ y.toInt < 0) := by
  have h := BitVec.msb_xor (x := x.toBitVec) (y := y.toBitVec)
  rw [BitVec.msb_eq_toInt, BitVec.msb_eq_toInt, BitVec.msb_eq_toInt] at h
  have h2 : decide ((x ^^^ y).toInt < 0) = (decide (x.toInt < 0) ^^ decide (y.toInt < 0)) := h
  by_cases p : x.toInt < 0 <;> by_cases q : y.toInt < 0 <;> by_cases r : (x ^^^ y).toInt < 0 <;> simp [p, q, r] at h2 ⊢
theorem x64_neg (x y : Int64) : (x ^^^ y).toInt < 0 ↔ ¬ (x.toInt < 0 ↔ y.toInt < 0) := by
  have h := BitVec.msb_xor (x := x.toBitVec) (y := y.toBitVec)
  rw [BitVec.msb_eq_toInt, BitVec.msb_eq_toInt, BitVec.msb_eq_toInt] at h
  have h2 : decide ((x ^^^ y).toInt < 0) = (decide (x.toInt < 0) ^^ decide (y.toInt < 0)) := h
  by_cases p : x.toInt < 0 <;> by_cases q : y.toInt < 0 <;> by_cases r : (x ^^^ y).toInt < 0 <;> simp [p, q, r] at h2 ⊢
theorem w32_toInt (x : Int32) : w32 x.toInt = x.toInt := by
  unfold w32
  rw [Int32.ofInt_toInt]
theorem w64_toInt (x : Int64) : w64 x.toInt = x.toInt := by
  unfold w64
  rw [Int64.ofInt_toInt]
theorem jxor_neg (a b : Int) : w32 (jxor a b) < 0 ↔ ¬ (w32 a < 0 ↔ w32 b < 0) := by
  have := x32_neg (Int32.ofInt a) (Int32.ofInt b)
  show w32 ((Int32.ofInt a ^^^ Int32.ofInt b).toInt) < 0 ↔ _
  rw [w32_toInt]
  exact this
theorem jlxor_neg (a b : Int) : w64 (jlxor a b) < 0 ↔ ¬ (w64 a < 0 ↔ w64 b < 0) := by
  have := x64_neg (Int64.ofInt a) (Int64.ofInt b)
  show w64 ((Int64.ofInt a ^^^ Int64.ofInt b).toInt) < 0 ↔ _
  rw [w64_toInt]
  exact this
theorem tmod_emod {a b : Int} (b1 : 1 ≤ b) : (if a.tmod b < 0 then a.tmod b + b else a.tmod b) = a % b := by
  rw [Int.tmod_eq_emod]
  have h1 := Int.emod_nonneg a (show b ≠ 0 by omega)
  have h2 := Int.emod_lt_of_pos a (show 0 < b by omega)
  have hb : (b.natAbs : Int) = b := by omega
  split
  · split <;> omega
  · rw [hb]
    rename_i hq
    have : a % b ≠ 0 := by
      intro z
      exact hq (Or.inr (Int.dvd_of_emod_eq_zero z))
    split <;> omega
theorem tmod_sg {a b : Int} (b1 : 1 ≤ b) : (0 ≤ a → 0 ≤ a.tmod b) ∧ (a < 0 → a.tmod b ≤ 0) := by
  constructor
  · intro h
    exact Int.tmod_nonneg b h
  · intro h
    have := Int.tmod_nonneg b (show 0 ≤ -a by omega)
    rw [Int.neg_tmod] at this
    omega
theorem J9_floorMod_ok (k : Nat × (Int → Int)) (d : Nat) (σ : St) {a b : Int} (a1 : -2147483648 ≤ a) (a2 : a ≤ 2147483647) (b1 : 1 ≤ b) (b2 : b ≤ 1000000000) : EV k (d + 1) mJ9_floorMod_7cf53 [vI a, vI b] σ = ansI (a % b) σ := by
  have e : jr a b = a.tmod b := by unfold jr; rw [w32_id a1 a2, w32_id (by omega) (by omega)]
  have h1 := tmod_emod (a := a) b1
  have h2 := tmod_sg (a := a) b1
  have hr := jr_rng a1 a2 b1 (show b ≤ 2147483647 by omega)
  have hx := jxor_neg a b
  rw [w32_id a1 a2, w32_id (a := b) (by omega) (by omega)] at hx
  rw [eJ9_floorMod_7cf53, bJ9_floorMod_7cf53_0, if_neg (by rw [w32_id (by omega) (by omega)]; omega)]
  rw [e] at hr ⊢
  rw [w32_id (a := a.tmod b) (by omega) (by omega)]
  by_cases q : a < 0
  · rw [if_pos (hx.2 (by omega))]
    have := h2.2 q
    by_cases g : a.tmod b = 0
    · rw [if_pos g]
      rw [if_neg (by omega)] at h1
      exact ansI_c h1
    · rw [if_neg g]
      rw [if_pos (by omega)] at h1
      exact ansI_c h1
  · rw [if_neg (fun z => hx.1 z (by omega))]
    have := h2.1 (by omega)
    rw [if_neg (by omega)] at h1
    exact ansI_c h1
theorem J9_floorModL_ok (k : Nat × (Int → Int)) (d : Nat) (σ : St) {a b : Int} (a1 : -9223372036854775808 ≤ a) (a2 : a ≤ 9223372036854775807) (b1 : 1 ≤ b) (b2 : b ≤ 1000000000) : EV k (d + 1) mJ9_floorMod_f86c9 [vL a, vL b] σ = some (some (vL (a % b)), σ) := by
  have e : jlr a b = a.tmod b := by unfold jlr; rw [w64_id a1 a2, w64_id (by omega) (by omega)]
  have h1 := tmod_emod (a := a) b1
  have h2 := tmod_sg (a := a) b1
  have hr : -b < a.tmod b ∧ a.tmod b < b := tmod_bounds (by omega)
  have hx := jlxor_neg a b
  rw [w64_id a1 a2, w64_id (a := b) (by omega) (by omega)] at hx
  rw [eJ9_floorMod_f86c9, bJ9_floorMod_f86c9_0, if_neg (by rw [w64_id (by omega) (by omega)]; omega)]
  rw [e]
  have c1 : (w32 (jlcp (jlxor a b) 0) < 0) ↔ w64 (jlxor a b) < 0 := by
    unfold jlcp
    rw [show w64 0 = 0 by decide]
    by_cases g : w64 (jlxor a b) < 0
    · rw [if_neg (by omega), if_neg (by omega)]
      exact ⟨fun _ => g, fun _ => by decide⟩
    · constructor
      · intro z
        split at z
        · exact absurd z (by decide)
        · rw [if_pos (by omega)] at z
          exact absurd z (by decide)
      · intro z; exact absurd z g
  have c2 : (w32 (jlcp (a.tmod b) 0) = 0) ↔ a.tmod b = 0 := by
    rw [jlcp_lt (by omega) (by omega) (by omega) (by omega)]
    constructor
    · intro z
      split at z
      · exact absurd z (by decide)
      · split at z
        · assumption
        · exact absurd z (by decide)
    · intro z
      rw [if_neg (by omega), if_pos z]
      decide
  by_cases q : a < 0
  · rw [if_pos (c1.2 (hx.2 (by omega)))]
    have := h2.2 q
    by_cases g : a.tmod b = 0
    · rw [if_pos (c2.2 g)]
      rw [if_neg (by omega)] at h1
      rw [h1]
    · rw [if_neg (fun z => g (c2.1 z))]
      rw [if_pos (by omega)] at h1
      rw [h1]
  · rw [if_neg (fun z => hx.1 (c1.1 z) (by omega))]
    have := h2.1 (by omega)
    rw [if_neg (by omega)] at h1
    rw [h1]
def mvE (y : Int) : Int := (19 * (y % 19) + 15) % 30
def mvO (y : Int) : Int := mvE y - (y + y / 4 + mvE y) % 7
def mvA (y : Int) : Int := y / 100 - y / 100 / 4 - (8 * (y / 100) + 13) / 25 + 19 * (y % 19) + 15
def mvI (y : Int) : Int := mvA y % 30 - mvA y % 30 / 28 * (1 - 29 / (mvA y % 30 + 1) * ((21 - y % 19) / 11))
def mvN (y : Int) : Int := mvI y - (y + y / 4 + mvI y + 2 - y / 100 + y / 100 / 4) % 7
def mvL (s y : Int) : Int := if s = 1 then mvO y else mvN y
theorem mvI_b {y : Int} (h1 : 0 ≤ y) (h2 : y ≤ 5000) : 0 ≤ mvI y ∧ mvI y ≤ 29 := by
  unfold mvI
  have b1 : 0 ≤ mvA y % 30 ∧ mvA y % 30 < 30 := by omega
  generalize mvA y % 30 = h at b1
  have b2 : (21 - y % 19) / 11 = 0 ∨ (21 - y % 19) / 11 = 1 := by omega
  have hc : h < 28 ∨ h = 28 ∨ h = 29 := by omega
  rcases hc with q | q | q
  · rw [show h / 28 = 0 by omega]
    omega
  · subst q
    rcases b2 with e | e <;> rw [e] <;> decide
  · subst q
    rcases b2 with e | e <;> rw [e] <;> decide
theorem mvL_b {s y : Int} (h1 : 0 ≤ y) (h2 : y ≤ 5000) : -6 ≤ mvL s y ∧ mvL s y ≤ 29 := by
  have := mvI_b h1 h2
  unfold mvL mvO mvN mvE
  split <;> omega
theorem X0_shift_ok (k : Nat × (Int → Int)) (d : Nat) (σ : St) {y : Int} (h1 : 0 ≤ y) (h2 : y ≤ 5000) : EV k (d + 1) mX0_oldStyleShift [vI (jr y 19), vI y] σ = ansI (mvO y) σ ∧ EV k (d + 2) mX0_newStyleShift [vI (jr y 19), vI y] σ = ansI (mvN y) σ := by
  have eg : jr y 19 = y % 19 := jr_pos (by omega) (by omega) (by omega) (by omega)
  have e4 : jq y 4 = y / 4 := jq_pos (by omega) (by omega) (by omega) (by omega)
  have e100 : jq y 100 = y / 100 := jq_pos (by omega) (by omega) (by omega) (by omega)
  have e5 : jq (y / 100) 4 = y / 100 / 4 := jq_pos (by omega) (by omega) (by omega) (by omega)
  have e6 : jq (8 * (y / 100) + 13) 25 = (8 * (y / 100) + 13) / 25 := jq_pos (by omega) (by omega) (by omega) (by omega)
  have e7 : jq (21 - y % 19) 11 = (21 - y % 19) / 11 := jq_pos (by omega) (by omega) (by omega) (by omega)
  rw [eg]
  constructor
  · have e1 : jr (19 * (y % 19) + 15) 30 = mvE y := jr_pos (by omega) (by omega) (by omega) (by omega)
    have be : 0 ≤ mvE y ∧ mvE y < 30 := by unfold mvE; omega
    rw [eX0_oldStyleShift, bX0_oldStyleShift_0, e4, e1, jr_pos (a := y + y / 4 + mvE y) (by omega) (by omega) (by omega) (by omega)]
    rfl
  · have ib := mvI_b h1 h2
    have bA : -1000 ≤ mvA y ∧ mvA y ≤ 1000 := by unfold mvA; omega
    have bm : 0 ≤ mvA y % 30 ∧ mvA y % 30 < 30 := by omega
    rw [eX0_newStyleShift, bX0_newStyleShift_0, e100, e5, e6, show y / 100 - y / 100 / 4 - (8 * (y / 100) + 13) / 25 + 19 * (y % 19) + 15 = mvA y from rfl, J9_floorMod_ok k d σ (by omega) (by omega) (by omega) (by omega), jbI_some]
    rw [if_neg (by rw [w32_id (by omega) (by omega)]; omega), jq_pos (a := mvA y % 30) (b := 28) (by omega) (by omega) (by omega) (by omega), jq_pos (a := 29) (b := mvA y % 30 + 1) (by omega) (by omega) (by omega) (by omega), e7, e4, show mvA y % 30 - mvA y % 30 / 28 * (1 - 29 / (mvA y % 30 + 1) * ((21 - y % 19) / 11)) = mvI y from rfl, J9_floorMod_ok k d σ (by omega) (by omega) (by omega) (by omega), jbI_some]
    rfl
def mvd (σ : St) (s y : Int) : Int := Ms σ s y (3 + (mvL s y + 40) / 44) + mvL s y + 28 - 31 * ((3 + (mvL s y + 40) / 44) / 4) - 1
theorem mvd_b {σ : St} (hC : CF σ) {s y : Int} (hs : s = 0 ∨ s = 1) (h1 : 0 ≤ y) (h2 : y ≤ 5000) : -1000 ≤ mvd σ s y ∧ mvd σ s y ≤ 2000000 := by
  have lb := mvL_b (s := s) h1 h2
  have bb := Ms_b hC (c := s) (y := y) (m := 3 + (mvL s y + 40) / 44) (by omega) (by omega) (by omega) (by rcases hs with e | e <;> subst e <;> exact h1) (by rcases hs with e | e <;> subst e <;> exact h2) (by omega) (by rcases hs with e | e <;> subst e <;> show _ ≤ (12 : Int) <;> omega)
  unfold mvd
  omega
theorem X0_movableDay_ok (k : Nat × (Int → Int)) (d : Nat) {σ : St} (hC : CF σ) {s y : Int} (hs : s = 0 ∨ s = 1) (h1 : 0 ≤ y) (h2 : y ≤ 5000) : EV k (d + 4) mX0_movableDay [vR 1, vI s, vI y] σ = ansI (mvd σ s y) σ := by
  have lb := mvL_b (s := s) h1 h2
  have sh := X0_shift_ok k (d + 2) σ h1 h2
  have sh2 := X0_shift_ok k (d + 1) σ h1 h2
  have main : out (WV k) (EV k (d + 3)) MX0_movableDay 23 [vR 1, vI s, vI y, vI (jr y 19), vU, vU, vU] [vI (mvL s y)] σ = ansI (mvd σ s y) σ := by
    rw [bX0_movableDay_23, jq_pos (a := mvL s y + 40) (by omega) (by omega) (by omega) (by omega), jq_pos (a := 3 + (mvL s y + 40) / 44) (by omega) (by omega) (by omega) (by omega)]
    rw [X0_monthStart_ok k d hC (c := s) (y := y) (m := 3 + (mvL s y + 40) / 44) (by omega) (by omega) (by rcases hs with e | e <;> subst e <;> exact h1) (by omega) (by omega) (by omega) (by rcases hs with e | e <;> subst e <;> show _ ≤ (12 : Int) <;> omega), jbI_some]
    exact ansI_c (by unfold mvd; omega)
  rw [eX0_movableDay, bX0_movableDay_0]
  by_cases q : s = 1
  · subst q
    rw [if_pos rfl, sh.1, jbI_some]
    exact main
  · have : s = 0 := by omega
    subst this
    rw [if_neg (by decide), sh2.2, jbI_some]
    exact main
theorem X9_movableDay_ok (k : Nat × (Int → Int)) (d : Nat) {σ : St} (hC : CF σ) (hM : MR σ) {s y : Int} (hs : s = 0 ∨ s = 1) (h1 : 0 ≤ y) (h2 : y ≤ 5000) : EV k (d + 7) mX9_movableDay [vR 33, vI s, vI y] σ = ansI (mvd σ s y) σ := by
  have lb := mvL_b (s := s) h1 h2
  have main : ∀ (x3 x5 : Int) (u6 u7 : PV), out (WV k) (EV k (d + 6)) MX9_movableDay 141 [vR 33, vI s, vI y, vI x3, vI (mvL s y), vI x5, u6, u7] [] σ = ansI (mvd σ s y) σ := by
    intro x3 x5 u6 u7
    rw [bX9_movableDay_141, jq_pos (a := mvL s y + 40) (by omega) (by omega) (by omega) (by omega), jq_pos (a := 3 + (mvL s y + 40) / 44) (by omega) (by omega) (by omega) (by omega)]
    rw [X9_monthStart_ok k d hC hM (c := s) (y := y) (m := 3 + (mvL s y + 40) / 44) (by omega) (by omega) (by rcases hs with e | e <;> subst e <;> exact h1) (by rcases hs with e | e <;> subst e <;> exact h2) (by omega) (by rcases hs with e | e <;> subst e <;> show _ ≤ (12 : Int) <;> omega), jbI_some]
    rfl
  have eg : jr y 19 = y % 19 := jr_pos (by omega) (by omega) (by omega) (by omega)
  have e4 : jq y 4 = y / 4 := jq_pos (by omega) (by omega) (by omega) (by omega)
  have e100 : jq y 100 = y / 100 := jq_pos (by omega) (by omega) (by omega) (by omega)
  have e5 : jq (y / 100) 4 = y / 100 / 4 := jq_pos (by omega) (by omega) (by omega) (by omega)
  have e6 : jq (8 * (y / 100) + 13) 25 = (8 * (y / 100) + 13) / 25 := jq_pos (by omega) (by omega) (by omega) (by omega)
  have e7 : jq (21 - y % 19) 11 = (21 - y % 19) / 11 := jq_pos (by omega) (by omega) (by omega) (by omega)
  rw [eX9_movableDay, bX9_movableDay_0, eg, e4]
  by_cases q : s = 1
  · subst q
    have be : 0 ≤ mvE y ∧ mvE y < 30 := by unfold mvE; omega
    rw [if_pos rfl, X9_rest_ok k (d + 5) σ (by omega) (by omega) (by omega) (by omega), jbI_some, show (19 * (y % 19) + 15) % 30 = mvE y from rfl, X9_rest_ok k (d + 5) σ (by omega) (by omega) (by omega) (by omega), jbI_some]
    exact main _ _ _ _
  · have : s = 0 := by omega
    subst this
    have ib := mvI_b h1 h2
    have bA : -1000 ≤ mvA y ∧ mvA y ≤ 1000 := by unfold mvA; omega
    have bm : 0 ≤ mvA y % 30 ∧ mvA y % 30 < 30 := by omega
    rw [if_neg (by decide), e100, e5, e6, show y / 100 - y / 100 / 4 - (8 * (y / 100) + 13) / 25 + 19 * (y % 19) + 15 = mvA y from rfl, X9_rest_ok k (d + 5) σ (by omega) (by omega) (by omega) (by omega), jbI_some]
    rw [if_neg (by rw [w32_id (by omega) (by omega)]; omega), jq_pos (a := mvA y % 30) (b := 28) (by omega) (by omega) (by omega) (by omega), jq_pos (a := 29) (b := mvA y % 30 + 1) (by omega) (by omega) (by omega) (by omega), e7, show mvA y % 30 - mvA y % 30 / 28 * (1 - 29 / (mvA y % 30 + 1) * ((21 - y % 19) / 11)) = mvI y from rfl, X9_rest_ok k (d + 5) σ (by omega) (by omega) (by omega) (by omega), jbI_some]
    exact main _ _ _ _
theorem Tw_movable (k : Nat × (Int → Int)) (d : Nat) {σ : St} (hC : CF σ) (hM : MR σ) {s y : Int} (h1 : I32 s) (h2 : I32 y) : Tw k (d + 10) mX8_movable mX9_movable [vI s, vI y] σ := by
  unfold I32 at h1 h2
  unfold Tw
  rw [eX8_movable, bX8_movable_0, bX8_movable_11, eX9_movable, bX9_movable_0, X9_in_ok k (d + 8) σ h1.1 h1.2 (by omega) (by omega) (by omega) (by omega), jbI_some, ib, w32_id (a := s) h1.1 h1.2, w32_1]
  by_cases hs : s = 0 ∨ s = 1
  · rw [if_pos (show 0 ≤ s ∧ s ≤ 1 by omega), X0_hasYear_ok k (d + 7) hC (by omega) (by omega) h2.1 h2.2, X9_isYear_ok k (d + 7) hC hM (by omega) (by omega) h2.1 h2.2, jbI_some, jbI_some, ib, ib]
    by_cases hy : yfst 0 ≤ y ∧ y ≤ ylst (σ 1 2) 0
    · have y1 : 0 ≤ y := hy.1
      have y2 : y ≤ 5000 := hy.2
      have mb := mvd_b hC hs y1 y2
      rw [if_pos hy, if_pos hy, X0_movableDay_ok k (d + 5) hC hs y1 y2, X9_movableDay_ok k (d + 2) hC hM hs y1 y2, jbI_some, jbI_some, X8_dayOrOutside_ok k (d + 7) σ (by omega) (by omega), w32_id (a := mvd σ s y) (by omega) (by omega), X9_isDay_ok k (d + 8) σ (by omega) (by omega), jbI_some, jbI_some, ib]
      refine ⟨dyo (mvd σ s y), σ, ?_, ?_, Sc.rfl σ⟩
      · split
        · rfl
        · split
          · rfl
          · omega
      · unfold dyo
        split <;> rfl
    · rw [if_neg hy, if_neg hy]
      refine ⟨-2, σ, ?_, rfl, Sc.rfl σ⟩
      split
      · rfl
      · split
        · rfl
        · omega
  · rw [if_neg (show ¬ (0 ≤ s ∧ s ≤ 1) by omega), if_neg (by omega), if_neg (by omega)]
    exact ⟨_, _, rfl, rfl, Sc.rfl σ⟩
theorem X3_ageOn_ok (k : Nat × (Int → Int)) (d : Nat) (σ : St) {n : Int} (h1 : 0 ≤ n) (h2 : n ≤ 1500001) : EV k (d + 2) mX3_ageOn [vI n] σ = ansI ((n * 25920 - 5604) % 765433) σ := by
  rw [eX3_ageOn, bX3_ageOn_0, w32_id (a := n) (by omega) (by omega), J9_floorModL_ok k d σ (by omega) (by omega) (by omega) (by omega), jbL_some]
theorem X9_ageOf_ok (k : Nat × (Int → Int)) (d : Nat) (σ : St) {n : Int} (h1 : 0 ≤ n) (h2 : n ≤ 1500001) : EV k (d + 1) mX9_ageOf [vI n] σ = some (some (vL ((n * 25920 - 5604) % 765433)), σ) := by
  have e : jlr (25920 * n - 5604) 765433 = (25920 * n - 5604).tmod 765433 := by unfold jlr; rw [w64_id (by omega) (by omega), w64_id (by omega) (by omega)]
  have h := tmod_emod (a := 25920 * n - 5604) (b := 765433) (by omega)
  have hr : -765433 < (25920 * n - 5604).tmod 765433 ∧ (25920 * n - 5604).tmod 765433 < 765433 := tmod_bounds (by omega)
  rw [eX9_ageOf, bX9_ageOf_0, w32_id (a := n) (by omega) (by omega), e, jlcp_lt (by omega) (by omega) (by omega) (by omega), show n * 25920 - 5604 = 25920 * n - 5604 by omega, ← h]
  by_cases q : (25920 * n - 5604).tmod 765433 < 0
  · rw [if_pos q, if_neg (show ¬ 0 < (25920 * n - 5604).tmod 765433 by omega), if_neg (show ¬ (25920 * n - 5604).tmod 765433 = 0 by omega), if_pos (by decide)]
  · rw [if_neg q]
    rw [if_neg]
    split
    · decide
    · rw [if_pos (by omega)]
      decide
theorem Tw_age (k : Nat × (Int → Int)) (d : Nat) {σ : St} {n : Int} (h1 : I32 n) : Tw k (d + 10) mX8_age mX9_age [vI n] σ := by
  unfold I32 at h1
  unfold Tw
  rw [eX8_age, bX8_age_0, eX9_age, bX9_age_0, w32_id (a := n) h1.1 h1.2, X8_isDay_ok k (d + 8) σ h1.1 h1.2, X9_isDay_ok k (d + 8) σ (by omega) (by omega), jbI_some, jbI_some, ib, ib]
  by_cases hn : 0 ≤ n ∧ n ≤ 1500000
  · rw [if_pos hn, if_pos hn, X3_ageOn_ok k (d + 7) σ hn.1 (by omega), X9_ageOf_ok k (d + 8) σ hn.1 (by omega), jbI_some, jbL_some]
    exact ⟨_, _, rfl, rfl, Sc.rfl σ⟩
  · rw [if_neg hn, if_neg hn]
    exact ⟨_, _, rfl, rfl, Sc.rfl σ⟩
theorem Tw_newMoon (k : Nat × (Int → Int)) (d : Nat) {σ : St} {n : Int} (h1 : I32 n) : Tw k (d + 10) mX8_newMoon mX9_newMoon [vI n] σ := by
  unfold I32 at h1
  unfold Tw
  rw [eX8_newMoon, bX8_newMoon_0, eX9_newMoon, bX9_newMoon_0, w32_id (a := n) h1.1 h1.2]
  by_cases hn : n < 0
  · rw [if_pos hn, if_pos hn]
    exact ⟨_, _, rfl, rfl, Sc.rfl σ⟩
  · have e : jlq (5604 + 765433 * n) 25920 = (5604 + 765433 * n) / 25920 := jlq_pos (by omega) (by omega) (by omega) (by omega)
    rw [if_neg hn, if_neg hn, eX3_dayOfNewMoon, bX3_dayOfNewMoon_0, w32_id (a := n) h1.1 h1.2, show 5604 + n * 765433 = 5604 + 765433 * n by omega, e, jbL_some, X9_isDay_ok k (d + 8) σ (by omega) (by omega), jbI_some, ib, jlcp_lt (by omega) (by omega) (by omega) (by omega)]
    by_cases q : 1500000 < (5604 + 765433 * n) / 25920
    · rw [if_pos q, if_pos (by decide), if_neg (by omega)]
      exact ⟨_, _, rfl, rfl, Sc.rfl σ⟩
    · rw [if_neg q, if_pos (show 0 ≤ (5604 + 765433 * n) / 25920 ∧ (5604 + 765433 * n) / 25920 ≤ 1500000 by omega), if_neg (by split <;> decide)]
      exact ⟨_, _, rfl, rfl, Sc.rfl σ⟩
