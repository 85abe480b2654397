/-! bytes -/
theorem nn32 (x : Int32) (h : x.toBitVec.toNat < 2147483648) : x.toInt = (x.toBitVec.toNat : Int) := by
  show x.toBitVec.toInt = _
  exact BitVec.toInt_eq_toNat_of_lt (by omega)
theorem and255N (x : Int32) : (x &&& Int32.ofInt 255).toBitVec.toNat = x.toBitVec.toNat % 256 := by
  rw [Int32.toBitVec_and, BitVec.toNat_and]
  exact Nat.and_two_pow_sub_one_eq_mod _ 8
theorem jand255 (y : Int) : jand y 255 = (((Int32.ofInt y).toBitVec.toNat % 256 : Nat) : Int) := by
  unfold jand jsi
  have e := and255N (Int32.ofInt y)
  rw [nn32 _ (by rw [e]; omega), e]
theorem jand_b (y : Int) : 0 ≤ jand y 255 ∧ jand y 255 ≤ 255 := by
  rw [jand255]
  omega
theorem and255_8 (x : Int32) : x.toInt8.toInt32 &&& Int32.ofInt 255 = x &&& Int32.ofInt 255 := by
  apply Int32.toBitVec_inj.1
  rw [Int32.toBitVec_and, Int32.toBitVec_and]
  apply BitVec.eq_of_getLsbD_eq
  intro i hi
  rw [BitVec.getLsbD_and, BitVec.getLsbD_and]
  by_cases h : i < 8
  · have e : (x.toInt8.toInt32.toBitVec).getLsbD i = x.toBitVec.getLsbD i := by
      show ((x.toBitVec.signExtend 8).signExtend 32).getLsbD i = _
      rw [BitVec.getLsbD_signExtend, BitVec.getLsbD_signExtend]
      simp [h, hi]
    rw [e]
  · have e : (Int32.ofInt 255).toBitVec.getLsbD i = false := by
      have : (Int32.ofInt 255).toBitVec = 255#32 := by decide
      rw [this, BitVec.getLsbD_ofNat, Nat.testBit_lt_two_pow (Nat.lt_of_lt_of_le (show 255 < 2 ^ 8 by decide) (Nat.pow_le_pow_right (by decide) (by omega))), Bool.and_false]
    rw [e, Bool.and_false, Bool.and_false]
theorem jand_d (a b : Int) : jand a b = (Int32.ofInt a &&& Int32.ofInt b).toInt := rfl
theorem jor_d (a b : Int) : jor a b = (Int32.ofInt a ||| Int32.ofInt b).toInt := rfl
theorem jxor_d (a b : Int) : jxor a b = (Int32.ofInt a ^^^ Int32.ofInt b).toInt := rfl
theorem jshl_d (a b : Int) : jshl a b = (Int32.ofInt a <<< (Int32.ofInt b &&& 31)).toInt := rfl
theorem jushr_d (a b : Int) : jushr a b = (((Int32.ofInt a).toUInt32 >>> ((Int32.ofInt b).toUInt32 &&& Int32.toUInt32 31)).toInt32).toInt := rfl
theorem jand_b8 (y : Int) : jand (b8 (b8 y)) 255 = jand y 255 := by
  rw [jand_d, jand_d]
  unfold b8
  rw [Int32.ofInt_toInt, Int32.ofInt_toInt, and255_8, and255_8]
theorem jand_xor (t m : Int) : jand (jxor t m) 255 = jxor (jand t 255) (jand m 255) := by
  rw [jand_d, jxor_d, jxor_d, jand_d, jand_d, Int32.ofInt_toInt, Int32.ofInt_toInt, Int32.ofInt_toInt]
  congr 1
  apply Int32.toBitVec_inj.1
  simp only [Int32.toBitVec_and, Int32.toBitVec_xor]
  apply BitVec.eq_of_getLsbD_eq
  intro i hi
  simp only [BitVec.getLsbD_and, BitVec.getLsbD_xor]
  cases (Int32.ofInt t).toBitVec.getLsbD i <;> cases (Int32.ofInt m).toBitVec.getLsbD i <;> cases (Int32.ofInt 255).toBitVec.getLsbD i <;> rfl
theorem jushr_9 (x : Int) : jushr x (-9) = jushr x 23 := by
  rw [jushr_d, jushr_d, show (Int32.ofInt (-9)).toUInt32 &&& Int32.toUInt32 31 = (Int32.ofInt 23).toUInt32 &&& Int32.toUInt32 31 by decide]
theorem jor0 {b : Int} (h1 : 0 ≤ b) (h2 : b ≤ 255) : jor (jshl 0 8) b = b := by
  rw [jor_d, jshl_d, Int32.ofInt_toInt, show (Int32.ofInt 0 <<< (Int32.ofInt 8 &&& 31)) = 0 by decide, Int32.zero_or]
  exact w32_id (by omega) (by omega)
theorem of32N {a : Int} (a1 : 0 ≤ a) (a2 : a ≤ 2147483647) : (Int32.ofInt a).toBitVec.toNat = a.toNat := by
  show (BitVec.ofInt 32 a).toNat = a.toNat
  rw [BitVec.toNat_ofInt]
  omega
theorem jor16 {a b : Int} (a1 : 0 ≤ a) (a2 : a ≤ 255) (b1 : 0 ≤ b) (b2 : b ≤ 255) : 0 ≤ jor (jshl a 8) b ∧ jor (jshl a 8) b ≤ 65535 := by
  have sh : (Int32.ofInt a <<< (Int32.ofInt 8 &&& 31)).toBitVec.toNat < 2 ^ 16 := by
    rw [Int32.toBitVec_shiftLeft, show ((Int32.ofInt 8 &&& 31).toBitVec.smod 32) = 8#32 by decide, BitVec.shiftLeft_eq', BitVec.toNat_shiftLeft, of32N a1 (by omega), show (8#32).toNat = 8 from rfl, Nat.shiftLeft_eq]
    omega
  have e : (Int32.ofInt a <<< (Int32.ofInt 8 &&& 31) ||| Int32.ofInt b).toBitVec.toNat < 2 ^ 16 := by
    rw [Int32.toBitVec_or, BitVec.toNat_or]
    exact Nat.or_lt_two_pow sh (by rw [of32N b1 (by omega)]; omega)
  rw [jor_d, jshl_d, Int32.ofInt_toInt, nn32 _ (by omega)]
  omega
