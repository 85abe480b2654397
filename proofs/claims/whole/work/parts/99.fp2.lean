/-! doubles: comparing, whole parts, floor, wave -/
theorem fp_nan {x : UInt64} {v : Int} (h : FIN x v) : fpB x = true := by
  obtain ⟨s, c, q, e, _, _⟩ := h
  have ne : FP.Core.val64 x ≠ .nan := by rw [e]; intro z; cases z
  have tl : FP.Core.b64.tails = 4503599627370496 := rfl
  have ex : FP.Core.b64.exps = 2048 := rfl
  unfold fpB
  apply decide_eq_true
  show (x &&& 0x7fffffffffffffff).toNat ≤ (0x7ff0000000000000 : UInt64).toNat
  rw [UInt64.toNat_and, show (0x7fffffffffffffff : UInt64).toNat = 2 ^ 63 - 1 from rfl, Nat.and_two_pow_sub_one_eq_mod, show (0x7ff0000000000000 : UInt64).toNat = 9218868437227405312 from rfl]
  apply Classical.byContradiction
  intro w
  apply ne
  unfold FP.Core.val64 FP.Core.decode FP.Core.fieldE FP.Core.fieldT
  rw [tl, ex]
  have b := UInt64.toNat_lt x
  rw [if_pos (by omega), if_neg (by omega)]
theorem mulP_lt {a b : Int} {P : Nat} (hP : 0 < P) : a * (P : Int) < b * (P : Int) ↔ a < b := Int.mul_lt_mul_right (by omega)
theorem jcp_fin {x y : UInt64} {v w : Int} (h1 : FIN x v) (h2 : FIN y w) (op : CmpOp) : jcp op x y = if v < w then -1 else if v = w then 0 else 1 := by
  obtain ⟨s, c, q, e1, q0, hv⟩ := h1
  obtain ⟨t, d, r, e2, r0, hw⟩ := h2
  have o : FP.dcmp x y = some (compare (FP.Core.signed s (FP.Core.inUnits c q (min q r))) (FP.Core.signed t (FP.Core.inUnits d r (min q r)))) := by
    show FP.Core.order (FP.Core.val64 x) (FP.Core.val64 y) = _
    rw [e1, e2]
    rfl
  obtain ⟨a, ha⟩ : ∃ a, a = FP.Core.signed s (FP.Core.inUnits c q (min q r)) := ⟨_, rfl⟩
  obtain ⟨b, hb⟩ : ∃ b, b = FP.Core.signed t (FP.Core.inUnits d r (min q r)) := ⟨_, rfl⟩
  have va : a * ((2 ^ (min q r + 1074).toNat : Nat) : Int) = v := by
    rw [ha]
    unfold FP.Core.inUnits
    rw [← sg_mul, Nat.mul_assoc, ← Nat.pow_add, show (q - min q r).toNat + (min q r + 1074).toNat = (q + 1074).toNat by omega, hv]
  have wb : b * ((2 ^ (min q r + 1074).toNat : Nat) : Int) = w := by
    rw [hb]
    unfold FP.Core.inUnits
    rw [← sg_mul, Nat.mul_assoc, ← Nat.pow_add, show (r - min q r).toNat + (min q r + 1074).toNat = (r + 1074).toNat by omega, hw]
  have pp := Nat.two_pow_pos (min q r + 1074).toNat
  rw [← va, ← wb]
  unfold jcp
  rw [o, ← ha, ← hb]
  show (Op.cmpValue (some (compareOfLessAndEq a b)) op).toInt = _
  unfold compareOfLessAndEq
  by_cases l : a < b
  · rw [if_pos l, if_pos ((mulP_lt pp).2 l)]
    rfl
  · rw [if_neg l, if_neg (fun z => l ((mulP_lt pp).1 z))]
    by_cases m : a = b
    · rw [if_pos m, m, if_pos rfl]
      rfl
    · rw [if_neg m, if_neg (fun z => by
        have g : b < a := by omega
        have := (mulP_lt (a := b) (b := a) pp).2 g
        omega)]
      rfl
def P0 : Nat := 2 ^ 1074
theorem P0_pos : 0 < P0 := Nat.two_pow_pos 1074
theorem trunc_N (c : Nat) {q : Int} (q0 : -1074 ≤ q) : (c * 2 ^ q.toNat / 2 ^ (-q).toNat) = c * 2 ^ (q + 1074).toNat / P0 := by
  unfold P0
  by_cases z : 0 ≤ q
  · rw [show (-q).toNat = 0 by omega, Nat.pow_zero, Nat.div_one, show (q + 1074).toNat = q.toNat + 1074 by omega, Nat.pow_add, ← Nat.mul_assoc, Nat.mul_div_cancel _ (Nat.two_pow_pos 1074)]
  · rw [show q.toNat = 0 by omega, Nat.pow_zero, Nat.mul_one]
    have e : (2 : Nat) ^ 1074 = 2 ^ (-q).toNat * 2 ^ (q + 1074).toNat := by rw [← Nat.pow_add]; congr 1; omega
    rw [e, Nat.mul_div_mul_right _ _ (Nat.two_pow_pos _)]
/-- the whole part -/
theorem trunc_fin {u : UInt64} {v : Int} (h : FIN u v) {K : Nat} (hv : v.natAbs ≤ K * P0) : ∃ s c q, FP.Core.val64 u = .fin s c q ∧ FP.Core.truncate s c q = (if v < 0 then -((v.natAbs / P0 : Nat) : Int) else ((v.natAbs / P0 : Nat) : Int)) ∧ v.natAbs / P0 ≤ K := by
  obtain ⟨s, c, q, e1, q0, hs⟩ := h
  have av : c * 2 ^ (q + 1074).toNat = v.natAbs := by rw [← hs, sg_abs]
  have le : v.natAbs / P0 ≤ K := Nat.div_le_of_le_mul (by rw [Nat.mul_comm]; exact hv)
  refine ⟨s, c, q, e1, ?_, le⟩
  unfold FP.Core.truncate
  rw [trunc_N c q0, av]
  unfold FP.Core.signed
  cases s
  · rw [if_neg (by decide)]
    have : 0 ≤ v := by rw [← hs]; unfold FP.Core.signed; rw [if_neg (by decide)]; omega
    rw [if_neg (by omega)]
  · rw [if_pos rfl]
    have : v ≤ 0 := by rw [← hs]; unfold FP.Core.signed; rw [if_pos rfl]; omega
    by_cases z : v < 0
    · rw [if_pos z]
    · have v0 : v = 0 := by omega
      rw [if_neg z, v0, Int.natAbs_zero, Nat.zero_div]
      rfl
def trn (v : Int) : Int := if v < 0 then -((v.natAbs / P0 : Nat) : Int) else ((v.natAbs / P0 : Nat) : Int)
theorem trn_b {v : Int} {K : Nat} (h : v.natAbs ≤ K * P0) : -(K : Int) ≤ trn v ∧ trn v ≤ K := by
  have le : v.natAbs / P0 ≤ K := Nat.div_le_of_le_mul (by rw [Nat.mul_comm]; exact h)
  unfold trn
  generalize v.natAbs / P0 = N at le ⊢
  split <;> omega
theorem trn_in (v : Int) : (0 ≤ v → trn v * (P0 : Int) ≤ v ∧ v < trn v * (P0 : Int) + P0) ∧ (v < 0 → v ≤ trn v * (P0 : Int) ∧ trn v * (P0 : Int) - P0 < v) := by
  have m := Nat.div_add_mod v.natAbs P0
  have l := Nat.mod_lt v.natAbs P0_pos
  obtain ⟨N, hN⟩ : ∃ N, N = v.natAbs / P0 := ⟨_, rfl⟩
  rw [← hN, Nat.mul_comm] at m
  obtain ⟨X, hX⟩ : ∃ X, X = N * P0 := ⟨_, rfl⟩
  have eX : (N : Int) * (P0 : Int) = X := by rw [hX]; push_cast; rfl
  rw [← hX] at m
  unfold trn
  rw [← hN]
  refine ⟨fun z => ?_, fun z => ?_⟩
  · rw [if_neg (by omega), eX]
    omega
  · rw [if_pos z, Int.neg_mul, eX]
    omega
theorem jfl_fin {u : UInt64} {v : Int} (h : FIN u v) (hv : v.natAbs ≤ 2 ^ 52 * P0) : jfl u = trn v := by
  obtain ⟨s, c, q, e1, e2, e3⟩ := trunc_fin h hv
  have tb := trn_b hv
  unfold jfl
  show (Int64.ofInt (FP.Core.toInt (-2 ^ 63) (2 ^ 63 - 1) (FP.Core.val64 u))).toInt = trn v
  rw [e1]
  show w64 (max (-2 ^ 63) (min (2 ^ 63 - 1) (FP.Core.truncate s c q))) = trn v
  rw [e2, show (if v < 0 then -((v.natAbs / P0 : Nat) : Int) else ((v.natAbs / P0 : Nat) : Int)) = trn v from rfl]
  rw [show max (-2 ^ 63) (min (2 ^ 63 - 1) (trn v)) = trn v by omega]
  exact w64_id (by omega) (by omega)
theorem jfi_fin {u : UInt64} {v : Int} (h : FIN u v) (hv : v.natAbs ≤ 2 ^ 30 * P0) : jfi u = trn v := by
  obtain ⟨s, c, q, e1, e2, e3⟩ := trunc_fin h hv
  have tb := trn_b hv
  unfold jfi
  show (Int32.ofInt (FP.Core.toInt (-2 ^ 31) (2 ^ 31 - 1) (FP.Core.val64 u))).toInt = trn v
  rw [e1]
  show w32 (max (-2 ^ 31) (min (2 ^ 31 - 1) (FP.Core.truncate s c q))) = trn v
  rw [e2, show (if v < 0 then -((v.natAbs / P0 : Nat) : Int) else ((v.natAbs / P0 : Nat) : Int)) = trn v from rfl]
  rw [show max (-2 ^ 31) (min (2 ^ 31 - 1) (trn v)) = trn v by omega]
  exact w32_id (by omega) (by omega)
theorem one_fin : FIN FP.dconst1 (P0 : Int) := ⟨false, 2 ^ 52, -52, by decide +kernel, by omega, by
  unfold FP.Core.signed P0
  rw [if_neg (by decide), ← Nat.pow_add]
  rfl⟩
noncomputable def flW (u : UInt64) : UInt64 := if 0 < w32 (jcp .l (jlf (jfl u)) u) then FP.dsub (jlf (jfl u)) FP.dconst1 else jlf (jfl u)
theorem floor_fin {u : UInt64} {v : Int} (h : FIN u v) (hv : v.natAbs ≤ 2 ^ 50 * P0) : ∃ j : Int, FIN (flW u) (j * (P0 : Int)) ∧ j * (P0 : Int) ≤ v ∧ v < j * (P0 : Int) + P0 ∧ -(2 ^ 51 : Int) ≤ j ∧ j ≤ 2 ^ 51 ∧ (j = trn v ∨ (j = trn v - 1 ∧ v < 0)) ∧ (0 < w32 (jcp .l (jlf (jfl u)) u) → fpB (FP.dsub (jlf (jfl u)) FP.dconst1) = true) := by
  have hv2 : v.natAbs ≤ 2 ^ 52 * P0 := Nat.le_trans hv (Nat.mul_le_mul_right _ (by decide))
  have jf := jfl_fin h hv2
  have tb := trn_b hv
  have w6 : w64 (trn v) = trn v := w64_id (by omega) (by omega)
  have lf : FIN (jlf (jfl u)) (trn v * (P0 : Int)) := by
    have := jlf_fin (a := trn v) (by rw [w6]; omega)
    rw [w6] at this
    rw [jf]
    exact this
  have cp := jcp_fin lf h .l
  obtain ⟨i1, i2⟩ := trn_in v
  have pp := P0_pos
  have sb : FIN (FP.dsub (jlf (jfl u)) FP.dconst1) (trn v * (P0 : Int) - P0) := by
    refine sub_int (J := trn v - 1) lf one_fin (by omega) ?_
    rw [Int.sub_mul, Int.one_mul]
    rfl
  unfold flW
  rw [cp]
  by_cases z : v < trn v * (P0 : Int)
  · have c1 : 0 < w32 (if trn v * (P0 : Int) < v then -1 else if trn v * (P0 : Int) = v then 0 else 1) := by
      rw [if_neg (by omega), if_neg (by omega)]; decide
    rw [if_pos c1]
    have neg : v < 0 := by
      apply Classical.byContradiction
      intro w
      have := (i1 (by omega)).1
      omega
    refine ⟨trn v - 1, ?_, ?_, ?_, by omega, by omega, Or.inr ⟨rfl, neg⟩, fun _ => fp_nan sb⟩
    · rw [Int.sub_mul, Int.one_mul]; exact sb
    · rw [Int.sub_mul, Int.one_mul]; have := (i2 neg).2; omega
    · rw [Int.sub_mul, Int.one_mul]; omega
  · have c0 : ¬ 0 < w32 (if trn v * (P0 : Int) < v then -1 else if trn v * (P0 : Int) = v then 0 else 1) := by
      by_cases y : trn v * (P0 : Int) < v
      · rw [if_pos y]; decide
      · rw [if_neg y, if_pos (by omega)]; decide
    rw [if_neg c0]
    refine ⟨trn v, lf, by omega, ?_, by omega, by omega, Or.inl rfl, fun w => absurd w c0⟩
    by_cases n : 0 ≤ v
    · exact (i1 n).2
    · have := (i2 (by omega)).1
      omega
