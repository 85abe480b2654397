/-! doubles: finite ones as whole numbers of units of 2^-1074; what rounding leaves -/
def FIN (x : UInt64) (v : Int) : Prop := ∃ s c q, FP.Core.val64 x = .fin s c q ∧ -1074 ≤ q ∧ FP.Core.signed s (c * 2 ^ (q + 1074).toNat) = v
def FND (d : FP.Core.Datum) (v : Int) : Prop := ∃ s c q, d = .fin s c q ∧ -1074 ≤ q ∧ FP.Core.signed s (c * 2 ^ (q + 1074).toNat) = v
theorem sg_abs (s : Bool) (n : Nat) : (FP.Core.signed s n).natAbs = n := by
  unfold FP.Core.signed
  cases s
  · exact Int.natAbs_natCast n
  · rw [if_pos rfl, Int.natAbs_neg]; exact Int.natAbs_natCast n
theorem sg_mul (s : Bool) (a b : Nat) : FP.Core.signed s (a * b) = FP.Core.signed s a * b := by
  unfold FP.Core.signed
  cases s
  · rw [if_neg (by decide), if_neg (by decide)]; push_cast; rfl
  · rw [if_pos rfl, if_pos rfl]; push_cast; rw [Int.neg_mul]
theorem settle_v {s : Bool} {M : Nat} {Q : Int} (hM : M ≤ 2 ^ 53) (q0 : -1074 ≤ Q) (q1 : Q ≤ 970) : ∃ c q, FP.Core.settle FP.Core.b64 s M Q = .fin s c q ∧ -1074 ≤ q ∧ c * 2 ^ (q + 1074).toNat = M * 2 ^ (Q + 1074).toNat := by
  have p53 : FP.Core.b64.p = 53 := rfl
  have qm : FP.Core.b64.qmax = 971 := by decide
  have tl : FP.Core.b64.tails = 2 ^ 52 := rfl
  unfold FP.Core.settle FP.Core.bound
  rw [p53, qm, tl]
  by_cases z : M < 2 ^ 53
  · rw [if_pos z, if_pos (by omega)]
    exact ⟨M, Q, rfl, q0, rfl⟩
  · rw [if_neg z, if_pos (by omega)]
    refine ⟨2 ^ 52, Q + 1, rfl, by omega, ?_⟩
    have e : M = 2 ^ 53 := by omega
    have pp : (2 : Nat) ^ ((Q + 1074).toNat + 1) = 2 ^ (Q + 1074).toNat * 2 := Nat.pow_succ _ _
    have p2 : (2 : Nat) ^ 53 = 2 ^ 52 * 2 := rfl
    rw [e, show (Q + 1 + 1074).toNat = (Q + 1074).toNat + 1 by omega, pp, p2]
    generalize (2 : Nat) ^ (Q + 1074).toNat = X
    generalize (2 : Nat) ^ 52 = Y
    ac_rfl
theorem rnd_le {s : Bool} {A B : Nat} {e : Int} {K x y : Nat} (hB : 0 < B) (hK : K ≤ 2040) (hxy : (K : Int) - 1074 - e = (x : Int) - (y : Int)) (h : A * 2 ^ y ≤ B * 2 ^ x) : ∃ c q, FP.Core.roundRatio FP.Core.b64 s A B e = .fin s c q ∧ -1074 ≤ q ∧ c * 2 ^ (q + 1074).toNat ≤ 2 ^ K := by
  have qn : FP.Core.b64.qmin = -1074 := by decide
  have p53 : FP.Core.b64.p = 53 := rfl
  unfold FP.Core.roundRatio
  by_cases zA : A = 0
  · rw [if_pos zA, qn]
    exact ⟨0, -1074, rfl, by omega, by rw [Nat.zero_mul]; exact Nat.zero_le _⟩
  · have hA : 0 < A := by omega
    rw [if_neg zA]
    obtain ⟨Q, hQ⟩ : ∃ Q, Q = FP.Core.quantum FP.Core.b64 A B e := ⟨_, rfl⟩
    have g0 := FP.Core.quantum_ge FP.Core.b64 A B e
    have g1 := FP.Core.quantum_not_below (f := FP.Core.b64) hA hB e
    have g2 := FP.Core.nearest_units_le (f := FP.Core.b64) hA hB e
    rw [← hQ] at g0 g1 g2
    rw [qn] at g0 g1
    rw [p53] at g1 g2
    have bel : FP.Core.Below A B ((K : Int) - 1074 - e + 1) := by
      rw [show (K : Int) - 1074 - e + 1 = ((x + 1 : Nat) : Int) - (y : Nat) by push_cast; omega, FP.Core.below_iff, Nat.pow_succ, ← Nat.mul_assoc]
      have : 0 < B * 2 ^ x := Nat.mul_pos hB (Nat.two_pow_pos x)
      omega
    have Qk : Q ≤ (K : Int) - 1074 := by
      rcases g1 with z | z
      · omega
      · have := FP.Core.lt_of_below z bel
        push_cast at this
        omega
    have Qk2 : Q ≤ 970 := by
      rcases g1 with z | z
      · omega
      · have := FP.Core.lt_of_below z bel
        push_cast at this
        omega
    obtain ⟨k, hk⟩ : ∃ k : Nat, (k : Int) = (K : Int) - 1074 - Q := ⟨((K : Int) - 1074 - Q).toNat, by omega⟩
    have un : FP.Core.unitsNum A e Q ≤ 2 ^ k * FP.Core.unitsDen B e Q := by
      unfold FP.Core.unitsNum FP.Core.unitsDen
      have ex : x + (e - Q).toNat = y + (k + (Q - e).toNat) := by omega
      have m1 : A * 2 ^ y * 2 ^ (e - Q).toNat ≤ B * 2 ^ x * 2 ^ (e - Q).toNat := Nat.mul_le_mul_right _ h
      rw [Nat.mul_assoc B, ← Nat.pow_add, ex, Nat.pow_add, Nat.pow_add] at m1
      refine Nat.le_of_mul_le_mul_right (c := 2 ^ y) ?_ (Nat.two_pow_pos y)
      have e1 : A * 2 ^ (e - Q).toNat * 2 ^ y = A * 2 ^ y * 2 ^ (e - Q).toNat := by ac_rfl
      have e2 : 2 ^ k * (B * 2 ^ (Q - e).toNat) * 2 ^ y = B * (2 ^ y * (2 ^ k * 2 ^ (Q - e).toNat)) := by ac_rfl
      rw [e1, e2]
      exact m1
    have nl := FP.Core.nearest_le (FP.Core.unitsDen_pos hB e Q) un
    unfold FP.Core.roundAt
    obtain ⟨c, q, s1, s2, s3⟩ := settle_v (s := s) g2 g0 Qk2
    rw [← hQ]
    refine ⟨c, q, s1, s2, ?_⟩
    rw [s3, show K = k + (Q + 1074).toNat by omega, Nat.pow_add]
    exact Nat.mul_le_mul_right _ nl
theorem rnd_int {s : Bool} {A B : Nat} {e : Int} {J x y : Nat} (hJ : J < 2 ^ 53) (hB : B = 1) (hxy : e = (x : Int) - y) (h : A * 2 ^ x = J * 2 ^ y) : ∃ c q, FP.Core.roundRatio FP.Core.b64 s A B e = .fin s c q ∧ -1074 ≤ q ∧ c * 2 ^ (q + 1074).toNat = J * 2 ^ 1074 := by
  have qn : FP.Core.b64.qmin = -1074 := by decide
  have p53 : FP.Core.b64.p = 53 := rfl
  subst hB
  unfold FP.Core.roundRatio
  by_cases zA : A = 0
  · rw [if_pos zA, qn]
    have z : J = 0 := by
      rw [zA, Nat.zero_mul] at h
      rcases Nat.mul_eq_zero.1 h.symm with w | w
      · exact w
      · have := Nat.two_pow_pos y; omega
    exact ⟨0, -1074, rfl, by omega, by rw [z, Nat.zero_mul, Nat.zero_mul]⟩
  · have hA : 0 < A := by omega
    rw [if_neg zA]
    obtain ⟨Q, hQ⟩ : ∃ Q, Q = FP.Core.quantum FP.Core.b64 A 1 e := ⟨_, rfl⟩
    have g0 := FP.Core.quantum_ge FP.Core.b64 A 1 e
    have g1 := FP.Core.quantum_not_below (f := FP.Core.b64) hA (by decide : 0 < 1) e
    have g2 := FP.Core.nearest_units_le (f := FP.Core.b64) hA (by decide : 0 < 1) e
    rw [← hQ] at g0 g1 g2
    rw [qn] at g0 g1
    rw [p53] at g1 g2
    have bel : FP.Core.Below A 1 (53 - e) := by
      rw [show (53 : Int) - e = ((53 + y : Nat) : Int) - (x : Nat) by push_cast; omega, FP.Core.below_iff, h, Nat.one_mul, Nat.pow_add]
      exact Nat.mul_lt_mul_of_pos_right hJ (Nat.two_pow_pos y)
    have Q0 : Q ≤ 0 := by
      rcases g1 with z | z
      · omega
      · have := FP.Core.lt_of_below z bel
        push_cast at this
        omega
    have un : FP.Core.unitsNum A e Q = (J * 2 ^ (-Q).toNat) * FP.Core.unitsDen 1 e Q := by
      unfold FP.Core.unitsNum FP.Core.unitsDen
      have ex : y + (e - Q).toNat = x + ((-Q).toNat + (Q - e).toNat) := by omega
      refine Nat.eq_of_mul_eq_mul_right (Nat.two_pow_pos x) ?_
      have e1 : A * 2 ^ (e - Q).toNat * 2 ^ x = A * 2 ^ x * 2 ^ (e - Q).toNat := by ac_rfl
      rw [e1, h, Nat.mul_assoc, ← Nat.pow_add, ex, Nat.pow_add, Nat.pow_add, Nat.one_mul]
      ac_rfl
    unfold FP.Core.roundAt
    obtain ⟨c, q, s1, s2, s3⟩ := settle_v (s := s) g2 g0 (by omega)
    rw [← hQ]
    refine ⟨c, q, s1, s2, ?_⟩
    rw [s3, un, FP.Core.nearest_exact _ (FP.Core.unitsDen_pos (by decide) e Q), Nat.mul_assoc, ← Nat.pow_add, show (-Q).toNat + (Q + 1074).toNat = 1074 by omega]
theorem sum_units {s t : Bool} {c d : Nat} {q r : Int} {v w : Int} (q0 : -1074 ≤ q) (r0 : -1074 ≤ r) (hv : FP.Core.signed s (c * 2 ^ (q + 1074).toNat) = v) (hw : FP.Core.signed t (d * 2 ^ (r + 1074).toNat) = w) : FP.Core.sumUnits s c q t d r (min q r) * ((2 ^ (min q r + 1074).toNat : Nat) : Int) = v + w := by
  unfold FP.Core.sumUnits FP.Core.inUnits
  rw [Int.add_mul, ← sg_mul, ← sg_mul, Nat.mul_assoc, Nat.mul_assoc, ← Nat.pow_add, ← Nat.pow_add, show (q - min q r).toNat + (min q r + 1074).toNat = (q + 1074).toNat by omega, show (r - min q r).toNat + (min q r + 1074).toNat = (r + 1074).toNat by omega, hv, hw]
/-- the sum of two numbers, before and behind rounding -/
theorem sum_le {d1 d2 : FP.Core.Datum} {v w : Int} (h1 : FND d1 v) (h2 : FND d2 w) {K : Nat} (hK : K ≤ 2040) (h : (v + w).natAbs ≤ 2 ^ K) : ∃ z, FND (FP.Core.round FP.Core.b64 (FP.Core.exactSum d1 d2)) z ∧ z.natAbs ≤ 2 ^ K := by
  obtain ⟨s, c, q, e1, q0, hv⟩ := h1
  obtain ⟨t, d, r, e2, r0, hw⟩ := h2
  have su := sum_units q0 r0 hv hw
  rw [e1, e2]
  show ∃ z, FND (FP.Core.roundRatio FP.Core.b64 _ (FP.Core.sumUnits s c q t d r (min q r)).natAbs 1 (min q r)) z ∧ z.natAbs ≤ 2 ^ K
  have ab : (FP.Core.sumUnits s c q t d r (min q r)).natAbs * 2 ^ (min q r + 1074).toNat = (v + w).natAbs := by
    rw [← su, Int.natAbs_mul, Int.natAbs_natCast]
  obtain ⟨c', q', a1, a2, a3⟩ := rnd_le (s := FP.Core.sumSign s t (FP.Core.sumUnits s c q t d r (min q r))) (A := (FP.Core.sumUnits s c q t d r (min q r)).natAbs) (B := 1) (e := min q r) (K := K) (x := K) (y := (min q r + 1074).toNat) (by decide) hK (by omega) (by rw [ab, Nat.one_mul]; exact h)
  exact ⟨_, ⟨_, c', q', a1, a2, rfl⟩, by rw [sg_abs]; exact a3⟩
theorem sum_int {d1 d2 : FP.Core.Datum} {v w : Int} (h1 : FND d1 v) (h2 : FND d2 w) {J : Int} (hJ : J.natAbs < 2 ^ 53) (h : v + w = J * ((2 ^ 1074 : Nat) : Int)) : FND (FP.Core.round FP.Core.b64 (FP.Core.exactSum d1 d2)) (v + w) := by
  obtain ⟨s, c, q, e1, q0, hv⟩ := h1
  obtain ⟨t, d, r, e2, r0, hw⟩ := h2
  have su := sum_units q0 r0 hv hw
  rw [e1, e2]
  show FND (FP.Core.roundRatio FP.Core.b64 _ (FP.Core.sumUnits s c q t d r (min q r)).natAbs 1 (min q r)) (v + w)
  have ab : (FP.Core.sumUnits s c q t d r (min q r)).natAbs * 2 ^ (min q r + 1074).toNat = J.natAbs * 2 ^ 1074 := by
    have : ((FP.Core.sumUnits s c q t d r (min q r)) * ((2 ^ (min q r + 1074).toNat : Nat) : Int)).natAbs = (J * ((2 ^ 1074 : Nat) : Int)).natAbs := by rw [su, h]
    rw [Int.natAbs_mul, Int.natAbs_mul, Int.natAbs_natCast, Int.natAbs_natCast] at this
    exact this
  obtain ⟨c', q', a1, a2, a3⟩ := rnd_int (s := FP.Core.sumSign s t (FP.Core.sumUnits s c q t d r (min q r))) (A := (FP.Core.sumUnits s c q t d r (min q r)).natAbs) (B := 1) (e := min q r) (J := J.natAbs) (x := (min q r + 1074).toNat) (y := 1074) hJ rfl (by omega) ab
  refine ⟨_, c', q', a1, a2, ?_⟩
  rw [a3, ← ab]
  obtain ⟨u, hu⟩ : ∃ u, u = FP.Core.sumUnits s c q t d r (min q r) := ⟨_, rfl⟩
  rw [← hu] at su ⊢
  rw [sg_mul, ← su]
  congr 1
  unfold FP.Core.sumSign FP.Core.signed
  by_cases z : u = 0
  · rw [if_pos z, z]
    cases s <;> cases t <;> rfl
  · rw [if_neg z]
    by_cases y : u < 0
    · rw [decide_eq_true y, if_pos rfl]; omega
    · rw [decide_eq_false y, if_neg (by decide)]; omega
theorem FIN_d {x : UInt64} {v : Int} (h : FIN x v) : FND (FP.Core.val64 x) v := h
theorem FND_neg {d : FP.Core.Datum} {v : Int} (h : FND d v) : FND (FP.Core.negate d) (-v) := by
  obtain ⟨s, c, q, e, q0, hv⟩ := h
  rw [e]
  refine ⟨!s, c, q, rfl, q0, ?_⟩
  rw [← hv]
  unfold FP.Core.signed
  cases s
  · rfl
  · simp
theorem add_le {x y : UInt64} {v w : Int} (h1 : FIN x v) (h2 : FIN y w) {K : Nat} (hK : K ≤ 2040) (h : (v + w).natAbs ≤ 2 ^ K) : ∃ z, FIN (FP.dadd x y) z ∧ z.natAbs ≤ 2 ^ K := by
  obtain ⟨z, a, b⟩ := sum_le (FIN_d h1) (FIN_d h2) hK h
  refine ⟨z, ?_, b⟩
  unfold FIN
  rw [show FP.dadd x y = FP.Core.dadd x y from rfl, FP.Core.val64_dadd]
  exact a
theorem sub_le {x y : UInt64} {v w : Int} (h1 : FIN x v) (h2 : FIN y w) {K : Nat} (hK : K ≤ 2040) (h : (v - w).natAbs ≤ 2 ^ K) : ∃ z, FIN (FP.dsub x y) z ∧ z.natAbs ≤ 2 ^ K := by
  obtain ⟨z, a, b⟩ := sum_le (FIN_d h1) (FND_neg (FIN_d h2)) hK (by rw [← Int.sub_eq_add_neg]; exact h)
  refine ⟨z, ?_, b⟩
  unfold FIN
  rw [show FP.dsub x y = FP.Core.dsub x y from rfl, FP.Core.val64_dsub]
  exact a
theorem sub_int {x y : UInt64} {v w : Int} (h1 : FIN x v) (h2 : FIN y w) {J : Int} (hJ : J.natAbs < 2 ^ 53) (h : v - w = J * ((2 ^ 1074 : Nat) : Int)) : FIN (FP.dsub x y) (v - w) := by
  have a := sum_int (FIN_d h1) (FND_neg (FIN_d h2)) hJ (by rw [← Int.sub_eq_add_neg]; exact h)
  unfold FIN
  rw [show FP.dsub x y = FP.Core.dsub x y from rfl, FP.Core.val64_dsub]
  rw [← Int.sub_eq_add_neg] at a
  exact a
theorem mul_le {x y : UInt64} {v w : Int} (h1 : FIN x v) (h2 : FIN y w) {K : Nat} (hK : K ≤ 2040) (h : v.natAbs * w.natAbs ≤ 2 ^ (K + 1074)) : ∃ z, FIN (FP.dmul x y) z ∧ z.natAbs ≤ 2 ^ K := by
  obtain ⟨s, c, q, e1, q0, hv⟩ := h1
  obtain ⟨t, d, r, e2, r0, hw⟩ := h2
  have av : c * 2 ^ (q + 1074).toNat = v.natAbs := by rw [← hv, sg_abs]
  have aw : d * 2 ^ (r + 1074).toNat = w.natAbs := by rw [← hw, sg_abs]
  obtain ⟨c', q', a1, a2, a3⟩ := rnd_le (s := (s != t)) (A := c * d) (B := 1) (e := q + r) (K := K) (x := K + 1074) (y := (q + 1074).toNat + (r + 1074).toNat) (by decide) hK (by omega) (by
    rw [Nat.one_mul, Nat.pow_add]
    have : c * d * (2 ^ (q + 1074).toNat * 2 ^ (r + 1074).toNat) = (c * 2 ^ (q + 1074).toNat) * (d * 2 ^ (r + 1074).toNat) := by ac_rfl
    rw [this, av, aw]
    exact h)
  refine ⟨FP.Core.signed (s != t) (c' * 2 ^ (q' + 1074).toNat), ⟨(s != t), c', q', ?_, a2, rfl⟩, by rw [sg_abs]; exact a3⟩
  rw [show FP.dmul x y = FP.Core.dmul x y from rfl, FP.Core.val64_dmul, e1, e2]
  exact a1
theorem div_le {x y : UInt64} {v w : Int} (h1 : FIN x v) (h2 : FIN y w) {K : Nat} (hK : K ≤ 2040) (h : v.natAbs ≤ 2 ^ K) (g : 2 ^ 1074 ≤ w.natAbs) : ∃ z, FIN (FP.ddiv x y) z ∧ z.natAbs ≤ 2 ^ K := by
  obtain ⟨s, c, q, e1, q0, hv⟩ := h1
  obtain ⟨t, d, r, e2, r0, hw⟩ := h2
  have av : c * 2 ^ (q + 1074).toNat = v.natAbs := by rw [← hv, sg_abs]
  have aw : d * 2 ^ (r + 1074).toNat = w.natAbs := by rw [← hw, sg_abs]
  have d0 : 0 < d := by
    apply Nat.pos_of_ne_zero
    intro z
    rw [z, Nat.zero_mul] at aw
    have := Nat.two_pow_pos 1074
    omega
  obtain ⟨c', q', a1, a2, a3⟩ := rnd_le (s := (s != t)) (A := c) (B := d) (e := q - r) (K := K) (x := K + (r + 1074).toNat) (y := (q + 1074).toNat + 1074) d0 hK (by omega) (by
    rw [Nat.pow_add, Nat.pow_add, ← Nat.mul_assoc, av]
    have : d * (2 ^ K * 2 ^ (r + 1074).toNat) = 2 ^ K * (d * 2 ^ (r + 1074).toNat) := by ac_rfl
    rw [this, aw]
    exact Nat.mul_le_mul h g)
  refine ⟨FP.Core.signed (s != t) (c' * 2 ^ (q' + 1074).toNat), ⟨(s != t), c', q', ?_, a2, rfl⟩, by rw [sg_abs]; exact a3⟩
  rw [show FP.ddiv x y = FP.Core.ddiv x y from rfl, FP.Core.val64_ddiv, e1, e2]
  show (if d = 0 then _ else FP.Core.roundRatio FP.Core.b64 (s != t) c d (q - r)) = _
  rw [if_neg (by omega)]
  exact a1
theorem ofInt_fin {i : Int} (h : i.natAbs < 2 ^ 53) : FND (FP.Core.round FP.Core.b64 (FP.Core.ofInt i)) (i * ((2 ^ 1074 : Nat) : Int)) := by
  show FND (FP.Core.roundRatio FP.Core.b64 (decide (i < 0)) i.natAbs 1 0) _
  obtain ⟨c', q', a1, a2, a3⟩ := rnd_int (s := decide (i < 0)) (A := i.natAbs) (B := 1) (e := 0) (J := i.natAbs) (x := 0) (y := 0) h rfl (by omega) rfl
  refine ⟨_, c', q', a1, a2, ?_⟩
  rw [a3, sg_mul]
  congr 1
  unfold FP.Core.signed
  by_cases y : i < 0
  · rw [decide_eq_true y, if_pos rfl]; omega
  · rw [decide_eq_false y, if_neg (by decide)]; omega
theorem jif_fin (a : Int) : FIN (jif a) (w32 a * ((2 ^ 1074 : Nat) : Int)) := by
  unfold FIN jif
  rw [show FP.i2d (Int32.ofInt a) = FP.Core.i2d (Int32.ofInt a) from rfl, FP.Core.val64_i2d]
  have b := w32_lo a
  exact ofInt_fin (show (w32 a).natAbs < 2 ^ 53 by omega)
theorem jlf_fin {a : Int} (h : (w64 a).natAbs < 2 ^ 53) : FIN (jlf a) (w64 a * ((2 ^ 1074 : Nat) : Int)) := by
  unfold FIN jlf
  rw [show FP.l2d (Int64.ofInt a) = FP.Core.l2d (Int64.ofInt a) from rfl, FP.Core.val64_l2d]
  exact ofInt_fin h
