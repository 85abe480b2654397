/-! light on both sides -/
theorem zero_fin : FIN FP.dconst0 0 := ⟨false, 0, -1074, by decide +kernel, by omega, by
  unfold FP.Core.signed
  rw [if_neg (by decide), Nat.zero_mul]
  rfl⟩
theorem thou_fin : FIN 4652007308841189376 (1000 * (P0 : Int)) := ⟨false, 1000 * 2 ^ 43, -43, by decide +kernel, by omega, by
  unfold FP.Core.signed P0
  rw [if_neg (by decide), show (-43 + 1074 : Int).toNat = 1031 from rfl, Nat.mul_assoc, ← Nat.pow_add, show 43 + 1031 = 1074 from rfl, Int.natCast_mul]
  rfl⟩
theorem half_fin : FIN 4602678819172646912 ((2 ^ 1073 : Nat) : Int) := ⟨false, 2 ^ 52, -53, by decide +kernel, by omega, by
  unfold FP.Core.signed
  rw [if_neg (by decide), show (-53 + 1074 : Int).toNat = 1021 from rfl, ← Nat.pow_add]⟩
theorem trn_mul (j : Int) : trn (j * (P0 : Int)) = j := by
  unfold trn
  rw [Int.natAbs_mul, Int.natAbs_natCast, Nat.mul_div_cancel _ P0_pos]
  have pp := P0_pos
  by_cases z : j < 0
  · have : j * (P0 : Int) < 0 := Int.mul_neg_of_neg_of_pos z (by omega)
    rw [if_pos this]
    omega
  · have : 0 ≤ j * (P0 : Int) := Int.mul_nonneg (by omega) (by omega)
    rw [if_neg (by omega)]
    omega
theorem cmp_pos {x y : UInt64} {v w : Int} (h1 : FIN x v) (h2 : FIN y w) (op : CmpOp) : (0 < w32 (jcp op x y) ↔ w < v) ∧ (w32 (jcp op x y) = 0 ↔ v = w) ∧ (w32 (jcp op x y) < 0 ↔ v < w) := by
  rw [jcp_fin h1 h2]
  have a1 : w32 (-1) = -1 := by decide
  have a0 : w32 0 = 0 := by decide
  by_cases l : v < w
  · rw [if_pos l, a1]; omega
  · rw [if_neg l]
    by_cases m : v = w
    · rw [if_pos m, a0]; omega
    · rw [if_neg m, w32_1]; omega
theorem TwD_light (k : Nat × (Int → Int)) (d : Nat) {σ : St} {n : Int} (h1 : I32 n) : Tw k (d + 10) mX8_light mX9_light [vI n] σ := by
  unfold I32 at h1
  by_cases z : 0 ≤ n ∧ n ≤ 1500000
  · obtain ⟨ea, eb, ec⟩ := est_ok k (d + 5) σ z.1 z.2
    obtain ⟨fa, fb, fc⟩ := est_ok k (d + 6) σ z.1 z.2
    have d1 : FB (FP.ddiv (es5 n) 4629005340940530734) 1110 := FB_div ec (by decide +kernel) (by omega)
    have d2 : FB (FP.dadd (FP.ddiv (es5 n) 4629005340940530734) 4598175219545276416) 1124 := FB_m (FB_add d1 (FB_c 53 1110 (by decide +kernel)) (by omega)) (by omega)
    obtain ⟨u, hu⟩ : ∃ u, u = FP.dadd (FP.ddiv (es5 n) 4629005340940530734) 4598175219545276416 := ⟨_, rfl⟩
    rw [← hu] at d2
    obtain ⟨wa, _, wc⟩ := wave_ok k (d + 6) σ d2
    obtain ⟨_, wb, _⟩ := wave_ok k (d + 7) σ d2
    have d3 : FB (FP.dmul 4647503709213818880 (wv u)) 1099 := FB_mul (FB_c 53 1083 (by decide +kernel)) wc (by omega) (by omega)
    have d4 : FB (FP.dsub 4647503709213818880 (FP.dmul 4647503709213818880 (wv u))) 1100 := FB_sub (FB_c 53 1099 (by decide +kernel)) d3 (by omega)
    obtain ⟨v, hv⟩ : ∃ v, v = FP.dsub 4647503709213818880 (FP.dmul 4647503709213818880 (wv u)) := ⟨_, rfl⟩
    rw [← hv] at d4
    obtain ⟨x, hx, xb⟩ := d4
    have pp := P0_pos
    have xb30 : x.natAbs ≤ 2 ^ 26 * P0 := by
      unfold P0
      rw [← Nat.pow_add]
      exact xb
    have xb30' : x.natAbs ≤ 2 ^ 30 * P0 := Nat.le_trans xb30 (Nat.mul_le_mul_right _ (by decide))
    have xb50 : x.natAbs ≤ 2 ^ 50 * P0 := Nat.le_trans xb30 (Nat.mul_le_mul_right _ (by decide))
    obtain ⟨j, f1, f2, f3, f4, f5, f6, f7⟩ := floor_fin hx xb50
    have tb := trn_b xb30
    have jb : -(2 ^ 26 : Int) - 1 ≤ j ∧ j ≤ 2 ^ 26 := by
      rcases f6 with w | w
      · omega
      · omega
    have fo9 : EV k (d + 9) mX9_floor [vD v] σ = some (some (vD (flW v)), σ) := by
      rw [eX9_floor, bX9_floor_0]
      unfold flW
      by_cases c : 0 < w32 (jcp .l (jlf (jfl v)) v)
      · rw [if_pos c, if_pos c, if_pos (f7 c)]
      · rw [if_neg c, if_neg c]
    have jj : jfi (flW v) = j := by
      rw [jfi_fin f1 (by
        rw [Int.natAbs_mul, Int.natAbs_natCast]
        exact Nat.mul_le_mul_right _ (by omega)), trn_mul]
    -- the rest behind a whole number i
    have rst : ∀ i : Int, -(2 ^ 27 : Int) ≤ i → i ≤ 2 ^ 27 → (x - i * (P0 : Int)).natAbs ≤ P0 → ∃ y, FIN (FP.dsub v (jif i)) y := by
      intro i i0 i1 hi
      have ji := jif_fin i
      rw [w32_id (by omega) (by omega)] at ji
      obtain ⟨y, a, _⟩ := sub_le hx ji (K := 1074) (by omega) hi
      exact ⟨y, a⟩
    have sm_ : x = j * (P0 : Int) → ∃ y, FIN (FP.dsub v (jif j)) y ∧ y.natAbs ≤ 1 := by
      intro e
      have ji := jif_fin j
      rw [w32_id (by omega) (by omega)] at ji
      have e2 : x - j * ((2 ^ 1074 : Nat) : Int) = 0 := by
        show x - j * (P0 : Int) = 0
        omega
      obtain ⟨y, a, b⟩ := sub_le hx ji (K := 0) (by omega) (by rw [e2]; decide)
      exact ⟨y, a, b⟩
    obtain ⟨y, hy⟩ := rst j (by omega) (by omega) (by omega)
    obtain ⟨c1, c2, c3⟩ := cmp_pos hy half_fin .l
    obtain ⟨g1, g2, g3⟩ := cmp_pos hx zero_fin .g
    obtain ⟨t1, t2, t3⟩ := cmp_pos hx thou_fin .l
    -- the two sides as far as their last steps
    have s9 : EV k (d + 10) mX9_light [vR 33, vI n] σ = if 0 < w32 (jcp .l (FP.dsub v (jif j)) 4602678819172646912) then out (WV k) (EV k (d + 9)) MX9_light 74 [vR 33, vI n, vD v, vU, vI j, vD (FP.dsub v (jif j)), vU, vU] [] σ else if w32 (jcp .l (FP.dsub v (jif j)) 4602678819172646912) = 0 then (if w32 (jr j 2) = 0 then out (WV k) (EV k (d + 9)) MX9_light 81 [vR 33, vI n, vD v, vU, vI j, vD (FP.dsub v (jif j)), vU, vU] [] σ else out (WV k) (EV k (d + 9)) MX9_light 74 [vR 33, vI n, vD v, vU, vI j, vD (FP.dsub v (jif j)), vU, vU] [] σ) else out (WV k) (EV k (d + 9)) MX9_light 81 [vR 33, vI n, vD v, vU, vI j, vD (FP.dsub v (jif j)), vU, vU] [] σ := by
      rw [eX9_light, bX9_light_0, w32_id h1.1 h1.2, X9_isDay_ok k (d + 8) σ (by omega) (by omega), jbI_some, ib, if_pos z, fb, jbD_some, if_pos (FB_fp d1), ← hu, if_pos (FB_fp d2), wb, jbD_some, if_pos (FB_fp d3), ← hv, if_pos (fp_nan hx), fo9, jbD_some, jj, if_pos (fp_nan hy)]
    have s8 : EV k (d + 10) mX8_light [vR 0, vI n] σ = jbI (if 0 < w32 (jcp .g v FP.dconst0) then (if w32 (jcp .l v 4652007308841189376) < 0 then (if fpB (FP.dsub v (jif (jfi v))) = true then out (WV k) (EV k (d + 8)) MX3_lightOn 53 [vI n, vD v, vU, vI (jfi v), vD (FP.dsub v (jif (jfi v))), vU, vU] [] σ else none) else some (some (vI 1000), σ)) else some (some (vI 0), σ)) (fun r2 τ2 => some (some (vI r2), τ2)) := by
      rw [eX8_light, bX8_light_0, X8_isDay_ok k (d + 8) σ h1.1 h1.2, jbI_some, ib, if_pos z, eX3_lightOn, bX3_lightOn_0, ea, jbD_some, if_pos (FB_fp d1), ← hu, if_pos (FB_fp d2), wa, jbD_some, if_pos (FB_fp d3), ← hv, if_pos (fp_nan hx)]
    have up74 : out (WV k) (EV k (d + 9)) MX9_light 74 [vR 33, vI n, vD v, vU, vI j, vD (FP.dsub v (jif j)), vU, vU] [] σ = ansI (if j + 1 < 0 then 0 else if 1000 < j + 1 then 1000 else j + 1) σ := by
      rw [bX9_light_74, w32_id (a := j + 1) (by omega) (by omega), show w32 1000 = 1000 by decide]
      split
      · rfl
      · split <;> rfl
    have up81 : out (WV k) (EV k (d + 9)) MX9_light 81 [vR 33, vI n, vD v, vU, vI j, vD (FP.dsub v (jif j)), vU, vU] [] σ = ansI (if j < 0 then 0 else if 1000 < j then 1000 else j) σ := by
      rw [bX9_light_81, w32_id (a := j) (by omega) (by omega), show w32 1000 = 1000 by decide]
      split
      · rfl
      · split <;> rfl
    rw [up74, up81] at s9
    by_cases A : 0 < x
    · by_cases B : x < 1000 * (P0 : Int)
      · -- between
        have ej : j = trn x := by
          rcases f6 with w | w
          · exact w
          · omega
        have ti := trn_in x
        have j0 : 0 ≤ j := by
          apply Classical.byContradiction
          intro w
          have : j * (P0 : Int) ≤ -1 * (P0 : Int) := Int.mul_le_mul_of_nonneg_right (by omega) (by omega)
          omega
        have j9 : j ≤ 999 := by
          apply Classical.byContradiction
          intro w
          have : 1000 * (P0 : Int) ≤ j * (P0 : Int) := Int.mul_le_mul_of_nonneg_right (by omega) (by omega)
          omega
        have jv : jfi v = j := by rw [jfi_fin hx xb30', ej]
        have jm : jr j 2 = j % 2 := jr_pos (by omega) (by omega) (by omega) (by omega)
        rw [if_pos (g1.2 A), if_pos (t3.2 B), jv, if_pos (fp_nan hy), bX3_lightOn_53, jm, w32_id (a := j % 2) (by omega) (by omega), w32_1, i00] at s8
        rw [jm, w32_id (a := j % 2) (by omega) (by omega)] at s9
        have w10 : ∀ a b : Option Rt, (if (1 : Int) = 0 then a else b) = b := fun a b => if_neg (by decide)
        rw [w10] at s8
        have n1 : (if j + 1 < 0 then 0 else if 1000 < j + 1 then 1000 else j + 1) = j + 1 := by rw [if_neg (by omega), if_neg (by omega)]
        have n2 : (if j < 0 then 0 else if 1000 < j then 1000 else j) = j := by rw [if_neg (by omega), if_neg (by omega)]
        rw [n1, n2] at s9
        by_cases q1 : 0 < w32 (jcp .l (FP.dsub v (jif j)) 4602678819172646912)
        · rw [if_pos q1] at s8 s9
          exact ⟨j + 1, σ, s8, s9, Sc.rfl σ⟩
        · rw [if_neg q1] at s8 s9
          by_cases q2 : w32 (jcp .l (FP.dsub v (jif j)) 4602678819172646912) = 0
          · rw [if_pos q2] at s8 s9
            by_cases q3 : j % 2 = 0
            · rw [if_pos q3] at s9
              rw [if_neg (by omega)] at s8
              exact ⟨j, σ, s8, s9, Sc.rfl σ⟩
            · rw [if_neg q3] at s9
              rw [if_pos (by omega)] at s8
              exact ⟨j + 1, σ, s8, s9, Sc.rfl σ⟩
          · rw [if_neg q2] at s8 s9
            exact ⟨j, σ, s8, s9, Sc.rfl σ⟩
      · -- a thousand and more
        have j9 : 1000 ≤ j := by
          apply Classical.byContradiction
          intro w
          have : j * (P0 : Int) ≤ 999 * (P0 : Int) := Int.mul_le_mul_of_nonneg_right (by omega) (by omega)
          omega
        rw [if_pos (g1.2 A), if_neg (fun w => B (t3.1 w))] at s8
        refine ⟨1000, σ, s8, ?_, Sc.rfl σ⟩
        have n1 : (if j + 1 < 0 then 0 else if 1000 < j + 1 then 1000 else j + 1) = 1000 := by rw [if_neg (by omega), if_pos (by omega)]
        have n2 : (if j < 0 then 0 else if 1000 < j then 1000 else j) = 1000 := by
          rw [if_neg (by omega)]
          by_cases q : 1000 < j
          · rw [if_pos q]
          · rw [if_neg q]; omega
        rw [s9, n1, n2]
        split
        · rfl
        · split
          · split <;> rfl
          · rfl
    · -- nothing or less
      rw [if_neg (fun w => A (g1.1 w))] at s8
      refine ⟨0, σ, s8, ?_, Sc.rfl σ⟩
      by_cases x0 : x = j * (P0 : Int) ∧ j = 0
      · obtain ⟨y2, a1, a2⟩ := sm_ x0.1
        obtain ⟨e1, e2, e3⟩ := cmp_pos a1 half_fin .l
        have big : (1 : Int) < ((2 ^ 1073 : Nat) : Int) := by
          have : 2 ^ 1 ≤ 2 ^ 1073 := pow_le (a := 1) (b := 1073) (by omega)
          have e : (2 : Nat) ^ 1 = 2 := rfl
          rw [e] at this
          generalize (2 : Nat) ^ 1073 = X at this ⊢
          omega
        have ylt : y2 < ((2 ^ 1073 : Nat) : Int) := by
          generalize ((2 ^ 1073 : Nat) : Int) = X at big ⊢
          omega
        rw [s9, if_neg (fun w => by have := e1.1 w; omega), if_neg (fun w => by have := e2.1 w; omega), x0.2]
        rfl
      · have jn : j ≤ -1 := by
          apply Classical.byContradiction
          intro w
          by_cases jz : j = 0
          · apply x0
            refine ⟨?_, jz⟩
            rw [jz, Int.zero_mul] at f2 ⊢
            omega
          · have : 1 * (P0 : Int) ≤ j * (P0 : Int) := Int.mul_le_mul_of_nonneg_right (by omega) (by omega)
            omega
        have n1 : (if j + 1 < 0 then 0 else if 1000 < j + 1 then 1000 else j + 1) = 0 := by
          by_cases q : j + 1 < 0
          · rw [if_pos q]
          · rw [if_neg q, if_neg (by omega)]; omega
        have n2 : (if j < 0 then 0 else if 1000 < j then 1000 else j) = 0 := by rw [if_pos (by omega)]
        rw [s9, n1, n2]
        split
        · rfl
        · split
          · split <;> rfl
          · rfl
  · refine ⟨-3, σ, ?_, ?_, Sc.rfl σ⟩
    · rw [eX8_light, bX8_light_0, X8_isDay_ok k (d + 8) σ h1.1 h1.2, jbI_some, ib, if_neg z]
    · rw [eX9_light, bX9_light_0, w32_id h1.1 h1.2, X9_isDay_ok k (d + 8) σ (by omega) (by omega), jbI_some, ib, if_neg z]
