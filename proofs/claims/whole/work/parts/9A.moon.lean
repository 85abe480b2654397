/-! the moon's estimate and light on both sides -/
def FB (x : UInt64) (K : Nat) : Prop := ∃ v, FIN x v ∧ v.natAbs ≤ 2 ^ K
theorem pow_le {a b : Nat} (h : a ≤ b) : 2 ^ a ≤ 2 ^ b := Nat.pow_le_pow_right (by decide) h
theorem FB_m {x : UInt64} {a b : Nat} (h : FB x a) (l : a ≤ b) : FB x b := by
  obtain ⟨v, h1, h2⟩ := h
  exact ⟨v, h1, Nat.le_trans h2 (pow_le l)⟩
theorem two_le {m : Nat} {a b : Nat} (h1 : a ≤ 2 ^ m) (h2 : b ≤ 2 ^ m) : a + b ≤ 2 ^ (m + 1) := by
  rw [Nat.pow_succ]
  generalize 2 ^ m = X at h1 h2 ⊢
  omega
theorem FB_add {x y : UInt64} {m : Nat} (h1 : FB x m) (h2 : FB y m) (hm : m ≤ 2000) : FB (FP.dadd x y) (m + 1) := by
  obtain ⟨v, a1, a2⟩ := h1
  obtain ⟨w, b1, b2⟩ := h2
  obtain ⟨z, c1, c2⟩ := add_le a1 b1 (K := m + 1) (by omega) (Nat.le_trans (Int.natAbs_add_le v w) (two_le a2 b2))
  exact ⟨z, c1, c2⟩
theorem FB_sub {x y : UInt64} {m : Nat} (h1 : FB x m) (h2 : FB y m) (hm : m ≤ 2000) : FB (FP.dsub x y) (m + 1) := by
  obtain ⟨v, a1, a2⟩ := h1
  obtain ⟨w, b1, b2⟩ := h2
  have ab : (v - w).natAbs ≤ v.natAbs + w.natAbs := by
    have := Int.natAbs_add_le v (-w)
    rw [Int.natAbs_neg, ← Int.sub_eq_add_neg] at this
    exact this
  obtain ⟨z, c1, c2⟩ := sub_le a1 b1 (K := m + 1) (by omega) (Nat.le_trans ab (two_le a2 b2))
  exact ⟨z, c1, c2⟩
theorem FB_mul {x y : UInt64} {a b K : Nat} (h1 : FB x a) (h2 : FB y b) (hK : a + b = K + 1074) (l : K ≤ 2000) : FB (FP.dmul x y) K := by
  obtain ⟨v, a1, a2⟩ := h1
  obtain ⟨w, b1, b2⟩ := h2
  obtain ⟨z, c1, c2⟩ := mul_le a1 b1 (K := K) (by omega) (by
    rw [← hK, Nat.pow_add]
    exact Nat.mul_le_mul a2 b2)
  exact ⟨z, c1, c2⟩
theorem FB_fp {x : UInt64} {K : Nat} (h : FB x K) : fpB x = true := by
  obtain ⟨v, h1, _⟩ := h
  exact fp_nan h1
def fchk (x : UInt64) (m : Nat) (K : Int) : Bool := match FP.Core.val64 x with
  | .fin _ c q => decide (-1074 ≤ q ∧ c ≤ 2 ^ m ∧ q + 1074 + m ≤ K)
  | _ => false
theorem FB_c {x : UInt64} (m K : Nat) (h : fchk x m K = true) : FB x K := by
  unfold fchk at h
  cases e : FP.Core.val64 x with
  | nan => rw [e] at h; cases h
  | inf s => rw [e] at h; cases h
  | fin s c q =>
    rw [e] at h
    obtain ⟨h1, h2, h3⟩ := of_decide_eq_true h
    refine ⟨_, ⟨s, c, q, e, h1, rfl⟩, ?_⟩
    rw [sg_abs]
    refine Nat.le_trans (Nat.mul_le_mul_right _ h2) ?_
    rw [← Nat.pow_add]
    exact pow_le (by omega)
def dchk (x : UInt64) : Bool := match FP.Core.val64 x with
  | .fin _ c q => decide (-52 ≤ q ∧ 2 ^ 52 ≤ c)
  | _ => false
theorem FB_div {x y : UInt64} {K : Nat} (h1 : FB x K) (h : dchk y = true) (l : K ≤ 2000) : FB (FP.ddiv x y) K := by
  obtain ⟨v, a1, a2⟩ := h1
  unfold dchk at h
  cases e : FP.Core.val64 y with
  | nan => rw [e] at h; cases h
  | inf s => rw [e] at h; cases h
  | fin s c q =>
    rw [e] at h
    obtain ⟨h1, h2⟩ := of_decide_eq_true h
    obtain ⟨z, c1, c2⟩ := div_le (y := y) a1 ⟨s, c, q, e, by omega, rfl⟩ (K := K) (by omega) a2 (by
      rw [sg_abs]
      refine Nat.le_trans ?_ (Nat.mul_le_mul_right _ h2)
      rw [← Nat.pow_add]
      exact pow_le (by omega))
    exact ⟨z, c1, c2⟩
theorem one_FB : FB FP.dconst1 1074 := ⟨_, one_fin, by rw [Int.natAbs_natCast]; exact Nat.le_refl _⟩
noncomputable def wvR (u : UInt64) : UInt64 := FP.dsub (FP.dmul 4611686018427387904 (FP.dsub u (flW u))) FP.dconst1
noncomputable def wvQ (u : UInt64) : UInt64 := FP.dmul (wvR u) (wvR u)
noncomputable def wv (u : UInt64) : UInt64 := FP.dmul (FP.dmul (wvR u) (FP.dsub (wvQ u) FP.dconst1)) (FP.dsub 4614254477589872640 (FP.dmul (wvQ u) (FP.dsub 4611721202799476736 (FP.dmul (wvQ u) 4601834394242514944))))
theorem fl_b {u : UInt64} {v : Int} {K : Nat} (h : v.natAbs ≤ 2 ^ K) (hK : K ≤ 1124) : v.natAbs ≤ 2 ^ 50 * P0 := by
  unfold P0
  rw [← Nat.pow_add]
  exact Nat.le_trans h (pow_le (by omega))
theorem wave_ok (k : Nat × (Int → Int)) (d : Nat) (σ : St) {u : UInt64} (h : FB u 1124) : EV k (d + 2) mX3_wave [vD u] σ = some (some (vD (wv u)), σ) ∧ EV k (d + 2) mX9_wave [vD u] σ = some (some (vD (wv u)), σ) ∧ FB (wv u) 1090 := by
  obtain ⟨v, hv, hb⟩ := h
  obtain ⟨j, f1, f2, f3, f4, f5, f6, f7⟩ := floor_fin hv (fl_b (u := u) hb (by omega))
  have fo3 : EV k (d + 1) mX3_floorOf [vD u] σ = some (some (vD (flW u)), σ) := by
    rw [eX3_floorOf, bX3_floorOf_0]
    unfold flW
    by_cases c : 0 < w32 (jcp .l (jlf (jfl u)) u)
    · rw [if_pos c, if_pos c, if_pos (f7 c)]
    · rw [if_neg c, if_neg c]
  have fo9 : EV k (d + 1) mX9_floor [vD u] σ = some (some (vD (flW u)), σ) := by
    rw [eX9_floor, bX9_floor_0]
    unfold flW
    by_cases c : 0 < w32 (jcp .l (jlf (jfl u)) u)
    · rw [if_pos c, if_pos c, if_pos (f7 c)]
    · rw [if_neg c, if_neg c]
  have t1 : FB (FP.dsub u (flW u)) 1074 := by
    obtain ⟨z, c1, c2⟩ := sub_le hv f1 (K := 1074) (by omega) (by
      show (v - j * (P0 : Int)).natAbs ≤ P0
      omega)
    exact ⟨z, c1, c2⟩
  have t2 : FB (FP.dmul 4611686018427387904 (FP.dsub u (flW u))) 1075 := FB_mul (FB_c 52 1075 (by decide +kernel)) t1 (by omega) (by omega)
  have t3 : FB (wvR u) 1076 := FB_sub t2 (FB_m one_FB (by omega)) (by omega)
  have t4 : FB (wvQ u) 1078 := FB_mul t3 t3 (by omega) (by omega)
  have t5 : FB (FP.dsub (wvQ u) FP.dconst1) 1079 := FB_sub t4 (FB_m one_FB (by omega)) (by omega)
  have t6 : FB (FP.dmul (wvR u) (FP.dsub (wvQ u) FP.dconst1)) 1081 := FB_mul t3 t5 (by omega) (by omega)
  have t7 : FB (FP.dmul (wvQ u) 4601834394242514944) 1077 := FB_mul t4 (FB_c 53 1073 (by decide +kernel)) (by omega) (by omega)
  have t8 : FB (FP.dsub 4611721202799476736 (FP.dmul (wvQ u) 4601834394242514944)) 1078 := FB_sub (FB_c 53 1077 (by decide +kernel)) t7 (by omega)
  have t9 : FB (FP.dmul (wvQ u) (FP.dsub 4611721202799476736 (FP.dmul (wvQ u) 4601834394242514944))) 1082 := FB_mul t4 t8 (by omega) (by omega)
  have ta : FB (FP.dsub 4614254477589872640 (FP.dmul (wvQ u) (FP.dsub 4611721202799476736 (FP.dmul (wvQ u) 4601834394242514944)))) 1083 := FB_sub (FB_c 53 1082 (by decide +kernel)) t9 (by omega)
  have tb_ : FB (wv u) 1090 := FB_mul t6 ta (by omega) (by omega)
  refine ⟨?_, ?_, tb_⟩
  · rw [eX3_wave, bX3_wave_0, fo3, jbD_some, if_pos (FB_fp t1), if_pos (FB_fp t2)]
    show (if fpB (wvR u) = true then (if fpB (wvQ u) = true then out (WV k) (EV k (d + 1)) MX3_wave 23 [vD u, vU, vD (FP.dsub u (flW u)), vU, vD (wvR u), vU, vD (wvQ u), vU] [] σ else none) else none) = _
    rw [if_pos (FB_fp t3), if_pos (FB_fp t4), bX3_wave_23, if_pos (FB_fp t5), if_pos (FB_fp t6), if_pos (FB_fp t7), if_pos (FB_fp t8), if_pos (FB_fp t9), if_pos (FB_fp ta)]
    show (if fpB (wv u) = true then some (some (vD (wv u)), σ) else none) = _
    rw [if_pos (FB_fp tb_)]
  · rw [eX9_wave, bX9_wave_0, fo9, jbD_some, if_pos (FB_fp t1), if_pos (FB_fp t2)]
    show (if fpB (wvR u) = true then (if fpB (wvQ u) = true then out (WV k) (EV k (d + 1)) MX9_wave 23 [vD u, vU, vD (FP.dsub u (flW u)), vU, vD (wvR u), vU, vD (wvQ u), vU] [] σ else none) else none) = _
    rw [if_pos (FB_fp t3), if_pos (FB_fp t4), bX9_wave_23, if_pos (FB_fp t5), if_pos (FB_fp t6), if_pos (FB_fp t7), if_pos (FB_fp t8), if_pos (FB_fp t9), if_pos (FB_fp ta)]
    show (if fpB (wv u) = true then some (some (vD (wv u)), σ) else none) = _
    rw [if_pos (FB_fp tb_)]
theorem jif_FB {a : Int} {m : Nat} (h0 : 0 ≤ a) (h1 : a ≤ 2147483647) (hm : a.natAbs ≤ 2 ^ m) : FB (jif a) (m + 1074) := by
  refine ⟨_, jif_fin a, ?_⟩
  rw [w32_id (by omega) h1, Int.natAbs_mul, Int.natAbs_natCast, Nat.pow_add]
  exact Nat.mul_le_mul_right _ hm
theorem jif_jlf {a : Int} (h0 : -2147483648 ≤ a) (h1 : a ≤ 2147483647) : jif a = jlf a := by
  show UInt64.ofNat (FP.Core.fromInt FP.Core.b64 (w32 a)) = UInt64.ofNat (FP.Core.fromInt FP.Core.b64 (w64 a))
  rw [w32_id h0 h1, w64_id (by omega) (by omega)]
noncomputable def aU (n : Int) (c e : UInt64) : UInt64 := FP.dadd (FP.dmul (jif n) c) e
theorem aU_b {n : Int} (h0 : 0 ≤ n) (h1 : n ≤ 1500001) {c e : UInt64} (hc : fchk c 53 1074 = true) (he : fchk e 53 1074 = true) : FB (FP.dmul (jif n) c) 1095 ∧ FB (aU n c e) 1124 := by
  have a : FB (FP.dmul (jif n) c) 1095 := FB_mul (jif_FB (m := 21) h0 (by omega) (by omega)) (FB_c 53 1074 hc) (by omega) (by omega)
  exact ⟨a, FB_m (FB_add a (FB_m (FB_c 53 1074 he) (by omega)) (by omega)) (by omega)⟩
noncomputable def es0 (n : Int) : UInt64 := FP.ddiv (jif ((n * 25920 - 5604) % 765433)) 4672854049303822336
noncomputable def es1 (n : Int) : UInt64 := FP.dadd (es0 n) (FP.dmul 4601057523306793533 (wv (aU n 4585390991795368163 4599075939470750515)))
noncomputable def es2 (n : Int) : UInt64 := FP.dadd (es1 n) (FP.dmul 4595437030971835154 (wv (aU n 4568459590101238621 4587366580439587226)))
noncomputable def es3 (n : Int) : UInt64 := FP.dadd (es2 n) (FP.dmul 4580845368179154747 (wv (aU n 4589542719779532649 4604480259023595110)))
noncomputable def es4 (n : Int) : UInt64 := FP.dadd (es3 n) (FP.dmul 4577782920432542810 (wv (aU n 4589953448065548839 4592590756007337001)))
noncomputable def es5 (n : Int) : UInt64 := FP.dadd (es4 n) (FP.dmul 13794749037177346825 (wv (aU n 4584686037941376306 4602678819172646912)))
theorem est_ok (k : Nat × (Int → Int)) (d : Nat) (σ : St) {n : Int} (h0 : 0 ≤ n) (h1 : n ≤ 1500000) : EV k (d + 3) mX3_estimatedAge [vI n] σ = some (some (vD (es5 n)), σ) ∧ EV k (d + 3) mX9_estimated [vI n] σ = some (some (vD (es5 n)), σ) ∧ FB (es5 n) 1110 := by
  have ab : 0 ≤ (n * 25920 - 5604) % 765433 ∧ (n * 25920 - 5604) % 765433 < 765433 := by omega
  obtain ⟨p1, q1⟩ := aU_b h0 (show n ≤ 1500001 by omega) (c := 4585390991795368163) (e := 4599075939470750515) (by decide +kernel) (by decide +kernel)
  obtain ⟨p2, q2⟩ := aU_b h0 (show n ≤ 1500001 by omega) (c := 4568459590101238621) (e := 4587366580439587226) (by decide +kernel) (by decide +kernel)
  obtain ⟨p3, q3⟩ := aU_b h0 (show n ≤ 1500001 by omega) (c := 4589542719779532649) (e := 4604480259023595110) (by decide +kernel) (by decide +kernel)
  obtain ⟨p4, q4⟩ := aU_b h0 (show n ≤ 1500001 by omega) (c := 4589953448065548839) (e := 4592590756007337001) (by decide +kernel) (by decide +kernel)
  obtain ⟨p5, q5⟩ := aU_b h0 (show n ≤ 1500001 by omega) (c := 4584686037941376306) (e := 4602678819172646912) (by decide +kernel) (by decide +kernel)
  obtain ⟨a1, b1, c1⟩ := wave_ok k d σ q1
  obtain ⟨a2, b2, c2⟩ := wave_ok k d σ q2
  obtain ⟨a3, b3, c3⟩ := wave_ok k d σ q3
  obtain ⟨a4, b4, c4⟩ := wave_ok k d σ q4
  obtain ⟨a5, b5, c5⟩ := wave_ok k d σ q5
  have m1 : FB (FP.dmul 4601057523306793533 (wv (aU n 4585390991795368163 4599075939470750515))) 1090 := FB_mul (FB_c 53 1074 (by decide +kernel)) c1 (by omega) (by omega)
  have m2 : FB (FP.dmul 4595437030971835154 (wv (aU n 4568459590101238621 4587366580439587226))) 1090 := FB_mul (FB_c 53 1074 (by decide +kernel)) c2 (by omega) (by omega)
  have m3 : FB (FP.dmul 4580845368179154747 (wv (aU n 4589542719779532649 4604480259023595110))) 1090 := FB_mul (FB_c 53 1074 (by decide +kernel)) c3 (by omega) (by omega)
  have m4 : FB (FP.dmul 4577782920432542810 (wv (aU n 4589953448065548839 4592590756007337001))) 1090 := FB_mul (FB_c 53 1074 (by decide +kernel)) c4 (by omega) (by omega)
  have m5 : FB (FP.dmul 13794749037177346825 (wv (aU n 4584686037941376306 4602678819172646912))) 1090 := FB_mul (FB_c 53 1074 (by decide +kernel)) c5 (by omega) (by omega)
  have e0 : FB (es0 n) 1105 := FB_m (FB_div (jif_FB (m := 20) ab.1 (by omega) (by omega)) (by decide +kernel) (by omega)) (by omega)
  have e1 : FB (es1 n) 1106 := FB_add e0 (FB_m m1 (by omega)) (by omega)
  have e2 : FB (es2 n) 1107 := FB_add e1 (FB_m m2 (by omega)) (by omega)
  have e3 : FB (es3 n) 1108 := FB_add e2 (FB_m m3 (by omega)) (by omega)
  have e4 : FB (es4 n) 1109 := FB_add e3 (FB_m m4 (by omega)) (by omega)
  have e5 : FB (es5 n) 1110 := FB_add e4 (FB_m m5 (by omega)) (by omega)
  refine ⟨?_, ?_, e5⟩
  · rw [eX3_estimatedAge, bX3_estimatedAge_0, X3_ageOn_ok k d σ h0 (by omega), jbI_some]
    show (if fpB (es0 n) = true then _ else _) = _
    rw [if_pos (FB_fp e0), if_pos (FB_fp p1)]
    show (if fpB (aU n 4585390991795368163 4599075939470750515) = true then jbD (EV k (d + 2) mX3_wave [vD (aU n 4585390991795368163 4599075939470750515)] σ) _ else _) = _
    rw [if_pos (FB_fp q1), a1, jbD_some, if_pos (FB_fp m1)]
    show (if fpB (es1 n) = true then _ else _) = _
    rw [if_pos (FB_fp e1), if_pos (FB_fp p2)]
    show (if fpB (aU n 4568459590101238621 4587366580439587226) = true then jbD (EV k (d + 2) mX3_wave [vD (aU n 4568459590101238621 4587366580439587226)] σ) _ else _) = _
    rw [if_pos (FB_fp q2), a2, jbD_some, if_pos (FB_fp m2)]
    show (if fpB (es2 n) = true then out (WV k) (EV k (d + 2)) MX3_estimatedAge 50 [vI n, vD (es2 n), vU] [] σ else _) = _
    rw [if_pos (FB_fp e2), bX3_estimatedAge_50, if_pos (FB_fp p3)]
    show (if fpB (aU n 4589542719779532649 4604480259023595110) = true then jbD (EV k (d + 2) mX3_wave [vD (aU n 4589542719779532649 4604480259023595110)] σ) _ else _) = _
    rw [if_pos (FB_fp q3), a3, jbD_some, if_pos (FB_fp m3)]
    show (if fpB (es3 n) = true then out (WV k) (EV k (d + 2)) MX3_estimatedAge 70 [vI n, vD (es3 n), vU] [] σ else _) = _
    rw [if_pos (FB_fp e3), bX3_estimatedAge_70, if_pos (FB_fp p4)]
    show (if fpB (aU n 4589953448065548839 4592590756007337001) = true then jbD (EV k (d + 2) mX3_wave [vD (aU n 4589953448065548839 4592590756007337001)] σ) _ else _) = _
    rw [if_pos (FB_fp q4), a4, jbD_some, if_pos (FB_fp m4)]
    show (if fpB (es4 n) = true then out (WV k) (EV k (d + 2)) MX3_estimatedAge 90 [vI n, vD (es4 n), vU] [] σ else _) = _
    rw [if_pos (FB_fp e4), bX3_estimatedAge_90, if_pos (FB_fp p5)]
    show (if fpB (aU n 4584686037941376306 4602678819172646912) = true then jbD (EV k (d + 2) mX3_wave [vD (aU n 4584686037941376306 4602678819172646912)] σ) _ else _) = _
    rw [if_pos (FB_fp q5), a5, jbD_some, if_pos (FB_fp m5)]
    show (if fpB (es5 n) = true then out (WV k) (EV k (d + 2)) MX3_estimatedAge 110 [vI n, vD (es5 n), vU] [] σ else _) = _
    rw [if_pos (FB_fp e5), bX3_estimatedAge_110]
  · have ej : jlf ((n * 25920 - 5604) % 765433) = jif ((n * 25920 - 5604) % 765433) := (jif_jlf (by omega) (by omega)).symm
    rw [eX9_estimated, bX9_estimated_0, X9_ageOf_ok k (d + 1) σ h0 (by omega), jbL_some, ej]
    show (if fpB (es0 n) = true then _ else _) = _
    rw [if_pos (FB_fp e0), if_pos (FB_fp p1)]
    show (if fpB (aU n 4585390991795368163 4599075939470750515) = true then jbD (EV k (d + 2) mX9_wave [vD (aU n 4585390991795368163 4599075939470750515)] σ) _ else _) = _
    rw [if_pos (FB_fp q1), b1, jbD_some, if_pos (FB_fp m1)]
    show (if fpB (es1 n) = true then _ else _) = _
    rw [if_pos (FB_fp e1), if_pos (FB_fp p2)]
    show (if fpB (aU n 4568459590101238621 4587366580439587226) = true then jbD (EV k (d + 2) mX9_wave [vD (aU n 4568459590101238621 4587366580439587226)] σ) _ else _) = _
    rw [if_pos (FB_fp q2), b2, jbD_some, if_pos (FB_fp m2)]
    show (if fpB (es2 n) = true then out (WV k) (EV k (d + 2)) MX9_estimated 50 [vI n, vD (es2 n), vU] [] σ else _) = _
    rw [if_pos (FB_fp e2), bX9_estimated_50, if_pos (FB_fp p3)]
    show (if fpB (aU n 4589542719779532649 4604480259023595110) = true then jbD (EV k (d + 2) mX9_wave [vD (aU n 4589542719779532649 4604480259023595110)] σ) _ else _) = _
    rw [if_pos (FB_fp q3), b3, jbD_some, if_pos (FB_fp m3)]
    show (if fpB (es3 n) = true then out (WV k) (EV k (d + 2)) MX9_estimated 70 [vI n, vD (es3 n), vU] [] σ else _) = _
    rw [if_pos (FB_fp e3), bX9_estimated_70, if_pos (FB_fp p4)]
    show (if fpB (aU n 4589953448065548839 4592590756007337001) = true then jbD (EV k (d + 2) mX9_wave [vD (aU n 4589953448065548839 4592590756007337001)] σ) _ else _) = _
    rw [if_pos (FB_fp q4), b4, jbD_some, if_pos (FB_fp m4)]
    show (if fpB (es4 n) = true then out (WV k) (EV k (d + 2)) MX9_estimated 90 [vI n, vD (es4 n), vU] [] σ else _) = _
    rw [if_pos (FB_fp e4), bX9_estimated_90, if_pos (FB_fp p5)]
    show (if fpB (aU n 4584686037941376306 4602678819172646912) = true then jbD (EV k (d + 2) mX9_wave [vD (aU n 4584686037941376306 4602678819172646912)] σ) _ else _) = _
    rw [if_pos (FB_fp q5), b5, jbD_some, if_pos (FB_fp m5)]
    show (if fpB (es5 n) = true then some (some (vD (es5 n)), σ) else _) = _
    rw [if_pos (FB_fp e5)]
theorem TwD_estimate (k : Nat × (Int → Int)) (d : Nat) {σ : St} {n : Int} (h1 : I32 n) : ∃ x, EV k (d + 10) mX8_estimate [vR 0, vI n] σ = some (some (vD x), σ) ∧ EV k (d + 10) mX9_estimate [vR 33, vI n] σ = some (some (vD x), σ) ∧ FB x 1110 := by
  unfold I32 at h1
  by_cases z : 0 ≤ n ∧ n ≤ 1500000
  · obtain ⟨a, b, c⟩ := est_ok k (d + 6) σ z.1 z.2
    refine ⟨es5 n, ?_, ?_, c⟩
    · rw [eX8_estimate, bX8_estimate_0, X8_isDay_ok k (d + 8) σ h1.1 h1.2, jbI_some, ib, if_pos z, a, jbD_some]
    · rw [eX9_estimate, bX9_estimate_0, w32_id h1.1 h1.2, X9_isDay_ok k (d + 8) σ (by omega) (by omega), jbI_some, ib, if_pos z, b, jbD_some]
  · refine ⟨13830554455654793216, ?_, ?_, FB_c 53 1110 (by decide +kernel)⟩
    · rw [eX8_estimate, bX8_estimate_0, X8_isDay_ok k (d + 8) σ h1.1 h1.2, jbI_some, ib, if_neg z]
    · rw [eX9_estimate, bX9_estimate_0, w32_id h1.1 h1.2, X9_isDay_ok k (d + 8) σ (by omega) (by omega), jbI_some, ib, if_neg z]
