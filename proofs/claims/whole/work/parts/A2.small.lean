/-! the small machine over any world, with no word of its own -/
def noP : Nat → Orc := fun _ _ _ _ => none
theorem noP_ok {l : Launch} {D : va_G} {ad : Nat → Nat} {cA : Nat → ClassId} {V : Vw} : ∀ d, EOK l D ad cA V (jrm d) (noP d) := fun d mm as σ r h => by cases h
theorem evV_at {V : Vw} {d m ml : Nat} {as ls : List PV} {σ : St} {y : MethodName} {M : MT} {ret : Option FieldType} (ht : jmT[m]? = some (y, M, ml, ret)) (hl : (jent1 as).length ≤ ml) (he : jent as ml = ls) : ev V noP (d + 1) m as σ = out V (ev V noP d) M 0 ls [] σ := by
  subst he
  show (match noP d m as σ with | some r => some r | none => _) = _
  show (match jmT[m]? with | some (_, M, ml, _) => _ | none => none) = _
  rw [ht]
  exact if_pos hl
theorem eV_elapsedDays (V : Vw) (d : Nat) (σ : St) (x0 : Int) : ev V noP (d + 1) mX0_elapsedDays [vI x0] σ = out V (ev V noP d) MX0_elapsedDays 0 [vI x0, vU, vU] [] σ := evV_at rfl (Nat.le_of_ble_eq_true rfl) rfl
set_option maxRecDepth 100000 in
theorem bV_elapsedDays_0 (V : Vw) (E : Orc) (σ : St) (x0 : Int) : out V E MX0_elapsedDays 0 [vI x0, vU, vU] [] σ = if w32 (jr (3 * (((29 * (jq ((235 * x0) - 234) 19)) + (jq (12084 + (13753 * (jq ((235 * x0) - 234) 19))) 25920)) + 1)) 7) < w32 3 then some (some (vI (((29 * (jq ((235 * x0) - 234) 19)) + (jq (12084 + (13753 * (jq ((235 * x0) - 234) 19))) 25920)) + 1)), σ) else some (some (vI ((29 * (jq ((235 * x0) - 234) 19)) + (jq (12084 + (13753 * (jq ((235 * x0) - 234) 19))) 25920))), σ) :=
  Eq.trans (o_sipush dX0_elapsedDays_0 (by decide)) (Eq.trans (o_iload_n dX0_elapsedDays_3 rfl) (Eq.trans (o_imul dX0_elapsedDays_4) (Eq.trans (o_sipush dX0_elapsedDays_5 (by decide)) (Eq.trans (o_isub dX0_elapsedDays_8) (Eq.trans (o_bipush dX0_elapsedDays_9 (by decide)) (Eq.trans (o_idivk dX0_elapsedDays_11 (by decide)) (Eq.trans (o_istore_n dX0_elapsedDays_12 (Nat.le_of_ble_eq_true rfl) rfl) (Eq.trans (o_bipush dX0_elapsedDays_13 (by decide)) (Eq.trans (o_iload_n dX0_elapsedDays_15 rfl) (Eq.trans (o_imul dX0_elapsedDays_16) (Eq.trans (o_sipush dX0_elapsedDays_17 (by decide)) (Eq.trans (o_sipush dX0_elapsedDays_20 (by decide)) (Eq.trans (o_iload_n dX0_elapsedDays_23 rfl) (Eq.trans (o_imul dX0_elapsedDays_24) (Eq.trans (o_iadd dX0_elapsedDays_25) (Eq.trans (o_sipush dX0_elapsedDays_26 (by decide)) (Eq.trans (o_idivk dX0_elapsedDays_29 (by decide)) (Eq.trans (o_iadd dX0_elapsedDays_30) (Eq.trans (o_istore_n dX0_elapsedDays_31 (Nat.le_of_ble_eq_true rfl) rfl) (Eq.trans (o_iconst dX0_elapsedDays_32) (Eq.trans (o_iload_n dX0_elapsedDays_33 rfl) (Eq.trans (o_iconst dX0_elapsedDays_34) (Eq.trans (o_iadd dX0_elapsedDays_35) (Eq.trans (o_imul dX0_elapsedDays_36) (Eq.trans (o_bipush dX0_elapsedDays_37 (by decide)) (Eq.trans (o_iremk dX0_elapsedDays_39 (by decide)) (Eq.trans (o_iconst dX0_elapsedDays_40) (Eq.trans (o_icmp_ge dX0_elapsedDays_41 (t := 50) rfl) (ite_c (Eq.trans (o_iload_n dX0_elapsedDays_44 rfl) (Eq.trans (o_iconst dX0_elapsedDays_45) (Eq.trans (o_iadd dX0_elapsedDays_46) (Eq.trans (o_goto dX0_elapsedDays_47 (t := 51) rfl) (o_ireturn dX0_elapsedDays_51 rfl))))) (Eq.trans (o_iload_n dX0_elapsedDays_50 rfl) (o_ireturn dX0_elapsedDays_51 rfl)))))))))))))))))))))))))))))))
theorem V_elapsedDays_ok (V : Vw) (d : Nat) (σ : St) {y : Int} (h1 : 1 ≤ y) (h2 : y ≤ 5003) : ev V noP (d + 1) mX0_elapsedDays [vI y] σ = ansI (elap y) σ := by
  have hm := elM_b h1 h2
  have hd := elD_b h1 h2
  rw [eV_elapsedDays, bV_elapsedDays_0]
  have e1 : jq (235 * y - 234) 19 = elM y := by rw [jq_pos (by omega) (by omega) (by omega) (by omega)]; rfl
  rw [e1]
  have e2 : 29 * elM y + jq (12084 + 13753 * elM y) 25920 = elD y := by rw [jq_pos (by omega) (by omega) (by omega) (by omega)]; rfl
  rw [e2]
  simp (disch := omega) only [w32_id, jr_pos]
  unfold elap
  split <;> rfl
theorem eV_countedYearStart (V : Vw) (d : Nat) (σ : St) (x0 : Int) : ev V noP (d + 1) mX0_countedYearStart [vI x0] σ = out V (ev V noP d) MX0_countedYearStart 0 [vI x0, vU] [] σ := evV_at rfl (Nat.le_of_ble_eq_true rfl) rfl
set_option maxRecDepth 100000 in
theorem bV_countedYearStart_0 (V : Vw) (E : Orc) (σ : St) (x0 : Int) : out V E MX0_countedYearStart 0 [vI x0, vU] [] σ = jbI (E mX0_elapsedDays [vI x0] σ) (fun r1 τ1 => jbI (E mX0_elapsedDays [vI (x0 + 1)] τ1) (fun r2 τ2 => if w32 (r2 - r1) = w32 356 then some (some (vI (r1 + 2)), τ2) else if w32 1 < w32 x0 then jbI (E mX0_elapsedDays [vI (x0 - 1)] τ2) (fun r3 τ3 => if w32 (r1 - r3) = w32 382 then some (some (vI (r1 + 1)), τ3) else some (some (vI r1), τ3)) else some (some (vI r1), τ2))) :=
  Eq.trans (o_iload_n dX0_countedYearStart_0 rfl) (Eq.trans (jb_I (Nat.le_of_ble_eq_true rfl) (c_S dX0_countedYearStart_1 jc_0_22 (by decide) rfl)) (jbI_c fun r1 τ1 => Eq.trans (o_istore_n dX0_countedYearStart_4 (Nat.le_of_ble_eq_true rfl) rfl) (Eq.trans (o_iload_n dX0_countedYearStart_5 rfl) (Eq.trans (o_iconst dX0_countedYearStart_6) (Eq.trans (o_iadd dX0_countedYearStart_7) (Eq.trans (jb_I (Nat.le_of_ble_eq_true rfl) (c_S dX0_countedYearStart_8 jc_0_22 (by decide) rfl)) (jbI_c fun r2 τ2 => Eq.trans (o_iload_n dX0_countedYearStart_11 rfl) (Eq.trans (o_isub dX0_countedYearStart_12) (Eq.trans (o_sipush dX0_countedYearStart_13 (by decide)) (Eq.trans (o_icmp_ne dX0_countedYearStart_16 (t := 23) rfl) (ite_c (Eq.trans (o_iload_n dX0_countedYearStart_19 rfl) (Eq.trans (o_iconst dX0_countedYearStart_20) (Eq.trans (o_iadd dX0_countedYearStart_21) (o_ireturn dX0_countedYearStart_22 rfl)))) (Eq.trans (o_iload_n dX0_countedYearStart_23 rfl) (Eq.trans (o_iconst dX0_countedYearStart_24) (Eq.trans (o_icmp_le dX0_countedYearStart_25 (t := 46) rfl) (ite_c (Eq.trans (o_iload_n dX0_countedYearStart_28 rfl) (Eq.trans (o_iload_n dX0_countedYearStart_29 rfl) (Eq.trans (o_iconst dX0_countedYearStart_30) (Eq.trans (o_isub dX0_countedYearStart_31) (Eq.trans (jb_I (Nat.le_of_ble_eq_true rfl) (c_S dX0_countedYearStart_32 jc_0_22 (by decide) rfl)) (jbI_c fun r3 τ3 => Eq.trans (o_isub dX0_countedYearStart_35) (Eq.trans (o_sipush dX0_countedYearStart_36 (by decide)) (Eq.trans (o_icmp_ne dX0_countedYearStart_39 (t := 46) rfl) (ite_c (Eq.trans (o_iload_n dX0_countedYearStart_42 rfl) (Eq.trans (o_iconst dX0_countedYearStart_43) (Eq.trans (o_iadd dX0_countedYearStart_44) (o_ireturn dX0_countedYearStart_45 rfl)))) (Eq.trans (o_iload_n dX0_countedYearStart_46 rfl) (o_ireturn dX0_countedYearStart_47 rfl))))))))))) (Eq.trans (o_iload_n dX0_countedYearStart_46 rfl) (o_ireturn dX0_countedYearStart_47 rfl)))))))))))))))))
theorem V_countedYearStart_ok (V : Vw) (d : Nat) (σ : St) {y : Int} (h1 : 1 ≤ y) (h2 : y ≤ 5002) : ev V noP (d + 2) mX0_countedYearStart [vI y] σ = ansI (cys y) σ := by
  have a1 := elap_b h1 (show y ≤ 5003 by omega)
  have a2 := elap_b (show 1 ≤ y + 1 by omega) (show y + 1 ≤ 5003 by omega)
  rw [eV_countedYearStart, bV_countedYearStart_0, V_elapsedDays_ok V d σ h1 (by omega)]
  simp only [jbI_some]
  rw [V_elapsedDays_ok V d σ (y := y + 1) (by omega) (by omega)]
  simp (disch := omega) only [jbI_some, w32_id]
  unfold cys
  by_cases c1 : elap (y + 1) - elap y = 356
  · rw [if_pos c1, if_pos c1]
  · rw [if_neg c1, if_neg c1]
    by_cases c2 : 1 < y
    · have a3 := elap_b (show 1 ≤ y - 1 by omega) (show y - 1 ≤ 5003 by omega)
      rw [if_pos c2, V_elapsedDays_ok V d σ (y := y - 1) (by omega) (by omega)]
      simp (disch := omega) only [jbI_some, w32_id]
      by_cases c3 : elap y - elap (y - 1) = 382
      · rw [if_pos c3, if_pos ⟨c2, c3⟩]
      · rw [if_neg c3, if_neg (fun h => c3 h.2)]
    · rw [if_neg c2, if_neg (fun h => c2 h.1)]
set_option maxRecDepth 100000 in
theorem bV_fill_5 {V : Vw} {q n : Nat} (hq : V.1[q]? = some (.inr (0, n))) (E : Orc) (σ : St) (x1 : Int) (x2 : Int) (x3 : Int) : out V E MJ7_fill_53178 5 [vR q, vI x1, vI x2, vI x3] [] σ = if w32 x2 < w32 x3 then if 0 ≤ w32 x2 ∧ w32 x2 < (n : Int) then out V E MJ7_fill_53178 5 [vR q, vI x1, vI (x2 + 1), vI x3] [] (st2 σ q (w32 x2) x1) else none else some (none, σ) :=
  Eq.trans (o_iload_n dJ7_fill_53178_5 rfl) (Eq.trans (o_iload_n dJ7_fill_53178_6 rfl) (Eq.trans (o_icmp_ge dJ7_fill_53178_7 (t := 20) rfl) (ite_c (Eq.trans (o_aload_n dJ7_fill_53178_10 rfl) (Eq.trans (o_iload_n dJ7_fill_53178_11 rfl) (Eq.trans (o_iload_n dJ7_fill_53178_12 rfl) (Eq.trans (o_iast dJ7_fill_53178_13 hq rfl) (ite_c (Eq.trans (o_iinc dJ7_fill_53178_14 rfl (Nat.le_of_ble_eq_true rfl) rfl) (o_goto dJ7_fill_53178_17 (t := 5) rfl)) (rfl)))))) (o_return dJ7_fill_53178_20 rfl))))
set_option maxRecDepth 100000 in
theorem bV_fill_0 {V : Vw} {q n : Nat} (hq : V.1[q]? = some (.inr (0, n))) (E : Orc) (σ : St) (x1 : Int) : out V E MJ7_fill_53178 0 [vR q, vI x1, vU, vU] [] σ = out V E MJ7_fill_53178 5 [vR q, vI x1, vI 0, vI (n : Int)] [] σ :=
  Eq.trans (o_iconst dJ7_fill_53178_0) (Eq.trans (o_istore_n dJ7_fill_53178_1 (Nat.le_of_ble_eq_true rfl) rfl) (Eq.trans (o_aload_n dJ7_fill_53178_2 rfl) (Eq.trans (o_alen dJ7_fill_53178_3 (n := n) (by unfold jalen; rw [hq]) rfl) (o_istore_n dJ7_fill_53178_4 (Nat.le_of_ble_eq_true rfl) rfl))))
theorem fillV_loop {V : Vw} {q n : Nat} (hq : V.1[q]? = some (.inr (0, n))) (hn : n ≤ 100000) (E : Orc) {σ : St} (v : Int) : ∀ (t : Nat) (i : Int) (τ : St), 0 ≤ i → i + t = n → (∀ j, 0 ≤ j → j < i → τ q j = v) → (∀ p, p ≠ q → τ p = σ p) → ∃ ρ, (∀ j, 0 ≤ j → j < (n : Int) → ρ q j = v) ∧ (∀ p, p ≠ q → ρ p = σ p) ∧ out V E MJ7_fill_53178 5 [vR q, vI v, vI i, vI (n : Int)] [] τ = some (none, ρ) := by
  intro t
  induction t with
  | zero =>
    intro i τ h0 h1 h2 h3
    obtain rfl : i = n := by omega
    exact ⟨τ, h2, h3, by rw [bV_fill_5 hq, if_neg (by omega)]⟩
  | succ t ih =>
    intro i τ h0 h1 h2 h3
    rw [bV_fill_5 hq, w32_id (a := i) (by omega) (by omega), w32_id (a := (n : Int)) (by omega) (by omega), if_pos (by omega), if_pos (by omega)]
    refine ih (i + 1) _ (by omega) (by omega) (fun j j0 j1 => ?_) (fun p hp => ?_)
    · by_cases e : j = i
      · subst e; exact st2_eq _ _ _ _
      · show (if q = q ∧ j = i then v else τ q j) = v
        rw [if_neg (fun h => e h.2)]
        exact h2 j j0 (by omega)
    · rw [st2_ne hp]; exact h3 p hp
theorem fillV {V : Vw} {q n : Nat} (hq : V.1[q]? = some (.inr (0, n))) (hn : n ≤ 100000) (d : Nat) (σ : St) (v : Int) : ∃ ρ, (∀ j, 0 ≤ j → j < (n : Int) → ρ q j = v) ∧ (∀ p, p ≠ q → ρ p = σ p) ∧ ev V noP (d + 1) mJ7_fill_53178 [vR q, vI v] σ = some (none, ρ) := by
  obtain ⟨ρ, h1, h2, h3⟩ := fillV_loop hq hn (ev V noP d) (σ := σ) v n 0 σ (by omega) (by omega) (fun j _ _ => by omega) (fun _ _ => rfl)
  refine ⟨ρ, h1, h2, ?_⟩
  rw [evV_at (y := yJ7_fill_53178) (M := MJ7_fill_53178) (ml := 4) (ret := none) (ls := [vR q, vI v, vU, vU]) rfl (Nat.le_of_ble_eq_true rfl) rfl, bV_fill_0 hq]
  exact h3
/-- Calendars: the loop of its constructor -/
def V0 : Vw := ([.inl (0, [some 1, some 2, none]), .inr (0, 5002), .inr (0, 501)], fun _ => none)
abbrev MX0_init : MT := (cX0_init, 0, 0)
set_option maxRecDepth 100000 in
theorem bC_24 (E : Orc) (σ : St) (y : Int) : out V0 E MX0_init 24 [vR 0, vI y] [] σ = if w32 y < w32 5002 then jbI (E mX0_countedYearStart [vI y] σ) (fun r τ => if 0 ≤ w32 y ∧ w32 y < 5002 then out V0 E MX0_init 24 [vR 0, vI (y + 1)] [] (st2 τ 1 (w32 y) r) else none) else some (none, σ) :=
  Eq.trans (o_iload_n dX0_init_24 rfl) (Eq.trans (o_aload_n dX0_init_25 rfl) (Eq.trans (o_getR dX0_init_26 jf_0_9 (q := 0) rfl rfl) (Eq.trans (o_alen dX0_init_29 (q := 1) (n := 5002) rfl rfl) (Eq.trans (o_icmp_ge dX0_init_30 (t := 49) rfl) (ite_c (Eq.trans (o_aload_n dX0_init_33 rfl) (Eq.trans (o_getR dX0_init_34 jf_0_9 (q := 0) rfl rfl) (Eq.trans (o_iload_n dX0_init_37 rfl) (Eq.trans (o_iload_n dX0_init_38 rfl) (Eq.trans (jb_I (Nat.le_of_ble_eq_true rfl) (c_S dX0_init_39 jc_0_18 (by decide) rfl)) (jbI_c fun r τ => Eq.trans (o_iast dX0_init_42 (q := 1) (n := 5002) rfl rfl) (ite_c (Eq.trans (o_iinc dX0_init_43 rfl (Nat.le_of_ble_eq_true rfl) rfl) (o_goto dX0_init_46 (t := 24) rfl)) (rfl)))))))) (o_return dX0_init_49 rfl))))))
theorem loopC (d : Nat) : ∀ (t : Nat) (y : Int) (τ : St), 1 ≤ y → y + t = 5002 → (∀ j, 1 ≤ j → j < y → τ 1 j = cys j) → (∀ p, p ≠ 1 → ∀ j, τ p j = 0) → τ 1 0 = 0 → ∃ ρ, (∀ j, 1 ≤ j → j < 5002 → ρ 1 j = cys j) ∧ (∀ p, p ≠ 1 → ∀ j, ρ p j = 0) ∧ ρ 1 0 = 0 ∧ out V0 (ev V0 noP (d + 2)) MX0_init 24 [vR 0, vI y] [] τ = some (none, ρ) := by
  intro t
  induction t with
  | zero =>
    intro y τ h0 h1 h2 h3 h4
    obtain rfl : y = 5002 := by omega
    exact ⟨τ, h2, h3, h4, by rw [bC_24, if_neg (by decide)]⟩
  | succ t ih =>
    intro y τ h0 h1 h2 h3 h4
    rw [bC_24, w32_id (a := y) (by omega) (by omega), show w32 5002 = 5002 by decide, if_pos (by omega), V_countedYearStart_ok V0 d τ h0 (by omega), jbI_some, if_pos (by omega)]
    refine ih (y + 1) _ (by omega) (by omega) (fun j j0 j1 => ?_) (fun p hp j => ?_) ?_
    · by_cases e : j = y
      · subst e; exact st2_eq _ _ _ _
      · show (if 1 = 1 ∧ j = y then cys y else τ 1 j) = _
        rw [if_neg (fun h => e h.2)]
        exact h2 j j0 (by omega)
    · rw [st2_ne hp]; exact h3 p hp j
    · show (if 1 = 1 ∧ (0 : Int) = y then cys y else τ 1 0) = 0
      rw [if_neg (by omega)]; exact h4
