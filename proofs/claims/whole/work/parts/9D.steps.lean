/-! one step of the law's loop: whatever the call, both sides answer the same and the invariant holds again -/
def Al (k : Nat × (Int → Int)) (m8 m9 : Nat) (as : List PV) (σ : St) : Prop := ∃ a σ1 ρ, EV k 12 m8 (vR 0 :: as) σ = ansI a σ1 ∧ EV k 12 m9 (vR 33 :: as) σ1 = ansI a ρ ∧ INV ρ
theorem Al_tw {k : Nat × (Int → Int)} {m8 m9 : Nat} {as : List PV} {σ : St} (hI : INV σ) (h : Tw k 12 m8 m9 as σ) : Al k m8 m9 as σ := by
  obtain ⟨a, τ, h1, h2, h3⟩ := h
  exact ⟨a, σ, τ, h1, h2, hI.sc h3⟩
theorem Al_qw {k : Nat × (Int → Int)} {m8 m9 : Nat} {as : List PV} {σ : St} (hI : INV σ) (h : Qw k 12 m8 m9 as σ) : Al k m8 m9 as σ := by
  obtain ⟨a, σ1, ρ, h1, h2, h3, h4, h5, h6⟩ := h
  exact ⟨a, σ1, ρ, h1, h2, hI.qw h3 h4 h5 h6⟩
def LStep (k : Nat × (Int → Int)) (pc : Nat) (x3 : Int) (σ : St) : Prop := ∀ u4 u6 : PV, ∃ ρ v4 v6, INV ρ ∧ out (WV k) (EV k 12) ML_law pc [vR 1000, vR 0, vR 33, vI x3, u4, vU, u6, vU] [] σ = out (WV k) (EV k 12) ML_law 18 [vR 1000, vR 0, vR 33, vI (x3 + 6), v4, vU, v6, vU] [] ρ
theorem ixJ {k : Nat × (Int → Int)} {x3 : Int} (h0 : 0 ≤ x3) (h6 : x3 + 6 ≤ (k.1 : Int)) (hK : k.1 ≤ 3072) {j : Int} (j0 : 0 ≤ j) (j5 : j ≤ 5) : 0 ≤ w32 (x3 + j) ∧ w32 (x3 + j) < (k.1 : Int) := by
  have : (k.1 : Int) ≤ 3072 := by omega
  rw [w32_id (by omega) (by omega)]
  omega
theorem LS_toDay {k : Nat × (Int → Int)} {σ : St} {x3 : Int} (hI : INV σ) (hk : ∀ i, I32 (k.2 i)) (h0 : 0 ≤ x3) (h6 : x3 + 6 ≤ (k.1 : Int)) (hK : k.1 ≤ 3072) : LStep k 200 x3 σ := by
  intro u4 u6
  have i1 := ixJ h0 h6 hK (j := 1) (by omega) (by omega)
  have i2 := ixJ h0 h6 hK (j := 2) (by omega) (by omega)
  have i3 := ixJ h0 h6 hK (j := 3) (by omega) (by omega)
  have i4 := ixJ h0 h6 hK (j := 4) (by omega) (by omega)
  have al : Al k mX8_toDay mX9_toDay [vI (k.2 (w32 (x3 + 1))), vI (k.2 (w32 (x3 + 2))), vI (k.2 (w32 (x3 + 3))), vI (k.2 (w32 (x3 + 4)))] σ := Al_tw hI (Tw_toDay k 2 hI.1.1 hI.1.2.1 (hk _) (hk _) (hk _) (hk _))
  obtain ⟨a, σ1, ρ, e8, e9, hρ⟩ := al
  refine ⟨ρ, u4, u6, hρ, ?_⟩
  rw [bL_200, if_pos i1, if_pos i2, if_pos i3, if_pos i4, e8, jbI_some, if_pos i1, if_pos i2, if_pos i3, if_pos i4, e9, jbI_some, if_pos rfl, bL_1638]
theorem LS_fromDay {k : Nat × (Int → Int)} {σ : St} {x3 : Int} (hI : INV σ) (hk : ∀ i, I32 (k.2 i)) (h0 : 0 ≤ x3) (h6 : x3 + 6 ≤ (k.1 : Int)) (hK : k.1 ≤ 3072) : LStep k 253 x3 σ := by
  intro u4 u6
  have i1 := ixJ h0 h6 hK (j := 1) (by omega) (by omega)
  have i2 := ixJ h0 h6 hK (j := 2) (by omega) (by omega)
  have i3 := ixJ h0 h6 hK (j := 3) (by omega) (by omega)
  have al : Al k mX8_fromDay mX9_fromDay [vI (k.2 (w32 (x3 + 1))), vI (k.2 (w32 (x3 + 2))), vI (k.2 (w32 (x3 + 3)))] σ := Al_tw hI (Tw_fromDay k 2 hI.1.1 hI.1.2.1 (hk _) (hk _) (hk _))
  obtain ⟨a, σ1, ρ, e8, e9, hρ⟩ := al
  refine ⟨ρ, u4, u6, hρ, ?_⟩
  rw [bL_253, if_pos i1, if_pos i2, if_pos i3, e8, jbI_some, if_pos i1, if_pos i2, if_pos i3, e9, jbI_some, if_pos rfl, bL_1638]
theorem LS_monthLength {k : Nat × (Int → Int)} {σ : St} {x3 : Int} (hI : INV σ) (hk : ∀ i, I32 (k.2 i)) (h0 : 0 ≤ x3) (h6 : x3 + 6 ≤ (k.1 : Int)) (hK : k.1 ≤ 3072) : LStep k 296 x3 σ := by
  intro u4 u6
  have i1 := ixJ h0 h6 hK (j := 1) (by omega) (by omega)
  have i2 := ixJ h0 h6 hK (j := 2) (by omega) (by omega)
  have i3 := ixJ h0 h6 hK (j := 3) (by omega) (by omega)
  have al : Al k mX8_monthLength mX9_monthLength [vI (k.2 (w32 (x3 + 1))), vI (k.2 (w32 (x3 + 2))), vI (k.2 (w32 (x3 + 3)))] σ := Al_tw hI (Tw_monthLength k 2 hI.1.1 hI.1.2.1 (hk _) (hk _) (hk _))
  obtain ⟨a, σ1, ρ, e8, e9, hρ⟩ := al
  refine ⟨ρ, u4, u6, hρ, ?_⟩
  rw [bL_296, if_pos i1, if_pos i2, if_pos i3, e8, jbI_some, if_pos i1, if_pos i2, if_pos i3, e9, jbI_some, if_pos rfl, bL_1638]
theorem LS_yearLength {k : Nat × (Int → Int)} {σ : St} {x3 : Int} (hI : INV σ) (hk : ∀ i, I32 (k.2 i)) (h0 : 0 ≤ x3) (h6 : x3 + 6 ≤ (k.1 : Int)) (hK : k.1 ≤ 3072) : LStep k 339 x3 σ := by
  intro u4 u6
  have i1 := ixJ h0 h6 hK (j := 1) (by omega) (by omega)
  have i2 := ixJ h0 h6 hK (j := 2) (by omega) (by omega)
  have al : Al k mX8_yearLength mX9_yearLength [vI (k.2 (w32 (x3 + 1))), vI (k.2 (w32 (x3 + 2)))] σ := Al_tw hI (Tw_yearLength k 2 hI.1.1 hI.1.2.1 (hk _) (hk _))
  obtain ⟨a, σ1, ρ, e8, e9, hρ⟩ := al
  refine ⟨ρ, u4, u6, hρ, ?_⟩
  rw [bL_339, if_pos i1, if_pos i2, e8, jbI_some, if_pos i1, if_pos i2, e9, jbI_some, if_pos rfl, bL_1638]
theorem LS_months {k : Nat × (Int → Int)} {σ : St} {x3 : Int} (hI : INV σ) (hk : ∀ i, I32 (k.2 i)) (h0 : 0 ≤ x3) (h6 : x3 + 6 ≤ (k.1 : Int)) (hK : k.1 ≤ 3072) : LStep k 372 x3 σ := by
  intro u4 u6
  have i1 := ixJ h0 h6 hK (j := 1) (by omega) (by omega)
  have i2 := ixJ h0 h6 hK (j := 2) (by omega) (by omega)
  have al : Al k mX8_months mX9_months [vI (k.2 (w32 (x3 + 1))), vI (k.2 (w32 (x3 + 2)))] σ := Al_tw hI (Tw_months k 2 hI.1.1 hI.1.2.1 (hk _) (hk _))
  obtain ⟨a, σ1, ρ, e8, e9, hρ⟩ := al
  refine ⟨ρ, u4, u6, hρ, ?_⟩
  rw [bL_372, if_pos i1, if_pos i2, e8, jbI_some, if_pos i1, if_pos i2, e9, jbI_some, if_pos rfl, bL_1638]
theorem LS_addMonths {k : Nat × (Int → Int)} {σ : St} {x3 : Int} (hI : INV σ) (hk : ∀ i, I32 (k.2 i)) (h0 : 0 ≤ x3) (h6 : x3 + 6 ≤ (k.1 : Int)) (hK : k.1 ≤ 3072) : LStep k 405 x3 σ := by
  intro u4 u6
  have i1 := ixJ h0 h6 hK (j := 1) (by omega) (by omega)
  have i2 := ixJ h0 h6 hK (j := 2) (by omega) (by omega)
  have i3 := ixJ h0 h6 hK (j := 3) (by omega) (by omega)
  have al : Al k mX8_addMonths mX9_addMonths [vI (k.2 (w32 (x3 + 1))), vI (k.2 (w32 (x3 + 2))), vI (k.2 (w32 (x3 + 3)))] σ := Al_tw hI (Tw_addMonths k 2 hI.1.1 hI.1.2.1 (hk _) (hk _) (hk _))
  obtain ⟨a, σ1, ρ, e8, e9, hρ⟩ := al
  refine ⟨ρ, u4, u6, hρ, ?_⟩
  rw [bL_405, if_pos i1, if_pos i2, if_pos i3, e8, jbI_some, if_pos i1, if_pos i2, if_pos i3, e9, jbI_some, if_pos rfl, bL_1638]
theorem LS_addYears {k : Nat × (Int → Int)} {σ : St} {x3 : Int} (hI : INV σ) (hk : ∀ i, I32 (k.2 i)) (h0 : 0 ≤ x3) (h6 : x3 + 6 ≤ (k.1 : Int)) (hK : k.1 ≤ 3072) : LStep k 448 x3 σ := by
  intro u4 u6
  have i1 := ixJ h0 h6 hK (j := 1) (by omega) (by omega)
  have i2 := ixJ h0 h6 hK (j := 2) (by omega) (by omega)
  have i3 := ixJ h0 h6 hK (j := 3) (by omega) (by omega)
  have al : Al k mX8_addYears mX9_addYears [vI (k.2 (w32 (x3 + 1))), vI (k.2 (w32 (x3 + 2))), vI (k.2 (w32 (x3 + 3)))] σ := Al_tw hI (Tw_addYears k 2 hI.1.1 hI.1.2.1 (hk _) (hk _) (hk _))
  obtain ⟨a, σ1, ρ, e8, e9, hρ⟩ := al
  refine ⟨ρ, u4, u6, hρ, ?_⟩
  rw [bL_448, if_pos i1, if_pos i2, if_pos i3, e8, jbI_some, if_pos i1, if_pos i2, if_pos i3, e9, jbI_some, if_pos rfl, bL_1638]
theorem LS_difference {k : Nat × (Int → Int)} {σ : St} {x3 : Int} (hI : INV σ) (hk : ∀ i, I32 (k.2 i)) (h0 : 0 ≤ x3) (h6 : x3 + 6 ≤ (k.1 : Int)) (hK : k.1 ≤ 3072) : LStep k 491 x3 σ := by
  intro u4 u6
  have i1 := ixJ h0 h6 hK (j := 1) (by omega) (by omega)
  have i2 := ixJ h0 h6 hK (j := 2) (by omega) (by omega)
  have i3 := ixJ h0 h6 hK (j := 3) (by omega) (by omega)
  have i4 := ixJ h0 h6 hK (j := 4) (by omega) (by omega)
  have al : Al k mX8_difference mX9_difference [vI (k.2 (w32 (x3 + 1))), vI (k.2 (w32 (x3 + 2))), vI (k.2 (w32 (x3 + 3))), vI (k.2 (w32 (x3 + 4)))] σ := Al_tw hI (Tw_difference k 2 hI.1.1 hI.1.2.1 (hk _) (hk _) (hk _) (hk _))
  obtain ⟨a, σ1, ρ, e8, e9, hρ⟩ := al
  refine ⟨ρ, u4, u6, hρ, ?_⟩
  rw [bL_491, if_pos i1, if_pos i2, if_pos i3, if_pos i4, e8, jbI_some, if_pos i1, if_pos i2, if_pos i3, if_pos i4, e9, jbI_some, if_pos rfl, bL_1638]
theorem LS_birthday {k : Nat × (Int → Int)} {σ : St} {x3 : Int} (hI : INV σ) (hk : ∀ i, I32 (k.2 i)) (h0 : 0 ≤ x3) (h6 : x3 + 6 ≤ (k.1 : Int)) (hK : k.1 ≤ 3072) : LStep k 544 x3 σ := by
  intro u4 u6
  have i1 := ixJ h0 h6 hK (j := 1) (by omega) (by omega)
  have i2 := ixJ h0 h6 hK (j := 2) (by omega) (by omega)
  have i3 := ixJ h0 h6 hK (j := 3) (by omega) (by omega)
  have al : Al k mX8_birthday mX9_birthday [vI (k.2 (w32 (x3 + 1))), vI (k.2 (w32 (x3 + 2))), vI (k.2 (w32 (x3 + 3)))] σ := Al_tw hI (Tw_birthday k 2 hI.1.1 hI.1.2.1 (hk _) (hk _) (hk _))
  obtain ⟨a, σ1, ρ, e8, e9, hρ⟩ := al
  refine ⟨ρ, u4, u6, hρ, ?_⟩
  rw [bL_544, if_pos i1, if_pos i2, if_pos i3, e8, jbI_some, if_pos i1, if_pos i2, if_pos i3, e9, jbI_some, if_pos rfl, bL_1638]
theorem LS_row {k : Nat × (Int → Int)} {σ : St} {x3 : Int} (hI : INV σ) (hk : ∀ i, I32 (k.2 i)) (h0 : 0 ≤ x3) (h6 : x3 + 6 ≤ (k.1 : Int)) (hK : k.1 ≤ 3072) : LStep k 587 x3 σ := by
  intro u4 u6
  have i1 := ixJ h0 h6 hK (j := 1) (by omega) (by omega)
  have i2 := ixJ h0 h6 hK (j := 2) (by omega) (by omega)
  have al : Al k mX8_row mX9_row [vI (k.2 (w32 (x3 + 1))), vI (k.2 (w32 (x3 + 2)))] σ := by
    obtain ⟨a, σ1, ρ, h1, h2, h3⟩ := Dd_row k 2 hI.1.1 hI.1.2.1 hI.2.2.1 (hk (w32 (x3 + 1))) (hk (w32 (x3 + 2)))
    exact ⟨a, σ1, ρ, h1, h2, h3.elim (fun h => by rw [h]; exact hI) hI.row⟩
  obtain ⟨a, σ1, ρ, e8, e9, hρ⟩ := al
  refine ⟨ρ, u4, u6, hρ, ?_⟩
  rw [bL_587, if_pos i1, if_pos i2, e8, jbI_some, if_pos i1, if_pos i2, e9, jbI_some, if_pos rfl, bL_1638]
theorem LS_name {k : Nat × (Int → Int)} {σ : St} {x3 : Int} (hI : INV σ) (hk : ∀ i, I32 (k.2 i)) (h0 : 0 ≤ x3) (h6 : x3 + 6 ≤ (k.1 : Int)) (hK : k.1 ≤ 3072) : LStep k 620 x3 σ := by
  intro u4 u6
  have i1 := ixJ h0 h6 hK (j := 1) (by omega) (by omega)
  have i2 := ixJ h0 h6 hK (j := 2) (by omega) (by omega)
  have i3 := ixJ h0 h6 hK (j := 3) (by omega) (by omega)
  have i4 := ixJ h0 h6 hK (j := 4) (by omega) (by omega)
  have al : Al k mX8_name mX9_name [vI (k.2 (w32 (x3 + 1))), vI (k.2 (w32 (x3 + 2))), vL (jlor (jlshl (w32 (k.2 (w32 (x3 + 3)))) 32) (jland (w32 (k.2 (w32 (x3 + 4)))) 4294967295))] σ := by
    obtain ⟨a, σ1, ρ, h1, h2, h3⟩ := Dd_name k 2 hI.2.1.1 hI.2.1.2 hI.2.2.1 (hk (w32 (x3 + 1))) (hk (w32 (x3 + 2))) (w := (jlor (jlshl (w32 (k.2 (w32 (x3 + 3)))) 32) (jland (w32 (k.2 (w32 (x3 + 4)))) 4294967295)))
    exact ⟨a, σ1, ρ, h1, h2, h3.elim (fun h => by rw [h]; exact hI) hI.name⟩
  obtain ⟨a, σ1, ρ, e8, e9, hρ⟩ := al
  refine ⟨ρ, u4, u6, hρ, ?_⟩
  rw [bL_620, if_pos i1, if_pos i2, if_pos i3, if_pos i4, e8, jbI_some, if_pos i1, if_pos i2, if_pos i3, if_pos i4, e9, jbI_some, if_pos rfl, bL_1638]
theorem LS_monthNamed {k : Nat × (Int → Int)} {σ : St} {x3 : Int} (hI : INV σ) (hk : ∀ i, I32 (k.2 i)) (h0 : 0 ≤ x3) (h6 : x3 + 6 ≤ (k.1 : Int)) (hK : k.1 ≤ 3072) : LStep k 693 x3 σ := by
  intro u4 u6
  have i1 := ixJ h0 h6 hK (j := 1) (by omega) (by omega)
  have i2 := ixJ h0 h6 hK (j := 2) (by omega) (by omega)
  have i3 := ixJ h0 h6 hK (j := 3) (by omega) (by omega)
  have al : Al k mX8_monthNamed mX9_monthNamed [vI (k.2 (w32 (x3 + 1))), vL (jlor (jlshl (w32 (k.2 (w32 (x3 + 2)))) 32) (jland (w32 (k.2 (w32 (x3 + 3)))) 4294967295))] σ := Al_tw hI (Tw_monthNamed k 2 hI.2.1.1 (hk _))
  obtain ⟨a, σ1, ρ, e8, e9, hρ⟩ := al
  refine ⟨ρ, u4, u6, hρ, ?_⟩
  rw [bL_693, if_pos i1, if_pos i2, if_pos i3, e8, jbI_some, if_pos i1, if_pos i2, if_pos i3, e9, jbI_some, if_pos rfl, bL_1638]
theorem LS_spellings {k : Nat × (Int → Int)} {σ : St} {x3 : Int} (hI : INV σ) (hk : ∀ i, I32 (k.2 i)) (h0 : 0 ≤ x3) (h6 : x3 + 6 ≤ (k.1 : Int)) (hK : k.1 ≤ 3072) : LStep k 756 x3 σ := by
  intro u4 u6
  have i1 := ixJ h0 h6 hK (j := 1) (by omega) (by omega)
  have i2 := ixJ h0 h6 hK (j := 2) (by omega) (by omega)
  have al : Al k mX8_spellings mX9_spellings [vL (jlor (jlshl (w32 (k.2 (w32 (x3 + 1)))) 32) (jland (w32 (k.2 (w32 (x3 + 2)))) 4294967295))] σ := Al_tw hI (Tw_spellings k 2 hI.2.1.1)
  obtain ⟨a, σ1, ρ, e8, e9, hρ⟩ := al
  refine ⟨ρ, u4, u6, hρ, ?_⟩
  rw [bL_756, if_pos i1, if_pos i2, e8, jbI_some, if_pos i1, if_pos i2, e9, jbI_some, if_pos rfl, bL_1638]
theorem LS_feast {k : Nat × (Int → Int)} {σ : St} {x3 : Int} (hI : INV σ) (hk : ∀ i, I32 (k.2 i)) (h0 : 0 ≤ x3) (h6 : x3 + 6 ≤ (k.1 : Int)) (hK : k.1 ≤ 3072) : LStep k 809 x3 σ := by
  intro u4 u6
  have i1 := ixJ h0 h6 hK (j := 1) (by omega) (by omega)
  have i2 := ixJ h0 h6 hK (j := 2) (by omega) (by omega)
  have i3 := ixJ h0 h6 hK (j := 3) (by omega) (by omega)
  have i4 := ixJ h0 h6 hK (j := 4) (by omega) (by omega)
  have i5 := ixJ h0 h6 hK (j := 5) (by omega) (by omega)
  have al : Al k mX8_feast mX9_feast [vI (k.2 (w32 (x3 + 1))), vI (k.2 (w32 (x3 + 2))), vI (k.2 (w32 (x3 + 3))), vI (k.2 (w32 (x3 + 4))), vI (k.2 (w32 (x3 + 5)))] σ := by
    obtain ⟨a, σ1, ρ, h1, h2, h3⟩ := Dd_feast k 2 hI.1 hI.2.2.1 (hk (w32 (x3 + 1))) (hk (w32 (x3 + 2))) (hk (w32 (x3 + 3))) (hk (w32 (x3 + 4))) (hk (w32 (x3 + 5)))
    exact ⟨a, σ1, ρ, h1, h2, h3.elim (fun h => by rw [h]; exact hI) hI.feast⟩
  obtain ⟨a, σ1, ρ, e8, e9, hρ⟩ := al
  refine ⟨ρ, u4, u6, hρ, ?_⟩
  rw [bL_809, if_pos i1, if_pos i2, if_pos i3, if_pos i4, if_pos i5, e8, jbI_some, if_pos i1, if_pos i2, if_pos i3, if_pos i4, if_pos i5, e9, jbI_some, if_pos rfl, bL_1638]
theorem LS_feastDay {k : Nat × (Int → Int)} {σ : St} {x3 : Int} (hI : INV σ) (hk : ∀ i, I32 (k.2 i)) (h0 : 0 ≤ x3) (h6 : x3 + 6 ≤ (k.1 : Int)) (hK : k.1 ≤ 3072) : LStep k 872 x3 σ := by
  intro u4 u6
  have i1 := ixJ h0 h6 hK (j := 1) (by omega) (by omega)
  have i2 := ixJ h0 h6 hK (j := 2) (by omega) (by omega)
  have al : Al k mX8_feastDay mX9_feastDay [vI (k.2 (w32 (x3 + 1))), vI (k.2 (w32 (x3 + 2)))] σ := Al_qw hI (Qw_feastDay k 0 hI.1 (hk _) (hk _))
  obtain ⟨a, σ1, ρ, e8, e9, hρ⟩ := al
  refine ⟨ρ, u4, u6, hρ, ?_⟩
  rw [bL_872, if_pos i1, if_pos i2, e8, jbI_some, if_pos i1, if_pos i2, e9, jbI_some, if_pos rfl, bL_1638]
theorem LS_moved {k : Nat × (Int → Int)} {σ : St} {x3 : Int} (hI : INV σ) (hk : ∀ i, I32 (k.2 i)) (h0 : 0 ≤ x3) (h6 : x3 + 6 ≤ (k.1 : Int)) (hK : k.1 ≤ 3072) : LStep k 905 x3 σ := by
  intro u4 u6
  have i1 := ixJ h0 h6 hK (j := 1) (by omega) (by omega)
  have i2 := ixJ h0 h6 hK (j := 2) (by omega) (by omega)
  have al : Al k mX8_moved mX9_moved [vI (k.2 (w32 (x3 + 1))), vI (k.2 (w32 (x3 + 2)))] σ := Al_qw hI (Qw_moved k 0 hI.1 (hk _) (hk _))
  obtain ⟨a, σ1, ρ, e8, e9, hρ⟩ := al
  refine ⟨ρ, u4, u6, hρ, ?_⟩
  rw [bL_905, if_pos i1, if_pos i2, e8, jbI_some, if_pos i1, if_pos i2, e9, jbI_some, if_pos rfl, bL_1638]
theorem LS_movable {k : Nat × (Int → Int)} {σ : St} {x3 : Int} (hI : INV σ) (hk : ∀ i, I32 (k.2 i)) (h0 : 0 ≤ x3) (h6 : x3 + 6 ≤ (k.1 : Int)) (hK : k.1 ≤ 3072) : LStep k 938 x3 σ := by
  intro u4 u6
  have i1 := ixJ h0 h6 hK (j := 1) (by omega) (by omega)
  have i2 := ixJ h0 h6 hK (j := 2) (by omega) (by omega)
  have al : Al k mX8_movable mX9_movable [vI (k.2 (w32 (x3 + 1))), vI (k.2 (w32 (x3 + 2)))] σ := Al_tw hI (Tw_movable k 2 hI.1.1 hI.1.2.1 (hk _) (hk _))
  obtain ⟨a, σ1, ρ, e8, e9, hρ⟩ := al
  refine ⟨ρ, u4, u6, hρ, ?_⟩
  rw [bL_938, if_pos i1, if_pos i2, e8, jbI_some, if_pos i1, if_pos i2, e9, jbI_some, if_pos rfl, bL_1638]
theorem LS_feastOn {k : Nat × (Int → Int)} {σ : St} {x3 : Int} (hI : INV σ) (hk : ∀ i, I32 (k.2 i)) (h0 : 0 ≤ x3) (h6 : x3 + 6 ≤ (k.1 : Int)) (hK : k.1 ≤ 3072) : LStep k 971 x3 σ := by
  intro u4 u6
  have i1 := ixJ h0 h6 hK (j := 1) (by omega) (by omega)
  have i2 := ixJ h0 h6 hK (j := 2) (by omega) (by omega)
  have al : Al k mX8_feastOn mX9_feastOn [vI (k.2 (w32 (x3 + 1))), vI (k.2 (w32 (x3 + 2)))] σ := Al_qw hI (Qw_feastOn k 0 hI.1 (hk _) (hk _))
  obtain ⟨a, σ1, ρ, e8, e9, hρ⟩ := al
  refine ⟨ρ, u4, u6, hρ, ?_⟩
  rw [bL_971, if_pos i1, if_pos i2, e8, jbI_some, if_pos i1, if_pos i2, e9, jbI_some, if_pos rfl, bL_1638]
theorem LS_age {k : Nat × (Int → Int)} {σ : St} {x3 : Int} (hI : INV σ) (hk : ∀ i, I32 (k.2 i)) (h0 : 0 ≤ x3) (h6 : x3 + 6 ≤ (k.1 : Int)) (hK : k.1 ≤ 3072) : LStep k 1004 x3 σ := by
  intro u4 u6
  have i1 := ixJ h0 h6 hK (j := 1) (by omega) (by omega)
  have al : Al k mX8_age mX9_age [vI (k.2 (w32 (x3 + 1)))] σ := Al_tw hI (Tw_age k 2 (hk _))
  obtain ⟨a, σ1, ρ, e8, e9, hρ⟩ := al
  refine ⟨ρ, u4, u6, hρ, ?_⟩
  rw [bL_1004, if_pos i1, e8, jbI_some, if_pos i1, e9, jbI_some, if_pos rfl, bL_1638]
theorem LS_newMoon {k : Nat × (Int → Int)} {σ : St} {x3 : Int} (hI : INV σ) (hk : ∀ i, I32 (k.2 i)) (h0 : 0 ≤ x3) (h6 : x3 + 6 ≤ (k.1 : Int)) (hK : k.1 ≤ 3072) : LStep k 1027 x3 σ := by
  intro u4 u6
  have i1 := ixJ h0 h6 hK (j := 1) (by omega) (by omega)
  have al : Al k mX8_newMoon mX9_newMoon [vI (k.2 (w32 (x3 + 1)))] σ := Al_tw hI (Tw_newMoon k 2 (hk _))
  obtain ⟨a, σ1, ρ, e8, e9, hρ⟩ := al
  refine ⟨ρ, u4, u6, hρ, ?_⟩
  rw [bL_1027, if_pos i1, e8, jbI_some, if_pos i1, e9, jbI_some, if_pos rfl, bL_1638]
theorem LS_estimate {k : Nat × (Int → Int)} {σ : St} {x3 : Int} (hI : INV σ) (hk : ∀ i, I32 (k.2 i)) (h0 : 0 ≤ x3) (h6 : x3 + 6 ≤ (k.1 : Int)) (hK : k.1 ≤ 3072) : LStep k 1050 x3 σ := by
  intro u4 u6
  have i1 := ixJ h0 h6 hK (j := 1) (by omega) (by omega)
  obtain ⟨x, e8, e9, -⟩ := TwD_estimate k 2 (σ := σ) (hk (w32 (x3 + 1)))
  refine ⟨σ, vD x, vD x, hI, ?_⟩
  rw [bL_1050, if_pos i1, e8, jbD_some, if_pos i1, e9, jbD_some]
  by_cases z : w32 (jcp .l x x) = 0
  · rw [if_pos z, bL_1638]
  · rw [if_neg z, if_neg z, if_neg z, bL_1638]
theorem LS_light {k : Nat × (Int → Int)} {σ : St} {x3 : Int} (hI : INV σ) (hk : ∀ i, I32 (k.2 i)) (h0 : 0 ≤ x3) (h6 : x3 + 6 ≤ (k.1 : Int)) (hK : k.1 ≤ 3072) : LStep k 1101 x3 σ := by
  intro u4 u6
  have i1 := ixJ h0 h6 hK (j := 1) (by omega) (by omega)
  have al : Al k mX8_light mX9_light [vI (k.2 (w32 (x3 + 1)))] σ := Al_tw hI (TwD_light k 2 (hk _))
  obtain ⟨a, σ1, ρ, e8, e9, hρ⟩ := al
  refine ⟨ρ, u4, u6, hρ, ?_⟩
  rw [bL_1101, if_pos i1, e8, jbI_some, if_pos i1, e9, jbI_some, if_pos rfl, bL_1638]
theorem LS_rule {k : Nat × (Int → Int)} {σ : St} {x3 : Int} (hI : INV σ) (hk : ∀ i, I32 (k.2 i)) (h0 : 0 ≤ x3) (h6 : x3 + 6 ≤ (k.1 : Int)) (hK : k.1 ≤ 3072) : LStep k 1173 x3 σ := by
  intro u4 u6
  have i1 := ixJ h0 h6 hK (j := 1) (by omega) (by omega)
  have i2 := ixJ h0 h6 hK (j := 2) (by omega) (by omega)
  have i3 := ixJ h0 h6 hK (j := 3) (by omega) (by omega)
  have i4 := ixJ h0 h6 hK (j := 4) (by omega) (by omega)
  have al : Al k mX8_rule mX9_rule [vI (k.2 (w32 (x3 + 1))), vI (k.2 (w32 (x3 + 2))), vI (k.2 (w32 (x3 + 3))), vI (k.2 (w32 (x3 + 4)))] σ := by
    obtain ⟨a, σ1, ρ, h1, h2, h3⟩ := Dd_rule k 2 hI.1.2.2.1 hI.1.2.2.2.1 hI.2.2.2.1 hI.2.2.1 (hk (w32 (x3 + 1))) (hk (w32 (x3 + 2))) (hk (w32 (x3 + 3))) (hk (w32 (x3 + 4)))
    exact ⟨a, σ1, ρ, h1, h2, h3.elim (fun h => by rw [h]; exact hI) hI.rul⟩
  obtain ⟨a, σ1, ρ, e8, e9, hρ⟩ := al
  refine ⟨ρ, u4, u6, hρ, ?_⟩
  rw [bL_1173, if_pos i1, if_pos i2, if_pos i3, if_pos i4, e8, jbI_some, if_pos i1, if_pos i2, if_pos i3, if_pos i4, e9, jbI_some, if_pos rfl, bL_1638]
theorem LS_isOff {k : Nat × (Int → Int)} {σ : St} {x3 : Int} (hI : INV σ) (hk : ∀ i, I32 (k.2 i)) (h0 : 0 ≤ x3) (h6 : x3 + 6 ≤ (k.1 : Int)) (hK : k.1 ≤ 3072) : LStep k 1226 x3 σ := by
  intro u4 u6
  have i1 := ixJ h0 h6 hK (j := 1) (by omega) (by omega)
  have i2 := ixJ h0 h6 hK (j := 2) (by omega) (by omega)
  have al : Al k mX8_isOff mX9_isOff [vI (k.2 (w32 (x3 + 1))), vI (k.2 (w32 (x3 + 2)))] σ := Al_qw hI (Qw_isOff k 0 hI.1 hI.2.2.2.1 (hk _) (hk _))
  obtain ⟨a, σ1, ρ, e8, e9, hρ⟩ := al
  refine ⟨ρ, u4, u6, hρ, ?_⟩
  rw [bL_1226, if_pos i1, if_pos i2, e8, jbI_some, if_pos i1, if_pos i2, e9, jbI_some, if_pos rfl, bL_1638]
theorem LS_worked {k : Nat × (Int → Int)} {σ : St} {x3 : Int} (hI : INV σ) (hk : ∀ i, I32 (k.2 i)) (h0 : 0 ≤ x3) (h6 : x3 + 6 ≤ (k.1 : Int)) (hK : k.1 ≤ 3072) : LStep k 1259 x3 σ := by
  intro u4 u6
  have i1 := ixJ h0 h6 hK (j := 1) (by omega) (by omega)
  have i2 := ixJ h0 h6 hK (j := 2) (by omega) (by omega)
  have i3 := ixJ h0 h6 hK (j := 3) (by omega) (by omega)
  have al : Al k mX8_worked mX9_worked [vI (k.2 (w32 (x3 + 1))), vI (k.2 (w32 (x3 + 2))), vI (k.2 (w32 (x3 + 3)))] σ := Al_qw hI (Qw_worked k 0 hI.1 hI.2.2.2.1 (hk _) (hk _) (hk _))
  obtain ⟨a, σ1, ρ, e8, e9, hρ⟩ := al
  refine ⟨ρ, u4, u6, hρ, ?_⟩
  rw [bL_1259, if_pos i1, if_pos i2, if_pos i3, e8, jbI_some, if_pos i1, if_pos i2, if_pos i3, e9, jbI_some, if_pos rfl, bL_1638]
theorem LS_nextOff {k : Nat × (Int → Int)} {σ : St} {x3 : Int} (hI : INV σ) (hk : ∀ i, I32 (k.2 i)) (h0 : 0 ≤ x3) (h6 : x3 + 6 ≤ (k.1 : Int)) (hK : k.1 ≤ 3072) : LStep k 1302 x3 σ := by
  intro u4 u6
  have i1 := ixJ h0 h6 hK (j := 1) (by omega) (by omega)
  have i2 := ixJ h0 h6 hK (j := 2) (by omega) (by omega)
  have al : Al k mX8_nextOff mX9_nextOff [vI (k.2 (w32 (x3 + 1))), vI (k.2 (w32 (x3 + 2)))] σ := Al_qw hI (Qw_nextOff k 0 hI.1 hI.2.2.2.1 (hk _) (hk _))
  obtain ⟨a, σ1, ρ, e8, e9, hρ⟩ := al
  refine ⟨ρ, u4, u6, hρ, ?_⟩
  rw [bL_1302, if_pos i1, if_pos i2, e8, jbI_some, if_pos i1, if_pos i2, e9, jbI_some, if_pos rfl, bL_1638]
theorem LS_inRow {k : Nat × (Int → Int)} {σ : St} {x3 : Int} (hI : INV σ) (hk : ∀ i, I32 (k.2 i)) (h0 : 0 ≤ x3) (h6 : x3 + 6 ≤ (k.1 : Int)) (hK : k.1 ≤ 3072) : LStep k 1335 x3 σ := by
  intro u4 u6
  have i1 := ixJ h0 h6 hK (j := 1) (by omega) (by omega)
  have i2 := ixJ h0 h6 hK (j := 2) (by omega) (by omega)
  have al : Al k mX8_inRow mX9_inRow [vI (k.2 (w32 (x3 + 1))), vI (k.2 (w32 (x3 + 2)))] σ := Al_qw hI (Qw_inRow k 0 hI.1 hI.2.2.2.1 (hk _) (hk _))
  obtain ⟨a, σ1, ρ, e8, e9, hρ⟩ := al
  refine ⟨ρ, u4, u6, hρ, ?_⟩
  rw [bL_1335, if_pos i1, if_pos i2, e8, jbI_some, if_pos i1, if_pos i2, e9, jbI_some, if_pos rfl, bL_1638]
theorem LS_page {k : Nat × (Int → Int)} {σ : St} {x3 : Int} (hI : INV σ) (hk : ∀ i, I32 (k.2 i)) (h0 : 0 ≤ x3) (h6 : x3 + 6 ≤ (k.1 : Int)) (hK : k.1 ≤ 3072) : LStep k 1368 x3 σ := by
  intro u4 u6
  have i1 := ixJ h0 h6 hK (j := 1) (by omega) (by omega)
  have i2 := ixJ h0 h6 hK (j := 2) (by omega) (by omega)
  have i3 := ixJ h0 h6 hK (j := 3) (by omega) (by omega)
  have i4 := ixJ h0 h6 hK (j := 4) (by omega) (by omega)
  have al : Al k mX8_page mX9_page [vI (k.2 (w32 (x3 + 1))), vI (k.2 (w32 (x3 + 2))), vI (k.2 (w32 (x3 + 3))), vI (k.2 (w32 (x3 + 4)))] σ := by
    obtain ⟨a, σ1, ρ, h1, h2, h3, h4, h5, h7, h8, h9⟩ := Td_page k 0 hI.1 hI.2.2.2.1 hI.2.2.2.2.1 (hk (w32 (x3 + 1))) (hk (w32 (x3 + 2))) (hk (w32 (x3 + 3))) (hk (w32 (x3 + 4)))
    exact ⟨a, σ1, ρ, h1, h2, hI.ge h3 (TR_k h5 h7 h9 h8 hI.2.2.2.2.2.1) h4⟩
  obtain ⟨a, σ1, ρ, e8, e9, hρ⟩ := al
  refine ⟨ρ, u4, u6, hρ, ?_⟩
  rw [bL_1368, if_pos i1, if_pos i2, if_pos i3, if_pos i4, e8, jbI_some, if_pos i1, if_pos i2, if_pos i3, if_pos i4, e9, jbI_some, if_pos rfl, bL_1638]
theorem LS_sign {k : Nat × (Int → Int)} {σ : St} {x3 : Int} (hI : INV σ) (hk : ∀ i, I32 (k.2 i)) (h0 : 0 ≤ x3) (h6 : x3 + 6 ≤ (k.1 : Int)) (hK : k.1 ≤ 3072) : LStep k 1421 x3 σ := by
  intro u4 u6
  have i1 := ixJ h0 h6 hK (j := 1) (by omega) (by omega)
  have i2 := ixJ h0 h6 hK (j := 2) (by omega) (by omega)
  have al : Al k mX8_sign mX9_sign [vI (k.2 (w32 (x3 + 1))), vI (k.2 (w32 (x3 + 2)))] σ := Al_tw hI (Tw_sign k 2 hI.2.2.2.2.1 (hk _) (hk _))
  obtain ⟨a, σ1, ρ, e8, e9, hρ⟩ := al
  refine ⟨ρ, u4, u6, hρ, ?_⟩
  rw [bL_1421, if_pos i1, if_pos i2, e8, jbI_some, if_pos i1, if_pos i2, e9, jbI_some, if_pos rfl, bL_1638]
theorem LS_book {k : Nat × (Int → Int)} {σ : St} {x3 : Int} (hI : INV σ) (hk : ∀ i, I32 (k.2 i)) (h0 : 0 ≤ x3) (h6 : x3 + 6 ≤ (k.1 : Int)) (hK : k.1 ≤ 3072) : LStep k 1454 x3 σ := by
  intro u4 u6
  have i1 := ixJ h0 h6 hK (j := 1) (by omega) (by omega)
  have i2 := ixJ h0 h6 hK (j := 2) (by omega) (by omega)
  have al : Al k mX8_book mX9_book [vI (k.2 (w32 (x3 + 1))), vI (k.2 (w32 (x3 + 2)))] σ := by
    obtain ⟨a, σ1, ρ, h1, h2, h3, h4, h5, h7, h8⟩ := Td_book k 0 hI.1 hI.2.2.2.1 hI.2.2.2.2.2.1 (hk (w32 (x3 + 1))) (hk (w32 (x3 + 2)))
    exact ⟨a, σ1, ρ, h1, h2, hI.ge h3 h4 (PG_k h8 h5 h7 hI.2.2.2.2.1)⟩
  obtain ⟨a, σ1, ρ, e8, e9, hρ⟩ := al
  refine ⟨ρ, u4, u6, hρ, ?_⟩
  rw [bL_1454, if_pos i1, if_pos i2, e8, jbI_some, if_pos i1, if_pos i2, e9, jbI_some, if_pos rfl, bL_1638]
theorem LS_load {k : Nat × (Int → Int)} {σ : St} {x3 : Int} (hI : INV σ) (hk : ∀ i, I32 (k.2 i)) (h0 : 0 ≤ x3) (h6 : x3 + 6 ≤ (k.1 : Int)) (hK : k.1 ≤ 3072) : LStep k 1487 x3 σ := by
  intro u4 u6
  have i1 := ixJ h0 h6 hK (j := 1) (by omega) (by omega)
  have i2 := ixJ h0 h6 hK (j := 2) (by omega) (by omega)
  have al : Al k mX8_load mX9_load [vI (k.2 (w32 (x3 + 1))), vI (k.2 (w32 (x3 + 2)))] σ := by
    obtain ⟨a, σ1, ρ, h1, h2, h3⟩ := Td_load k 2 hI.2.2.2.2.2.1 (hk (w32 (x3 + 1))) (hk (w32 (x3 + 2)))
    exact ⟨a, σ1, ρ, h1, h2, hI.tp h3⟩
  obtain ⟨a, σ1, ρ, e8, e9, hρ⟩ := al
  refine ⟨ρ, u4, u6, hρ, ?_⟩
  rw [bL_1487, if_pos i1, if_pos i2, e8, jbI_some, if_pos i1, if_pos i2, e9, jbI_some, if_pos rfl, bL_1638]
theorem LS_byteAt {k : Nat × (Int → Int)} {σ : St} {x3 : Int} (hI : INV σ) (hk : ∀ i, I32 (k.2 i)) (h0 : 0 ≤ x3) (h6 : x3 + 6 ≤ (k.1 : Int)) (hK : k.1 ≤ 3072) : LStep k 1520 x3 σ := by
  intro u4 u6
  have i1 := ixJ h0 h6 hK (j := 1) (by omega) (by omega)
  have al : Al k mX8_byteAt mX9_byteAt [vI (k.2 (w32 (x3 + 1)))] σ := Al_tw hI (Td_byteAt k 2 hI.2.2.2.2.2.1 (hk _))
  obtain ⟨a, σ1, ρ, e8, e9, hρ⟩ := al
  refine ⟨ρ, u4, u6, hρ, ?_⟩
  rw [bL_1520, if_pos i1, e8, jbI_some, if_pos i1, e9, jbI_some, if_pos rfl, bL_1638]
theorem LS_spoil {k : Nat × (Int → Int)} {σ : St} {x3 : Int} (hI : INV σ) (hk : ∀ i, I32 (k.2 i)) (h0 : 0 ≤ x3) (h6 : x3 + 6 ≤ (k.1 : Int)) (hK : k.1 ≤ 3072) : LStep k 1543 x3 σ := by
  intro u4 u6
  have i1 := ixJ h0 h6 hK (j := 1) (by omega) (by omega)
  have i2 := ixJ h0 h6 hK (j := 2) (by omega) (by omega)
  have al : Al k mX8_spoil mX9_spoil [vI (k.2 (w32 (x3 + 1))), vI (k.2 (w32 (x3 + 2)))] σ := by
    obtain ⟨a, σ1, ρ, h1, h2, h3⟩ := Td_spoil k 2 hI.2.2.2.2.2.1 (hk (w32 (x3 + 1))) (m := k.2 (w32 (x3 + 2)))
    exact ⟨a, σ1, ρ, h1, h2, hI.tp h3⟩
  obtain ⟨a, σ1, ρ, e8, e9, hρ⟩ := al
  refine ⟨ρ, u4, u6, hρ, ?_⟩
  rw [bL_1543, if_pos i1, if_pos i2, e8, jbI_some, if_pos i1, if_pos i2, e9, jbI_some, if_pos rfl, bL_1638]
theorem LS_wipe {k : Nat × (Int → Int)} {σ : St} {x3 : Int} (hI : INV σ) (hk : ∀ i, I32 (k.2 i)) (h0 : 0 ≤ x3) (h6 : x3 + 6 ≤ (k.1 : Int)) (hK : k.1 ≤ 3072) : LStep k 1576 x3 σ := by
  intro u4 u6

  have al : Al k mX8_wipe mX9_wipe [] σ := by
    obtain ⟨a, σ1, ρ, h1, h2, h3⟩ := Td_wipe k 2 hI.2.2.2.2.2.1 
    exact ⟨a, σ1, ρ, h1, h2, hI.tp h3⟩
  obtain ⟨a, σ1, ρ, e8, e9, hρ⟩ := al
  refine ⟨ρ, u4, u6, hρ, ?_⟩
  rw [bL_1576, e8, jbI_some, e9, jbI_some, if_pos rfl, bL_1638]
theorem LS_verify {k : Nat × (Int → Int)} {σ : St} {x3 : Int} (hI : INV σ) (hk : ∀ i, I32 (k.2 i)) (h0 : 0 ≤ x3) (h6 : x3 + 6 ≤ (k.1 : Int)) (hK : k.1 ≤ 3072) : LStep k 1589 x3 σ := by
  intro u4 u6

  have al : Al k mX8_verify mX9_verify [] σ := Al_tw hI (Tw_verify k 2 hI.2.2.2.2.2.1)
  obtain ⟨a, σ1, ρ, e8, e9, hρ⟩ := al
  refine ⟨ρ, u4, u6, hρ, ?_⟩
  rw [bL_1589, e8, jbI_some, e9, jbI_some, if_pos rfl, bL_1638]
theorem LS_undo {k : Nat × (Int → Int)} {σ : St} {x3 : Int} (hI : INV σ) (hk : ∀ i, I32 (k.2 i)) (h0 : 0 ≤ x3) (h6 : x3 + 6 ≤ (k.1 : Int)) (hK : k.1 ≤ 3072) : LStep k 1602 x3 σ := by
  intro u4 u6

  have al : Al k mX8_undo mX9_undo [] σ := Dd_undo k 2 hI
  obtain ⟨a, σ1, ρ, e8, e9, hρ⟩ := al
  refine ⟨ρ, u4, u6, hρ, ?_⟩
  rw [bL_1602, e8, jbI_some, e9, jbI_some, if_pos rfl, bL_1638]
theorem LS_count {k : Nat × (Int → Int)} {σ : St} {x3 : Int} (hI : INV σ) (hk : ∀ i, I32 (k.2 i)) (h0 : 0 ≤ x3) (h6 : x3 + 6 ≤ (k.1 : Int)) (hK : k.1 ≤ 3072) : LStep k 1615 x3 σ := by
  intro u4 u6
  have i1 := ixJ h0 h6 hK (j := 1) (by omega) (by omega)
  have al : Al k mX8_count mX9_count [vI (k.2 (w32 (x3 + 1)))] σ := Al_tw hI (Tw_count k 2 hI)
  obtain ⟨a, σ1, ρ, e8, e9, hρ⟩ := al
  refine ⟨ρ, u4, u6, hρ, ?_⟩
  rw [bL_1615, if_pos i1, e8, jbI_some, if_pos i1, e9, jbI_some, if_pos rfl, bL_1638]
theorem LS_parish {k : Nat × (Int → Int)} {σ : St} {x3 : Int} (hI : INV σ) (hk : ∀ i, I32 (k.2 i)) (h0 : 0 ≤ x3) (h6 : x3 + 6 ≤ (k.1 : Int)) (hK : k.1 ≤ 3072) : LStep k 1124 x3 σ := by
  intro u4 u6
  have i1 := ixJ h0 h6 hK (j := 1) (by omega) (by omega)
  have i2 := ixJ h0 h6 hK (j := 2) (by omega) (by omega)
  have al : ∀ b : Int, b = 0 ∨ b = 1 → Al k mX8_parish mX9_parish [vI (k.2 (w32 (x3 + 1))), vI b] σ := by
    intro b hb
    obtain ⟨a, σ1, ρ, h1, h2, h3⟩ := Dd_parish k 2 hI.2.2.2.1 hI.2.2.1 (hk (w32 (x3 + 1))) hb
    exact ⟨a, σ1, ρ, h1, h2, h3.elim (fun h => by rw [h]; exact hI) hI.par⟩
  by_cases z : w32 (k.2 (w32 (x3 + 2))) = 0
  · obtain ⟨a, σ1, ρ, e8, e9, hρ⟩ := al 0 (Or.inl rfl)
    refine ⟨ρ, u4, u6, hρ, ?_⟩
    rw [bL_1124, if_pos i1, if_pos i2, if_pos z, bL_1143, e8, jbI_some, if_pos i1, if_pos i2, if_pos z, e9, jbI_some, if_pos rfl, bL_1638]
  · obtain ⟨a, σ1, ρ, e8, e9, hρ⟩ := al 1 (Or.inr rfl)
    refine ⟨ρ, u4, u6, hρ, ?_⟩
    rw [bL_1124, if_pos i1, if_pos i2, if_neg z, bL_1143, e8, jbI_some, if_pos i1, if_pos i2, if_neg z, e9, jbI_some, if_pos rfl, bL_1638]
theorem LS_default {k : Nat × (Int → Int)} {σ : St} {x3 : Int} (hI : INV σ) : LStep k 1638 x3 σ := fun u4 u6 => ⟨σ, u4, u6, hI, bL_1638 k _ σ x3 u4 u6⟩
theorem LS_one {k : Nat × (Int → Int)} {σ : St} {x3 : Int} (hI : INV σ) (hk : ∀ i, I32 (k.2 i)) (h0 : 0 ≤ x3) (h6 : x3 + 6 ≤ (k.1 : Int)) (hK : k.1 ≤ 3072) : ∀ u4 u6 : PV, ∃ ρ v4 v6, INV ρ ∧ out (WV k) (EV k 12) ML_law 18 [vR 1000, vR 0, vR 33, vI x3, u4, vU, u6, vU] [] σ = out (WV k) (EV k 12) ML_law 18 [vR 1000, vR 0, vR 33, vI (x3 + 6), v4, vU, v6, vU] [] ρ := by
  intro u4 u6
  have hK' : (k.1 : Int) ≤ 3072 := by omega
  have ix : 0 ≤ w32 x3 ∧ w32 x3 < (k.1 : Int) := by rw [w32_id (by omega) (by omega)]; omega
  have nz : ¬ w32 ((k.1 : Int) - 6) < w32 x3 := by rw [w32_id (by omega) (by omega), w32_id (by omega) (by omega)]; omega
  rw [bL_18, if_neg nz, if_pos ix]
  generalize w32 (jand (k.2 (w32 x3)) 63) = s
  by_cases c0 : s = 0
  · rw [if_pos c0]; exact LS_toDay hI hk h0 h6 hK u4 u6
  rw [if_neg c0]
  by_cases c1 : s = 1
  · rw [if_pos c1]; exact LS_fromDay hI hk h0 h6 hK u4 u6
  rw [if_neg c1]
  by_cases c2 : s = 2
  · rw [if_pos c2]; exact LS_monthLength hI hk h0 h6 hK u4 u6
  rw [if_neg c2]
  by_cases c3 : s = 3
  · rw [if_pos c3]; exact LS_yearLength hI hk h0 h6 hK u4 u6
  rw [if_neg c3]
  by_cases c4 : s = 4
  · rw [if_pos c4]; exact LS_months hI hk h0 h6 hK u4 u6
  rw [if_neg c4]
  by_cases c5 : s = 5
  · rw [if_pos c5]; exact LS_addMonths hI hk h0 h6 hK u4 u6
  rw [if_neg c5]
  by_cases c6 : s = 6
  · rw [if_pos c6]; exact LS_addYears hI hk h0 h6 hK u4 u6
  rw [if_neg c6]
  by_cases c7 : s = 7
  · rw [if_pos c7]; exact LS_difference hI hk h0 h6 hK u4 u6
  rw [if_neg c7]
  by_cases c8 : s = 8
  · rw [if_pos c8]; exact LS_birthday hI hk h0 h6 hK u4 u6
  rw [if_neg c8]
  by_cases c9 : s = 9
  · rw [if_pos c9]; exact LS_row hI hk h0 h6 hK u4 u6
  rw [if_neg c9]
  by_cases c10 : s = 10
  · rw [if_pos c10]; exact LS_name hI hk h0 h6 hK u4 u6
  rw [if_neg c10]
  by_cases c11 : s = 11
  · rw [if_pos c11]; exact LS_monthNamed hI hk h0 h6 hK u4 u6
  rw [if_neg c11]
  by_cases c12 : s = 12
  · rw [if_pos c12]; exact LS_spellings hI hk h0 h6 hK u4 u6
  rw [if_neg c12]
  by_cases c13 : s = 13
  · rw [if_pos c13]; exact LS_feast hI hk h0 h6 hK u4 u6
  rw [if_neg c13]
  by_cases c14 : s = 14
  · rw [if_pos c14]; exact LS_feastDay hI hk h0 h6 hK u4 u6
  rw [if_neg c14]
  by_cases c15 : s = 15
  · rw [if_pos c15]; exact LS_moved hI hk h0 h6 hK u4 u6
  rw [if_neg c15]
  by_cases c16 : s = 16
  · rw [if_pos c16]; exact LS_movable hI hk h0 h6 hK u4 u6
  rw [if_neg c16]
  by_cases c17 : s = 17
  · rw [if_pos c17]; exact LS_feastOn hI hk h0 h6 hK u4 u6
  rw [if_neg c17]
  by_cases c18 : s = 18
  · rw [if_pos c18]; exact LS_age hI hk h0 h6 hK u4 u6
  rw [if_neg c18]
  by_cases c19 : s = 19
  · rw [if_pos c19]; exact LS_newMoon hI hk h0 h6 hK u4 u6
  rw [if_neg c19]
  by_cases c20 : s = 20
  · rw [if_pos c20]; exact LS_estimate hI hk h0 h6 hK u4 u6
  rw [if_neg c20]
  by_cases c21 : s = 21
  · rw [if_pos c21]; exact LS_light hI hk h0 h6 hK u4 u6
  rw [if_neg c21]
  by_cases c22 : s = 22
  · rw [if_pos c22]; exact LS_parish hI hk h0 h6 hK u4 u6
  rw [if_neg c22]
  by_cases c23 : s = 23
  · rw [if_pos c23]; exact LS_rule hI hk h0 h6 hK u4 u6
  rw [if_neg c23]
  by_cases c24 : s = 24
  · rw [if_pos c24]; exact LS_isOff hI hk h0 h6 hK u4 u6
  rw [if_neg c24]
  by_cases c25 : s = 25
  · rw [if_pos c25]; exact LS_worked hI hk h0 h6 hK u4 u6
  rw [if_neg c25]
  by_cases c26 : s = 26
  · rw [if_pos c26]; exact LS_nextOff hI hk h0 h6 hK u4 u6
  rw [if_neg c26]
  by_cases c27 : s = 27
  · rw [if_pos c27]; exact LS_inRow hI hk h0 h6 hK u4 u6
  rw [if_neg c27]
  by_cases c28 : s = 28
  · rw [if_pos c28]; exact LS_page hI hk h0 h6 hK u4 u6
  rw [if_neg c28]
  by_cases c29 : s = 29
  · rw [if_pos c29]; exact LS_sign hI hk h0 h6 hK u4 u6
  rw [if_neg c29]
  by_cases c30 : s = 30
  · rw [if_pos c30]; exact LS_book hI hk h0 h6 hK u4 u6
  rw [if_neg c30]
  by_cases c31 : s = 31
  · rw [if_pos c31]; exact LS_load hI hk h0 h6 hK u4 u6
  rw [if_neg c31]
  by_cases c32 : s = 32
  · rw [if_pos c32]; exact LS_byteAt hI hk h0 h6 hK u4 u6
  rw [if_neg c32]
  by_cases c33 : s = 33
  · rw [if_pos c33]; exact LS_spoil hI hk h0 h6 hK u4 u6
  rw [if_neg c33]
  by_cases c34 : s = 34
  · rw [if_pos c34]; exact LS_wipe hI hk h0 h6 hK u4 u6
  rw [if_neg c34]
  by_cases c35 : s = 35
  · rw [if_pos c35]; exact LS_verify hI hk h0 h6 hK u4 u6
  rw [if_neg c35]
  by_cases c36 : s = 36
  · rw [if_pos c36]; exact LS_undo hI hk h0 h6 hK u4 u6
  rw [if_neg c36]
  by_cases c37 : s = 37
  · rw [if_pos c37]; exact LS_count hI hk h0 h6 hK u4 u6
  rw [if_neg c37]
  exact LS_default hI u4 u6
/-- the law's loop answers true -/
theorem LS_all {k : Nat × (Int → Int)} (hk : ∀ i, I32 (k.2 i)) (hK : k.1 ≤ 3072) : ∀ (n : Nat) {σ : St} {x3 : Int} (u4 u6 : PV), INV σ → 0 ≤ x3 → (k.1 : Int) - x3 ≤ n → x3 ≤ 4000 → ∃ ρ, out (WV k) (EV k 12) ML_law 18 [vR 1000, vR 0, vR 33, vI x3, u4, vU, u6, vU] [] σ = some (some (vI 1), ρ) := by
  intro n
  induction n using Nat.strongRecOn with
  | ind n ih =>
    intro σ x3 u4 u6 hI h0 hn hx
    by_cases h6 : x3 + 6 ≤ (k.1 : Int)
    · obtain ⟨ρ, v4, v6, hρ, e⟩ := LS_one hI hk h0 h6 hK u4 u6
      rw [e]
      exact ih (n - 6) (by omega) v4 v6 hρ (by omega) (by omega) (by omega)
    · have hK' : (k.1 : Int) ≤ 3072 := by omega
      exact ⟨σ, by rw [bL_18, if_pos (by rw [w32_id (by omega) (by omega), w32_id (by omega) (by omega)]; omega)]⟩
