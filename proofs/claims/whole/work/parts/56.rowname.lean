
theorem X0_mayFollow_ok (k : Nat × (Int → Int)) (d : Nat) {σ : St} (hC : CF σ) {f : Int} (h1 : I32 f) : EV k (d + 2) mX0_mayFollow [vR 1, vI f] σ = ansI (if σ 1 2 = 0 ∨ f = σ 9 (σ 1 2) then 1 else 0) σ := by
  have hn := hC.1
  unfold I32 at h1
  rw [eX0_mayFollow, bX0_mayFollow_0, w32_id (a := σ 1 2) (by omega) (by omega)]
  by_cases q : σ 1 2 = 0
  · rw [if_pos q, if_pos (Or.inl q)]
  · have b := rs_b hC (j := σ 1 2) (by omega) (by omega) (by omega)
    rw [if_neg q, X0_startOfRow_ok k d hC (by omega) (by omega), jbI_some, show clR (σ 1 2) (σ 1 2) = σ 1 2 by unfold clR; rw [if_neg (by omega), if_neg (by omega)], w32_id (a := f) (by omega) (by omega), w32_id (a := σ 9 (σ 1 2)) (by omega) (by omega)]
    by_cases g : f = σ 9 (σ 1 2)
    · rw [if_pos g, if_pos (Or.inr g)]
    · rw [if_neg g, if_neg (by omega)]
def arw (σ : St) (f l : Int) : St := st2 (st2 (st2 σ 9 (σ 1 2) f) 1 2 (σ 1 2 + 1)) 9 (σ 1 2 + 1) (f + l)
theorem X0_addRow_ok (k : Nat × (Int → Int)) (d : Nat) {σ : St} {f l : Int} (h1 : 0 ≤ σ 1 2) (h2 : σ 1 2 < 500) : EV k (d + 1) mX0_addRow [vR 1, vI f, vI l] σ = some (none, arw σ f l) := by
  rw [eX0_addRow, bX0_addRow_0, w32_id (a := σ 1 2) (by omega) (by omega), show w32 500 = 500 by decide, if_pos h2, if_pos (by omega), show st2 σ 9 (σ 1 2) f 1 2 = σ 1 2 from rfl, show st2 (st2 σ 9 (σ 1 2) f) 1 2 (σ 1 2 + 1) 1 2 = σ 1 2 + 1 from st2_eq _ _ _ _, w32_id (a := σ 1 2 + 1) (by omega) (by omega), if_pos (by omega)]
  rfl
/-- what a deed of row leaves -/
def RowE (σ ρ : St) (f l : Int) : Prop := CF ρ ∧ MR ρ ∧ DR ρ ρ ∧ ρ 1 2 = σ 1 2 + 1 ∧ ρ 7 = nt σ 0 7 ∧ ρ 32 = nt σ 0 32 ∧ (∀ i, i ≠ 2 → ρ 1 i = σ 1 i) ∧ (∀ i, i ≠ 0 → i ≠ 6 → ρ 33 i = σ 33 i) ∧ ∀ q, q ≠ 1 → q ≠ 9 → q ≠ 7 → q ≠ 32 → q ≠ 33 → q ≠ 34 → q ≠ 35 → q ≠ 36 → ρ q = σ q
theorem Dd_row (k : Nat × (Int → Int)) (d : Nat) {σ : St} (hC : CF σ) (hM : MR σ) (hR : DR σ σ) {f l : Int} (h1 : I32 f) (h2 : I32 l) : ∃ a σ1 ρ, EV k (d + 10) mX8_row [vR 0, vI f, vI l] σ = ansI a σ1 ∧ EV k (d + 10) mX9_row [vR 33, vI f, vI l] σ1 = ansI a ρ ∧ (ρ = σ ∨ RowE σ ρ f l) := by
  have hn := hC.1
  have m0 := hM.1
  have hR0 := hR
  obtain ⟨r1, r2, r3, r4⟩ := hR0
  have hf := h1
  unfold I32 at h1 h2
  have lead : 0 < σ 1 2 → σ 34 (σ 1 2 - 1) + σ 35 (σ 1 2 - 1) = σ 9 (σ 1 2) := by
    intro q
    have mr := hM.2 (σ 1 2 - 1) (by omega) (by omega)
    rw [show σ 1 2 - 1 + 1 = σ 1 2 by omega] at mr
    omega
  have e9 : ∀ τ : St, τ 33 0 = σ 33 0 → τ 34 = σ 34 → τ 35 = σ 35 → EV k (d + 10) mX9_row [vR 33, vI f, vI l] τ = if 1 ≤ l ∧ l ≤ 200 then (if σ 1 2 = 0 ∨ f = σ 9 (σ 1 2) then out (WV k) (EV k (d + 9)) MX9_row 47 [vR 33, vI f, vI l] [] τ else ansI (-1) τ) else ansI (-1) τ := by
    intro τ t0 t1 t2
    rw [eX9_row, bX9_row_0, X9_in_ok k (d + 8) τ h2.1 h2.2 (by omega) (by omega) (by omega) (by omega), jbI_some, ib, t0, t1, t2, m0]
    by_cases q : 1 ≤ l ∧ l ≤ 200
    · rw [if_pos q, if_pos q, w32_id (a := σ 1 2) (by omega) (by omega)]
      by_cases z : 0 < σ 1 2
      · have b := rs_b hC (j := σ 1 2) (by omega) (by omega) (by omega)
        have hj : 0 ≤ σ 1 2 - 1 ∧ σ 1 2 - 1 < 500 := by omega
        rw [if_pos z, w32_id (a := σ 1 2 - 1) (by omega) (by omega), lead z, w32_id (a := f) (by omega) (by omega), w32_id (a := σ 9 (σ 1 2)) (by omega) (by omega), if_pos hj, if_pos hj]
        by_cases g : f = σ 9 (σ 1 2)
        · rw [if_pos g, if_pos (Or.inr g)]
        · rw [if_neg g, if_neg (by omega)]
      · rw [if_neg z, if_pos (by omega)]
    · rw [if_neg q, if_neg q]
  rw [eX8_row, bX8_row_0, w32_id (a := l) (by omega) (by omega), w32_1, show w32 200 = 200 by decide, X0_mayFollow_ok k (d + 7) hC hf, jbI_some, ib]
  by_cases q : 1 ≤ l ∧ l ≤ 200
  · rw [if_neg (show ¬ l < 1 by omega), if_neg (show ¬ 200 < l by omega)]
    by_cases g : σ 1 2 = 0 ∨ f = σ 9 (σ 1 2)
    · rw [if_pos g, w32_id (a := f) (by omega) (by omega), w32_id (a := 1500000 - l + 1) (by omega) (by omega), w32_id (a := σ 1 2) (by omega) (by omega), show w32 500 = 500 by decide]
      have e47 : ∀ τ : St, τ 33 0 = σ 33 0 → out (WV k) (EV k (d + 9)) MX9_row 47 [vR 33, vI f, vI l] [] τ = if 0 ≤ f ∧ f ≤ 1500000 - l + 1 then (if σ 1 2 = 500 then ansI (-4) τ else jbV (EV k (d + 9) mX9_laid [vR 33, vI 0] (st2 (st2 (st2 τ 34 (σ 1 2) f) 35 (σ 1 2) l) 33 0 (σ 1 2 + 1))) (fun τ3 => some (some (vI (τ3 33 0)), τ3))) else ansI (-3) τ := by
        intro τ t0
        rw [bX9_row_47, w32_id (a := f) (by omega) (by omega), w32_id (a := l) (by omega) (by omega), X9_isDay_ok k (d + 8) τ (by omega) (by omega), jbI_some, ib, X9_isDay_ok k (d + 8) τ (by omega) (by omega), jbI_some, ib, t0, m0, w32_id (a := σ 1 2) (by omega) (by omega), show w32 500 = 500 by decide]
        rw [show st2 τ 34 (σ 1 2) f 33 0 = σ 1 2 from by rw [st2_cell (by decide), t0, m0], w32_id (a := σ 1 2) (by omega) (by omega), show st2 (st2 τ 34 (σ 1 2) f) 35 (σ 1 2) l 33 0 = σ 1 2 from by rw [st2_cell (by decide), st2_cell (by decide), t0, m0]]
        by_cases z : 0 ≤ f ∧ f ≤ 1500000 - l + 1
        · rw [if_pos (show 0 ≤ f ∧ f ≤ 1500000 by omega), if_pos (show 0 ≤ f + l - 1 ∧ f + l - 1 ≤ 1500000 by omega), if_pos z]
          by_cases y : σ 1 2 = 500
          · rw [if_pos y, if_pos y]
          · have hj : 0 ≤ σ 1 2 ∧ σ 1 2 < 500 := by omega
            rw [if_neg y, if_neg y, if_pos hj, if_pos hj]
        · rw [if_neg z]
          by_cases y : 0 ≤ f ∧ f ≤ 1500000
          · rw [if_pos y, if_neg (by omega)]
          · rw [if_neg y]
      by_cases z : 0 ≤ f ∧ f ≤ 1500000 - l + 1
      · rw [if_neg (show ¬ f < 0 by omega), if_neg (show ¬ 1500000 - l + 1 < f by omega)]
        by_cases y : σ 1 2 < 500
        · have hfr : (arw σ f l) 7 1 = σ 7 1 ∧ (arw σ f l) 7 2 = σ 7 2 := ⟨rfl, rfl⟩
          rw [if_pos y, X0_addRow_ok k (d + 8) (by omega) y, jbV_some, X1_note_ok k (d + 7) 0 (by rw [hfr.1]; omega) (by rw [hfr.1]; omega) (by rw [hfr.2]; omega) (by rw [hfr.2]; omega), jbV_some]
          have n12 : nt (arw σ f l) 0 1 2 = σ 1 2 + 1 := rfl
          obtain ⟨ρ, l1, l2, l3, l4, l5, l6⟩ := X9_laid_ok k (d + 8) (τ := st2 (st2 (st2 (nt (arw σ f l) 0) 34 (σ 1 2) f) 35 (σ 1 2) l) 33 0 (σ 1 2 + 1)) 0 (by show 0 ≤ σ 33 6; omega) (by show σ 33 6 ≤ 100; omega)
          have p1 : ρ 1 = nt (arw σ f l) 0 1 := by rw [l2 1 (by decide) (by decide)]; rfl
          have p8 : ρ 8 = σ 8 := by rw [l2 8 (by decide) (by decide)]; rfl
          have p9 : ρ 9 = arw σ f l 9 := by rw [l2 9 (by decide) (by decide)]; rfl
          have p7 : ρ 7 = nt σ 0 7 := by rw [l2 7 (by decide) (by decide)]; rfl
          have p32 : ρ 32 = nt σ 0 32 := by rw [l2 32 (by decide) (by decide)]; rfl
          have p34 : ρ 34 = st2 σ 34 (σ 1 2) f 34 := by rw [l2 34 (by decide) (by decide)]; rfl
          have p35 : ρ 35 = st2 σ 35 (σ 1 2) l 35 := by rw [l2 35 (by decide) (by decide)]; rfl
          have p12 : ρ 1 2 = σ 1 2 + 1 := by rw [p1]; rfl
          have p330 : ρ 33 0 = σ 1 2 + 1 := by rw [l3 0 (by decide), st2_eq]
          have p336 : (st2 (st2 (st2 (nt (arw σ f l) 0) 34 (σ 1 2) f) 35 (σ 1 2) l) 33 0 (σ 1 2 + 1)) 33 6 = σ 33 6 := rfl
          have p36 : (st2 (st2 (st2 (nt (arw σ f l) 0) 34 (σ 1 2) f) 35 (σ 1 2) l) 33 0 (σ 1 2 + 1)) 36 = σ 36 := rfl
          rw [p336] at l4 l6
          rw [p36] at l6
          have v9 : ∀ j, 0 ≤ j → j ≤ σ 1 2 → (j < σ 1 2 ∨ 0 < σ 1 2) → ρ 9 j = σ 9 j := by
            intro j j1 j2 j3
            rw [p9]
            unfold arw
            rw [st2_idx (by omega), st2_cell (by decide)]
            by_cases w : j = σ 1 2
            · rw [w, st2_eq]
              omega
            · rw [st2_idx w]
          have vn : ρ 9 (σ 1 2) = f := by
            rw [p9]
            unfold arw
            rw [st2_idx (by omega), st2_cell (by decide), st2_eq]
          have vn1 : ρ 9 (σ 1 2 + 1) = f + l := by
            rw [p9]
            unfold arw
            rw [st2_eq]
          have CFρ : CF ρ := by
            refine ⟨by omega, by rw [p8]; exact hC.2.1, ?_⟩
            intro j j1 j2
            rw [p12] at j2
            by_cases w : j = σ 1 2
            · rw [w, vn, vn1]
              omega
            · have c := hC.2.2 j j1 (by omega)
              rw [v9 j j1 (by omega) (by omega), v9 (j + 1) (by omega) (by omega) (by omega)]
              exact c
          have MRρ : MR ρ := by
            refine ⟨by rw [p330, p12], ?_⟩
            intro j j1 j2
            rw [p12] at j2
            by_cases w : j = σ 1 2
            · rw [w, vn, vn1, p34, p35, st2_eq, st2_eq]
              exact ⟨rfl, by omega⟩
            · have c := hM.2 j j1 (by omega)
              rw [v9 j j1 (by omega) (by omega), v9 (j + 1) (by omega) (by omega) (by omega), p34, p35, st2_idx w, st2_idx w]
              exact c
          have DRρ : DR ρ ρ := by
            refine DR_note hR (x := 0) (by decide) (by rw [p7]; rfl) (by rw [p7]; rfl) (by rw [p32]; exact st2_eq _ _ _ _) (fun j hj => by rw [p32]; exact st2_idx hj) l4 l5 l6
          refine ⟨σ 1 2 + 1, nt (arw σ f l) 0, ρ, by rw [n12], ?_, Or.inr ⟨CFρ, MRρ, DRρ, p12, p7, p32, ?_, ?_, ?_⟩⟩
          · rw [e9 (nt (arw σ f l) 0) rfl rfl rfl, if_pos q, if_pos g, e47 (nt (arw σ f l) 0) rfl, if_pos z, if_neg (by omega), l1, jbV_some, p330]
          · intro i hi
            rw [p1]
            unfold nt arw
            rw [st2_cell (by decide), st2_cell (by decide), st2_cell (by decide), st2_cell (by decide), st2_idx hi, st2_cell (by decide)]
          · intro i i1 i2
            rw [l3 i i2, st2_idx i1]
            rfl
          · intro t t1 t9 t7 t32 t33 t34 t35 t36
            rw [l2 t t36 t33, st2_ne t33, st2_ne t35, st2_ne t34]
            unfold nt arw
            rw [st2_ne t7, st2_ne t7, st2_ne t32, st2_ne t9, st2_ne t1, st2_ne t9]
        · rw [if_neg y]
          refine ⟨-4, σ, σ, rfl, ?_, Or.inl rfl⟩
          rw [e9 σ rfl rfl rfl, if_pos q, if_pos g, e47 σ rfl, if_pos z, if_pos (by omega)]
      · refine ⟨-3, σ, σ, ?_, ?_, Or.inl rfl⟩
        · by_cases w : f < 0
          · rw [if_pos w]
          · rw [if_neg w, if_pos (by omega)]
        · rw [e9 σ rfl rfl rfl, if_pos q, if_pos g, e47 σ rfl, if_neg z]
    · rw [if_neg g]
      refine ⟨-1, σ, σ, rfl, ?_, Or.inl rfl⟩
      rw [e9 σ rfl rfl rfl, if_pos q, if_neg g]
  · refine ⟨-1, σ, σ, ?_, ?_, Or.inl rfl⟩
    · by_cases w : l < 1
      · rw [if_pos w]
      · rw [if_neg w, if_pos (by omega)]
    · rw [e9 σ rfl rfl rfl, if_neg q]
