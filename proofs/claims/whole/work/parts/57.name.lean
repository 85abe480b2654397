
def awd (σ : St) (c m w : Int) : St := st2 (st2 (st2 (st2 σ 11 (σ 2 3) c) 12 (σ 2 3) m) 10 (σ 2 3) w) 2 3 (σ 2 3 + 1)
theorem X7_add_ok (k : Nat × (Int → Int)) (d : Nat) {σ : St} {c m w : Int} (h1 : 0 ≤ σ 2 3) (h2 : σ 2 3 < 300) : EV k (d + 1) mX7_add [vR 2, vI c, vI m, vL w] σ = some (none, awd σ c m w) := by
  have hj : 0 ≤ σ 2 3 ∧ σ 2 3 < 300 := ⟨h1, h2⟩
  rw [eX7_add, bX7_add_0, w32_id (a := σ 2 3) (by omega) (by omega), show st2 σ 11 (σ 2 3) c 2 3 = σ 2 3 from rfl, w32_id (a := σ 2 3) (by omega) (by omega), show st2 (st2 σ 11 (σ 2 3) c) 12 (σ 2 3) m 2 3 = σ 2 3 from rfl, w32_id (a := σ 2 3) (by omega) (by omega), show st2 (st2 (st2 σ 11 (σ 2 3) c) 12 (σ 2 3) m) 10 (σ 2 3) w 2 3 = σ 2 3 from rfl, show w32 300 = 300 by decide, if_pos h2, if_pos hj, if_pos hj, if_pos hj]
  rfl
def NameE (σ ρ : St) : Prop := WR ρ ρ ∧ (∀ c m, wcn ρ c m (ρ 2 3).toNat ≤ 3) ∧ DR ρ ρ ∧ ρ 2 3 = σ 2 3 + 1 ∧ ρ 7 = nt σ 1 7 ∧ ρ 32 = nt σ 1 32 ∧ (∀ i, i ≠ 3 → ρ 2 i = σ 2 i) ∧ (∀ i, i ≠ 8 → i ≠ 6 → ρ 33 i = σ 33 i) ∧ ∀ q, q ≠ 2 → q ≠ 10 → q ≠ 11 → q ≠ 12 → q ≠ 7 → q ≠ 32 → q ≠ 33 → q ≠ 36 → q ≠ 37 → q ≠ 38 → q ≠ 39 → ρ q = σ q
theorem Dd_name (k : Nat × (Int → Int)) (d : Nat) {σ : St} (hW : WR σ σ) (h3 : ∀ c m, wcn σ c m (σ 2 3).toNat ≤ 3) (hR : DR σ σ) {c m w : Int} (h1 : I32 c) (h2 : I32 m) : ∃ a σ1 ρ, EV k (d + 10) mX8_name [vR 0, vI c, vI m, vL w] σ = ansI a σ1 ∧ EV k (d + 10) mX9_name [vR 33, vI c, vI m, vL w] σ1 = ansI a ρ ∧ (ρ = σ ∨ NameE σ ρ) := by
  have hW0 := hW
  obtain ⟨w1, w2, w3⟩ := hW0
  have hR0 := hR
  obtain ⟨r1, r2, r3, r4⟩ := hR0
  unfold I32 at h1 h2
  have cb := wcn_b σ c m (σ 2 3).toNat
  have c3 := h3 c m
  have hby : ∀ τ : St, WR σ τ → ∃ a, EV k (d + 9) mX7_monthBy [vR 2, vI c, vL w] σ = ansI a σ ∧ EV k (d + 9) mX9_namedBy [vR 33, vI c, vL w] τ = ansI a τ := fun τ ht => words_by k (d + 8) (d + 8) ht c w
  obtain ⟨a0, a1, a2⟩ := hby σ hW
  have e9 : ∀ τ : St, WR σ τ → EV k (d + 10) mX9_name [vR 33, vI c, vI m, vL w] τ = if 0 ≤ c ∧ c ≤ 7 then (if 1 ≤ m ∧ m ≤ 53 then (if w32 (jlcp w 0) = 0 then ansI (-1) τ else (if w32 a0 = w32 (-2) then out (WV k) (EV k (d + 9)) MX9_name 42 [vR 33, vI c, vI m, vL w, vU, vI (wcn σ c m (σ 2 3).toNat), vI (σ 2 3)] [] τ else ansI (-1) τ)) else ansI (-1) τ) else ansI (-1) τ := by
    intro τ ht
    obtain ⟨b0, b1, b2⟩ := hby τ ht
    have eb : b0 = a0 := by
      rw [a1] at b1
      injection b1 with b1
      injection b1 with b1 _
      injection b1 with b1
      injection b1 with b1
      exact b1.symm
    rw [eb] at b2
    have nl := name_loop k (d + 9) ht c m w (σ 2 3).toNat 0 0 (by push_cast; omega)
    rw [show (0 : Int) + (wcn σ c m (σ 2 3).toNat - wcn σ c m 0) = wcn σ c m (σ 2 3).toNat by show (0 : Int) + (wcn σ c m (σ 2 3).toNat - 0) = _; omega] at nl
    rw [eX9_name, bX9_name_0, X9_isCalendar_ok k (d + 7) τ h1.1 h1.2, jbI_some, ib, X9_in_ok k (d + 8) τ h2.1 h2.2 (by omega) (by omega) (by omega) (by omega), jbI_some, ib, b2, jbI_some]
    rw [show out (WV k) (EV k (d + 9)) MX9_name 42 [vR 33, vI c, vI m, vL w, vU, vI 0, vI 0] [] τ = _ from nl]
  rw [eX8_name, bX8_name_0, X8_isCalendar_ok k (d + 8) σ h1.1 h1.2, jbI_some, ib, w32_id (a := m) (by omega) (by omega), w32_1, show w32 53 = 53 by decide, a1, jbI_some, eX7_countFor, bX7_countFor_0, show out (WV k) (EV k (d + 8)) MX7_countFor 5 [vR 2, vI c, vI m, vI 0, vI 0] [] σ = _ from count_loop k (d + 8) w1.1 w1.2 c m (σ 2 3).toNat 0 0 (by push_cast; omega), jbI_some]
  rw [show (0 : Int) + (wcn σ c m (σ 2 3).toNat - wcn σ c m 0) = wcn σ c m (σ 2 3).toNat by show (0 : Int) + (wcn σ c m (σ 2 3).toNat - 0) = _; omega]
  by_cases hc : 0 ≤ c ∧ c ≤ 7
  · rw [if_pos hc]
    by_cases hm : 1 ≤ m ∧ m ≤ 53
    · rw [if_neg (show ¬ m < 1 by omega), if_neg (show ¬ 53 < m by omega)]
      by_cases hw : w32 (jlcp w 0) = 0
      · rw [if_pos hw]
        refine ⟨-1, σ, σ, rfl, ?_, Or.inl rfl⟩
        rw [e9 σ hW, if_pos hc, if_pos hm, if_pos hw]
      · rw [if_neg hw]
        by_cases ha : w32 a0 = w32 (-2)
        · rw [if_pos ha, w32_id (a := wcn σ c m (σ 2 3).toNat) (by omega) (by omega), show w32 3 = 3 by decide, w32_id (a := σ 2 3) (by omega) (by omega), show w32 300 = 300 by decide]
          have e42 : ∀ τ : St, τ 33 8 = σ 2 3 → out (WV k) (EV k (d + 9)) MX9_name 42 [vR 33, vI c, vI m, vL w, vU, vI (wcn σ c m (σ 2 3).toNat), vI (σ 2 3)] [] τ = if wcn σ c m (σ 2 3).toNat = 3 then ansI (-4) τ else if σ 2 3 = 300 then ansI (-4) τ else jbV (EV k (d + 9) mX9_laid [vR 33, vI 1] (st2 (st2 (st2 (st2 τ 37 (σ 2 3) c) 38 (σ 2 3) m) 39 (σ 2 3) w) 33 8 (σ 2 3 + 1))) (fun τ1 => some (some (vI (wcn σ c m (σ 2 3).toNat + 1)), τ1)) := by
            intro τ t8
            have s1 : st2 τ 37 (σ 2 3) c 33 8 = σ 2 3 := by rw [st2_cell (by decide), t8]
            have s2 : st2 (st2 τ 37 (σ 2 3) c) 38 (σ 2 3) m 33 8 = σ 2 3 := by rw [st2_cell (by decide), s1]
            have s3 : st2 (st2 (st2 τ 37 (σ 2 3) c) 38 (σ 2 3) m) 39 (σ 2 3) w 33 8 = σ 2 3 := by rw [st2_cell (by decide), s2]
            rw [bX9_name_42, t8, w32_id (a := σ 2 3) (by omega) (by omega), s1, w32_id (a := σ 2 3) (by omega) (by omega), s2, w32_id (a := σ 2 3) (by omega) (by omega), s3, if_neg (by omega), w32_id (a := wcn σ c m (σ 2 3).toNat) (by omega) (by omega), show w32 3 = 3 by decide, show w32 300 = 300 by decide]
            by_cases q1 : wcn σ c m (σ 2 3).toNat = 3
            · rw [if_pos q1, if_pos q1]
            · rw [if_neg q1, if_neg q1]
              by_cases q2 : σ 2 3 = 300
              · rw [if_pos q2, if_pos q2]
              · have hj : 0 ≤ σ 2 3 ∧ σ 2 3 < 300 := by omega
                rw [if_neg q2, if_neg q2, if_pos hj, if_pos hj, if_pos hj]
          by_cases q1 : wcn σ c m (σ 2 3).toNat < 3
          · rw [if_pos q1]
            by_cases q2 : σ 2 3 < 300
            · have f1 : awd σ c m w 7 1 = σ 7 1 := rfl
              have f2 : awd σ c m w 7 2 = σ 7 2 := rfl
              rw [if_pos q2, X7_add_ok k (d + 8) w1.1 q2, jbV_some, X1_note_ok k (d + 7) 1 (by rw [f1]; omega) (by rw [f1]; omega) (by rw [f2]; omega) (by rw [f2]; omega), jbV_some]
              have WRt : WR σ (nt (awd σ c m w) 1) := by
                refine ⟨w1, w2, ?_⟩
                exact w3
              obtain ⟨ρ, l1, l2, l3, l4, l5, l6⟩ := X9_laid_ok k (d + 8) (τ := st2 (st2 (st2 (st2 (nt (awd σ c m w) 1) 37 (σ 2 3) c) 38 (σ 2 3) m) 39 (σ 2 3) w) 33 8 (σ 2 3 + 1)) 1 (by show 0 ≤ σ 33 6; omega) (by show σ 33 6 ≤ 100; omega)
              have p336 : (st2 (st2 (st2 (st2 (nt (awd σ c m w) 1) 37 (σ 2 3) c) 38 (σ 2 3) m) 39 (σ 2 3) w) 33 8 (σ 2 3 + 1)) 33 6 = σ 33 6 := rfl
              have p36 : (st2 (st2 (st2 (st2 (nt (awd σ c m w) 1) 37 (σ 2 3) c) 38 (σ 2 3) m) 39 (σ 2 3) w) 33 8 (σ 2 3 + 1)) 36 = σ 36 := rfl
              rw [p336] at l4 l6
              rw [p36] at l6
              have p2 : ρ 2 = awd σ c m w 2 := by rw [l2 2 (by decide) (by decide)]; rfl
              have p7 : ρ 7 = nt σ 1 7 := by rw [l2 7 (by decide) (by decide)]; rfl
              have p32 : ρ 32 = nt σ 1 32 := by rw [l2 32 (by decide) (by decide)]; rfl
              have p10 : ρ 10 = st2 σ 10 (σ 2 3) w 10 := by rw [l2 10 (by decide) (by decide)]; rfl
              have p11 : ρ 11 = st2 σ 11 (σ 2 3) c 11 := by rw [l2 11 (by decide) (by decide)]; rfl
              have p12 : ρ 12 = st2 σ 12 (σ 2 3) m 12 := by rw [l2 12 (by decide) (by decide)]; rfl
              have p37 : ρ 37 = st2 σ 37 (σ 2 3) c 37 := by rw [l2 37 (by decide) (by decide)]; rfl
              have p38 : ρ 38 = st2 σ 38 (σ 2 3) m 38 := by rw [l2 38 (by decide) (by decide)]; rfl
              have p39 : ρ 39 = st2 σ 39 (σ 2 3) w 39 := by rw [l2 39 (by decide) (by decide)]; rfl
              have p23 : ρ 2 3 = σ 2 3 + 1 := by rw [p2]; exact st2_eq _ _ _ _
              have p338 : ρ 33 8 = σ 2 3 + 1 := by rw [l3 8 (by decide), st2_eq]
              have WRρ : WR ρ ρ := by
                refine ⟨by omega, by rw [p338, p23], ?_⟩
                intro j j1 j2
                rw [p23] at j2
                rw [p10, p11, p12, p37, p38, p39]
                by_cases z : j = σ 2 3
                · rw [z, st2_eq, st2_eq, st2_eq, st2_eq, st2_eq, st2_eq]
                  exact ⟨rfl, rfl, rfl⟩
                · rw [st2_idx z, st2_idx z, st2_idx z, st2_idx z, st2_idx z, st2_idx z]
                  exact w3 j j1 (by omega)
              have CNρ : ∀ c2 m2, wcn ρ c2 m2 (ρ 2 3).toNat ≤ 3 := by
                intro c2 m2
                have ec : wcn ρ c2 m2 (σ 2 3).toNat = wcn σ c2 m2 (σ 2 3).toNat := wcn_c c2 m2 _ (fun j hj => by rw [p11, p12, st2_idx (by omega), st2_idx (by omega)]; exact ⟨rfl, rfl⟩)
                have es : wcn ρ c2 m2 ((σ 2 3).toNat + 1) = wcn ρ c2 m2 (σ 2 3).toNat + (if w32 (ρ 11 ((σ 2 3).toNat : Int)) = w32 c2 ∧ w32 (ρ 12 ((σ 2 3).toNat : Int)) = w32 m2 then 1 else 0) := rfl
                rw [show (ρ 2 3).toNat = (σ 2 3).toNat + 1 by omega, es, ec, show ((σ 2 3).toNat : Int) = σ 2 3 by omega, p11, p12, st2_eq, st2_eq]
                have hh := h3 c2 m2
                by_cases z : w32 c = w32 c2 ∧ w32 m = w32 m2
                · rw [if_pos z, ← wcn_w σ z.1 z.2]
                  omega
                · rw [if_neg z]
                  omega
              have DRρ : DR ρ ρ := by
                refine DR_note hR (x := 1) (by decide) (by rw [p7]; rfl) (by rw [p7]; rfl) (by rw [p32]; exact st2_eq _ _ _ _) (fun j hj => by rw [p32]; exact st2_idx hj) l4 l5 l6
              refine ⟨wcn σ c m (σ 2 3).toNat + 1, nt (awd σ c m w) 1, ρ, rfl, ?_, Or.inr ⟨WRρ, CNρ, DRρ, p23, p7, p32, ?_, ?_, ?_⟩⟩
              · rw [e9 _ WRt, if_pos hc, if_pos hm, if_neg hw, if_pos ha, e42 (nt (awd σ c m w) 1) WRt.2.1, if_neg (by omega), if_neg (by omega), l1, jbV_some]
              · intro i hi
                rw [p2]
                unfold awd
                rw [st2_idx hi]
                rfl
              · intro i i1 i2
                rw [l3 i i2, st2_idx i1]
                rfl
              · intro t t2 t10 t11 t12 t7 t32 t33 t36 t37 t38 t39
                rw [l2 t t36 t33, st2_ne t33, st2_ne t39, st2_ne t38, st2_ne t37]
                unfold nt awd
                rw [st2_ne t7, st2_ne t7, st2_ne t32, st2_ne t2, st2_ne t10, st2_ne t12, st2_ne t11]
            · rw [if_neg q2]
              refine ⟨-4, σ, σ, rfl, ?_, Or.inl rfl⟩
              rw [e9 σ hW, if_pos hc, if_pos hm, if_neg hw, if_pos ha, e42 σ w2, if_neg (by omega), if_pos (by omega)]
          · rw [if_neg q1]
            refine ⟨-4, σ, σ, rfl, ?_, Or.inl rfl⟩
            rw [e9 σ hW, if_pos hc, if_pos hm, if_neg hw, if_pos ha, e42 σ w2, if_pos (by omega)]
        · rw [if_neg ha]
          refine ⟨-1, σ, σ, rfl, ?_, Or.inl rfl⟩
          rw [e9 σ hW, if_pos hc, if_pos hm, if_neg hw, if_neg ha]
    · refine ⟨-1, σ, σ, ?_, ?_, Or.inl rfl⟩
      · by_cases z : m < 1
        · rw [if_pos z]
        · rw [if_neg z, if_pos (by omega)]
      · rw [e9 σ hW, if_pos hc, if_neg hm]
  · rw [if_neg hc]
    refine ⟨-1, σ, σ, rfl, ?_, Or.inl rfl⟩
    rw [e9 σ hW, if_neg hc]
