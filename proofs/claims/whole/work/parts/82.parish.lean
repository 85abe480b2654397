/-! the deeds parish and rule -/
theorem nt_ne {σ : St} {x : Int} {q : Nat} (h : q ∉ [7, 32]) : nt σ x q = σ q := by
  unfold nt
  rw [st2_ne (by rintro rfl; exact h (by decide)), st2_ne (by rintro rfl; exact h (by decide)), st2_ne (by rintro rfl; exact h (by decide))]
def ParE (σ ρ : St) : Prop := PR ρ ∧ DR ρ ρ ∧ ρ 4 4 = σ 4 4 + 1 ∧ ρ 7 = nt σ 3 7 ∧ ρ 32 = nt σ 3 32 ∧ (∀ i : Int, i ≠ 4 → ρ 4 i = σ 4 i) ∧ (∀ i : Int, i ∉ ([6, 23] : List Int) → ρ 33 i = σ 33 i) ∧ ∀ q, q ∉ [4, 7, 23, 24, 32, 33, 36, 48, 49] → ρ q = σ q
theorem Dd_parish (k : Nat × (Int → Int)) (d : Nat) {σ : St} (hP : PR σ) (hR : DR σ σ) {w b : Int} (h1 : I32 w) (hb : b = 0 ∨ b = 1) : ∃ v σ1 ρ, EV k (d + 10) mX8_parish [vR 0, vI w, vI b] σ = ansI v σ1 ∧ EV k (d + 10) mX9_parish [vR 33, vI w, vI b] σ1 = ansI v ρ ∧ (ρ = σ ∨ ParE σ ρ) := by
  obtain ⟨P1, P2, P3, P4, P5, P6⟩ := id hP
  obtain ⟨q1, q2, q3, q4⟩ := id hR
  unfold I32 at h1
  have wb : w32 b = 0 ∨ w32 b = 1 := by rcases hb with z | z <;> rw [z] <;> decide
  have r48 : ∀ (τ : St) (k v j : Int), st2 τ 48 k v 33 j = τ 33 j := fun τ k v j => st2_cell (by decide) j
  have r49 : ∀ (τ : St) (k v j : Int), st2 τ 49 k v 33 j = τ 33 j := fun τ k v j => st2_cell (by decide) j
  have r23 : ∀ (τ : St) (k v j : Int), st2 τ 23 k v 4 j = τ 4 j := fun τ k v j => st2_cell (by decide) j
  have r24 : ∀ (τ : St) (k v j : Int), st2 τ 24 k v 4 j = τ 4 j := fun τ k v j => st2_cell (by decide) j
  have w4 := w32_id (a := σ 4 4) (by omega) (by omega)
  have X9 : ∀ τ : St, τ 33 23 = σ 4 4 → EV k (d + 10) mX9_parish [vR 33, vI w, vI b] τ = if 0 ≤ w ∧ w ≤ 127 then (if σ 4 4 = 8 then ansI (-4) τ else jbV (EV k (d + 9) mX9_laid [vR 33, vI 3] (st2 (st2 (st2 τ 48 (σ 4 4) w) 49 (σ 4 4) b) 33 23 (σ 4 4 + 1))) (fun τ2 => some (some (vI ((τ2 33 23) - 1)), τ2))) else ansI (-1) τ := by
    intro τ t
    rw [eX9_parish, bX9_parish_0, X9_in_ok k (d + 8) τ h1.1 h1.2 (by omega) (by omega) (by omega) (by omega), jbI_some, ib]
    simp only [r48, r49, t, w4, show w32 8 = 8 by decide, if_pos wb]
    by_cases z : 0 ≤ w ∧ w ≤ 127
    · rw [if_pos z, if_pos z]
      by_cases y : σ 4 4 = 8
      · rw [if_pos y, if_pos y]
      · have hj : 0 ≤ σ 4 4 ∧ σ 4 4 < 8 := by omega
        rw [if_neg y, if_neg y, if_pos hj, if_pos hj]
    · rw [if_neg z, if_neg z]
  rw [eX8_parish, bX8_parish_0, w32_id (a := w) h1.1 h1.2, show w32 127 = 127 by decide, show w32 8 = 8 by decide, w4]
  by_cases z : 0 ≤ w ∧ w ≤ 127
  · rw [if_neg (show ¬ w < 0 by omega), if_neg (show ¬ 127 < w by omega)]
    by_cases y : σ 4 4 < 8
    · have hj : 0 ≤ σ 4 4 ∧ σ 4 4 < 8 := ⟨P1.1, y⟩
      have ad : EV k (d + 9) mX5_add [vR 4, vI w, vI b] σ = some (none, st2 (st2 (st2 σ 23 (σ 4 4) w) 24 (σ 4 4) b) 4 4 (σ 4 4 + 1)) := by
        rw [eX5_add, bX5_add_0]
        simp only [r23, r24, w4, show w32 8 = 8 by decide, if_pos wb, if_pos y, if_pos hj]
      obtain ⟨A, hA⟩ : ∃ A, A = st2 (st2 (st2 σ 23 (σ 4 4) w) 24 (σ 4 4) b) 4 4 (σ 4 4 + 1) := ⟨_, rfl⟩
      rw [← hA] at ad
      have Aq : ∀ q, q ∉ [4, 23, 24] → A q = σ q := fun q hq => by rw [hA, st2_ne (by rintro rfl; exact hq (by decide)), st2_ne (by rintro rfl; exact hq (by decide)), st2_ne (by rintro rfl; exact hq (by decide))]
      have A4 : ∀ i, i ≠ 4 → A 4 i = σ 4 i := fun i hi => by rw [hA, st2_idx hi, r24, r23]
      have A44 : A 4 4 = σ 4 4 + 1 := by rw [hA, st2_eq]
      have A23 : A 23 = st2 σ 23 (σ 4 4) w 23 := by rw [hA]; rfl
      have A24 : A 24 = st2 σ 24 (σ 4 4) b 24 := by rw [hA]; rfl
      have A7 : A 7 = σ 7 := Aq 7 (by decide)
      rw [if_pos y, ad, jbV_some, X1_note_ok k (d + 7) 3 (by rw [A7]; omega) (by rw [A7]; omega) (by rw [A7]; omega) (by rw [A7]; omega), jbV_some]
      obtain ⟨S, hS⟩ : ∃ S, S = nt A 3 := ⟨_, rfl⟩
      rw [← hS]
      have Sq : ∀ q, q ∉ [7, 32] → S q = A q := fun q hq => by rw [hS]; exact nt_ne hq
      have S7 : S 7 = nt σ 3 7 := by rw [hS]; exact nt_7 A7
      have S32 : S 32 = nt σ 3 32 := by rw [hS]; exact nt_32 A7 (Aq 32 (by decide))
      have S33 : S 33 = σ 33 := by rw [Sq 33 (by decide), Aq 33 (by decide)]
      have x9 := X9 S (by rw [S33]; exact P3)
      rw [if_pos z, if_neg (by omega)] at x9
      obtain ⟨B, hB⟩ : ∃ B, B = st2 (st2 (st2 S 48 (σ 4 4) w) 49 (σ 4 4) b) 33 23 (σ 4 4 + 1) := ⟨_, rfl⟩
      rw [← hB] at x9
      have Bq : ∀ q, q ∉ [33, 48, 49] → B q = S q := fun q hq => by rw [hB, st2_ne (by rintro rfl; exact hq (by decide)), st2_ne (by rintro rfl; exact hq (by decide)), st2_ne (by rintro rfl; exact hq (by decide))]
      have B33 : ∀ i, i ≠ 23 → B 33 i = σ 33 i := fun i hi => by rw [hB, st2_idx hi, r49, r48, S33]
      have B23 : B 33 23 = σ 4 4 + 1 := by rw [hB, st2_eq]
      have S48 : S 48 = σ 48 := by rw [Sq 48 (by decide), Aq 48 (by decide)]
      have S49 : S 49 = σ 49 := by rw [Sq 49 (by decide), Aq 49 (by decide)]
      have B48 : ∀ i, B 48 i = st2 σ 48 (σ 4 4) w 48 i := fun i => by
        rw [hB]
        show (if (48 : Nat) = 48 ∧ i = σ 4 4 then w else S 48 i) = if (48 : Nat) = 48 ∧ i = σ 4 4 then w else σ 48 i
        rw [S48]
      have B49 : ∀ i, B 49 i = st2 σ 49 (σ 4 4) b 49 i := fun i => by
        rw [hB]
        show (if (49 : Nat) = 49 ∧ i = σ 4 4 then b else S 49 i) = if (49 : Nat) = 49 ∧ i = σ 4 4 then b else σ 49 i
        rw [S49]
      obtain ⟨ρ, l1, l2, l3, l4, l5, l6⟩ := X9_laid_ok k (d + 8) (τ := B) 3 (by rw [B33 6 (by decide), q3]; omega) (by rw [B33 6 (by decide), q3]; omega)
      rw [l1, jbV_some] at x9
      have B36 : B 36 = σ 36 := by rw [Bq 36 (by decide), Sq 36 (by decide), Aq 36 (by decide)]
      rw [B33 6 (by decide)] at l4 l6
      rw [B36] at l6
      have pq : ∀ q, q ∉ [4, 7, 23, 24, 32, 33, 36, 48, 49] → ρ q = σ q := fun q hq => by
        simp only [List.mem_cons, not_or] at hq
        rw [l2 q (by simp [hq]) (by simp [hq]), Bq q (by simp [hq]), Sq q (by simp [hq]), Aq q (by simp [hq])]
      have p33 : ∀ i, i ≠ 6 → ρ 33 i = B 33 i := l3
      have p23 : ρ 33 23 = σ 4 4 + 1 := by rw [p33 23 (by decide), B23]
      have p4 : ρ 4 = A 4 := by rw [l2 4 (by decide) (by decide), Bq 4 (by decide), Sq 4 (by decide)]
      have p7 : ρ 7 = nt σ 3 7 := by rw [l2 7 (by decide) (by decide), Bq 7 (by decide), S7]
      have p32 : ρ 32 = nt σ 3 32 := by rw [l2 32 (by decide) (by decide), Bq 32 (by decide), S32]
      refine ⟨σ 4 4 + 1 - 1, S, ρ, ?_, by rw [x9, p23], Or.inr ⟨⟨?_, ?_, ?_, ?_, ?_, ?_⟩, ?_, by rw [p4, A44], p7, p32, fun i hi => by rw [p4, A4 i hi], fun i hi => ?_, pq⟩⟩
      · rw [Sq 4 (by decide), A44]
      · rw [p4, A44]; omega
      · rw [p4, A4 9 (by decide)]; exact P2
      · rw [p23, p4, A44]
      · rw [p33 26 (by decide), B33 26 (by decide), p4, A4 9 (by decide)]; exact P4
      · intro i i0 i1
        rw [p4, A44] at i1
        rw [l2 23 (by decide) (by decide), Bq 23 (by decide), Sq 23 (by decide), A23, l2 24 (by decide) (by decide), Bq 24 (by decide), Sq 24 (by decide), A24, l2 48 (by decide) (by decide), l2 49 (by decide) (by decide), B48, B49]
        by_cases e : i = σ 4 4
        · rw [e, st2_eq, st2_eq, st2_eq, st2_eq]
          exact ⟨z, hb, rfl, rfl⟩
        · rw [st2_idx e, st2_idx e, st2_idx e, st2_idx e]
          exact P5 i i0 (by omega)
      · intro i i0 i1
        rw [p4, A4 9 (by decide)] at i1
        rw [pq 25 (by decide), pq 26 (by decide), pq 27 (by decide), pq 28 (by decide), pq 50 (by decide), pq 51 (by decide), pq 52 (by decide), pq 53 (by decide), pq 3 (by decide), p4, A44]
        obtain ⟨t1, t2, t3⟩ := P6 i i0 i1
        exact ⟨by omega, t2, t3⟩
      · exact DR_note hR (x := 3) (by decide) (by rw [p7]; rfl) (by rw [p7]; rfl) (by rw [p32]; exact st2_eq _ _ _ _) (fun j hj => by rw [p32]; exact st2_idx hj) l4 l5 l6
      · simp only [List.mem_cons, not_or] at hi
        rw [p33 i (by simp [hi]), B33 i (by simp [hi])]
    · rw [if_neg y]
      exact ⟨-4, σ, σ, rfl, by rw [X9 σ P3, if_pos z, if_pos (by omega)], Or.inl rfl⟩
  · refine ⟨-1, σ, σ, ?_, by rw [X9 σ P3, if_neg z], Or.inl rfl⟩
    by_cases y : w < 0
    · rw [if_pos y]
    · rw [if_neg y, if_pos (by omega)]
def RuleE (σ ρ : St) : Prop := PR ρ ∧ DR ρ ρ ∧ ρ 4 9 = σ 4 9 + 1 ∧ ρ 7 = nt σ 4 7 ∧ ρ 32 = nt σ 4 32 ∧ (∀ i, i < σ 4 9 → ρ 25 i = σ 25 i ∧ ρ 26 i = σ 26 i) ∧ (∀ i : Int, i ≠ 9 → ρ 4 i = σ 4 i) ∧ (∀ i : Int, i ∉ ([6, 26] : List Int) → ρ 33 i = σ 33 i) ∧ ∀ q, q ∉ [4, 7, 25, 26, 27, 28, 32, 33, 36, 50, 51, 52, 53] → ρ q = σ q
theorem rule9_loop (k : Nat × (Int → Int)) (d : Nat) {σ : St} (h9 : 0 ≤ σ 33 26 ∧ σ 33 26 ≤ 48) (hp : ∀ i, 0 ≤ i → i < σ 33 26 → 0 ≤ σ 25 i ∧ σ 25 i < 8 ∧ σ 50 i = σ 25 i) {p x2 x3 x4 : Int} (p0 : 0 ≤ p) (p1 : p < 8) : ∀ (t j : Nat) (x : Int), (j : Int) + t = σ 33 26 → out (WV k) (EV k d) MX9_rule 113 [vR 33, vI p, vI x2, vI x3, vI x4, vI x, vI j] [] σ = ansI (x + (rcn σ p (σ 33 26).toNat - rcn σ p j)) σ := by
  intro t
  induction t with
  | zero =>
    intro j x hj
    rw [bX9_rule_113, if_neg (by rw [w32_id (by omega) (by omega), w32_id (by omega) (by omega)]; omega), show (σ 33 26).toNat = j by omega]
    exact ansI_c (by omega)
  | succ t ih =>
    intro j x hj
    push_cast at hj
    have hb := hp j (by omega) (by omega)
    rw [bX9_rule_113, w32_id (a := (j : Int)) (by omega) (by omega), w32_id (a := σ 33 26) (by omega) (by omega), if_pos (by omega), if_pos (by omega), hb.2.2, w32_id (a := σ 25 j) (by omega) (by omega), w32_id (a := p) (by omega) (by omega)]
    have i1 := ih (j + 1)
    push_cast at i1
    have rs := rcn_s σ p j
    by_cases z : σ 25 j = p
    · rw [if_pos z, i1 _ (by omega)]
      rw [if_pos z] at rs
      exact ansI_c (by omega)
    · rw [if_neg z, i1 _ (by omega)]
      rw [if_neg z] at rs
      exact ansI_c (by omega)
theorem rcn_c {σ ρ : St} (p : Int) (h : ρ 25 = σ 25) (m : Nat) : rcn ρ p m = rcn σ p m := by
  induction m with
  | zero => rfl
  | succ m ih => rw [rcn_s, rcn_s, ih, h]
theorem Dd_rule (k : Nat × (Int → Int)) (d : Nat) {σ : St} (hF : FV σ) (hFR : FR σ σ) (hP : PR σ) (hR : DR σ σ) {p f a b : Int} (h1 : I32 p) (h2 : I32 f) (h3 : I32 a) (h4 : I32 b) : ∃ v σ1 ρ, EV k (d + 10) mX8_rule [vR 0, vI p, vI f, vI a, vI b] σ = ansI v σ1 ∧ EV k (d + 10) mX9_rule [vR 33, vI p, vI f, vI a, vI b] σ1 = ansI v ρ ∧ (ρ = σ ∨ RuleE σ ρ) := by
  obtain ⟨P1, P2, P3, P4, P5, P6⟩ := id hP
  obtain ⟨q1, q2, q3, q4⟩ := id hR
  have f6 := hF.1
  have b1 := h1
  have b2 := h2
  have b3 := h3
  have b4 := h4
  unfold I32 at b1 b2 b3 b4
  have r50 : ∀ (τ : St) (k v j : Int), st2 τ 50 k v 33 j = τ 33 j := fun τ k v j => st2_cell (by decide) j
  have r51 : ∀ (τ : St) (k v j : Int), st2 τ 51 k v 33 j = τ 33 j := fun τ k v j => st2_cell (by decide) j
  have r52 : ∀ (τ : St) (k v j : Int), st2 τ 52 k v 33 j = τ 33 j := fun τ k v j => st2_cell (by decide) j
  have r53 : ∀ (τ : St) (k v j : Int), st2 τ 53 k v 33 j = τ 33 j := fun τ k v j => st2_cell (by decide) j
  have r25 : ∀ (τ : St) (k v j : Int), st2 τ 25 k v 4 j = τ 4 j := fun τ k v j => st2_cell (by decide) j
  have r26 : ∀ (τ : St) (k v j : Int), st2 τ 26 k v 4 j = τ 4 j := fun τ k v j => st2_cell (by decide) j
  have r27 : ∀ (τ : St) (k v j : Int), st2 τ 27 k v 4 j = τ 4 j := fun τ k v j => st2_cell (by decide) j
  have r28 : ∀ (τ : St) (k v j : Int), st2 τ 28 k v 4 j = τ 4 j := fun τ k v j => st2_cell (by decide) j
  have w9 := w32_id (a := σ 4 9) (by omega) (by omega)
  have X9 : ∀ τ : St, τ 33 26 = σ 4 9 → τ 33 23 = σ 4 4 → τ 33 12 = σ 3 6 → EV k (d + 10) mX9_rule [vR 33, vI p, vI f, vI a, vI b] τ = if 0 ≤ p ∧ p < σ 4 4 then (if 0 ≤ f ∧ f < σ 3 6 then (if 0 ≤ a ∧ a ≤ 10 then (if 0 ≤ b ∧ b ≤ 10 then (if σ 4 9 = 48 then ansI (-4) τ else jbV (EV k (d + 9) mX9_laid [vR 33, vI 4] (st2 (st2 (st2 (st2 (st2 τ 50 (σ 4 9) p) 51 (σ 4 9) f) 52 (σ 4 9) a) 53 (σ 4 9) b) 33 26 (σ 4 9 + 1))) (fun τ2 => out (WV k) (EV k (d + 9)) MX9_rule 113 [vR 33, vI p, vI f, vI a, vI b, vI 0, vI 0] [] τ2)) else ansI (-1) τ) else ansI (-1) τ) else ansI (-1) τ) else ansI (-1) τ := by
    intro τ t t23 t12
    have isP : EV k (d + 9) mX9_isParish [vR 33, vI p] τ = ansI (if 0 ≤ p ∧ p < σ 4 4 then 1 else 0) τ := by
      rw [eX9_isParish, bX9_isParish_0, t23, X9_in_ok k (d + 7) τ b1.1 b1.2 (by omega) (by omega) (by omega) (by omega), jbI_some]
      by_cases q : 0 ≤ p ∧ p < σ 4 4
      · rw [if_pos (show 0 ≤ p ∧ p ≤ σ 4 4 - 1 by omega), if_pos q]; rfl
      · rw [if_neg (show ¬ (0 ≤ p ∧ p ≤ σ 4 4 - 1) by omega), if_neg q]; rfl
    have isF := isFeast9 k (d + 7) (σ := τ) (by rw [t12]; exact f6) h2
    rw [t12] at isF
    rw [eX9_rule, bX9_rule_0, isP, jbI_some, ib, isF, jbI_some, ib, X9_in_ok k (d + 8) τ b3.1 b3.2 (by omega) (by omega) (by omega) (by omega), jbI_some, ib, X9_in_ok k (d + 8) τ b4.1 b4.2 (by omega) (by omega) (by omega) (by omega), jbI_some, ib]
    simp only [r50, r51, r52, r53, t, w9, show w32 48 = 48 by decide]
    by_cases z1 : 0 ≤ p ∧ p < σ 4 4
    · rw [if_pos z1, if_pos z1]
      by_cases z2 : 0 ≤ f ∧ f < σ 3 6
      · rw [if_pos z2, if_pos z2]
        by_cases z3 : 0 ≤ a ∧ a ≤ 10
        · rw [if_pos z3, if_pos z3]
          by_cases z4 : 0 ≤ b ∧ b ≤ 10
          · rw [if_pos z4, if_pos z4]
            by_cases y : σ 4 9 = 48
            · rw [if_pos y, if_pos y]
            · have hj : 0 ≤ σ 4 9 ∧ σ 4 9 < 48 := by omega
              rw [if_neg y, if_neg y]
              simp only [if_pos hj]
          · rw [if_neg z4, if_neg z4]
        · rw [if_neg z3, if_neg z3]
      · rw [if_neg z2, if_neg z2]
    · rw [if_neg z1, if_neg z1]
  rw [eX8_rule, bX8_rule_0, X5_has_ok k (d + 8) h1 P1, jbI_some, ib, X2_has_ok k (d + 8) h2 f6, jbI_some, ib, w32_id (a := a) b3.1 b3.2, w32_id (a := b) b4.1 b4.2, show w32 10 = 10 by decide, show w32 48 = 48 by decide, w9]
  by_cases z1 : 0 ≤ p ∧ p < σ 4 4
  · rw [if_pos z1]
    by_cases z2 : 0 ≤ f ∧ f < σ 3 6
    · rw [if_pos z2]
      by_cases z3 : 0 ≤ a ∧ a ≤ 10
      · rw [if_neg (show ¬ a < 0 by omega), if_neg (show ¬ 10 < a by omega)]
        by_cases z4 : 0 ≤ b ∧ b ≤ 10
        · rw [if_neg (show ¬ b < 0 by omega), if_neg (show ¬ 10 < b by omega)]
          by_cases y : σ 4 9 < 48
          · have hj : 0 ≤ σ 4 9 ∧ σ 4 9 < 48 := ⟨P2.1, y⟩
            have ad : EV k (d + 9) mX5_addRule [vR 4, vI p, vI f, vI a, vI b] σ = some (none, st2 (st2 (st2 (st2 (st2 σ 25 (σ 4 9) p) 26 (σ 4 9) f) 27 (σ 4 9) a) 28 (σ 4 9) b) 4 9 (σ 4 9 + 1)) := by
              rw [eX5_addRule, bX5_addRule_0]
              simp only [r25, r26, r27, r28, w9, show w32 48 = 48 by decide, if_pos y, if_pos hj]
            obtain ⟨A, hA⟩ : ∃ A, A = st2 (st2 (st2 (st2 (st2 σ 25 (σ 4 9) p) 26 (σ 4 9) f) 27 (σ 4 9) a) 28 (σ 4 9) b) 4 9 (σ 4 9 + 1) := ⟨_, rfl⟩
            rw [← hA] at ad
            have Aq : ∀ q, q ∉ [4, 25, 26, 27, 28] → A q = σ q := fun q hq => by rw [hA, st2_ne (by rintro rfl; exact hq (by decide)), st2_ne (by rintro rfl; exact hq (by decide)), st2_ne (by rintro rfl; exact hq (by decide)), st2_ne (by rintro rfl; exact hq (by decide)), st2_ne (by rintro rfl; exact hq (by decide))]
            have A4 : ∀ i, i ≠ 9 → A 4 i = σ 4 i := fun i hi => by rw [hA, st2_idx hi, r28, r27, r26, r25]
            have A49 : A 4 9 = σ 4 9 + 1 := by rw [hA, st2_eq]
            have A25 : A 25 = st2 σ 25 (σ 4 9) p 25 := by rw [hA]; rfl
            have A26 : A 26 = st2 σ 26 (σ 4 9) f 26 := by rw [hA]; rfl
            have A27 : A 27 = st2 σ 27 (σ 4 9) a 27 := by rw [hA]; rfl
            have A28 : A 28 = st2 σ 28 (σ 4 9) b 28 := by rw [hA]; rfl
            have A7 : A 7 = σ 7 := Aq 7 (by decide)
            rw [if_pos y, ad, jbV_some, X1_note_ok k (d + 7) 4 (by rw [A7]; omega) (by rw [A7]; omega) (by rw [A7]; omega) (by rw [A7]; omega), jbV_some]
            obtain ⟨S, hS⟩ : ∃ S, S = nt A 4 := ⟨_, rfl⟩
            rw [← hS]
            have Sq : ∀ q, q ∉ [7, 32] → S q = A q := fun q hq => by rw [hS]; exact nt_ne hq
            have S7 : S 7 = nt σ 4 7 := by rw [hS]; exact nt_7 A7
            have S32 : S 32 = nt σ 4 32 := by rw [hS]; exact nt_32 A7 (Aq 32 (by decide))
            have S33 : S 33 = σ 33 := by rw [Sq 33 (by decide), Aq 33 (by decide)]
            have S49 : S 4 9 = σ 4 9 + 1 := by rw [Sq 4 (by decide), A49]
            have S25 : ∀ i, 0 ≤ i → i < σ 4 9 + 1 → 0 ≤ S 25 i ∧ S 25 i < 8 := by
              intro i i0 i1
              rw [Sq 25 (by decide), A25]
              by_cases e : i = σ 4 9
              · rw [e, st2_eq]; omega
              · rw [st2_idx e]
                have := (P6 i i0 (by omega)).1
                omega
            rw [rulesOf_ok k (d + 8) (σ := S) (p := p) (by rw [S49]; omega) (fun i i0 i1 => S25 i i0 (by rw [S49] at i1; exact i1)) z1.1 (by omega), jbI_some, S49]
            have x9 := X9 S (by rw [S33]; exact P4) (by rw [S33]; exact P3) (by rw [S33]; exact hFR.1)
            rw [if_pos z1, if_pos z2, if_pos z3, if_pos z4, if_neg (by omega)] at x9
            obtain ⟨B, hB⟩ : ∃ B, B = st2 (st2 (st2 (st2 (st2 S 50 (σ 4 9) p) 51 (σ 4 9) f) 52 (σ 4 9) a) 53 (σ 4 9) b) 33 26 (σ 4 9 + 1) := ⟨_, rfl⟩
            rw [← hB] at x9
            have Bq : ∀ q, q ∉ [33, 50, 51, 52, 53] → B q = S q := fun q hq => by rw [hB, st2_ne (by rintro rfl; exact hq (by decide)), st2_ne (by rintro rfl; exact hq (by decide)), st2_ne (by rintro rfl; exact hq (by decide)), st2_ne (by rintro rfl; exact hq (by decide)), st2_ne (by rintro rfl; exact hq (by decide))]
            have B33 : ∀ i, i ≠ 26 → B 33 i = σ 33 i := fun i hi => by rw [hB, st2_idx hi, r53, r52, r51, r50, S33]
            have B26 : B 33 26 = σ 4 9 + 1 := by rw [hB, st2_eq]
            have B50 : ∀ i, B 50 i = st2 σ 50 (σ 4 9) p 50 i := fun i => by
              rw [hB]
              show (if (50 : Nat) = 50 ∧ i = σ 4 9 then p else S 50 i) = if (50 : Nat) = 50 ∧ i = σ 4 9 then p else σ 50 i
              rw [Sq 50 (by decide), Aq 50 (by decide)]
            have B51 : ∀ i, B 51 i = st2 σ 51 (σ 4 9) f 51 i := fun i => by
              rw [hB]
              show (if (51 : Nat) = 51 ∧ i = σ 4 9 then f else S 51 i) = if (51 : Nat) = 51 ∧ i = σ 4 9 then f else σ 51 i
              rw [Sq 51 (by decide), Aq 51 (by decide)]
            have B52 : ∀ i, B 52 i = st2 σ 52 (σ 4 9) a 52 i := fun i => by
              rw [hB]
              show (if (52 : Nat) = 52 ∧ i = σ 4 9 then a else S 52 i) = if (52 : Nat) = 52 ∧ i = σ 4 9 then a else σ 52 i
              rw [Sq 52 (by decide), Aq 52 (by decide)]
            have B53 : ∀ i, B 53 i = st2 σ 53 (σ 4 9) b 53 i := fun i => by
              rw [hB]
              show (if (53 : Nat) = 53 ∧ i = σ 4 9 then b else S 53 i) = if (53 : Nat) = 53 ∧ i = σ 4 9 then b else σ 53 i
              rw [Sq 53 (by decide), Aq 53 (by decide)]
            obtain ⟨ρ, l1, l2, l3, l4, l5, l6⟩ := X9_laid_ok k (d + 8) (τ := B) 4 (by rw [B33 6 (by decide), q3]; omega) (by rw [B33 6 (by decide), q3]; omega)
            rw [l1, jbV_some] at x9
            have B36 : B 36 = σ 36 := by rw [Bq 36 (by decide), Sq 36 (by decide), Aq 36 (by decide)]
            rw [B33 6 (by decide)] at l4 l6
            rw [B36] at l6
            have pq : ∀ q, q ∉ [4, 7, 25, 26, 27, 28, 32, 33, 36, 50, 51, 52, 53] → ρ q = σ q := fun q hq => by
              simp only [List.mem_cons, not_or] at hq
              rw [l2 q (by simp [hq]) (by simp [hq]), Bq q (by simp [hq]), Sq q (by simp [hq]), Aq q (by simp [hq])]
            have p33 : ∀ i, i ≠ 6 → ρ 33 i = B 33 i := l3
            have p26 : ρ 33 26 = σ 4 9 + 1 := by rw [p33 26 (by decide), B26]
            have p4 : ρ 4 = A 4 := by rw [l2 4 (by decide) (by decide), Bq 4 (by decide), Sq 4 (by decide)]
            have p7 : ρ 7 = nt σ 4 7 := by rw [l2 7 (by decide) (by decide), Bq 7 (by decide), S7]
            have p32 : ρ 32 = nt σ 4 32 := by rw [l2 32 (by decide) (by decide), Bq 32 (by decide), S32]
            have p25 : ρ 25 = S 25 := by rw [l2 25 (by decide) (by decide), Bq 25 (by decide)]
            have PRl : ∀ i, 0 ≤ i → i < σ 4 9 + 1 → (0 ≤ ρ 25 i ∧ ρ 25 i < σ 4 4) ∧ (0 ≤ ρ 26 i ∧ ρ 26 i < σ 3 6) ∧ (0 ≤ ρ 27 i ∧ ρ 27 i ≤ 10) ∧ (0 ≤ ρ 28 i ∧ ρ 28 i ≤ 10) ∧ ρ 50 i = ρ 25 i ∧ ρ 51 i = ρ 26 i ∧ ρ 52 i = ρ 27 i ∧ ρ 53 i = ρ 28 i := by
              intro i i0 i1
              rw [l2 50 (by decide) (by decide), B50, l2 51 (by decide) (by decide), B51, l2 52 (by decide) (by decide), B52, l2 53 (by decide) (by decide), B53, p25, Sq 25 (by decide), A25, l2 26 (by decide) (by decide), Bq 26 (by decide), Sq 26 (by decide), A26, l2 27 (by decide) (by decide), Bq 27 (by decide), Sq 27 (by decide), A27, l2 28 (by decide) (by decide), Bq 28 (by decide), Sq 28 (by decide), A28]
              by_cases e : i = σ 4 9
              · rw [e, st2_eq, st2_eq, st2_eq, st2_eq, st2_eq, st2_eq, st2_eq, st2_eq]
                exact ⟨z1, z2, z3, z4, rfl, rfl, rfl, rfl⟩
              · rw [st2_idx e, st2_idx e, st2_idx e, st2_idx e, st2_idx e, st2_idx e, st2_idx e, st2_idx e]
                exact P6 i i0 (by omega)
            have lp := rule9_loop k (d + 9) (σ := ρ) (p := p) (x2 := f) (x3 := a) (x4 := b) (by rw [p26]; omega) (fun i i0 i1 => by
              rw [p26] at i1
              obtain ⟨t1, t2, t3, t4, t5, _⟩ := PRl i i0 i1
              exact ⟨t1.1, by omega, t5⟩) z1.1 (by omega) (ρ 33 26).toNat 0 0 (by omega)
            rw [show ((0 : Nat) : Int) = 0 from rfl, show rcn ρ p 0 = 0 from rfl, p26, rcn_c p p25] at lp
            refine ⟨rcn S p (σ 4 9 + 1).toNat, S, ρ, rfl, by rw [x9, lp]; exact ansI_c (by omega), Or.inr ⟨⟨?_, ?_, ?_, ?_, ?_, ?_⟩, ?_, by rw [p4, A49], p7, p32, fun i hi => ?_, fun i hi => by rw [p4, A4 i hi], fun i hi => ?_, pq⟩⟩
            · rw [p4, A4 4 (by decide)]; exact P1
            · rw [p4, A49]; omega
            · rw [p33 23 (by decide), B33 23 (by decide), p4, A4 4 (by decide)]; exact P3
            · rw [p26, p4, A49]
            · intro i i0 i1
              rw [p4, A4 4 (by decide)] at i1
              rw [pq 23 (by decide), pq 24 (by decide), pq 48 (by decide), pq 49 (by decide)]
              exact P5 i i0 i1
            · intro i i0 i1
              rw [p4, A49] at i1
              rw [p4, A4 4 (by decide), pq 3 (by decide)]
              exact PRl i i0 i1
            · exact DR_note hR (x := 4) (by decide) (by rw [p7]; rfl) (by rw [p7]; rfl) (by rw [p32]; exact st2_eq _ _ _ _) (fun j hj => by rw [p32]; exact st2_idx hj) l4 l5 l6
            · rw [p25, Sq 25 (by decide), A25, l2 26 (by decide) (by decide), Bq 26 (by decide), Sq 26 (by decide), A26, st2_idx (by omega), st2_idx (by omega)]
              exact ⟨rfl, rfl⟩
            · simp only [List.mem_cons, not_or] at hi
              rw [p33 i (by simp [hi]), B33 i (by simp [hi])]
          · rw [if_neg y]
            exact ⟨-4, σ, σ, rfl, by rw [X9 σ P4 P3 hFR.1, if_pos z1, if_pos z2, if_pos z3, if_pos z4, if_pos (by omega)], Or.inl rfl⟩
        · refine ⟨-1, σ, σ, ?_, by rw [X9 σ P4 P3 hFR.1, if_pos z1, if_pos z2, if_pos z3, if_neg z4], Or.inl rfl⟩
          by_cases y : b < 0
          · rw [if_pos y]
          · rw [if_neg y, if_pos (by omega)]
      · refine ⟨-1, σ, σ, ?_, by rw [X9 σ P4 P3 hFR.1, if_pos z1, if_pos z2, if_neg z3], Or.inl rfl⟩
        by_cases y : a < 0
        · rw [if_pos y]
        · rw [if_neg y, if_pos (by omega)]
    · rw [if_neg z2]
      exact ⟨-1, σ, σ, rfl, by rw [X9 σ P4 P3 hFR.1, if_pos z1, if_neg z2], Or.inl rfl⟩
  · rw [if_neg z1]
    exact ⟨-1, σ, σ, rfl, by rw [X9 σ P4 P3 hFR.1, if_neg z1], Or.inl rfl⟩
