/-! the deed feast -/
theorem ite2 {α : Type} {p q : Prop} [Decidable p] [Decidable q] (a b : α) : (if p then (if q then a else b) else b) = if p ∧ q then a else b := by
  by_cases hp : p <;> by_cases hq : q <;> simp [hp, hq]
theorem ite3 {α : Type} {p q r : Prop} [Decidable p] [Decidable q] [Decidable r] (a b : α) : (if p then (if q then (if r then a else b) else b) else b) = if p ∧ q ∧ r then a else b := by
  by_cases hp : p <;> by_cases hq : q <;> by_cases hr : r <;> simp [hp, hq, hr]
theorem X2_within_ok (k : Nat × (Int → Int)) (d : Nat) (σ : St) {a b c : Int} (a1 : I32 a) (b1 : I32 b) (c1 : I32 c) : EV k (d + 1) mX2_within [vI a, vI b, vI c] σ = ansI (if b ≤ a ∧ a ≤ c then 1 else 0) σ := by
  unfold I32 at a1 b1 c1
  rw [eX2_within, bX2_within_0, w32_id a1.1 a1.2, w32_id b1.1 b1.2, w32_id c1.1 c1.2]
  by_cases p : a < b
  · rw [if_pos p, if_neg (by omega)]
  · by_cases q : c < a
    · rw [if_neg p, if_pos q, if_neg (by omega)]
    · rw [if_neg p, if_neg q, if_pos (by omega)]
theorem I32_k {a : Int} (h1 : -100000000 ≤ a) (h2 : a ≤ 100000000) : I32 a := by unfold I32; omega
theorem X2_isRuleRight_ok (k : Nat × (Int → Int)) (d : Nat) {σ : St} (h6 : 0 ≤ σ 3 6 ∧ σ 3 6 ≤ 60) {r a b c : Int} (h1 : I32 r) (h2 : I32 a) (h3 : I32 b) (h4 : I32 c) : (EV k (d + 2) mX2_isRuleRight [vR 3, vI r, vI a, vI b, vI c] σ = ansI 1 σ ∧ fok r a b c (σ 3 6)) ∨ (EV k (d + 2) mX2_isRuleRight [vR 3, vI r, vI a, vI b, vI c] σ = ansI 0 σ ∧ ¬ fok r a b c (σ 3 6)) := by
  have b1 := h1
  have b4 := h4
  unfold I32 at b1 b4
  rw [eX2_isRuleRight, bX2_isRuleRight_0, w32_id (a := r) b1.1 b1.2]
  by_cases z0 : r = 0
  · rw [if_pos z0, X2_within_ok k d σ h2 (I32_k (by omega) (by omega)) (I32_k (by omega) (by omega)), jbI_some, ib, X2_within_ok k d σ h3 (I32_k (by omega) (by omega)) (I32_k (by omega) (by omega)), jbI_some, ib, X2_within_ok k d σ h4 (I32_k (by omega) (by omega)) (I32_k (by omega) (by omega)), jbI_some, ib, ite3]
    by_cases p : (1 ≤ a ∧ a ≤ 53) ∧ (1 ≤ b ∧ b ≤ 200) ∧ 0 ≤ c ∧ c ≤ 6
    · rw [if_pos p]; exact Or.inl ⟨rfl, by unfold fok; omega⟩
    · rw [if_neg p]; exact Or.inr ⟨rfl, by unfold fok; omega⟩
  · rw [if_neg z0]
    by_cases z1 : r = 1
    · rw [if_pos z1, X2_within_ok k d σ h2 (I32_k (by omega) (by omega)) (I32_k (by omega) (by omega)), jbI_some, ib, X2_within_ok k d σ h3 (I32_k (by omega) (by omega)) (I32_k (by omega) (by omega)), jbI_some, ib, X2_within_ok k d σ h4 (I32_k (by omega) (by omega)) (I32_k (by omega) (by omega)), jbI_some, ib, w32_id (a := c) b4.1 b4.2, show w32 (-1) = -1 by decide]
      by_cases p : (1 ≤ a ∧ a ≤ 12) ∧ (0 ≤ b ∧ b ≤ 6)
      · rw [if_pos p.1, if_pos p.2]
        by_cases p2 : 1 ≤ c ∧ c ≤ 5
        · rw [if_pos p2]; exact Or.inl ⟨rfl, by unfold fok; omega⟩
        · rw [if_neg p2]
          by_cases p3 : c = -1
          · rw [if_pos p3]; exact Or.inl ⟨rfl, by unfold fok; omega⟩
          · rw [if_neg p3]; exact Or.inr ⟨rfl, by unfold fok; omega⟩
      · refine Or.inr ⟨?_, by unfold fok; omega⟩
        by_cases p1 : 1 ≤ a ∧ a ≤ 12
        · rw [if_pos p1, if_neg (fun w => p ⟨p1, w⟩)]
        · rw [if_neg p1]
    · rw [if_neg z1]
      by_cases z2 : r = 2
      · rw [if_pos z2, X2_within_ok k d σ h2 (I32_k (by omega) (by omega)) (I32_k (by omega) (by omega)), jbI_some, ib, X2_within_ok k d σ h3 (I32_k (by omega) (by omega)) (I32_k (by omega) (by omega)), jbI_some, ib, ite2]
        by_cases p : (-60 ≤ a ∧ a ≤ 100) ∧ 0 ≤ b ∧ b ≤ 1
        · rw [if_pos p]; exact Or.inl ⟨rfl, by unfold fok; omega⟩
        · rw [if_neg p]; exact Or.inr ⟨rfl, by unfold fok; omega⟩
      · rw [if_neg z2]
        by_cases z3 : r = 3
        · rw [if_pos z3, X2_has_ok k d h2 h6, jbI_some, ib, X2_within_ok k d σ h3 (I32_k (by omega) (by omega)) (I32_k (by omega) (by omega)), jbI_some, ib, ite2]
          by_cases p : (0 ≤ a ∧ a < σ 3 6) ∧ -40 ≤ b ∧ b ≤ 40
          · rw [if_pos p]; exact Or.inl ⟨rfl, by unfold fok; omega⟩
          · rw [if_neg p]; exact Or.inr ⟨rfl, by unfold fok; omega⟩
        · rw [if_neg z3]
          exact Or.inr ⟨rfl, by unfold fok; omega⟩
theorem isFeast9 (k : Nat × (Int → Int)) (d : Nat) {σ : St} (f1 : 0 ≤ σ 33 12 ∧ σ 33 12 ≤ 60) {i : Int} (h1 : I32 i) : EV k (d + 2) mX9_isFeast [vR 33, vI i] σ = ansI (if 0 ≤ i ∧ i < σ 33 12 then 1 else 0) σ := by
  unfold I32 at h1
  rw [eX9_isFeast, bX9_isFeast_0, X9_in_ok k d σ h1.1 h1.2 (by omega) (by omega) (by omega) (by omega), jbI_some]
  by_cases q : 0 ≤ i ∧ i < σ 33 12
  · rw [if_pos (show 0 ≤ i ∧ i ≤ σ 33 12 - 1 by omega), if_pos q]; rfl
  · rw [if_neg (show ¬ (0 ≤ i ∧ i ≤ σ 33 12 - 1) by omega), if_neg q]; rfl
theorem X9_feast_good (k : Nat × (Int → Int)) (d : Nat) {σ : St} (h6 : 0 ≤ σ 33 12 ∧ σ 33 12 ≤ 60) {r a b c e : Int} (h1 : I32 r) (h2 : I32 a) (h3 : I32 b) (h4 : I32 c) (h5 : I32 e) : (EV k (d + 3) mX9_feast [vR 33, vI r, vI a, vI b, vI c, vI e] σ = out (WV k) (EV k (d + 2)) MX9_feast 205 [vR 33, vI r, vI a, vI b, vI c, vI e, vI 1] [] σ ∧ fok r a b c (σ 33 12) ∧ 0 ≤ e ∧ e ≤ 9) ∨ (EV k (d + 3) mX9_feast [vR 33, vI r, vI a, vI b, vI c, vI e] σ = ansI (-1) σ ∧ ¬ (fok r a b c (σ 33 12) ∧ 0 ≤ e ∧ e ≤ 9)) := by
  have b1 := h1
  have b2 := h2
  have b3 := h3
  have b4 := h4
  have b5 := h5
  unfold I32 at b1 b2 b3 b4 b5
  have no : out (WV k) (EV k (d + 2)) MX9_feast 205 [vR 33, vI r, vI a, vI b, vI c, vI e, vI 0] [] σ = ansI (-1) σ := by rw [bX9_feast_205, i00]
  rw [eX9_feast, bX9_feast_0, X9_in_ok k (d + 1) σ b1.1 b1.2 (by omega) (by omega) (by omega) (by omega), jbI_some, ib, X9_in_ok k (d + 1) σ b5.1 b5.2 (by omega) (by omega) (by omega) (by omega), jbI_some, ib, ite2]
  by_cases P : (0 ≤ r ∧ r ≤ 3) ∧ 0 ≤ e ∧ e ≤ 9
  · rw [if_pos P, bX9_feast_25, w32_id (a := r) b1.1 b1.2, show w32 2 = 2 by decide, no]
    by_cases z0 : r = 0
    · rw [if_pos z0, i10, X9_in_ok k (d + 1) σ b2.1 b2.2 (by omega) (by omega) (by omega) (by omega), jbI_some, ib, X9_in_ok k (d + 1) σ b3.1 b3.2 (by omega) (by omega) (by omega) (by omega), jbI_some, ib, X9_in_ok k (d + 1) σ b4.1 b4.2 (by omega) (by omega) (by omega) (by omega), jbI_some, ib, ite3]
      by_cases p : (1 ≤ a ∧ a ≤ 53) ∧ (1 ≤ b ∧ b ≤ 200) ∧ 0 ≤ c ∧ c ≤ 6
      · rw [if_pos p]; exact Or.inl ⟨rfl, by unfold fok; omega, P.2⟩
      · rw [if_neg p]; exact Or.inr ⟨no, by unfold fok; omega⟩
    · rw [if_neg z0]
      by_cases z1 : r = 1
      · rw [if_pos (show r = w32 1 by rw [w32_1]; exact z1), i10, X9_in_ok k (d + 1) σ b2.1 b2.2 (by omega) (by omega) (by omega) (by omega), jbI_some, ib, X9_in_ok k (d + 1) σ b3.1 b3.2 (by omega) (by omega) (by omega) (by omega), jbI_some, ib, X9_in_ok k (d + 1) σ b4.1 b4.2 (by omega) (by omega) (by omega) (by omega), jbI_some, ib, w32_id (a := c) b4.1 b4.2, show w32 (-1) = -1 by decide]
        by_cases p : (1 ≤ a ∧ a ≤ 12) ∧ (0 ≤ b ∧ b ≤ 6)
        · rw [if_pos p.1, if_pos p.2]
          by_cases p3 : c = -1
          · rw [if_pos p3]; exact Or.inl ⟨rfl, by unfold fok; omega, P.2⟩
          · rw [if_neg p3]
            by_cases p2 : 1 ≤ c ∧ c ≤ 5
            · rw [if_pos p2]; exact Or.inl ⟨rfl, by unfold fok; omega, P.2⟩
            · rw [if_neg p2]; exact Or.inr ⟨no, by unfold fok; omega⟩
        · refine Or.inr ⟨?_, by unfold fok; omega⟩
          by_cases p1 : 1 ≤ a ∧ a ≤ 12
          · rw [if_pos p1, if_neg (fun w => p ⟨p1, w⟩)]; exact no
          · rw [if_neg p1]; exact no
      · rw [if_neg (show ¬ r = w32 1 by rw [w32_1]; exact z1)]
        by_cases z2 : r = 2
        · rw [if_pos z2, i10, X9_in_ok k (d + 1) σ b2.1 b2.2 (by omega) (by omega) (by omega) (by omega), jbI_some, ib, X9_in_ok k (d + 1) σ b3.1 b3.2 (by omega) (by omega) (by omega) (by omega), jbI_some, ib, ite2]
          by_cases p : (-60 ≤ a ∧ a ≤ 100) ∧ 0 ≤ b ∧ b ≤ 1
          · rw [if_pos p]; exact Or.inl ⟨rfl, by unfold fok; omega, P.2⟩
          · rw [if_neg p]; exact Or.inr ⟨no, by unfold fok; omega⟩
        · rw [if_neg z2, i10, isFeast9 k d h6 h2, jbI_some, ib, X9_in_ok k (d + 1) σ b3.1 b3.2 (by omega) (by omega) (by omega) (by omega), jbI_some, ib, ite2]
          by_cases p : (0 ≤ a ∧ a < σ 33 12) ∧ -40 ≤ b ∧ b ≤ 40
          · rw [if_pos p]; exact Or.inl ⟨rfl, by unfold fok; omega, P.2⟩
          · rw [if_neg p]; exact Or.inr ⟨no, by unfold fok; omega⟩
  · rw [if_neg P, bX9_feast_25]
    refine Or.inr ⟨?_, by unfold fok; omega⟩
    by_cases z0 : w32 r = 0
    · rw [if_pos z0, i00]; exact no
    · rw [if_neg z0]
      by_cases z1 : w32 r = w32 1
      · rw [if_pos z1, i00]; exact no
      · rw [if_neg z1]
        by_cases z2 : w32 r = w32 2
        · rw [if_pos z2, i00]; exact no
        · rw [if_neg z2, i00]; exact no
def afs (σ : St) (n r a b c e : Int) : St := st2 (st2 (st2 (st2 (st2 (st2 σ 13 n r) 14 n a) 15 n b) 16 n c) 17 n e) 3 6 (n + 1)
theorem X2_add_eq (k : Nat × (Int → Int)) (d : Nat) {σ : St} {r a b c e : Int} (h1 : 0 ≤ σ 3 6) (h2 : σ 3 6 < 60) : EV k (d + 1) mX2_add [vR 3, vI r, vI a, vI b, vI c, vI e] σ = jbV (EV k d mX2_changed [vR 3] (afs σ (σ 3 6) r a b c e)) (fun τ1 => some (none, τ1)) := by
  have hj : 0 ≤ σ 3 6 ∧ σ 3 6 < 60 := ⟨h1, h2⟩
  have r13 : ∀ (τ : St) (k v j : Int), st2 τ 13 k v 3 j = τ 3 j := fun τ k v j => st2_cell (by decide) j
  have r14 : ∀ (τ : St) (k v j : Int), st2 τ 14 k v 3 j = τ 3 j := fun τ k v j => st2_cell (by decide) j
  have r15 : ∀ (τ : St) (k v j : Int), st2 τ 15 k v 3 j = τ 3 j := fun τ k v j => st2_cell (by decide) j
  have r16 : ∀ (τ : St) (k v j : Int), st2 τ 16 k v 3 j = τ 3 j := fun τ k v j => st2_cell (by decide) j
  have r17 : ∀ (τ : St) (k v j : Int), st2 τ 17 k v 3 j = τ 3 j := fun τ k v j => st2_cell (by decide) j
  have w := w32_id (a := σ 3 6) (by omega) (by omega)
  rw [eX2_add, bX2_add_0]
  simp only [r13, r14, r15, r16, r17, w, show w32 60 = 60 by decide, if_pos h2, if_pos hj]
  rfl
def afr (τ : St) (n r a b c e : Int) : St := st2 (st2 (st2 (st2 (st2 (st2 τ 40 n r) 41 n a) 42 n b) 43 n c) 44 n e) 33 12 (n + 1)
theorem X9_feast_put (k : Nat × (Int → Int)) (d : Nat) {σ : St} {r a b c e : Int} (h1 : 0 ≤ σ 33 12) (h2 : σ 33 12 < 60) : out (WV k) (EV k d) MX9_feast 205 [vR 33, vI r, vI a, vI b, vI c, vI e, vI 1] [] σ = jbV (EV k d mX9_laid [vR 33, vI 2] (afr σ (σ 33 12) r a b c e)) (fun τ1 => jbV (EV k d mX9_forget [vR 33] τ1) (fun τ2 => some (some (vI ((τ2 33 12) - 1)), τ2))) := by
  have hj : 0 ≤ σ 33 12 ∧ σ 33 12 < 60 := ⟨h1, h2⟩
  have r13 : ∀ (τ : St) (k v j : Int), st2 τ 40 k v 33 j = τ 33 j := fun τ k v j => st2_cell (by decide) j
  have r14 : ∀ (τ : St) (k v j : Int), st2 τ 41 k v 33 j = τ 33 j := fun τ k v j => st2_cell (by decide) j
  have r15 : ∀ (τ : St) (k v j : Int), st2 τ 42 k v 33 j = τ 33 j := fun τ k v j => st2_cell (by decide) j
  have r16 : ∀ (τ : St) (k v j : Int), st2 τ 43 k v 33 j = τ 33 j := fun τ k v j => st2_cell (by decide) j
  have r17 : ∀ (τ : St) (k v j : Int), st2 τ 44 k v 33 j = τ 33 j := fun τ k v j => st2_cell (by decide) j
  have w := w32_id (a := σ 33 12) (by omega) (by omega)
  rw [bX9_feast_205, i10]
  simp only [r13, r14, r15, r16, r17, w, show w32 60 = 60 by decide, if_neg (show ¬ σ 33 12 = 60 by omega), if_pos hj]
  rfl
theorem CV_fs {σ ρ : St} (h : FSa σ ρ) (e19 : ρ 19 = σ 19) (e20 : ρ 20 = σ 20) (e21 : ρ 21 = σ 21) (g : CV σ) : CV ρ := by
  have h6 : ρ 3 6 = σ 3 6 := h.2.2.2.2.2.2.2.2.2
  intro s s0 s1
  rw [h6, e19, e20, e21]
  obtain ⟨g1, g2⟩ := g s s0 s1
  refine ⟨g1, fun a b => ?_⟩
  rw [h.um]
  obtain ⟨c1, c2⟩ := g2 a b
  exact ⟨c1, h.pls c2⟩
theorem nt_7 {σ ρ : St} {x : Int} (h : ρ 7 = σ 7) : nt ρ x 7 = nt σ x 7 := by
  funext j
  unfold nt
  simp only [st2_get, h]
theorem nt_32 {σ ρ : St} {x : Int} (h : ρ 7 = σ 7) (g : ρ 32 = σ 32) : nt ρ x 32 = nt σ x 32 := by
  funext j
  unfold nt
  simp only [st2_get, h, g]
def FeastE (σ ρ : St) : Prop := HQ ρ ∧ DR ρ ρ ∧ ρ 3 6 = σ 3 6 + 1 ∧ ρ 7 = nt σ 2 7 ∧ ρ 32 = nt σ 2 32 ∧ (∀ i : Int, i ∉ ([6, 12, 22] : List Int) → ρ 33 i = σ 33 i) ∧ ∀ q, q ∉ [3, 7, 13, 14, 15, 16, 17, 18, 19, 32, 33, 36, 40, 41, 42, 43, 44] → ρ q = σ q
theorem Dd_feast (k : Nat × (Int → Int)) (d : Nat) {σ : St} (h : HQ σ) (hR : DR σ σ) {r a b c e : Int} (h1 : I32 r) (h2 : I32 a) (h3 : I32 b) (h4 : I32 c) (h5 : I32 e) : ∃ v σ1 ρ, EV k (d + 10) mX8_feast [vR 0, vI r, vI a, vI b, vI c, vI e] σ = ansI v σ1 ∧ EV k (d + 10) mX9_feast [vR 33, vI r, vI a, vI b, vI c, vI e] σ1 = ansI v ρ ∧ (ρ = σ ∨ FeastE σ ρ) := by
  obtain ⟨g1, g2, g3, g4, g5, g6, g7⟩ := id h
  have f1 := g3.1
  obtain ⟨q1, q2, q3, q4⟩ := id hR
  have b5 := h5
  unfold I32 at b5
  have n9 := g4.1
  have X9 := X9_feast_good k (d + 7) (σ := σ) (by rw [n9]; exact f1) h1 h2 h3 h4 h5
  rw [n9] at X9
  rw [eX8_feast, bX8_feast_0, w32_id (a := e) b5.1 b5.2, show w32 9 = 9 by decide]
  by_cases E : 0 ≤ e ∧ e ≤ 9
  · rw [if_neg (show ¬ e < 0 by omega), if_neg (show ¬ 9 < e by omega)]
    rcases X2_isRuleRight_ok k (d + 7) f1 h1 h2 h3 h4 with ⟨i1, i2⟩ | ⟨i1, i2⟩
    · rw [i1, jbI_some, i10, w32_id (a := σ 3 6) (by omega) (by omega), show w32 60 = 60 by decide]
      rcases X9 with ⟨x1, _⟩ | ⟨_, x2⟩
      · by_cases n60 : σ 3 6 < 60
        · rw [if_pos n60, X2_add_eq k (d + 8) f1.1 n60]
          obtain ⟨A, hA⟩ : ∃ A, A = afs σ (σ 3 6) r a b c e := ⟨_, rfl⟩
          rw [← hA]
          have A36 : A 3 6 = σ 3 6 + 1 := by rw [hA]; exact st2_eq _ _ _ _
          have A3 : ∀ i, i ≠ 6 → A 3 i = σ 3 i := fun i hi => by rw [hA]; unfold afs; rw [st2_idx hi]; rfl
          have Aq : ∀ q, q ∉ [3, 13, 14, 15, 16, 17] → A q = σ q := fun q hq => by
            rw [hA]
            unfold afs
            rw [st2_ne (by rintro rfl; exact hq (by decide)), st2_ne (by rintro rfl; exact hq (by decide)), st2_ne (by rintro rfl; exact hq (by decide)), st2_ne (by rintro rfl; exact hq (by decide)), st2_ne (by rintro rfl; exact hq (by decide)), st2_ne (by rintro rfl; exact hq (by decide))]
          have A13 : A 13 = st2 σ 13 (σ 3 6) r 13 := by rw [hA]; rfl
          have A14 : A 14 = st2 σ 14 (σ 3 6) a 14 := by rw [hA]; rfl
          have A15 : A 15 = st2 σ 15 (σ 3 6) b 15 := by rw [hA]; rfl
          have A16 : A 16 = st2 σ 16 (σ 3 6) c 16 := by rw [hA]; rfl
          have A17 : A 17 = st2 σ 17 (σ 3 6) e 17 := by rw [hA]; rfl
          have FA : FV A := by
            refine ⟨by omega, fun i j0 j1 => ?_⟩
            rw [A13, A14, A15, A16, A17]
            by_cases z : i = σ 3 6
            · rw [z, st2_eq, st2_eq, st2_eq, st2_eq, st2_eq]
              exact ⟨i2, E⟩
            · rw [st2_idx z, st2_idx z, st2_idx z, st2_idx z, st2_idx z]
              exact g3.2 i j0 (by omega)
          obtain ⟨ρ1, c1, c2, c3, c4⟩ := X2_changed_ok k (d + 6) (σ := A) ⟨FA.1, fun i j0 j1 => (FA.2 i j0 j1).2⟩
          have n1 : ρ1 7 = σ 7 := by rw [c4 7 (by decide), Aq 7 (by decide)]
          have n32 : ρ1 32 = σ 32 := by rw [c4 32 (by decide), Aq 32 (by decide)]
          have ntq : ∀ q, q ∉ [7, 32] → nt ρ1 2 q = ρ1 q := fun q hq => by
            unfold nt
            rw [st2_ne (by rintro rfl; exact hq (by decide)), st2_ne (by rintro rfl; exact hq (by decide)), st2_ne (by rintro rfl; exact hq (by decide))]
          rw [c1, jbV_some, jbV_some, X1_note_ok k (d + 7) 2 (by rw [n1]; omega) (by rw [n1]; omega) (by rw [n1]; omega) (by rw [n1]; omega), jbV_some]
          obtain ⟨S, hS⟩ : ∃ S, S = nt ρ1 2 := ⟨_, rfl⟩
          rw [← hS]
          have S33 : S 33 = σ 33 := by rw [hS, ntq 33 (by decide), c4 33 (by decide), Aq 33 (by decide)]
          have S7 : S 7 = nt σ 2 7 := by rw [hS]; exact nt_7 n1
          have S32 : S 32 = nt σ 2 32 := by rw [hS]; exact nt_32 n1 n32
          have Sq : ∀ q, q ∉ [3, 7, 13, 14, 15, 16, 17, 18, 19, 32] → S q = σ q := fun q hq => by
            rw [hS, ntq q (by simp only [List.mem_cons, not_or] at hq ⊢; simp [hq]), c4 q (by simp only [List.mem_cons, not_or] at hq ⊢; simp [hq]), Aq q (by simp only [List.mem_cons, not_or] at hq ⊢; simp [hq])]
          have S3 : S 3 = A 3 := by rw [hS, ntq 3 (by decide), c4 3 (by decide)]
          have X9S := X9_feast_good k (d + 7) (σ := S) (by rw [S33, n9]; exact f1) h1 h2 h3 h4 h5
          rw [S33, n9] at X9S
          rcases X9S with ⟨y1, _⟩ | ⟨_, y2⟩
          · have S12 : S 33 12 = σ 3 6 := by rw [S33, n9]
            rw [X9_feast_put k (d + 9) (by rw [S12]; omega) (by rw [S12]; exact n60), S12] at y1
            obtain ⟨B, hB⟩ : ∃ B, B = afr S (σ 3 6) r a b c e := ⟨_, rfl⟩
            rw [← hB] at y1
            have B33 : ∀ i, i ≠ 12 → B 33 i = σ 33 i := fun i hi => by rw [hB]; unfold afr; rw [st2_idx hi, ← S33]; rfl
            have B12 : B 33 12 = σ 3 6 + 1 := by rw [hB]; exact st2_eq _ _ _ _
            have Bq : ∀ q, q ∉ [33, 40, 41, 42, 43, 44] → B q = S q := fun q hq => by
              rw [hB]
              unfold afr
              rw [st2_ne (by rintro rfl; exact hq (by decide)), st2_ne (by rintro rfl; exact hq (by decide)), st2_ne (by rintro rfl; exact hq (by decide)), st2_ne (by rintro rfl; exact hq (by decide)), st2_ne (by rintro rfl; exact hq (by decide)), st2_ne (by rintro rfl; exact hq (by decide))]
            have B40 : B 40 = st2 σ 40 (σ 3 6) r 40 := by
              rw [hB]; funext j
              show (if (40 : Nat) = 40 ∧ j = σ 3 6 then r else S 40 j) = if (40 : Nat) = 40 ∧ j = σ 3 6 then r else σ 40 j
              rw [Sq 40 (by decide)]
            have B41 : B 41 = st2 σ 41 (σ 3 6) a 41 := by
              rw [hB]; funext j
              show (if (41 : Nat) = 41 ∧ j = σ 3 6 then a else S 41 j) = if (41 : Nat) = 41 ∧ j = σ 3 6 then a else σ 41 j
              rw [Sq 41 (by decide)]
            have B42 : B 42 = st2 σ 42 (σ 3 6) b 42 := by
              rw [hB]; funext j
              show (if (42 : Nat) = 42 ∧ j = σ 3 6 then b else S 42 j) = if (42 : Nat) = 42 ∧ j = σ 3 6 then b else σ 42 j
              rw [Sq 42 (by decide)]
            have B43 : B 43 = st2 σ 43 (σ 3 6) c 43 := by
              rw [hB]; funext j
              show (if (43 : Nat) = 43 ∧ j = σ 3 6 then c else S 43 j) = if (43 : Nat) = 43 ∧ j = σ 3 6 then c else σ 43 j
              rw [Sq 43 (by decide)]
            have B44 : B 44 = st2 σ 44 (σ 3 6) e 44 := by
              rw [hB]; funext j
              show (if (44 : Nat) = 44 ∧ j = σ 3 6 then e else S 44 j) = if (44 : Nat) = 44 ∧ j = σ 3 6 then e else σ 44 j
              rw [Sq 44 (by decide)]
            obtain ⟨ρ2, l1, l2, l3, l4, l5, l6⟩ := X9_laid_ok k (d + 8) (τ := B) 2 (by rw [B33 6 (by decide), q3]; omega) (by rw [B33 6 (by decide), q3]; omega)
            rw [l1, jbV_some, eX9_forget, bX9_forget_0, if_pos (by decide), jbV_some] at y1
            obtain ⟨ρ, hρ⟩ : ∃ ρ, ρ = st2 ρ2 33 22 0 := ⟨_, rfl⟩
            rw [← hρ] at y1
            have p33 : ∀ i, i ≠ 22 → i ≠ 6 → ρ 33 i = B 33 i := fun i hi h6 => by rw [hρ, st2_idx hi, l3 i h6]
            have p22 : ρ 33 22 = 0 := by rw [hρ, st2_eq]
            have pq : ∀ q, q ∉ [33, 36] → ρ q = B q := fun q hq => by rw [hρ, st2_ne (by rintro rfl; exact hq (by decide)), l2 q (by rintro rfl; exact hq (by decide)) (by rintro rfl; exact hq (by decide))]
            have p12 : ρ 33 12 = σ 3 6 + 1 := by rw [p33 12 (by decide) (by decide), B12]
            have P1 : ∀ q, q ∉ [33, 36, 40, 41, 42, 43, 44, 7, 32] → ρ q = ρ1 q := fun q hq => by
              rw [pq q (by simp only [List.mem_cons, not_or] at hq ⊢; simp [hq]), Bq q (by simp only [List.mem_cons, not_or] at hq ⊢; simp [hq]), hS, ntq q (by simp only [List.mem_cons, not_or] at hq ⊢; simp [hq])]
            have PS : ∀ q, q ∉ [3, 7, 13, 14, 15, 16, 17, 18, 19, 32, 33, 36, 40, 41, 42, 43, 44] → ρ q = σ q := fun q hq => by
              rw [pq q (by simp only [List.mem_cons, not_or] at hq ⊢; simp [hq]), Bq q (by simp only [List.mem_cons, not_or] at hq ⊢; simp [hq]), Sq q (by simp only [List.mem_cons, not_or] at hq ⊢; simp [hq])]
            have fs1 : FSa ρ1 ρ := ⟨P1 1 (by decide), P1 8 (by decide), P1 9 (by decide), P1 13 (by decide), P1 14 (by decide), P1 15 (by decide), P1 16 (by decide), P1 17 (by decide), P1 18 (by decide), by rw [P1 3 (by decide)]⟩
            have e36 : ρ 3 6 = σ 3 6 + 1 := by rw [P1 3 (by decide), c4 3 (by decide), A36]
            have FVρ : FV ρ := by
              refine FV_same ?_ ?_ ?_ ?_ ?_ ?_ FA
              · rw [P1 3 (by decide), c4 3 (by decide)]
              · rw [P1 13 (by decide), c4 13 (by decide)]
              · rw [P1 14 (by decide), c4 14 (by decide)]
              · rw [P1 15 (by decide), c4 15 (by decide)]
              · rw [P1 16 (by decide), c4 16 (by decide)]
              · rw [P1 17 (by decide), c4 17 (by decide)]
            have FRρ : FR ρ ρ := by
              refine ⟨by rw [p12, e36], fun i j0 j1 => ?_⟩
              rw [e36] at j1
              rw [pq 40 (by decide), pq 41 (by decide), pq 42 (by decide), pq 43 (by decide), pq 44 (by decide), B40, B41, B42, B43, B44, P1 13 (by decide), c4 13 (by decide), P1 14 (by decide), c4 14 (by decide), P1 15 (by decide), c4 15 (by decide), P1 16 (by decide), c4 16 (by decide), P1 17 (by decide), c4 17 (by decide), A13, A14, A15, A16, A17]
              by_cases z : i = σ 3 6
              · rw [z, st2_eq, st2_eq, st2_eq, st2_eq, st2_eq, st2_eq, st2_eq, st2_eq, st2_eq, st2_eq]
                exact ⟨rfl, rfl, rfl, rfl, rfl⟩
              · rw [st2_idx z, st2_idx z, st2_idx z, st2_idx z, st2_idx z, st2_idx z, st2_idx z, st2_idx z, st2_idx z, st2_idx z]
                exact g4.2 i j0 (by omega)
            have p7 : ρ 7 = nt σ 2 7 := by rw [pq 7 (by decide), Bq 7 (by decide), S7]
            have p32 : ρ 32 = nt σ 2 32 := by rw [pq 32 (by decide), Bq 32 (by decide), S32]
            have p36 : ρ 36 = ρ2 36 := by rw [hρ]; rfl
            have p6 : ρ 33 6 = ρ2 33 6 := by rw [hρ, st2_idx (by decide)]
            rw [B33 6 (by decide), Bq 36 (by decide), Sq 36 (by decide)] at l6
            rw [B33 6 (by decide)] at l4
            refine ⟨ρ 33 12 - 1, S, ρ, ?_, y1, Or.inr ⟨⟨?_, ?_, FVρ, FRρ, fs1.ord c2, CV_fs fs1 (P1 19 (by decide)) (P1 20 (by decide)) (P1 21 (by decide)) c3, ?_⟩, ?_, e36, p7, p32, ?_, PS⟩⟩
            · rw [S3, A36, p12]
            · exact CF_same (PS 1 (by decide)) (PS 8 (by decide)) (PS 9 (by decide)) g1
            · exact MR_same (PS 1 (by decide)) (PS 9 (by decide)) (by rw [p33 0 (by decide) (by decide), B33 0 (by decide)]) (PS 34 (by decide)) (PS 35 (by decide)) g2
            · exact ⟨by rw [p33 21 (by decide) (by decide), B33 21 (by decide)]; exact g7.1, Or.inl p22, fun w => by rw [p22] at w; omega⟩
            · exact DR_note hR (x := 2) (by decide) (by rw [p7]; rfl) (by rw [p7]; rfl) (by rw [p32]; exact st2_eq _ _ _ _) (fun j hj => by rw [p32]; exact st2_idx hj) (by rw [p6]; exact l4) (by rw [p6, p36]; exact l5) (by rw [p6, p36]; exact l6)
            · intro i hi
              rw [p33 i (by rintro rfl; exact hi (by decide)) (by rintro rfl; exact hi (by decide)), B33 i (by rintro rfl; exact hi (by decide))]
          · exact absurd ⟨i2, E⟩ y2
        · rw [if_neg n60]
          refine ⟨-4, σ, σ, rfl, ?_, Or.inl rfl⟩
          rw [x1, bX9_feast_205, i10, n9, w32_id (a := σ 3 6) (by omega) (by omega), show w32 60 = 60 by decide, if_pos (by omega)]
      · exact absurd ⟨i2, E⟩ x2
    · rw [i1, jbI_some, i00]
      refine ⟨-1, σ, σ, rfl, ?_, Or.inl rfl⟩
      rcases X9 with ⟨_, x2, _⟩ | ⟨x1, _⟩
      · exact absurd x2 i2
      · exact x1
  · refine ⟨-1, σ, σ, ?_, ?_, Or.inl rfl⟩
    · by_cases z : e < 0
      · rw [if_pos z]
      · rw [if_neg z, if_pos (by omega)]
    · rcases X9 with ⟨_, x2⟩ | ⟨x1, _⟩
      · exact absurd x2.2 E
      · exact x1
