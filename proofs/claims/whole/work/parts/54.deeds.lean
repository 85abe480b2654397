
def DR (σ τ : St) : Prop := (0 ≤ σ 7 1 ∧ σ 7 1 < 100) ∧ (0 ≤ σ 7 2 ∧ σ 7 2 ≤ 100) ∧ τ 33 6 = σ 7 2 ∧ ∀ j, 0 ≤ j → j < σ 7 2 → τ 36 (σ 7 2 - 1 - j) = σ 32 ((σ 7 1 - 1 - j) % 100) ∧ 0 ≤ σ 32 ((σ 7 1 - 1 - j) % 100) ∧ σ 32 ((σ 7 1 - 1 - j) % 100) ≤ 4
def nt (σ : St) (x : Int) : St := st2 (st2 (st2 σ 32 (σ 7 1) x) 7 1 ((σ 7 1 + 1) % 100)) 7 2 (if 100 ≤ σ 7 2 + 1 then 100 else σ 7 2 + 1)
theorem X1_note_ok (k : Nat × (Int → Int)) (d : Nat) {σ : St} (x : Int) (h1 : 0 ≤ σ 7 1) (h2 : σ 7 1 < 100) (h3 : 0 ≤ σ 7 2) (h4 : σ 7 2 ≤ 100) : EV k (d + 2) mX1_note [vR 7, vI x] σ = some (none, nt σ x) := by
  rw [eX1_note, bX1_note_0, w32_id (a := σ 7 1) (by omega) (by omega), if_pos ⟨h1, h2⟩]
  rw [show st2 σ 32 (σ 7 1) x 7 1 = σ 7 1 from rfl, jr_pos (a := σ 7 1 + 1) (by omega) (by omega) (by omega) (by omega)]
  rw [show st2 (st2 σ 32 (σ 7 1) x) 7 1 ((σ 7 1 + 1) % 100) 7 2 = σ 7 2 from rfl, J9_min_ok k d _ (by omega) (by omega) (by omega) (by omega), jbI_some]
  rfl
def shf (τ : St) (i : Int) : St := fun q p => if q = 36 ∧ 0 ≤ p ∧ p < i - 1 then τ 36 (p + 1) else τ q p
theorem shf_s (τ : St) {i : Int} (h : 1 ≤ i) : st2 (shf τ i) 36 (i - 1) (shf τ i 36 i) = shf τ (i + 1) := by
  have e : shf τ i 36 i = τ 36 i := by
    unfold shf
    rw [if_neg (by omega)]
  rw [e]
  funext q p
  unfold st2 shf
  by_cases a : q = 36 ∧ p = i - 1
  · rw [if_pos a, if_pos ⟨a.1, by omega, by omega⟩, show p + 1 = i by omega]
  · rw [if_neg a]
    by_cases b : q = 36 ∧ 0 ≤ p ∧ p < i - 1
    · rw [if_pos b, if_pos ⟨b.1, b.2.1, by omega⟩]
    · rw [if_neg b, if_neg (by omega)]
theorem X9_laid_loop (k : Nat × (Int → Int)) (d : Nat) {τ : St} (x : Int) (h : τ 33 6 = 100) : ∀ (t : Nat) (i : Int), 1 ≤ i → i + t = 100 → out (WV k) (EV k d) MX9_laid 11 [vR 33, vI x, vI i] [] (shf τ i) = some (none, st2 (st2 (st2 (shf τ 100) 33 6 99) 36 99 x) 33 6 100) := by
  intro t
  induction t with
  | zero =>
    intro i i1 i2
    have e : i = 100 := by omega
    subst e
    have e6 : shf τ 100 33 6 = 100 := by rw [show shf τ 100 33 6 = τ 33 6 from rfl, h]
    rw [bX9_laid_11, if_neg (by decide), e6, show st2 (shf τ 100) 33 6 (100 - 1) 33 6 = 99 from rfl, show w32 99 = 99 by decide, if_pos (by decide), show (100 : Int) - 1 = 99 by omega, show st2 (st2 (shf τ 100) 33 6 99) 36 99 x 33 6 = 99 from rfl, show (99 : Int) + 1 = 100 by omega]
  | succ t ih =>
    intro i i1 i2
    push_cast at i2
    rw [bX9_laid_11, w32_id (a := i) (by omega) (by omega), w32_id (a := i - 1) (by omega) (by omega), show w32 100 = 100 by decide, if_pos (by omega), if_pos (by omega), if_pos (by omega), shf_s τ i1]
    exact ih _ (by omega) (by omega)
def LD (τ ρ : St) (x : Int) : Prop := (∀ q, q ≠ 36 → q ≠ 33 → ρ q = τ q) ∧ (∀ i, i ≠ 6 → ρ 33 i = τ 33 i) ∧ ρ 33 6 = (if 100 ≤ τ 33 6 + 1 then 100 else τ 33 6 + 1) ∧ ρ 36 (ρ 33 6 - 1) = x ∧ ∀ j, 1 ≤ j → j < ρ 33 6 → ρ 36 (ρ 33 6 - 1 - j) = τ 36 (τ 33 6 - j)
theorem X9_laid_ok (k : Nat × (Int → Int)) (d : Nat) {τ : St} (x : Int) (h1 : 0 ≤ τ 33 6) (h2 : τ 33 6 ≤ 100) : ∃ ρ, EV k (d + 1) mX9_laid [vR 33, vI x] τ = some (none, ρ) ∧ LD τ ρ x := by
  rw [eX9_laid, bX9_laid_0, w32_id (a := τ 33 6) (by omega) (by omega), show w32 100 = 100 by decide]
  by_cases q : τ 33 6 = 100
  · have e0 : shf τ 1 = τ := by
      funext a b
      unfold shf
      rw [if_neg (by omega)]
    have lp := X9_laid_loop k d x q 99 1 (by omega) (by omega)
    rw [e0] at lp
    rw [if_pos q, lp]
    refine ⟨_, rfl, ?_, ?_, ?_, ?_, ?_⟩
    · intro a a1 a2
      rw [st2_ne a2, st2_ne a1, st2_ne a2]
      funext b
      unfold shf
      rw [if_neg (fun z => a1 z.1)]
    · intro i i1
      rw [st2_idx i1, st2_cell (by decide), st2_idx i1]
      rfl
    · rw [st2_eq, q]
      rfl
    · rw [st2_eq, st2_cell (by decide), show (100 : Int) - 1 = 99 by omega, st2_eq]
    · intro j j1 j2
      rw [st2_eq] at j2 ⊢
      rw [st2_cell (by decide), st2_idx (by omega), st2_cell (by decide), q]
      unfold shf
      rw [if_pos ⟨rfl, by omega, by omega⟩, show (100 : Int) - 1 - j + 1 = 100 - j by omega]
  · rw [if_neg q, if_pos (by omega), show st2 τ 36 (τ 33 6) x 33 6 = τ 33 6 from rfl]
    refine ⟨_, rfl, ?_, ?_, ?_, ?_, ?_⟩
    · intro a a1 a2
      rw [st2_ne a2, st2_ne a1]
    · intro i i1
      rw [st2_idx i1, st2_cell (by decide)]
    · rw [st2_eq]
      split <;> omega
    · rw [st2_eq, st2_cell (by decide), show τ 33 6 + 1 - 1 = τ 33 6 by omega, st2_eq]
    · intro j j1 j2
      rw [st2_eq] at j2 ⊢
      rw [st2_cell (by decide), st2_idx (by omega), show τ 33 6 + 1 - 1 - j = τ 33 6 - j by omega]
theorem DR_note {σ τ ρ : St} {x : Int} (h : DR σ τ) (hx : 0 ≤ x ∧ x ≤ 4) (c1 : ρ 7 1 = (σ 7 1 + 1) % 100) (c2 : ρ 7 2 = if 100 ≤ σ 7 2 + 1 then 100 else σ 7 2 + 1) (c3 : ρ 32 (σ 7 1) = x) (c4 : ∀ j, j ≠ σ 7 1 → ρ 32 j = σ 32 j) (r1 : ρ 33 6 = if 100 ≤ τ 33 6 + 1 then 100 else τ 33 6 + 1) (r2 : ρ 36 (ρ 33 6 - 1) = x) (r3 : ∀ j, 1 ≤ j → j < ρ 33 6 → ρ 36 (ρ 33 6 - 1 - j) = τ 36 (τ 33 6 - j)) : DR ρ ρ := by
  obtain ⟨h1, h2, h3, h4⟩ := h
  have e : ρ 33 6 = ρ 7 2 := by rw [r1, c2, h3]
  have b2 : 0 ≤ ρ 7 2 ∧ ρ 7 2 ≤ 100 ∧ ρ 7 2 ≤ σ 7 2 + 1 := by rw [c2]; split <;> omega
  refine ⟨by omega, by omega, e, ?_⟩
  intro j j0 j1
  by_cases z : j = 0
  · subst z
    rw [e] at r2
    have i1 : (ρ 7 1 - 1 - 0) % 100 = σ 7 1 := by omega
    rw [i1, c3, show ρ 7 2 - 1 - 0 = ρ 7 2 - 1 by omega]
    exact ⟨r2, hx.1, hx.2⟩
  · have i1 : (ρ 7 1 - 1 - j) % 100 = (σ 7 1 - 1 - (j - 1)) % 100 := by omega
    have h5 := h4 (j - 1) (by omega) (by omega)
    have h6 := r3 j (by omega) (by omega)
    rw [e] at h6
    rw [i1, c4 _ (by omega), h6, show τ 33 6 - j = σ 7 2 - 1 - (j - 1) by omega]
    exact h5
