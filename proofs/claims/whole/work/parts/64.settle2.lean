
def tkn (σ : St) (x : Int) : Prop := ∃ j, 0 ≤ j ∧ j < σ 3 13 ∧ σ 22 j = x
/-- r is the first day from n on that isn't taken -/
def LF (T : Int → Prop) (n r : Int) : Prop := n ≤ r ∧ (∀ x, n ≤ x → x < r → T x) ∧ ¬ T r
theorem LF_one {T : Int → Prop} {n r s : Int} (h : LF T n r) (g : LF T n s) : r = s := by
  rcases Int.lt_trichotomy r s with q | q | q
  · exact absurd (g.2.1 r h.1 q) h.2.2
  · exact q
  · exact absurd (h.2.1 s g.1 q) g.2.2
theorem X2_settle_ok (k : Nat × (Int → Int)) (d : Nat) {σ : St} (h : TK σ) (h60 : σ 3 13 < 60) {n : Int} (n1 : 0 ≤ n) (n2 : n ≤ 1500000) : ∃ r, LF (tkn σ) n r ∧ (1500000 < r → EV k (d + 1) mX2_settle [vR 3, vI n] σ = ansI (-2) σ) ∧ (r ≤ 1500000 → ∃ ρ, EV k (d + 1) mX2_settle [vR 3, vI n] σ = ansI r ρ ∧ TK ρ ∧ (∀ q, q ≠ 22 → q ≠ 3 → ρ q = σ q) ∧ (∀ i, i ≠ 13 → ρ 3 i = σ 3 i) ∧ ρ 3 13 = σ 3 13 + 1 ∧ ∀ x, tkn ρ x ↔ (x = r ∨ tkn σ x)) := by
  obtain ⟨h1, h2, h3⟩ := id h
  obtain ⟨p, a1, a2, a3, a4, a5⟩ := settle_a k d h n1 n2 (σ 3 13).toNat 0 (by omega) (by omega) (fun j j0 j1 => by omega)
  obtain ⟨s, r, b1, b2, b3, b4, b5, b6, b7, b8⟩ := settle_b k d h n1 n2 (σ 3 13 - p).toNat p n a1 (by omega) (by omega) (by omega) a3 a4 (fun x x1 x2 => by omega)
  have nt : ¬ tkn σ r := by
    rintro ⟨j, j0, j1, j2⟩
    rcases Int.lt_trichotomy j s with q | q | q
    · have := b5 j j0 q
      omega
    · have := b6 (by omega)
      rw [q] at j2
      omega
    · have := h3 s j b1 q j1
      have := b6 (by omega)
      omega
  refine ⟨r, ⟨b3, b7, nt⟩, ?_, ?_⟩
  · intro q
    rw [eX2_settle, bX2_settle_0, a5, b8, if_pos q]
  · intro q
    have e0 : shD σ (σ 3 13) (σ 3 13) = σ := by
      funext x y
      unfold shD
      rw [if_neg (by omega)]
    have sc := settle_c k d (σ := σ) (n := n) (r := r) (p := s) h1.1 h60 b1 (σ 3 13 - s).toNat (σ 3 13) (by omega) (by omega)
    rw [e0] at sc
    obtain ⟨ρ, eρ⟩ : ∃ ρ, ρ = st2 (st2 (shD σ (σ 3 13) s) 22 s r) 3 13 (σ 3 13 + 1) := ⟨_, rfl⟩
    have v13 : ρ 3 13 = σ 3 13 + 1 := by rw [eρ, st2_eq]
    have vs : ρ 22 s = r := by rw [eρ, st2_cell (by decide), st2_eq]
    have vlo : ∀ j, 0 ≤ j → j < s → ρ 22 j = σ 22 j := by
      intro j j0 j1
      rw [eρ, st2_cell (by decide), st2_idx (by omega)]
      unfold shD
      rw [if_neg (by omega)]
    have vhi : ∀ j, s < j → j ≤ σ 3 13 → ρ 22 j = σ 22 (j - 1) := by
      intro j j0 j1
      rw [eρ, st2_cell (by decide), st2_idx (by omega)]
      unfold shD
      rw [if_pos ⟨rfl, j0, j1⟩]
    refine ⟨ρ, ?_, ⟨by omega, ?_, ?_⟩, ?_, ?_, v13, ?_⟩
    · rw [eX2_settle, bX2_settle_0, a5, b8, if_neg (by omega), if_pos h60, sc, eρ]
    · intro a c1 c2
      rw [v13] at c2
      rcases Int.lt_trichotomy a s with z | z | z
      · rw [vlo a c1 z]
        exact h2 a c1 (by omega)
      · rw [z, vs]
        omega
      · rw [vhi a z (by omega)]
        exact h2 (a - 1) (by omega) (by omega)
    · intro a c x1 x2 x3
      rw [v13] at x3
      rcases Int.lt_trichotomy a s with z | z | z
      · rw [vlo a x1 z]
        rcases Int.lt_trichotomy c s with w | w | w
        · rw [vlo c (by omega) w]
          exact h3 a c x1 x2 (by omega)
        · rw [w, vs]
          exact b5 a x1 z
        · rw [vhi c w (by omega)]
          have g1 := b5 a x1 z
          have g2 := b6 (by omega)
          by_cases y : c - 1 = s
          · rw [y]; omega
          · have := h3 s (c - 1) b1 (by omega) (by omega)
            omega
      · rw [z, vs, vhi c (by omega) (by omega)]
        have g2 := b6 (by omega)
        by_cases y : c - 1 = s
        · rw [y]; exact g2
        · have := h3 s (c - 1) b1 (by omega) (by omega)
          omega
      · rw [vhi a z (by omega), vhi c (by omega) (by omega)]
        exact h3 (a - 1) (c - 1) (by omega) (by omega) (by omega)
    · intro x x1 x2
      rw [eρ, st2_ne x2, st2_ne x1]
      funext y
      unfold shD
      rw [if_neg (fun z => x1 z.1)]
    · intro i hi
      rw [eρ, st2_idx hi, st2_cell (by decide)]
      rfl
    · intro x
      constructor
      · rintro ⟨j, j0, j1, j2⟩
        rw [v13] at j1
        rcases Int.lt_trichotomy j s with z | z | z
        · rw [vlo j j0 z] at j2
          exact Or.inr ⟨j, j0, by omega, j2⟩
        · rw [z, vs] at j2
          exact Or.inl j2.symm
        · rw [vhi j z (by omega)] at j2
          exact Or.inr ⟨j - 1, by omega, by omega, j2⟩
      · rintro (z | ⟨j, j0, j1, j2⟩)
        · exact ⟨s, b1, by omega, by rw [vs, z]⟩
        · by_cases w : j < s
          · exact ⟨j, j0, by omega, by rw [vlo j j0 w]; exact j2⟩
          · exact ⟨j + 1, by omega, by omega, by rw [vhi (j + 1) (by omega) (by omega), show j + 1 - 1 = j by omega]; exact j2⟩
