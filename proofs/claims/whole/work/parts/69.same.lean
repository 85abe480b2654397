
theorem umF_same {σ τ : St} (a : τ 1 2 = σ 1 2) (b : τ 9 = σ 9) (h13 : τ 13 = σ 13) (h14 : τ 14 = σ 14) (h15 : τ 15 = σ 15) (h16 : τ 16 = σ 16) (y : Int) : ∀ n : Nat, umF τ y n = umF σ y n := by
  intro n
  induction n with
  | zero => rfl
  | succ n ih =>
    funext i
    rw [umF_s, umF_s, ih, rdy_same a b h13 h14 h15 h16]
theorem um_same {σ τ : St} (a : τ 1 2 = σ 1 2) (b : τ 9 = σ 9) (h13 : τ 13 = σ 13) (h14 : τ 14 = σ 14) (h15 : τ 15 = σ 15) (h16 : τ 16 = σ 16) (y : Int) : um τ y = um σ y := by
  funext j
  unfold um
  rw [umF_same a b h13 h14 h15 h16]
theorem PLs_same {σ τ : St} {y : Int} {p : Int → Int} (hu : um τ y = um σ y) (h17 : τ 17 = σ 17) (h6 : τ 3 6 = σ 3 6) (h : PLs σ y p) : PLs τ y p := by
  have hT : ∀ f, Tf τ p f = Tf σ p f := by
    intro f
    funext x
    unfold Tf bef
    rw [h17, h6]
  intro f f0 f1
  rw [h6] at f1
  have := h f f0 f1
  rw [hu, h17, hT f]
  exact this
/-- the second loop leaves the placed days -/
theorem L2_end {σ ρ : St} {y : Int} (hO : ORD σ) (h : L2 σ ρ y (σ 3 6)) : PLs σ y (fun g => ρ 21 (σ 3 11 + g)) := by
  intro f f0 f1
  obtain ⟨i, i0, i1, i2⟩ := hO.2.2 f f0 f1
  have := h.2.2.2.2.2.2.1 i i0 i1
  rw [i2] at this
  exact this
/-- the first loop's end is the second one's beginning -/
theorem L2_start {σ ρ : St} {y : Int} (h : K2 σ ρ y (σ 3 6)) : L2 σ (st2 ρ 3 13 0) y 0 := by
  obtain ⟨k1, k2, k3⟩ := h
  refine ⟨?_, ?_, ?_, ?_, ?_, ?_, ?_, ?_⟩
  · intro q h3 h20 _ _
    rw [st2_ne h3]
    exact k1 q h20
  · intro a ha
    rw [st2_idx ha, k1 3 (by decide)]
  · intro p hp
    rw [st2_cell (show (20 : Nat) ≠ 3 by decide), st2_cell (show (21 : Nat) ≠ 3 by decide), k1 21 (by decide)]
    exact ⟨k2 p hp, rfl⟩
  · intro j j0 j1
    rw [st2_cell (show (20 : Nat) ≠ 3 by decide)]
    exact k3 j j0 j1
  · refine ⟨by rw [st2_eq]; omega, ?_, ?_⟩
    · intro a a0 a1
      rw [st2_eq] at a1
      omega
    · intro a b a0 a1 a2
      rw [st2_eq] at a2
      omega
  · rw [st2_eq]; omega
  · intro j j0 j1
    omega
  · intro x _
    constructor
    · rintro ⟨j, j0, j1, _⟩
      rw [st2_eq] at j1
      omega
    · rintro ⟨j, j0, j1, _⟩
      omega
