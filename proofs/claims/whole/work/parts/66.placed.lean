
def bef (σ : St) (g f : Int) : Prop := σ 17 f < σ 17 g ∨ (σ 17 g = σ 17 f ∧ g < f)
def Tf (σ : St) (p : Int → Int) (f x : Int) : Prop := ∃ g, 0 ≤ g ∧ g < σ 3 6 ∧ 0 < σ 17 g ∧ bef σ g f ∧ p g = x
/-- p says where the feasts of the year are placed -/
def PLs (σ : St) (y : Int) (p : Int → Int) : Prop := ∀ f, 0 ≤ f → f < σ 3 6 → (um σ y f = -2 → p f = -2) ∧ (um σ y f ≠ -2 → σ 17 f = 0 → p f = um σ y f) ∧ (um σ y f ≠ -2 → 0 < σ 17 f → ∃ r, LF (Tf σ p f) (um σ y f) r ∧ p f = dyn r)
theorem PLs_one {σ : St} (hF : FV σ) {y : Int} {p q : Int → Int} (hp : PLs σ y p) (hq : PLs σ y q) : ∀ f, 0 ≤ f → f < σ 3 6 → p f = q f := by
  have f1 := hF.1
  have main : ∀ (N : Nat) (f : Int), 0 ≤ f → f < σ 3 6 → (9 - σ 17 f) * 60 + f < N → p f = q f := by
    intro N
    induction N with
    | zero =>
      intro f a b c
      have := (hF.2 f a b).2
      omega
    | succ N ih =>
      intro f a b c
      push_cast at c
      have rk := (hF.2 f a b).2
      obtain ⟨p1, p2, p3⟩ := hp f a b
      obtain ⟨q1, q2, q3⟩ := hq f a b
      by_cases u : um σ y f = -2
      · rw [p1 u, q1 u]
      · by_cases z : σ 17 f = 0
        · rw [p2 u z, q2 u z]
        · obtain ⟨r, r1, r2⟩ := p3 u (by omega)
          obtain ⟨s, s1, s2⟩ := q3 u (by omega)
          have same : ∀ x, Tf σ p f x ↔ Tf σ q f x := by
            intro x
            constructor
            · rintro ⟨g, g1, g2, g3, g4, g5⟩
              refine ⟨g, g1, g2, g3, g4, ?_⟩
              rw [← ih g g1 g2 (by have := (hF.2 g g1 g2).2; unfold bef at g4; omega)]
              exact g5
            · rintro ⟨g, g1, g2, g3, g4, g5⟩
              refine ⟨g, g1, g2, g3, g4, ?_⟩
              rw [ih g g1 g2 (by have := (hF.2 g g1 g2).2; unfold bef at g4; omega)]
              exact g5
          have s3 : LF (Tf σ p f) (um σ y f) s := ⟨s1.1, fun x x1 x2 => (same x).2 (s1.2.1 x x1 x2), fun z => s1.2.2 ((same s).1 z)⟩
          rw [r2, s2, LF_one r1 s3]
  intro f a b
  have rk := (hF.2 f a b).2
  exact main ((9 - σ 17 f) * 60 + f + 1).toNat f a b (by omega)
/-- the order by ranks: every feast once, in the order of 'bef' -/
def ORD (σ : St) : Prop := (∀ i, 0 ≤ i → i < σ 3 6 → 0 ≤ σ 18 i ∧ σ 18 i < σ 3 6) ∧ (∀ i j, 0 ≤ i → i < j → j < σ 3 6 → bef σ (σ 18 i) (σ 18 j)) ∧ ∀ f, 0 ≤ f → f < σ 3 6 → ∃ i, 0 ≤ i ∧ i < σ 3 6 ∧ σ 18 i = f
theorem bef_not {σ : St} {g f : Int} (h : bef σ g f) : ¬ bef σ f g := by
  unfold bef at h ⊢
  omega
theorem ORD_bef {σ : St} (h : ORD σ) {i j : Int} (i0 : 0 ≤ i) (i1 : i < σ 3 6) (j0 : 0 ≤ j) (j1 : j < σ 3 6) : bef σ (σ 18 i) (σ 18 j) ↔ i < j := by
  constructor
  · intro z
    rcases Int.lt_trichotomy i j with q | q | q
    · exact q
    · subst q
      unfold bef at z
      omega
    · exact absurd z (bef_not (h.2.1 j i j0 q i1))
  · intro z
    exact h.2.1 i j i0 z j1
