
def cls (σ : St) (y : Int) (p : Int → Int) (f : Int) : Prop := (um σ y f = -2 → p f = -2) ∧ (um σ y f ≠ -2 → σ 17 f = 0 → p f = um σ y f) ∧ (um σ y f ≠ -2 → 0 < σ 17 f → ∃ r, LF (Tf σ p f) (um σ y f) r ∧ p f = dyn r)
theorem LF_c {T U : Int → Prop} {n r : Int} (h : ∀ x, n ≤ x → (T x ↔ U x)) (g : LF T n r) : LF U n r := ⟨g.1, fun x x1 x2 => (h x x1).1 (g.2.1 x x1 x2), fun z => g.2.2 ((h r g.1).2 z)⟩
theorem cls_c {σ : St} {y : Int} {p q : Int → Int} {f : Int} (h0 : q f = p f) (h : ∀ g, 0 ≤ g → g < σ 3 6 → bef σ g f → q g = p g) (c : cls σ y p f) : cls σ y q f := by
  obtain ⟨c1, c2, c3⟩ := c
  refine ⟨fun a => by rw [h0]; exact c1 a, fun a b => by rw [h0]; exact c2 a b, fun a b => ?_⟩
  obtain ⟨r, r1, r2⟩ := c3 a b
  refine ⟨r, LF_c ?_ r1, by rw [h0]; exact r2⟩
  intro x _
  constructor
  · rintro ⟨g, g1, g2, g3, g4, g5⟩
    exact ⟨g, g1, g2, g3, g4, by rw [h g g1 g2 g4]; exact g5⟩
  · rintro ⟨g, g1, g2, g3, g4, g5⟩
    exact ⟨g, g1, g2, g3, g4, by rw [← h g g1 g2 g4]; exact g5⟩
theorem dyn_or (n : Int) : dyn n = -2 ∨ 0 ≤ dyn n := by unfold dyn; split <;> omega
theorem um_or {σ : St} (y : Int) {j : Int} (j0 : 0 ≤ j) (h : fok (σ 13 j) (σ 14 j) (σ 15 j) (σ 16 j) j) : um σ y j = -2 ∨ 0 ≤ um σ y j := by
  rw [um_eq y j0 h]
  unfold rdy
  repeat' split
  all_goals first | exact dyn_or _ | exact Or.inl rfl
def L2 (σ τ : St) (y i : Int) : Prop := (∀ q, q ≠ 3 → q ≠ 20 → q ≠ 21 → q ≠ 22 → τ q = σ q) ∧ (∀ a, a ≠ 13 → τ 3 a = σ 3 a) ∧ (∀ p, p < σ 3 11 ∨ σ 3 11 + 60 ≤ p → τ 20 p = σ 20 p ∧ τ 21 p = σ 21 p) ∧ (∀ j, 0 ≤ j → j < σ 3 6 → τ 20 (σ 3 11 + j) = um σ y j) ∧ TK τ ∧ τ 3 13 ≤ i ∧ (∀ j, 0 ≤ j → j < i → cls σ y (fun g => τ 21 (σ 3 11 + g)) (σ 18 j)) ∧ ∀ x, 0 ≤ x → (tkn τ x ↔ ∃ j, 0 ≤ j ∧ j < i ∧ 0 < σ 17 (σ 18 j) ∧ τ 21 (σ 3 11 + σ 18 j) = x)
theorem L2_put {σ τ τ' : St} {y i v : Int} (hF : FV σ) (hO : ORD σ) (i0 : 0 ≤ i) (i1 : i < σ 3 6) (hL : L2 σ τ y i) (e1 : ∀ q, q ≠ 22 → q ≠ 3 → τ' q = τ q) (e2 : ∀ a, a ≠ 13 → τ' 3 a = τ 3 a) (e3 : TK τ') (e4 : τ' 3 13 ≤ i + 1) (hv : cls σ y (fun g => if g = σ 18 i then v else τ 21 (σ 3 11 + g)) (σ 18 i)) (ht : ∀ x, 0 ≤ x → (tkn τ' x ↔ (tkn τ x ∨ (0 < σ 17 (σ 18 i) ∧ v = x)))) : L2 σ (st2 τ' 21 (σ 3 11 + σ 18 i) v) y (i + 1) := by
  obtain ⟨l1, l2, l3, l4, l5, l6, l7, l8⟩ := hL
  have of := hO.1 i i0 i1
  have f1 := hF.1
  have new : ∀ g, st2 τ' 21 (σ 3 11 + σ 18 i) v 21 (σ 3 11 + g) = if g = σ 18 i then v else τ 21 (σ 3 11 + g) := by
    intro g
    by_cases z : g = σ 18 i
    · rw [z, st2_eq, if_pos rfl]
    · rw [st2_idx (by omega), if_neg z, e1 21 (by decide) (by decide)]
  have inj : ∀ j, 0 ≤ j → j < i → σ 18 j ≠ σ 18 i := by
    intro j j0 j1 z
    have b := (ORD_bef hO j0 (by omega) i0 i1).2 j1
    rw [z] at b
    unfold bef at b
    omega
  refine ⟨?_, ?_, ?_, ?_, ?_, ?_, ?_, ?_⟩
  · intro q h3 h20 h21 h22
    rw [st2_ne h21, e1 q h22 h3]
    exact l1 q h3 h20 h21 h22
  · intro a ha
    rw [st2_cell (by decide), e2 a ha]
    exact l2 a ha
  · intro p hp
    rw [st2_cell (show (20 : Nat) ≠ 21 by decide), st2_idx (by omega), e1 20 (by decide) (by decide), e1 21 (by decide) (by decide)]
    exact l3 p hp
  · intro j j0 j1
    rw [st2_cell (by decide), e1 20 (by decide) (by decide)]
    exact l4 j j0 j1
  · exact e3
  · exact e4
  · intro j j0 j1
    have fe : (fun g => st2 τ' 21 (σ 3 11 + σ 18 i) v 21 (σ 3 11 + g)) = (fun g => if g = σ 18 i then v else τ 21 (σ 3 11 + g)) := funext new
    rw [fe]
    by_cases z : j = i
    · rw [z]; exact hv
    · have ne := inj j j0 (by omega)
      refine cls_c (p := fun g => τ 21 (σ 3 11 + g)) (by simp only [if_neg ne]) ?_ (l7 j j0 (by omega))
      intro g g0 g1 g2
      obtain ⟨m, m0, m1, m2⟩ := hO.2.2 g g0 g1
      rw [← m2] at g2
      have := (ORD_bef hO m0 m1 j0 (by omega)).1 g2
      have ng : g ≠ σ 18 i := by
        rw [← m2]
        exact inj m m0 (by omega)
      simp only [if_neg ng]
  · intro x x0
    rw [show tkn (st2 τ' 21 (σ 3 11 + σ 18 i) v) x ↔ tkn τ' x from Iff.rfl, ht x x0, l8 x x0]
    constructor
    · rintro (⟨j, j0, j1, j2, j3⟩ | ⟨z1, z2⟩)
      · exact ⟨j, j0, by omega, j2, by rw [new, if_neg (inj j j0 j1)]; exact j3⟩
      · exact ⟨i, i0, by omega, z1, by rw [new, if_pos rfl]; exact z2⟩
    · rintro ⟨j, j0, j1, j2, j3⟩
      rw [new] at j3
      by_cases z : j = i
      · rw [z, if_pos rfl] at j3
        rw [z] at j2
        exact Or.inr ⟨j2, j3⟩
      · rw [if_neg (inj j j0 (by omega))] at j3
        exact Or.inl ⟨j, j0, by omega, j2, j3⟩
