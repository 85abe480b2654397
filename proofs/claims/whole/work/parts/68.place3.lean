
theorem X2_place_loop (k : Nat × (Int → Int)) (d : Nat) {σ : St} (hF : FV σ) (hO : ORD σ) {y sl : Int} (s1 : 0 ≤ σ 3 11) (s2 : σ 3 11 ≤ 420) : ∀ (t : Nat) (i : Int) (τ : St) (u4 u5 : PV), 0 ≤ i → i + t = σ 3 6 → L2 σ τ y i → ∃ ρ, L2 σ ρ y (σ 3 6) ∧ out (WV k) (EV k (d + 1)) MX2_place 90 [vR 3, vI y, vI sl, vI i, u4, u5] [] τ = some (none, ρ) := by
  have f1 := hF.1
  intro t
  induction t with
  | zero =>
    intro i τ u4 u5 i0 i1 hL
    have e : i = σ 3 6 := by omega
    subst e
    refine ⟨τ, hL, ?_⟩
    rw [bX2_place_90, hL.2.1 6 (by decide), if_neg (by omega)]
  | succ t ih =>
    intro i τ u4 u5 i0 i1 hL
    push_cast at i1
    obtain ⟨l1, l2, l3, l4, l5, l6, l7, l8⟩ := id hL
    have il : i < σ 3 6 := by omega
    have of := hO.1 i i0 il
    obtain ⟨fo, rk⟩ := hF.2 (σ 18 i) of.1 of.2
    have ub := um_b σ y (σ 18 i)
    have uo := um_or y of.1 fo
    have hi : 0 ≤ i ∧ i < 60 := by omega
    have hf : 0 ≤ σ 18 i ∧ σ 18 i < 60 := by omega
    have hs : 0 ≤ σ 3 11 + σ 18 i ∧ σ 3 11 + σ 18 i < 480 := by omega
    rw [bX2_place_90, l2 6 (by decide), l2 11 (by decide), l1 18 (by decide) (by decide) (by decide) (by decide), l1 17 (by decide) (by decide) (by decide) (by decide), w32_id (a := i) (by omega) (by omega), w32_id (a := σ 3 6) (by omega) (by omega), w32_id (a := σ 18 i) (by omega) (by omega), w32_id (a := σ 3 11 + σ 18 i) (by omega) (by omega), l4 (σ 18 i) of.1 of.2, w32_id (a := um σ y (σ 18 i)) (by omega) (by omega), w32_id (a := σ 17 (σ 18 i)) (by omega) (by omega), show w32 (-2) = -2 by decide]
    simp only [if_pos il, if_pos hi, if_pos hs, if_pos hf]
    by_cases q : um σ y (σ 18 i) = -2
    · rw [if_pos q]
      refine ih (i + 1) _ _ _ (by omega) (by omega) (L2_put hF hO i0 il hL (fun _ _ _ => rfl) (fun _ _ => rfl) l5 (by omega) ?_ ?_)
      · refine ⟨fun _ => by simp only [if_pos]; exact q, fun z => absurd q z, fun z => absurd q z⟩
      · intro x x0
        exact ⟨fun z => Or.inl z, fun z => z.elim id (fun w => by omega)⟩
    · rw [if_neg q]
      by_cases r0 : σ 17 (σ 18 i) = 0
      · rw [if_pos r0]
        refine ih (i + 1) _ _ _ (by omega) (by omega) (L2_put hF hO i0 il hL (fun _ _ _ => rfl) (fun _ _ => rfl) l5 (by omega) ?_ ?_)
        · refine ⟨fun z => absurd z q, fun _ _ => by simp only [if_pos], fun _ z => by omega⟩
        · intro x x0
          exact ⟨fun z => Or.inl z, fun z => z.elim id (fun w => by omega)⟩
      · rw [if_neg r0]
        obtain ⟨r, h1, h2, h3⟩ := X2_settle_ok k d l5 (by omega) (n := um σ y (σ 18 i)) (by omega) (by omega)
        have key : ∀ v : Int, LF (Tf σ (fun g => if g = σ 18 i then v else τ 21 (σ 3 11 + g)) (σ 18 i)) (um σ y (σ 18 i)) r := by
          intro v
          refine LF_c ?_ h1
          intro x x0
          rw [l8 x (by omega)]
          constructor
          · rintro ⟨j, j0, j1, j2, j3⟩
            have b := (ORD_bef hO j0 (by omega) i0 il).2 j1
            have oj := hO.1 j j0 (by omega)
            have ne : σ 18 j ≠ σ 18 i := by
              intro z
              rw [z] at b
              unfold bef at b
              omega
            exact ⟨σ 18 j, oj.1, oj.2, j2, b, by simp only [if_neg ne]; exact j3⟩
          · rintro ⟨g, g0, g1, g2, g3, g4⟩
            obtain ⟨m, m0, m1, m2⟩ := hO.2.2 g g0 g1
            have b := g3
            rw [← m2] at b
            have lt := (ORD_bef hO m0 m1 i0 il).1 b
            have ne : g ≠ σ 18 i := by
              intro z
              rw [z] at g3
              unfold bef at g3
              omega
            simp only [if_neg ne] at g4
            exact ⟨m, m0, lt, by rw [m2]; exact g2, by rw [m2]; exact g4⟩
        by_cases big : 1500000 < r
        · rw [h2 big, jbI_some]
          refine ih (i + 1) _ _ _ (by omega) (by omega) (L2_put hF hO i0 il hL (fun _ _ _ => rfl) (fun _ _ => rfl) l5 (by omega) ?_ ?_)
          · refine ⟨fun z => absurd z q, fun _ z => absurd z r0, fun _ _ => ⟨r, key _, ?_⟩⟩
            simp only [if_pos]
            unfold dyn
            rw [if_neg (by omega)]
          · intro x x0
            exact ⟨fun z => Or.inl z, fun z => z.elim id (fun w => by omega)⟩
        · obtain ⟨ρ, p1, p2, p3, p4, p5, p6⟩ := h3 (by omega)
          rw [p1, jbI_some]
          refine ih (i + 1) _ _ _ (by omega) (by omega) (L2_put hF hO i0 il hL p3 p4 p2 (by omega) ?_ ?_)
          · refine ⟨fun z => absurd z q, fun _ z => absurd z r0, fun _ _ => ⟨r, key _, ?_⟩⟩
            have := h1.1
            simp only [if_pos]
            unfold dyn
            rw [if_pos (by omega)]
          · intro x x0
            rw [p6 x]
            constructor
            · rintro (z | z)
              · exact Or.inr ⟨by omega, z.symm⟩
              · exact Or.inl z
            · rintro (z | z)
              · exact Or.inr z
              · exact Or.inl z.2.symm
