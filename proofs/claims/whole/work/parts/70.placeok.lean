
/-- the component's kept years are right -/
def CV (σ : St) : Prop := ∀ s, 0 ≤ s → s < 8 → I32 (σ 19 s) ∧ (0 ≤ σ 19 s → σ 19 s ≤ 5000 → (∀ j, 0 ≤ j → j < σ 3 6 → σ 20 (s * 60 + j) = um σ (σ 19 s) j) ∧ PLs σ (σ 19 s) (fun g => σ 21 (s * 60 + g)))
theorem ORD_same {σ τ : St} (h6 : τ 3 6 = σ 3 6) (h17 : τ 17 = σ 17) (h18 : τ 18 = σ 18) (h : ORD σ) : ORD τ := by
  unfold ORD bef
  rw [h6, h17, h18]
  exact h
theorem PLs_p {σ : St} {y : Int} {p q : Int → Int} (h : ∀ g, 0 ≤ g → g < σ 3 6 → q g = p g) (hp : PLs σ y p) : PLs σ y q := fun f f0 f1 => cls_c (h f f0 f1) (fun g g0 g1 _ => h g g0 g1) (hp f f0 f1)
theorem X2_place_ok (k : Nat × (Int → Int)) (d : Nat) {σ : St} (hC : CF σ) (hF : FV σ) (hO : ORD σ) (hV : CV σ) {y : Int} (y1 : 0 ≤ y) (y2 : y ≤ 5000) : ∃ ρ, EV k (d + 6) mX2_place [vR 3, vI y] σ = some (none, ρ) ∧ CV ρ ∧ ρ 3 11 = y % 8 * 60 ∧ (∀ j, 0 ≤ j → j < σ 3 6 → ρ 20 (y % 8 * 60 + j) = um σ y j) ∧ PLs σ y (fun g => ρ 21 (y % 8 * 60 + g)) ∧ (∀ q, q ≠ 3 → q ≠ 19 → q ≠ 20 → q ≠ 21 → q ≠ 22 → ρ q = σ q) ∧ ∀ a, a ≠ 11 → a ≠ 13 → ρ 3 a = σ 3 a := by
  have f1 := hF.1
  have hs : 0 ≤ y % 8 ∧ y % 8 < 8 := by omega
  obtain ⟨v1, v2⟩ := hV (y % 8) hs.1 hs.2
  unfold I32 at v1
  rw [eX2_place, bX2_place_0, J9_floorMod_ok k (d + 4) σ (by omega) (by omega) (by omega) (by omega), jbI_some, w32_id (a := y % 8) (by omega) (by omega), if_pos hs, if_pos hs, st2_cell (show (19 : Nat) ≠ 3 by decide), w32_id (a := σ 19 (y % 8)) (by omega) (by omega), w32_id (a := y) (by omega) (by omega)]
  by_cases q : σ 19 (y % 8) = y
  · rw [if_pos q]
    rw [q] at v2
    obtain ⟨g1, g2⟩ := v2 y1 y2
    refine ⟨_, rfl, ?_, st2_eq _ _ _ _, ?_, ?_, ?_, ?_⟩
    · intro s s0 s1
      obtain ⟨a1, a2⟩ := hV s s0 s1
      refine ⟨a1, fun b1 b2 => ?_⟩
      obtain ⟨c1, c2⟩ := a2 b1 b2
      have hu : um (st2 σ 3 11 (y % 8 * 60)) (σ 19 s) = um σ (σ 19 s) := um_same (σ := σ) (τ := st2 σ 3 11 (y % 8 * 60)) rfl rfl rfl rfl rfl rfl _
      refine ⟨fun j j0 j1 => ?_, PLs_same (σ := σ) (τ := st2 σ 3 11 (y % 8 * 60)) hu rfl rfl c2⟩
      show σ 20 (s * 60 + j) = um (st2 σ 3 11 (y % 8 * 60)) (σ 19 s) j
      rw [hu]
      exact c1 j j0 j1
    · exact g1
    · exact g2
    · intro q h3 _ _ _ _
      exact st2_ne h3
    · intro a h11 _
      exact st2_idx h11
  · rw [if_neg q]
    obtain ⟨σ1, e1⟩ : ∃ σ1, σ1 = st2 (st2 σ 3 11 (y % 8 * 60)) 19 (y % 8) y := ⟨_, rfl⟩
    rw [← e1]
    have w : ∀ q, q ≠ 3 → q ≠ 19 → σ1 q = σ q := fun q h3 h19 => by rw [e1, st2_ne h19, st2_ne h3]
    have w3 : ∀ a, a ≠ 11 → σ1 3 a = σ 3 a := fun a ha => by rw [e1, st2_cell (by decide), st2_idx ha]
    have w11 : σ1 3 11 = y % 8 * 60 := by rw [e1, st2_cell (by decide), st2_eq]
    have C1 : CF σ1 := CF_same (w 1 (by decide) (by decide)) (w 8 (by decide) (by decide)) (w 9 (by decide) (by decide)) hC
    have F1 : FV σ1 := FV_same (w3 6 (by decide)) (w 13 (by decide) (by decide)) (w 14 (by decide) (by decide)) (w 15 (by decide) (by decide)) (w 16 (by decide) (by decide)) (w 17 (by decide) (by decide)) hF
    have O1 : ORD σ1 := ORD_same (w3 6 (by decide)) (w 17 (by decide) (by decide)) (w 18 (by decide) (by decide)) hO
    have hu1 : ∀ z, um σ1 z = um σ z := fun z => um_same (by rw [w 1 (by decide) (by decide)]) (w 9 (by decide) (by decide)) (w 13 (by decide) (by decide)) (w 14 (by decide) (by decide)) (w 15 (by decide) (by decide)) (w 16 (by decide) (by decide)) z
    have K0 : K2 σ1 σ1 y 0 := ⟨fun _ _ => rfl, fun _ _ => rfl, fun j j0 j1 => by omega⟩
    have h6 := w3 6 (by decide)
    obtain ⟨ρ1, u2, n1, n2⟩ := X2_place_days k d C1 F1 (sl := y % 8) y1 y2 (by omega) (by omega) (σ 3 6).toNat 0 σ1 vU (by omega) (by omega) K0
    obtain ⟨ρ, m1, m2⟩ := X2_place_loop k (d + 4) F1 O1 (y := y) (sl := y % 8) (by omega) (by omega) (σ 3 6).toNat 0 (st2 ρ1 3 13 0) u2 vU (by omega) (by omega) (L2_start n1)
    have pl := L2_end O1 m1
    obtain ⟨l1, l2, l3, l4, l5, l6, l7, l8⟩ := m1
    rw [w11] at l3 l4 pl
    have r19 : ∀ s, s ≠ y % 8 → ρ 19 s = σ 19 s := fun s hs => by rw [l1 19 (by decide) (by decide) (by decide) (by decide), e1, st2_idx hs, st2_cell (by decide)]
    have r19y : ρ 19 (y % 8) = y := by rw [l1 19 (by decide) (by decide) (by decide) (by decide), e1, st2_eq]
    have rq : ∀ q, q ≠ 3 → q ≠ 19 → q ≠ 20 → q ≠ 21 → q ≠ 22 → ρ q = σ q := fun q a b c e f => by rw [l1 q a c e f, w q a b]
    have r3 : ∀ a, a ≠ 11 → a ≠ 13 → ρ 3 a = σ 3 a := fun a x z => by rw [l2 a z, w3 a x]
    have hu : ∀ z, um ρ z = um σ z := fun z => um_same (by rw [rq 1 (by decide) (by decide) (by decide) (by decide) (by decide)]) (rq 9 (by decide) (by decide) (by decide) (by decide) (by decide)) (rq 13 (by decide) (by decide) (by decide) (by decide) (by decide)) (rq 14 (by decide) (by decide) (by decide) (by decide) (by decide)) (rq 15 (by decide) (by decide) (by decide) (by decide) (by decide)) (rq 16 (by decide) (by decide) (by decide) (by decide) (by decide)) z
    have p17 := rq 17 (by decide) (by decide) (by decide) (by decide) (by decide)
    have p6 := r3 6 (by decide) (by decide)
    have days : ∀ j, 0 ≤ j → j < σ 3 6 → ρ 20 (y % 8 * 60 + j) = um σ y j := fun j j0 j1 => by rw [l4 j j0 (by omega), hu1]
    have pls : PLs σ y (fun g => ρ 21 (y % 8 * 60 + g)) := PLs_same (hu1 y).symm (w 17 (by decide) (by decide)).symm h6.symm pl
    refine ⟨ρ, by rw [n2]; exact m2, ?_, by rw [l2 11 (by decide)]; exact w11, days, pls, rq, r3⟩
    intro s s0 s1
    by_cases z : s = y % 8
    · rw [z, r19y]
      refine ⟨by unfold I32; omega, fun _ _ => ⟨fun j j0 j1 => ?_, PLs_same (hu y) p17 p6 pls⟩⟩
      rw [p6] at j1
      rw [hu]
      exact days j j0 j1
    · rw [r19 s z]
      obtain ⟨a1, a2⟩ := hV s s0 s1
      refine ⟨a1, fun b1 b2 => ?_⟩
      obtain ⟨c1, c2⟩ := a2 b1 b2
      have out20 : ∀ j, 0 ≤ j → j < 60 → ρ 20 (s * 60 + j) = σ 20 (s * 60 + j) ∧ ρ 21 (s * 60 + j) = σ 21 (s * 60 + j) := by
        intro j j0 j1
        have o := l3 (s * 60 + j) (by omega)
        rw [w 20 (by decide) (by decide), w 21 (by decide) (by decide)] at o
        exact o
      refine ⟨fun j j0 j1 => ?_, ?_⟩
      · rw [p6] at j1
        rw [hu, (out20 j j0 (by omega)).1]
        exact c1 j j0 j1
      · exact PLs_same (hu _) p17 p6 (PLs_p (fun g g0 g1 => (out20 g g0 (by omega)).2) c2)
