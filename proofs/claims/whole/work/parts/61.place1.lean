
noncomputable def um (σ : St) (y j : Int) : Int := umF σ y (j.toNat + 1) j
theorem umF_um (σ : St) (y : Int) {j : Int} (j0 : 0 ≤ j) : ∀ n : Nat, j < n → umF σ y n j = um σ y j := by
  intro n
  induction n with
  | zero => intro h; exact absurd h (by simp; omega)
  | succ n ih =>
    intro h
    push_cast at h
    by_cases q : j = n
    · unfold um
      rw [show j.toNat = n by omega]
    · rw [umF_s, if_neg q]
      exact ih (by omega)
theorem um_eq {σ : St} (y : Int) {j : Int} (j0 : 0 ≤ j) (h : fok (σ 13 j) (σ 14 j) (σ 15 j) (σ 16 j) j) : um σ y j = rdy σ y j (um σ y) := by
  have e : um σ y j = rdy σ y j (umF σ y j.toNat) := by
    unfold um
    rw [umF_s, if_pos (by omega), show ((j.toNat : Nat) : Int) = j by omega]
  rw [e]
  apply rdy_u
  rcases h with h | h | h | h
  · exact Or.inl h.1
  · exact Or.inr (Or.inl h.1)
  · exact Or.inr (Or.inr (Or.inl h.1))
  · exact Or.inr (Or.inr (Or.inr (umF_um σ y h.2.1 _ (by omega))))
theorem um_b (σ : St) (y j : Int) : -2 ≤ um σ y j ∧ um σ y j ≤ 1500000 := umF_b σ y _ j
theorem CF_same {σ τ : St} (a : τ 1 = σ 1) (b : τ 8 = σ 8) (c : τ 9 = σ 9) (h : CF σ) : CF τ := by
  unfold CF
  rw [a, b, c]
  exact h
theorem MR_same {σ τ : St} (a : τ 1 = σ 1) (b : τ 9 = σ 9) (c : τ 33 0 = σ 33 0) (e : τ 34 = σ 34) (f : τ 35 = σ 35) (h : MR σ) : MR τ := by
  unfold MR
  rw [a, b, c, e, f]
  exact h
theorem FV_same {σ τ : St} (a : τ 3 6 = σ 3 6) (b : τ 13 = σ 13) (c : τ 14 = σ 14) (e : τ 15 = σ 15) (f : τ 16 = σ 16) (g : τ 17 = σ 17) (h : FV σ) : FV τ := by
  unfold FV
  rw [a, b, c, e, f, g]
  exact h
/-- the days ahead of all moving are written for the first i feasts -/
def K2 (σ τ : St) (y i : Int) : Prop := (∀ q, q ≠ 20 → τ q = σ q) ∧ (∀ p, p < σ 3 11 ∨ σ 3 11 + 60 ≤ p → τ 20 p = σ 20 p) ∧ ∀ j, 0 ≤ j → j < i → τ 20 (σ 3 11 + j) = um σ y j
theorem X2_place_days (k : Nat × (Int → Int)) (d : Nat) {σ : St} (hC : CF σ) (hF : FV σ) {y sl : Int} (y1 : 0 ≤ y) (y2 : y ≤ 5000) (s1 : 0 ≤ σ 3 11) (s2 : σ 3 11 ≤ 420) : ∀ (t : Nat) (i : Int) (τ : St) (u : PV), 0 ≤ i → i + t = σ 3 6 → K2 σ τ y i → ∃ ρ u2, K2 σ ρ y (σ 3 6) ∧ out (WV k) (EV k (d + 5)) MX2_place 35 [vR 3, vI y, vI sl, vI i, u, vU] [] τ = out (WV k) (EV k (d + 5)) MX2_place 90 [vR 3, vI y, vI sl, vI 0, u2, vU] [] (st2 ρ 3 13 0) := by
  have f1 := hF.1
  intro t
  induction t with
  | zero =>
    intro i τ u i0 i1 hK
    have e : i = σ 3 6 := by omega
    subst e
    refine ⟨τ, u, hK, ?_⟩
    rw [bX2_place_35, hK.1 3 (by decide), if_neg (by omega)]
  | succ t ih =>
    intro i τ u i0 i1 hK
    push_cast at i1
    obtain ⟨k1, k2, k3⟩ := id hK
    have q3 := k1 3 (by decide)
    have e311 : τ 3 11 = σ 3 11 := by rw [q3]
    have C2 : CF τ := CF_same (k1 1 (by decide)) (k1 8 (by decide)) (k1 9 (by decide)) hC
    have F2 : FV τ := FV_same (by rw [q3]) (k1 13 (by decide)) (k1 14 (by decide)) (k1 15 (by decide)) (k1 16 (by decide)) (k1 17 (by decide)) hF
    obtain ⟨r, r1, r2, r3, r4⟩ := X2_ruleDay_ok k d C2 F2 (i := i) (y := y) i0 (by rw [q3]; omega) y1 y2 (by rw [q3]; exact s1) (by rw [q3]; exact s2) (fun j j0 j1 => by rw [e311, k3 j j0 j1]; exact um_b σ y j)
    have fo := (hF.2 i i0 (by omega)).1
    have er : dyn r = um σ y i := by
      rw [r4, rdy_same (by rw [k1 1 (by decide)]) (k1 9 (by decide)) (k1 13 (by decide)) (k1 14 (by decide)) (k1 15 (by decide)) (k1 16 (by decide)), um_eq y i0 fo]
      apply rdy_u
      rcases fo with h | h | h | h
      · exact Or.inl h.1
      · exact Or.inr (Or.inl h.1)
      · exact Or.inr (Or.inr (Or.inl h.1))
      · refine Or.inr (Or.inr (Or.inr ?_))
        show τ 20 (τ 3 11 + σ 14 i) = um σ y (σ 14 i)
        rw [e311, k3 (σ 14 i) h.2.1 h.2.2.1]
    have hj : 0 ≤ σ 3 11 + i ∧ σ 3 11 + i < 480 := by omega
    have hK2 : K2 σ (st2 τ 20 (σ 3 11 + i) (um σ y i)) y (i + 1) := by
      refine ⟨fun q hq => by rw [st2_ne hq]; exact k1 q hq, fun p hp => by rw [st2_idx (by omega)]; exact k2 p hp, ?_⟩
      intro j j0 j1
      by_cases z : j = i
      · rw [z, st2_eq]
      · rw [st2_idx (by omega)]
        exact k3 j j0 (by omega)
    obtain ⟨ρ, u2, n1, n2⟩ := ih (i + 1) (st2 τ 20 (σ 3 11 + i) (um σ y i)) (vI r) (by omega) (by omega) hK2
    refine ⟨ρ, u2, n1, ?_⟩
    rw [bX2_place_35, q3, if_pos (by rw [w32_id (by omega) (by omega), w32_id (by omega) (by omega)]; omega), r1, jbI_some, X8_isDay_ok k (d + 4) τ (by omega) (by omega), jbI_some, ib, q3, w32_id (a := σ 3 11 + i) (by omega) (by omega), if_pos hj, if_pos hj]
    rw [← n2, ← er]
    unfold dyn
    split <;> rfl
