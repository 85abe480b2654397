
theorem dyn_dyn (n : Int) : dyn (dyn n) = dyn n := by
  unfold dyn
  by_cases q : 0 ≤ n ∧ n ≤ 1500000
  · rw [if_pos q, if_pos q]
  · rw [if_neg q]
    decide
theorem WKd_ge {σ : St} (m w q y : Int) (hq : q = -1 ∨ 1 ≤ q) : WKd σ m w q y = -2 ∨ Ms σ 0 y m ≤ WKd σ m w q y := by
  unfold WKd
  repeat' split
  all_goals omega
def K9 (σ τ : St) (at_ y i : Int) : Prop := (∀ q, q ≠ 46 → q ≠ 47 → τ q = σ q) ∧ (∀ p, p < at_ ∨ at_ + 60 ≤ p → τ 46 p = σ 46 p ∧ τ 47 p = σ 47 p) ∧ ∀ j, 0 ≤ j → j < i → τ 46 (at_ + j) = um σ y j ∧ τ 47 (at_ + j) = if σ 17 j = 0 then um σ y j else -2
theorem X9_place_put (k : Nat × (Int → Int)) (d : Nat) {τ : St} {s y i x4 x5 x6 x7 : Int} (u8 : PV) (s1 : 0 ≤ s) (s2 : s ≤ 180) (i1 : 0 ≤ i) (i2 : i < 60) (h6 : I32 x6) (h7 : x7 = 0 ∨ x7 = 1) (hr : 0 ≤ τ 44 i ∧ τ 44 i ≤ 9) : out (WV k) (EV k (d + 1)) MX9_place 186 [vR 33, vI s, vI y, vI i, vI x4, vI x5, vI x6, vI x7, u8] [] τ = out (WV k) (EV k (d + 1)) MX9_place 2 [vR 33, vI s, vI y, vI (i + 1), vI x4, vI x5, vI x6, vI x7, u8] [] (st2 (st2 τ 46 (s + i) (if x7 = 0 then -2 else dyn x6)) 47 (s + i) (if τ 44 i = 0 then (if x7 = 0 then -2 else dyn x6) else -2)) := by
  unfold I32 at h6
  have hs : 0 ≤ s + i ∧ s + i < 240 := by omega
  have hi : 0 ≤ i ∧ i < 60 := ⟨i1, i2⟩
  have p214 : ∀ v : Int, out (WV k) (EV k (d + 1)) MX9_place 214 [vR 33, vI s, vI y, vI i, vI x4, vI x5, vI x6, vI x7, u8] [vI v, vI (s + i), vR 46] τ = out (WV k) (EV k (d + 1)) MX9_place 2 [vR 33, vI s, vI y, vI (i + 1), vI x4, vI x5, vI x6, vI x7, u8] [] (st2 (st2 τ 46 (s + i) v) 47 (s + i) (if τ 44 i = 0 then v else -2)) := by
    intro v
    rw [bX9_place_214, w32_id (a := s + i) (by omega) (by omega), w32_id (a := i) (by omega) (by omega), st2_cell (show (44 : Nat) ≠ 46 by decide), w32_id (a := τ 44 i) (by omega) (by omega), st2_eq]
    simp only [if_pos hs, if_pos hi]
    by_cases q : τ 44 i = 0
    · rw [if_pos q, if_pos q]
    · rw [if_neg q, if_neg q]
  rw [bX9_place_186]
  rcases h7 with e | e
  · subst e
    rw [i00, p214]
    rfl
  · subst e
    rw [i10, w32_id (a := x6) h6.1 h6.2, X9_isDay_ok k d τ (by omega) (by omega), jbI_some, ib, p214, p214]
    rw [if_neg (show ¬ (1 : Int) = 0 by decide)]
    unfold dyn
    by_cases q : 0 ≤ x6 ∧ x6 ≤ 1500000
    · rw [if_pos q, if_pos q]
    · rw [if_neg q, if_neg q]
theorem X9_place_one (k : Nat × (Int → Int)) (d : Nat) {σ τ : St} (hC : CF σ) (hM : MR σ) (hF : FV σ) (hR : FR σ σ) {s y i : Int} (y1 : 0 ≤ y) (y2 : y ≤ 5000) (s1 : 0 ≤ s) (s2 : s ≤ 180) (i1 : 0 ≤ i) (i2 : i < σ 3 6) (hK : K9 σ τ s y i) (u4 u5 u6 u7 u8 : PV) : ∃ x4 x5 x6 x7 u8', out (WV k) (EV k (d + 7)) MX9_place 2 [vR 33, vI s, vI y, vI i, u4, u5, u6, u7, u8] [] τ = out (WV k) (EV k (d + 7)) MX9_place 2 [vR 33, vI s, vI y, vI (i + 1), vI x4, vI x5, vI x6, vI x7, u8'] [] (st2 (st2 τ 46 (s + i) (um σ y i)) 47 (s + i) (if σ 17 i = 0 then um σ y i else -2)) := by
  have f1 := hF.1
  obtain ⟨k1, k2, k3⟩ := id hK
  obtain ⟨fo, rk⟩ := hF.2 i i1 i2
  obtain ⟨e40, e41, e42, e43, e44⟩ := hR.2 i i1 i2
  have C2 : CF τ := CF_same (k1 1 (by decide) (by decide)) (k1 8 (by decide) (by decide)) (k1 9 (by decide) (by decide)) hC
  have M2 : MR τ := MR_same (k1 1 (by decide) (by decide)) (k1 9 (by decide) (by decide)) (by rw [k1 33 (by decide) (by decide)]) (k1 34 (by decide) (by decide)) (k1 35 (by decide) (by decide)) hM
  have q12 : τ 1 2 = σ 1 2 := by rw [k1 1 (by decide) (by decide)]
  have q9 : τ 9 = σ 9 := k1 9 (by decide) (by decide)
  have t44 : τ 44 i = σ 17 i := by rw [k1 44 (by decide) (by decide), e44]
  have hi : 0 ≤ i ∧ i < 60 := by omega
  have hlt : i < σ 3 6 := i2
  have ue := um_eq y i1 fo
  rw [bX9_place_2, w32_id (a := i) (by omega) (by omega), k1 33 (by decide) (by decide), hR.1, k1 40 (by decide) (by decide), k1 41 (by decide) (by decide), k1 42 (by decide) (by decide), k1 43 (by decide) (by decide), e40, e41, e42, e43, w32_id (a := σ 3 6) (by omega) (by omega)]
  simp only [if_pos hi, if_pos hlt]
  have put := fun (x4 x5 x6 x7 : Int) (u : PV) (h6 : I32 x6) (h7 : x7 = 0 ∨ x7 = 1) => X9_place_put k (d + 6) (τ := τ) (s := s) (y := y) (i := i) (x4 := x4) (x5 := x5) (x6 := x6) (x7 := x7) u s1 s2 i1 (by omega) h6 h7 (by rw [t44]; exact rk)
  rw [t44] at put
  rcases fo with ⟨e, a1, a2, b1, b2, c1, c2⟩ | ⟨e, a1, a2, b1, b2, c1, c2, c3⟩ | ⟨e, a1, a2, b1, b2⟩ | ⟨e, a1, a2, b1, b2⟩
  · obtain ⟨v, v1, v2, v3, v4⟩ := X9_fixed_ok k d C2 M2 (c := σ 16 i) (m := σ 14 i) (dd := σ 15 i) (y := y) c1 c2 a1 a2 b1 b2 y1 y2
    have ev : um σ y i = dyn v := by
      rw [ue]
      unfold rdy
      rw [if_pos e, ← FXd_same q12 q9, ← v4, dyn_dyn]
    rw [e, if_pos (by decide), v1, jbI_some, w32_id (a := v) (by omega) (by omega), show w32 (-2) = -2 by decide]
    by_cases q : v = -2
    · rw [if_pos q, put _ _ v 0 _ (by unfold I32; omega) (Or.inl rfl), ev, q, if_pos (show (0 : Int) = 0 from rfl), show dyn (-2) = -2 by decide]
      exact ⟨_, _, _, _, _, rfl⟩
    · rw [if_neg q, put _ _ v 1 _ (by unfold I32; omega) (Or.inr rfl), ev, if_neg (show ¬ (1 : Int) = 0 by decide)]
      exact ⟨_, _, _, _, _, rfl⟩
  · have ev : um σ y i = dyn (WKd σ (σ 14 i) (σ 15 i) (σ 16 i) y) := by
      rw [ue]
      unfold rdy
      rw [if_neg (by omega), if_pos e]
    have wb := WKd_b hC (w := σ 15 i) a1 a2 c1 c2 y1 y2
    have sb := sun_b hC a1 a2 y1 y2
    have wg := WKd_ge (σ := σ) (σ 14 i) (σ 15 i) (σ 16 i) y (by omega)
    rw [e, if_neg (by decide), if_pos rfl, X9_monthStart_ok k (d + 1) C2 M2 (by omega) (by omega) (show yfst 0 ≤ y from y1) (show y ≤ ylst (τ 1 2) 0 from y2) a1 a2, jbI_some, k1 43 (by decide) (by decide), e43, X9_weekday_ok k d C2 M2 a1 a2 b1 b2 c1 c2 y1 y2, jbI_some, Ms_same q12 q9, WKd_same q12 q9, w32_id (a := WKd σ (σ 14 i) (σ 15 i) (σ 16 i) y) (by omega) (by omega), w32_id (a := Ms σ 0 y (σ 14 i)) (by omega) (by omega)]
    by_cases q : WKd σ (σ 14 i) (σ 15 i) (σ 16 i) y < Ms σ 0 y (σ 14 i)
    · have q2 : WKd σ (σ 14 i) (σ 15 i) (σ 16 i) y = -2 := by omega
      rw [if_pos q, put _ _ _ 0 _ (by unfold I32; omega) (Or.inl rfl), ev, q2, if_pos (show (0 : Int) = 0 from rfl), show dyn (-2) = -2 by decide]
      exact ⟨_, _, _, _, _, rfl⟩
    · rw [if_neg q, put _ _ _ 1 _ (by unfold I32; omega) (Or.inr rfl), ev, if_neg (show ¬ (1 : Int) = 0 by decide)]
      exact ⟨_, _, _, _, _, rfl⟩
  · have hs : σ 15 i = 0 ∨ σ 15 i = 1 := by omega
    have mb := mvd_b hC hs y1 y2
    have ev : um σ y i = dyn (mvd σ (σ 15 i) y + σ 14 i) := by
      rw [ue]
      unfold rdy
      rw [if_neg (by omega), if_neg (by omega), if_pos e]
    rw [e, if_neg (by decide), if_neg (by decide), if_pos rfl, X9_movableDay_ok k d C2 M2 hs y1 y2, jbI_some, mvd_same q12 q9, put _ _ _ 1 _ (by unfold I32; omega) (Or.inr rfl), ev, if_neg (show ¬ (1 : Int) = 0 by decide)]
    exact ⟨_, _, _, _, _, rfl⟩
  · have kj := (k3 (σ 14 i) a1 a2).1
    have ub := um_b σ y (σ 14 i)
    have hs : 0 ≤ s + σ 14 i ∧ s + σ 14 i < 240 := by omega
    rw [e, if_neg (by decide), if_neg (by decide), if_neg (by decide), w32_id (a := s + σ 14 i) (by omega) (by omega), kj, w32_id (a := um σ y (σ 14 i)) (by omega) (by omega), show w32 (-2) = -2 by decide]
    simp only [if_pos hs]
    by_cases q : um σ y (σ 14 i) = -2
    · have ev : um σ y i = -2 := by
        rw [ue]
        unfold rdy
        rw [if_neg (show ¬ σ 13 i = 0 by omega), if_neg (show ¬ σ 13 i = 1 by omega), if_neg (show ¬ σ 13 i = 2 by omega), if_pos q]
      rw [if_pos q, put _ _ _ 0 _ (by unfold I32; omega) (Or.inl rfl), ev, if_pos (show (0 : Int) = 0 from rfl)]
      exact ⟨_, _, _, _, _, rfl⟩
    · have ev : um σ y i = dyn (um σ y (σ 14 i) + σ 15 i) := by
        rw [ue]
        unfold rdy
        rw [if_neg (show ¬ σ 13 i = 0 by omega), if_neg (show ¬ σ 13 i = 1 by omega), if_neg (show ¬ σ 13 i = 2 by omega), if_neg q]
      rw [if_neg q, put _ _ _ 1 _ (by unfold I32; omega) (Or.inr rfl), ev, if_neg (show ¬ (1 : Int) = 0 by decide)]
      exact ⟨_, _, _, _, _, rfl⟩
theorem X9_place_days (k : Nat × (Int → Int)) (d : Nat) {σ : St} (hC : CF σ) (hM : MR σ) (hF : FV σ) (hR : FR σ σ) {s y : Int} (y1 : 0 ≤ y) (y2 : y ≤ 5000) (s1 : 0 ≤ s) (s2 : s ≤ 180) : ∀ (t : Nat) (i : Int) (τ : St) (u4 u5 u6 u7 u8 : PV), 0 ≤ i → i + t = σ 3 6 → K9 σ τ s y i → ∃ ρ v4 v5 v6 v7 v8, K9 σ ρ s y (σ 3 6) ∧ out (WV k) (EV k (d + 7)) MX9_place 2 [vR 33, vI s, vI y, vI i, u4, u5, u6, u7, u8] [] τ = out (WV k) (EV k (d + 7)) MX9_place 254 [vR 33, vI s, vI y, vI 9, v4, v5, v6, v7, v8] [] ρ := by
  have f1 := hF.1
  intro t
  induction t with
  | zero =>
    intro i τ u4 u5 u6 u7 u8 i0 i1 hK
    have e : i = σ 3 6 := by omega
    subst e
    refine ⟨τ, u4, u5, u6, u7, u8, hK, ?_⟩
    rw [bX9_place_2, hK.1 33 (by decide) (by decide), hR.1, if_neg (by omega)]
  | succ t ih =>
    intro i τ u4 u5 u6 u7 u8 i0 i1 hK
    push_cast at i1
    obtain ⟨x4, x5, x6, x7, u8', o1⟩ := X9_place_one k d hC hM hF hR y1 y2 s1 s2 i0 (by omega) hK u4 u5 u6 u7 u8
    obtain ⟨k1, k2, k3⟩ := hK
    have hK2 : K9 σ (st2 (st2 τ 46 (s + i) (um σ y i)) 47 (s + i) (if σ 17 i = 0 then um σ y i else -2)) s y (i + 1) := by
      refine ⟨fun q h1 h2 => by rw [st2_ne h2, st2_ne h1]; exact k1 q h1 h2, ?_, ?_⟩
      · intro p hp
        rw [st2_cell (show (46 : Nat) ≠ 47 by decide), st2_idx (by omega), st2_idx (by omega), st2_cell (show (47 : Nat) ≠ 46 by decide)]
        exact k2 p hp
      · intro j j0 j1
        by_cases z : j = i
        · rw [z, st2_cell (show (46 : Nat) ≠ 47 by decide), st2_eq, st2_eq]
          exact ⟨rfl, rfl⟩
        · rw [st2_cell (show (46 : Nat) ≠ 47 by decide), st2_idx (by omega), st2_idx (by omega), st2_cell (show (47 : Nat) ≠ 46 by decide)]
          exact k3 j j0 (by omega)
    obtain ⟨ρ, v4, v5, v6, v7, v8, n1, n2⟩ := ih (i + 1) _ (vI x4) (vI x5) (vI x6) (vI x7) u8' (by omega) (by omega) hK2
    exact ⟨ρ, v4, v5, v6, v7, v8, n1, by rw [o1, n2]⟩
