/-! the town's rows don't move feasts; the invariant behind each deed -/
theorem c06 {c : Int} (h1 : 0 ≤ c) (h2 : c ≤ 6) : c = 0 ∨ c = 1 ∨ c = 2 ∨ c = 3 ∨ c = 4 ∨ c = 5 ∨ c = 6 := by omega
theorem Ys6 {σ τ : St} {c : Int} (h1 : 0 ≤ c) (h2 : c ≤ 6) (y : Int) : Ys τ c y = Ys σ c y := by
  rcases c06 h1 h2 with z | z | z | z | z | z | z <;> subst z <;> rfl
theorem Mi6 {σ τ : St} {c : Int} (h1 : 0 ≤ c) (h2 : c ≤ 6) (y : Int) : Mi τ c y = Mi σ c y := by
  rcases c06 h1 h2 with z | z | z | z | z | z | z <;> subst z <;> rfl
theorem Ml6 {σ τ : St} {c : Int} (h1 : 0 ≤ c) (h2 : c ≤ 6) (y : Int) : Ml τ c y = Ml σ c y := by
  funext j
  show mln (τ 1 2) (τ 9) c y j (Ys τ c (y + 1) - Ys τ c y) = mln (σ 1 2) (σ 9) c y j (Ys σ c (y + 1) - Ys σ c y)
  rw [Ys6 (σ := σ) (τ := τ) h1 h2, Ys6 (σ := σ) (τ := τ) h1 h2]
  rcases c06 h1 h2 with z | z | z | z | z | z | z <;> subst z <;> rfl
theorem Ms6 {σ τ : St} {c : Int} (h1 : 0 ≤ c) (h2 : c ≤ 6) (y m : Int) : Ms τ c y m = Ms σ c y m := by
  unfold Ms
  rw [Ml6 (σ := σ) (τ := τ) h1 h2, Ys6 (σ := σ) (τ := τ) h1 h2]
theorem fgd6 {σ τ : St} {c : Int} (h1 : 0 ≤ c) (h2 : c ≤ 6) (m dd f l Y : Int) : fgd τ c m dd f l Y ↔ fgd σ c m dd f l Y := by
  unfold fgd
  rw [Mi6 (σ := σ) (τ := τ) h1 h2, Ml6 (σ := σ) (τ := τ) h1 h2, Ms6 (σ := σ) (τ := τ) h1 h2]
theorem fxs6 {σ τ : St} {c : Int} (h1 : 0 ≤ c) (h2 : c ≤ 6) (m dd f l : Int) (t : Nat) : ∀ Y, fxs τ c m dd f l t Y = fxs σ c m dd f l t Y := by
  induction t with
  | zero => intro Y; rfl
  | succ t ih =>
    intro Y
    rw [fxs_s, fxs_s, ih]
    by_cases g : fgd σ c m dd f l Y
    · rw [if_pos g, if_pos ((fgd6 h1 h2 m dd f l Y).2 g), Ms6 (σ := σ) (τ := τ) h1 h2]
    · rw [if_neg g, if_neg (fun z => g ((fgd6 h1 h2 m dd f l Y).1 z))]
theorem FXd6 {σ τ : St} {c : Int} (h1 : 0 ≤ c) (h2 : c ≤ 6) (m dd y : Int) : FXd τ c m dd y = FXd σ c m dd y := by
  unfold FXd fdI ldI
  rw [fxs6 (σ := σ) (τ := τ) h1 h2, Ys6 (σ := σ) (τ := τ) (c := 0) (by omega) (by omega), Ys6 (σ := σ) (τ := τ) (c := 0) (by omega) (by omega)]
theorem WKd6 {σ τ : St} (m w q y : Int) : WKd τ m w q y = WKd σ m w q y := by
  unfold WKd
  rw [Ms6 (σ := σ) (τ := τ) (c := 0) (by omega) (by omega), Ml6 (σ := σ) (τ := τ) (c := 0) (by omega) (by omega)]
theorem mvd6 {σ τ : St} {s : Int} (h1 : 0 ≤ s) (h2 : s ≤ 1) (y : Int) : mvd τ s y = mvd σ s y := by
  unfold mvd
  rw [Ms6 (σ := σ) (τ := τ) (c := s) h1 (by omega)]
theorem um6 {σ τ : St} (hF : FV σ) (h13 : τ 13 = σ 13) (h14 : τ 14 = σ 14) (h15 : τ 15 = σ 15) (h16 : τ 16 = σ 16) (y : Int) : ∀ (n : Nat) (j : Int), j < n → 0 ≤ j → j < σ 3 6 → um τ y j = um σ y j := by
  intro n
  induction n with
  | zero => intro j h; omega
  | succ n ih =>
    intro j hn j0 j1
    push_cast at hn
    obtain ⟨fo, _⟩ := hF.2 j j0 j1
    have fo' : fok (τ 13 j) (τ 14 j) (τ 15 j) (τ 16 j) j := by rw [h13, h14, h15, h16]; exact fo
    rw [um_eq y j0 fo, um_eq y j0 fo']
    unfold rdy
    rw [h13, h14, h15, h16]
    rcases fo with ⟨e, a1, a2, b1, b2, c1, c2⟩ | ⟨e, _⟩ | ⟨e, a1, a2, b1, b2⟩ | ⟨e, a1, a2, _⟩
    · rw [if_pos e, if_pos e, FXd6 (σ := σ) (τ := τ) c1 c2]
    · rw [if_neg (by omega), if_neg (show ¬ σ 13 j = 0 by omega), if_pos e, if_pos e, WKd6 (σ := σ) (τ := τ)]
    · rw [if_neg (by omega), if_neg (show ¬ σ 13 j = 0 by omega), if_neg (show ¬ σ 13 j = 1 by omega), if_neg (show ¬ σ 13 j = 1 by omega), if_pos e, if_pos e, mvd6 (σ := σ) (τ := τ) b1 b2]
    · rw [ih (σ 14 j) (by omega) a1 (by omega)]
      rw [if_neg (by omega), if_neg (show ¬ σ 13 j = 0 by omega), if_neg (show ¬ σ 13 j = 1 by omega), if_neg (show ¬ σ 13 j = 1 by omega), if_neg (show ¬ σ 13 j = 2 by omega), if_neg (show ¬ σ 13 j = 2 by omega)]
theorem PLs6 {σ τ : St} {y : Int} {p : Int → Int} (hu : ∀ j, 0 ≤ j → j < σ 3 6 → um τ y j = um σ y j) (h17 : τ 17 = σ 17) (h6 : τ 3 6 = σ 3 6) (h : PLs σ y p) : PLs τ y p := by
  have hT : ∀ f, Tf τ p f = Tf σ p f := by
    intro f
    funext x
    unfold Tf bef
    rw [h17, h6]
  intro f f0 f1
  rw [h6] at f1
  have := h f f0 f1
  rw [hu f f0 f1, h17, hT f]
  exact this
theorem HQ_rows {σ ρ : St} (h : HQ σ) (C : CF ρ) (M : MR ρ) (h6 : ρ 3 6 = σ 3 6) (m12 : ρ 33 12 = σ 33 12) (m21 : ρ 33 21 = σ 33 21) (m22 : ρ 33 22 = σ 33 22) (q : ∀ q, q ∈ [13, 14, 15, 16, 17, 18, 19, 20, 21, 40, 41, 42, 43, 44, 45, 46, 47] → ρ q = σ q) : HQ ρ := by
  obtain ⟨h1, h2, h3, h4, h5, hv, h9⟩ := h
  have q13 := q 13 (by decide)
  have q14 := q 14 (by decide)
  have q15 := q 15 (by decide)
  have q16 := q 16 (by decide)
  have q17 := q 17 (by decide)
  have q18 := q 18 (by decide)
  have hu : ∀ y j, 0 ≤ j → j < σ 3 6 → um ρ y j = um σ y j := fun y j j0 j1 => um6 h3 q13 q14 q15 q16 y (j.toNat + 1) j (by omega) j0 j1
  refine ⟨C, M, FV_same h6 q13 q14 q15 q16 q17 h3, ?_, ORD_same h6 q17 q18 h5, ?_, ?_⟩
  · unfold FR
    rw [m12, h6, q 40 (by decide), q 41 (by decide), q 42 (by decide), q 43 (by decide), q 44 (by decide), q13, q14, q15, q16, q17]
    exact h4
  · intro s s0 s1
    rw [h6, q 19 (by decide), q 20 (by decide), q 21 (by decide)]
    obtain ⟨g1, g2⟩ := hv s s0 s1
    refine ⟨g1, fun a b => ?_⟩
    obtain ⟨c1, c2⟩ := g2 a b
    exact ⟨fun j j0 j1 => by rw [hu _ j j0 j1]; exact c1 j j0 j1, PLs6 (hu _) q17 h6 c2⟩
  · refine ⟨by rw [m21]; exact h9.1, by rw [m22]; exact h9.2.1, fun z s s0 s1 => ?_⟩
    rw [m22] at z
    obtain ⟨g1, g2⟩ := h9.2.2 z s s0 s1
    rw [q 45 (by decide)]
    refine ⟨g1, fun a b => ?_⟩
    obtain ⟨c1, c2⟩ := g2 a b
    refine ⟨fun j j0 j1 => ?_, ?_⟩
    · rw [h6] at j1
      rw [hu _ j j0 j1, q 46 (by decide)]
      exact c1 j j0 j1
    · rw [q 47 (by decide)]
      exact PLs6 (hu _) q17 h6 c2
theorem INV.row {σ ρ : St} {f l : Int} (h : INV σ) (g : RowE σ ρ f l) : INV ρ := by
  obtain ⟨g1, g2, g3, g4, g5, g6, g7, g8, g9⟩ := g
  obtain ⟨hq, hw, hd, hp, hg, ht, hu⟩ := id h
  have q : ∀ q, q ∉ [1, 9, 7, 32, 33, 34, 35, 36] → ρ q = σ q := fun q hq => by
    simp only [List.mem_cons, not_or] at hq
    exact g9 q (by simp [hq]) (by simp [hq]) (by simp [hq]) (by simp [hq]) (by simp [hq]) (by simp [hq]) (by simp [hq]) (by simp [hq])
  have ok := UV_ok hu
  refine ⟨HQ_rows hq g1 g2 (by rw [q 3 (by decide)]) (g8 12 (by decide) (by decide)) (g8 21 (by decide) (by decide)) (g8 22 (by decide) (by decide)) (fun x hx => q x (by revert x; decide)), WR_k (by rw [q 2 (by decide)]) (g8 8 (by decide) (by decide)) (q 10 (by decide)) (q 11 (by decide)) (q 12 (by decide)) (q 37 (by decide)) (q 38 (by decide)) (q 39 (by decide)) hw, g3, PR_k (by rw [q 4 (by decide)]) (by rw [q 4 (by decide)]) (by rw [q 3 (by decide)]; omega) (g8 23 (by decide) (by decide)) (g8 26 (by decide) (by decide)) (fun x hx => q x (by revert x; decide)) hp, PG_k (g8 32 (by decide) (by decide)) (q 30 (by decide)) (q 54 (by decide)) hg, TR_k (q 6 (by decide)) (q 31 (by decide)) (g8 34 (by decide) (by decide)) (q 55 (by decide)) ht, UU_push hd g5 g6 hu ?_ g4 ?_ ?_ ?_ ?_ ?_⟩
  · rw [q 25 (by decide), q 26 (by decide), q 2 (by decide), q 3 (by decide), q 4 (by decide), g4]
    obtain ⟨o1, o2⟩ := ok
    exact ⟨by omega, o2⟩
  · rw [q 2 (by decide), if_neg (by decide)]; omega
  · rw [q 3 (by decide), if_neg (by decide)]; omega
  · rw [q 4 (by decide), if_neg (by decide)]; omega
  · rw [q 4 (by decide), if_neg (by decide)]; omega
  · intro i _ _
    rw [q 25 (by decide), q 26 (by decide)]
    exact ⟨rfl, rfl⟩
theorem INV.name {σ ρ : St} (h : INV σ) (g : NameE σ ρ) : INV ρ := by
  obtain ⟨g1, g2, g3, g4, g5, g6, g7, g8, g9⟩ := g
  obtain ⟨hq, hw, hd, hp, hg, ht, hu⟩ := id h
  have q : ∀ q, q ∉ [2, 10, 11, 12, 7, 32, 33, 36, 37, 38, 39] → ρ q = σ q := fun q hq => by
    simp only [List.mem_cons, not_or] at hq
    exact g9 q (by simp [hq]) (by simp [hq]) (by simp [hq]) (by simp [hq]) (by simp [hq]) (by simp [hq]) (by simp [hq]) (by simp [hq]) (by simp [hq]) (by simp [hq]) (by simp [hq])
  have ok := UV_ok hu
  have w2 := hw.1.1
  refine ⟨HQ_k ⟨q 1 (by decide), q 8 (by decide), q 9 (by decide), q 13 (by decide), q 14 (by decide), q 15 (by decide), q 16 (by decide), q 17 (by decide), q 18 (by decide), by rw [q 3 (by decide)]⟩ (g8 0 (by decide) (by decide)) (g8 12 (by decide) (by decide)) (g8 21 (by decide) (by decide)) (g8 22 (by decide) (by decide)) (fun x hx => q x (by revert x; decide)) hq, ⟨g1, g2⟩, g3, PR_k (by rw [q 4 (by decide)]) (by rw [q 4 (by decide)]) (by rw [q 3 (by decide)]; omega) (g8 23 (by decide) (by decide)) (g8 26 (by decide) (by decide)) (fun x hx => q x (by revert x; decide)) hp, PG_k (g8 32 (by decide) (by decide)) (q 30 (by decide)) (q 54 (by decide)) hg, TR_k (q 6 (by decide)) (q 31 (by decide)) (g8 34 (by decide) (by decide)) (q 55 (by decide)) ht, UU_push hd g5 g6 hu ?_ ?_ g4 ?_ ?_ ?_ ?_⟩
  · rw [q 25 (by decide), q 26 (by decide), q 1 (by decide), q 3 (by decide), q 4 (by decide), g4]
    obtain ⟨o1, o2, o3⟩ := ok
    exact ⟨o1, by omega, o3⟩
  · rw [q 1 (by decide), if_neg (by decide)]; omega
  · rw [q 3 (by decide), if_neg (by decide)]; omega
  · rw [q 4 (by decide), if_neg (by decide)]; omega
  · rw [q 4 (by decide), if_neg (by decide)]; omega
  · intro i _ _
    rw [q 25 (by decide), q 26 (by decide)]
    exact ⟨rfl, rfl⟩
theorem INV.feast {σ ρ : St} (h : INV σ) (g : FeastE σ ρ) : INV ρ := by
  obtain ⟨g1, g2, g3, g4, g5, g6, q⟩ := g
  obtain ⟨hq, hw, hd, hp, hg, ht, hu⟩ := id h
  have ok := UV_ok hu
  refine ⟨g1, WR_k (by rw [q 2 (by decide)]) (g6 8 (by decide)) (q 10 (by decide)) (q 11 (by decide)) (q 12 (by decide)) (q 37 (by decide)) (q 38 (by decide)) (q 39 (by decide)) hw, g2, PR_k (by rw [q 4 (by decide)]) (by rw [q 4 (by decide)]) (by omega) (g6 23 (by decide)) (g6 26 (by decide)) (fun x hx => q x (by revert x; decide)) hp, PG_k (g6 32 (by decide)) (q 30 (by decide)) (q 54 (by decide)) hg, TR_k (q 6 (by decide)) (q 31 (by decide)) (g6 34 (by decide)) (q 55 (by decide)) ht, UU_push hd g4 g5 hu ?_ ?_ ?_ g3 ?_ ?_ ?_⟩
  · rw [q 25 (by decide), q 26 (by decide), q 1 (by decide), q 2 (by decide), q 4 (by decide), g3]
    obtain ⟨o1, o2, o3, o4, o5, o6⟩ := ok
    exact ⟨o1, o2, by omega, o4, o5, fun i i0 i1 => ⟨(o6 i i0 i1).1, by have := (o6 i i0 i1).2; omega⟩⟩
  · rw [q 1 (by decide), if_neg (by decide)]; omega
  · rw [q 2 (by decide), if_neg (by decide)]; omega
  · rw [q 4 (by decide), if_neg (by decide)]; omega
  · rw [q 4 (by decide), if_neg (by decide)]; omega
  · intro i _ _
    rw [q 25 (by decide), q 26 (by decide)]
    exact ⟨rfl, rfl⟩
theorem INV.par {σ ρ : St} (h : INV σ) (g : ParE σ ρ) : INV ρ := by
  obtain ⟨g1, g2, g3, g4, g5, g6, g7, q⟩ := g
  obtain ⟨hq, hw, hd, hp, hg, ht, hu⟩ := id h
  have ok := UV_ok hu
  refine ⟨HQ_k ⟨q 1 (by decide), q 8 (by decide), q 9 (by decide), q 13 (by decide), q 14 (by decide), q 15 (by decide), q 16 (by decide), q 17 (by decide), q 18 (by decide), by rw [q 3 (by decide)]⟩ (g7 0 (by decide)) (g7 12 (by decide)) (g7 21 (by decide)) (g7 22 (by decide)) (fun x hx => q x (by revert x; decide)) hq, WR_k (by rw [q 2 (by decide)]) (g7 8 (by decide)) (q 10 (by decide)) (q 11 (by decide)) (q 12 (by decide)) (q 37 (by decide)) (q 38 (by decide)) (q 39 (by decide)) hw, g2, g1, PG_k (g7 32 (by decide)) (q 30 (by decide)) (q 54 (by decide)) hg, TR_k (q 6 (by decide)) (q 31 (by decide)) (g7 34 (by decide)) (q 55 (by decide)) ht, UU_push hd g4 g5 hu ?_ ?_ ?_ ?_ g3 ?_ ?_⟩
  · rw [q 25 (by decide), q 26 (by decide), q 1 (by decide), q 2 (by decide), q 3 (by decide), g6 9 (by decide), g3]
    obtain ⟨o1, o2, o3, o4, o5, o6⟩ := ok
    exact ⟨o1, o2, o3, by omega, o5, fun i i0 i1 => ⟨by have := (o6 i i0 i1).1; omega, (o6 i i0 i1).2⟩⟩
  · rw [q 1 (by decide), if_neg (by decide)]; omega
  · rw [q 2 (by decide), if_neg (by decide)]; omega
  · rw [q 3 (by decide), if_neg (by decide)]; omega
  · rw [g6 9 (by decide), if_neg (by decide)]; omega
  · intro i _ _
    rw [q 25 (by decide), q 26 (by decide)]
    exact ⟨rfl, rfl⟩
theorem INV.rul {σ ρ : St} (h : INV σ) (g : RuleE σ ρ) : INV ρ := by
  obtain ⟨g1, g2, g3, g4, g5, ga, g6, g7, q⟩ := g
  obtain ⟨hq, hw, hd, hp, hg, ht, hu⟩ := id h
  have ok := UV_ok hu
  refine ⟨HQ_k ⟨q 1 (by decide), q 8 (by decide), q 9 (by decide), q 13 (by decide), q 14 (by decide), q 15 (by decide), q 16 (by decide), q 17 (by decide), q 18 (by decide), by rw [q 3 (by decide)]⟩ (g7 0 (by decide)) (g7 12 (by decide)) (g7 21 (by decide)) (g7 22 (by decide)) (fun x hx => q x (by revert x; decide)) hq, WR_k (by rw [q 2 (by decide)]) (g7 8 (by decide)) (q 10 (by decide)) (q 11 (by decide)) (q 12 (by decide)) (q 37 (by decide)) (q 38 (by decide)) (q 39 (by decide)) hw, g2, g1, PG_k (g7 32 (by decide)) (q 30 (by decide)) (q 54 (by decide)) hg, TR_k (q 6 (by decide)) (q 31 (by decide)) (g7 34 (by decide)) (q 55 (by decide)) ht, UU_push hd g4 g5 hu ?_ ?_ ?_ ?_ ?_ g3 ?_⟩
  · obtain ⟨o1, o2, o3, o4, o5, o6⟩ := ok
    refine ⟨by rw [q 1 (by decide)]; exact o1, by rw [q 2 (by decide)]; exact o2, by rw [q 3 (by decide)]; exact o3, by rw [g6 4 (by decide)]; exact o4, by omega, fun i i0 i1 => ?_⟩
    obtain ⟨t1, t2, _⟩ := g1.2.2.2.2.2 i i0 i1
    exact ⟨t1.2, t2.2⟩
  · rw [q 1 (by decide), if_neg (by decide)]; omega
  · rw [q 2 (by decide), if_neg (by decide)]; omega
  · rw [q 3 (by decide), if_neg (by decide)]; omega
  · rw [g6 4 (by decide), if_neg (by decide)]; omega
  · intro i _ i1
    exact ga i i1
