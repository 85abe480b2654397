
theorem Mi_same {σ τ : St} (a : τ 1 2 = σ 1 2) (c y : Int) : Mi τ c y = Mi σ c y := by simp only [Mi, a]
theorem Ys_same {σ τ : St} (a : τ 1 2 = σ 1 2) (b : τ 9 = σ 9) (c y : Int) : Ys τ c y = Ys σ c y := by simp only [Ys, a, b]
theorem Ml_same {σ τ : St} (a : τ 1 2 = σ 1 2) (b : τ 9 = σ 9) (c y : Int) : Ml τ c y = Ml σ c y := by funext j; simp only [Ml, Mls, Ys, a, b]
theorem Ms_same {σ τ : St} (a : τ 1 2 = σ 1 2) (b : τ 9 = σ 9) (c y m : Int) : Ms τ c y m = Ms σ c y m := by
  unfold Ms
  rw [Ml_same a b, Ys_same a b]
theorem fgd_same {σ τ : St} (a : τ 1 2 = σ 1 2) (b : τ 9 = σ 9) (c m dd f l Y : Int) : fgd τ c m dd f l Y ↔ fgd σ c m dd f l Y := by
  unfold fgd
  rw [Mi_same a, Ml_same a b, Ms_same a b]
theorem fxs_same {σ τ : St} (a : τ 1 2 = σ 1 2) (b : τ 9 = σ 9) (c m dd f l : Int) (t : Nat) : ∀ Y, fxs τ c m dd f l t Y = fxs σ c m dd f l t Y := by
  induction t with
  | zero => intro Y; rfl
  | succ t ih =>
    intro Y
    rw [fxs_s, fxs_s, ih]
    by_cases g : fgd σ c m dd f l Y
    · rw [if_pos g, if_pos ((fgd_same a b c m dd f l Y).2 g), Ms_same a b]
    · rw [if_neg g, if_neg (fun z => g ((fgd_same a b c m dd f l Y).1 z))]
theorem FXd_same {σ τ : St} (a : τ 1 2 = σ 1 2) (b : τ 9 = σ 9) (c m dd y : Int) : FXd τ c m dd y = FXd σ c m dd y := by
  unfold FXd fdI ldI
  rw [fxs_same a b, Ys_same a b, Ys_same a b]
theorem WKd_same {σ τ : St} (a : τ 1 2 = σ 1 2) (b : τ 9 = σ 9) (m w q y : Int) : WKd τ m w q y = WKd σ m w q y := by
  unfold WKd
  rw [Ms_same a b, Ml_same a b]
theorem mvd_same {σ τ : St} (a : τ 1 2 = σ 1 2) (b : τ 9 = σ 9) (s y : Int) : mvd τ s y = mvd σ s y := by
  unfold mvd
  rw [Ms_same a b]
/-- a feast as it may be laid down -/
def fok (r a b c i : Int) : Prop := (r = 0 ∧ 1 ≤ a ∧ a ≤ 53 ∧ 1 ≤ b ∧ b ≤ 200 ∧ 0 ≤ c ∧ c ≤ 6) ∨ (r = 1 ∧ 1 ≤ a ∧ a ≤ 12 ∧ 0 ≤ b ∧ b ≤ 6 ∧ -1 ≤ c ∧ c ≤ 5 ∧ c ≠ 0) ∨ (r = 2 ∧ -60 ≤ a ∧ a ≤ 100 ∧ 0 ≤ b ∧ b ≤ 1) ∨ (r = 3 ∧ 0 ≤ a ∧ a < i ∧ -40 ≤ b ∧ b ≤ 40)
def FV (σ : St) : Prop := (0 ≤ σ 3 6 ∧ σ 3 6 ≤ 60) ∧ ∀ i, 0 ≤ i → i < σ 3 6 → fok (σ 13 i) (σ 14 i) (σ 15 i) (σ 16 i) i ∧ 0 ≤ σ 17 i ∧ σ 17 i ≤ 9
def FR (σ τ : St) : Prop := τ 33 12 = σ 3 6 ∧ ∀ i, 0 ≤ i → i < σ 3 6 → τ 40 i = σ 13 i ∧ τ 41 i = σ 14 i ∧ τ 42 i = σ 15 i ∧ τ 43 i = σ 16 i ∧ τ 44 i = σ 17 i
noncomputable def rdy (σ : St) (y i : Int) (u : Int → Int) : Int := if σ 13 i = 0 then dyn (FXd σ (σ 16 i) (σ 14 i) (σ 15 i) y) else if σ 13 i = 1 then dyn (WKd σ (σ 14 i) (σ 15 i) (σ 16 i) y) else if σ 13 i = 2 then dyn (mvd σ (σ 15 i) y + σ 14 i) else if u (σ 14 i) = -2 then -2 else dyn (u (σ 14 i) + σ 15 i)
noncomputable def umF (σ : St) (y : Int) : Nat → Int → Int
  | 0 => fun _ => -2
  | n + 1 => fun i => if i = n then rdy σ y n (umF σ y n) else umF σ y n i
theorem umF_s (σ : St) (y : Int) (n : Nat) (i : Int) : umF σ y (n + 1) i = if i = n then rdy σ y n (umF σ y n) else umF σ y n i := rfl
theorem dyn_b (n : Int) : -2 ≤ dyn n ∧ dyn n ≤ 1500000 := by unfold dyn; split <;> omega
theorem rdy_b (σ : St) (y i : Int) (u : Int → Int) : -2 ≤ rdy σ y i u ∧ rdy σ y i u ≤ 1500000 := by
  unfold rdy
  have h1 := dyn_b (FXd σ (σ 16 i) (σ 14 i) (σ 15 i) y)
  have h2 := dyn_b (WKd σ (σ 14 i) (σ 15 i) (σ 16 i) y)
  have h3 := dyn_b (mvd σ (σ 15 i) y + σ 14 i)
  have h4 := dyn_b (u (σ 14 i) + σ 15 i)
  repeat' split
  all_goals omega
theorem umF_b (σ : St) (y : Int) (n : Nat) (i : Int) : -2 ≤ umF σ y n i ∧ umF σ y n i ≤ 1500000 := by
  induction n with
  | zero => show -2 ≤ (-2 : Int) ∧ (-2 : Int) ≤ 1500000; omega
  | succ n ih =>
    rw [umF_s]
    have := rdy_b σ y n (umF σ y n)
    split
    · exact this
    · exact ih
theorem rdy_same {σ τ : St} (a : τ 1 2 = σ 1 2) (b : τ 9 = σ 9) (h13 : τ 13 = σ 13) (h14 : τ 14 = σ 14) (h15 : τ 15 = σ 15) (h16 : τ 16 = σ 16) (y i : Int) (u : Int → Int) : rdy τ y i u = rdy σ y i u := by
  unfold rdy
  rw [h13, h14, h15, h16, FXd_same a b, WKd_same a b, mvd_same a b]
theorem rdy_u {σ : St} {y i : Int} {u v : Int → Int} (h : σ 13 i = 0 ∨ σ 13 i = 1 ∨ σ 13 i = 2 ∨ u (σ 14 i) = v (σ 14 i)) : rdy σ y i u = rdy σ y i v := by
  unfold rdy
  by_cases q0 : σ 13 i = 0
  · rw [if_pos q0, if_pos q0]
  · by_cases q1 : σ 13 i = 1
    · rw [if_neg q0, if_neg q0, if_pos q1, if_pos q1]
    · by_cases q2 : σ 13 i = 2
      · rw [if_neg q0, if_neg q0, if_neg q1, if_neg q1, if_pos q2, if_pos q2]
      · rw [if_neg q0, if_neg q0, if_neg q1, if_neg q1, if_neg q2, if_neg q2]
        rcases h with z | z | z | z
        · exact absurd z q0
        · exact absurd z q1
        · exact absurd z q2
        · rw [z]
theorem FXd_b (σ : St) {c m dd y : Int} (hC : CF σ) (y1 : 0 ≤ y) (y2 : y ≤ 5000) : -2 ≤ FXd σ c m dd y ∧ FXd σ c m dd y ≤ 1500000 := by
  have fb := fd_b hC y1 y2
  rcases FXd_case (σ := σ) (c := c) (m := m) (dd := dd) (y := y) with ⟨Y0, a1, a2, a3, a4⟩ | ⟨a1, a2⟩
  · obtain ⟨g0, g1, g2, g3, g4⟩ := a2
    omega
  · omega
theorem WKd_b {σ : St} (hC : CF σ) {m w q y : Int} (m1 : 1 ≤ m) (m2 : m ≤ 12) (q1 : -1 ≤ q) (q2 : q ≤ 5) (y1 : 0 ≤ y) (y2 : y ≤ 5000) : -1000 ≤ WKd σ m w q y ∧ WKd σ m w q y ≤ 2000000 := by
  have sb := sun_b hC m1 m2 y1 y2
  unfold WKd
  repeat' split
  all_goals omega
theorem X2_has_ok (k : Nat × (Int → Int)) (d : Nat) {σ : St} {i : Int} (h1 : I32 i) (h2 : 0 ≤ σ 3 6 ∧ σ 3 6 ≤ 60) : EV k (d + 1) mX2_has [vR 3, vI i] σ = ansI (if 0 ≤ i ∧ i < σ 3 6 then 1 else 0) σ := by
  unfold I32 at h1
  rw [eX2_has, bX2_has_0, w32_id (a := i) h1.1 h1.2, w32_id (a := σ 3 6) (by omega) (by omega)]
  repeat' split
  all_goals first | rfl | omega
theorem X2_ruleDay_ok (k : Nat × (Int → Int)) (d : Nat) {σ : St} (hC : CF σ) (hF : FV σ) {i y : Int} (i1 : 0 ≤ i) (i2 : i < σ 3 6) (y1 : 0 ≤ y) (y2 : y ≤ 5000) (s1 : 0 ≤ σ 3 11) (s2 : σ 3 11 ≤ 420) (hu : ∀ j, 0 ≤ j → j < i → -2 ≤ σ 20 (σ 3 11 + j) ∧ σ 20 (σ 3 11 + j) ≤ 1500000) : ∃ r, EV k (d + 5) mX2_ruleDay [vR 3, vI i, vI y] σ = ansI r σ ∧ -10000 ≤ r ∧ r ≤ 3000000 ∧ dyn r = rdy σ y i (fun j => σ 20 (σ 3 11 + j)) := by
  obtain ⟨f1, f2⟩ := hF
  obtain ⟨fo, _⟩ := f2 i i1 i2
  have hi : 0 ≤ i ∧ i < 60 := by omega
  rw [eX2_ruleDay, bX2_ruleDay_0, w32_id (a := i) (by omega) (by omega)]
  unfold rdy
  rcases fo with ⟨e, a1, a2, b1, b2, c1, c2⟩ | ⟨e, a1, a2, b1, b2, c1, c2, c3⟩ | ⟨e, a1, a2, b1, b2⟩ | ⟨e, a1, a2, b1, b2⟩
  · have fb := FXd_b σ (c := σ 16 i) (m := σ 14 i) (dd := σ 15 i) hC y1 y2
    refine ⟨FXd σ (σ 16 i) (σ 14 i) (σ 15 i) y, ?_, by omega, by omega, ?_⟩
    · rw [e, show w32 0 = 0 by decide, if_pos hi, if_pos rfl, if_pos hi, if_pos hi, if_pos hi, X2_fixedDay_ok k d hC c1 c2 a1 a2 b1 b2 y1 y2, jbI_some]
    · rw [if_pos e]
  · have fb := WKd_b hC (w := σ 15 i) a1 a2 c1 c2 y1 y2
    refine ⟨WKd σ (σ 14 i) (σ 15 i) (σ 16 i) y, ?_, by omega, by omega, ?_⟩
    · rw [e, show w32 1 = 1 by decide, if_pos hi, if_neg (by decide), if_pos rfl, if_pos hi, if_pos hi, if_pos hi, X2_weekdayDay_ok k d hC a1 a2 b1 b2 c1 c2 y1 y2, jbI_some]
    · rw [if_neg (by omega), if_pos e]
  · have hs : σ 15 i = 0 ∨ σ 15 i = 1 := by omega
    have mb := mvd_b hC hs y1 y2
    refine ⟨mvd σ (σ 15 i) y + σ 14 i, ?_, by omega, by omega, ?_⟩
    · rw [e, show w32 2 = 2 by decide, if_pos hi, if_neg (by decide), if_neg (by decide), if_pos rfl, if_pos hi, X0_movableDay_ok k d hC hs y1 y2, jbI_some, if_pos hi]
    · rw [if_neg (by omega), if_neg (by omega), if_pos e]
  · have ub := hu (σ 14 i) a1 a2
    have hh : 0 ≤ σ 14 i ∧ σ 14 i < σ 3 6 := by omega
    have hs : 0 ≤ σ 3 11 + σ 14 i ∧ σ 3 11 + σ 14 i < 480 := by omega
    refine ⟨if σ 20 (σ 3 11 + σ 14 i) = -2 then -2 else σ 20 (σ 3 11 + σ 14 i) + σ 15 i, ?_, by split <;> omega, by split <;> omega, ?_⟩
    · rw [e, show w32 3 = 3 by decide, if_pos hi, if_neg (by decide), if_neg (by decide), if_neg (by decide), if_pos hi, eX2_unmovedDay, bX2_unmovedDay_0, X2_has_ok k (d + 2) (by unfold I32; omega) f1, jbI_some, ib, if_pos hh, w32_id (a := σ 3 11 + σ 14 i) (by omega) (by omega), if_pos hs, jbI_some, w32_id (a := σ 20 (σ 3 11 + σ 14 i)) (by omega) (by omega), show w32 (-2) = -2 by decide, if_pos hi]
      by_cases q : σ 20 (σ 3 11 + σ 14 i) = -2
      · rw [if_pos q, if_pos q]
      · rw [if_neg q, if_neg q]
    · rw [if_neg (show ¬ σ 13 i = 0 by omega), if_neg (show ¬ σ 13 i = 1 by omega), if_neg (show ¬ σ 13 i = 2 by omega)]
      by_cases q : σ 20 (σ 3 11 + σ 14 i) = -2
      · rw [if_pos q, if_pos q]
        decide
      · rw [if_neg q, if_neg q]
