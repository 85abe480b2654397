/-! dates: which year, month and day a day is -/
theorem smI_mono {f : Int → Int} {a b : Int} (h0 : 0 ≤ a) (hab : a ≤ b) (h : ∀ j, a < j → j ≤ b → 1 ≤ f j) : smI f a + (b - a) ≤ smI f b := by
  obtain ⟨n, rfl⟩ : ∃ n : Nat, b = a + n := ⟨(b - a).toNat, by omega⟩
  induction n with
  | zero => simp
  | succ n ih =>
    have := ih (by omega) (fun j j1 j2 => h j j1 (by push_cast; omega))
    have e := smI_s f (a := a + n) (by omega)
    have hj := h (a + n + 1) (by omega) (by push_cast; omega)
    rw [show a + ((n + 1 : Nat) : Int) = a + n + 1 by push_cast; omega, e]
    omega
theorem Ys_step {σ : St} (hC : CF σ) {c y : Int} (h1 : 0 ≤ c) (h2 : c ≤ 7) (hy1 : yfst c ≤ y) (hy2 : y ≤ ylst (σ 1 2) c) : Ys σ c y + 1 ≤ Ys σ c (y + 1) := by
  obtain ⟨k1, k2, k3, k4, k5⟩ := KF_all hC h1 h2 hy1 hy2
  have := smI_mono (f := Ml σ c y) (a := 0) (b := Mi σ c y) (by omega) (by omega) (fun j j1 j2 => (k3 j (by omega) j2).1)
  rw [smI_0] at this
  omega
theorem Ys_mono {σ : St} (hC : CF σ) {c a b : Int} (h1 : 0 ≤ c) (h2 : c ≤ 7) (ha : yfst c ≤ a) (hab : a ≤ b) (hb : b ≤ ylst (σ 1 2) c + 1) : Ys σ c a + (b - a) ≤ Ys σ c b := by
  obtain ⟨n, rfl⟩ : ∃ n : Nat, b = a + n := ⟨(b - a).toNat, by omega⟩
  induction n with
  | zero => simp
  | succ n ih =>
    have i := ih (by omega) (by push_cast at hb; omega)
    have s := Ys_step hC h1 h2 (y := a + n) (by omega) (by push_cast at hb; omega)
    rw [show a + ((n + 1 : Nat) : Int) = a + n + 1 by push_cast; omega]
    omega
theorem mah_step {σ : St} (hC : CF σ) {c y : Int} (h1 : 0 ≤ c) (h2 : c ≤ 7) (hy1 : yfst c ≤ y) (hy2 : y ≤ ylst (σ 1 2) c) : mah (σ 1 2) c y + 1 ≤ mah (σ 1 2) c (y + 1) := by
  obtain ⟨k1, k2, k3, k4, k5⟩ := KF_all hC h1 h2 hy1 hy2
  omega
theorem mah_mono {σ : St} (hC : CF σ) {c a b : Int} (h1 : 0 ≤ c) (h2 : c ≤ 7) (ha : yfst c ≤ a) (hab : a ≤ b) (hb : b ≤ ylst (σ 1 2) c + 1) : mah (σ 1 2) c a + (b - a) ≤ mah (σ 1 2) c b := by
  obtain ⟨n, rfl⟩ : ∃ n : Nat, b = a + n := ⟨(b - a).toNat, by omega⟩
  induction n with
  | zero => simp
  | succ n ih =>
    have i := ih (by omega) (by push_cast at hb; omega)
    have s := mah_step hC h1 h2 (y := a + n) (by omega) (by push_cast at hb; omega)
    rw [show a + ((n + 1 : Nat) : Int) = a + n + 1 by push_cast; omega]
    omega
theorem mah_0 (n c : Int) (h1 : 0 ≤ c) (h2 : c ≤ 7) (hn : 0 ≤ n) : mah n c (yfst c) = 0 := by
  have : c = 0 ∨ c = 1 ∨ c = 2 ∨ c = 3 ∨ c = 4 ∨ c = 5 ∨ c = 6 ∨ c = 7 := by omega
  rcases this with rfl | rfl | rfl | rfl | rfl | rfl | rfl | rfl
  · rfl
  · rfl
  · rfl
  · rfl
  · rfl
  · show (wks 0 + 63) / 7 = 0; decide
  · rfl
  · show (if n ≤ 10 * (1 - 1) then n else 10 * (1 - 1)) = 0
    split <;> omega
/-- where a calendar begins and ends -/
theorem Ys_lo (σ : St) {c : Int} (h1 : 0 ≤ c) (h2 : c ≤ 6) : Ys σ c (yfst c) ≤ 0 := by
  have : c = 0 ∨ c = 1 ∨ c = 2 ∨ c = 3 ∨ c = 4 ∨ c = 5 ∨ c = 6 := by omega
  rcases this with rfl | rfl | rfl | rfl | rfl | rfl | rfl
  · show greg 0 - 60 ≤ 0; decide
  · show juln 0 - 62 ≤ 0; decide
  · show (365 * (1 - 1) + 1 / 4 : Int) ≤ 0; decide
  · show (354 * (1 - 1) + (11 * 1 + 3) / 30 : Int) ≤ 0; decide
  · show cys 1 ≤ 0; rw [cys_1]; decide
  · show wks 0 ≤ 0; decide
  · show (360 * 0 : Int) ≤ 0; decide
theorem Ys_hi (σ : St) {c : Int} (h1 : 0 ≤ c) (h2 : c ≤ 6) : 1500001 < Ys σ c 5001 := by
  have : c = 0 ∨ c = 1 ∨ c = 2 ∨ c = 3 ∨ c = 4 ∨ c = 5 ∨ c = 6 := by omega
  rcases this with rfl | rfl | rfl | rfl | rfl | rfl | rfl
  · show 1500001 < greg 5001 - 60; decide
  · show 1500001 < juln 5001 - 62; decide
  · show (1500001 : Int) < 365 * (5001 - 1) + 5001 / 4; decide
  · show (1500001 : Int) < 354 * (5001 - 1) + (11 * 5001 + 3) / 30; decide
  · show 1500001 < cys 5001
    have := cys_N (y := 5001) (by decide)
    rw [show ((5001 : Nat) : Int) = 5001 from rfl] at this
    rw [this]
    decide +kernel
  · show 1500001 < wks 5001; decide
  · show (1500001 : Int) < 360 * 5001; decide
/-- day n is day dd of month m of year y -/
def IsD (σ : St) (c n y m dd : Int) : Prop := yfst c ≤ y ∧ y ≤ ylst (σ 1 2) c ∧ 1 ≤ m ∧ m ≤ Mi σ c y ∧ 1 ≤ dd ∧ dd ≤ Ml σ c y m ∧ n = Ms σ c y m + dd - 1
/-- the year in which day n is, or the last one (the first one) if it is behind (ahead) -/
def IsY (σ : St) (c n y : Int) : Prop := yfst c ≤ y ∧ y ≤ ylst (σ 1 2) c ∧ (y = yfst c ∨ Ys σ c y ≤ n) ∧ (y = ylst (σ 1 2) c ∨ n < Ys σ c (y + 1))
theorem Ms_in {σ : St} (hC : CF σ) {c y m : Int} (h1 : 0 ≤ c) (h2 : c ≤ 7) (hy1 : yfst c ≤ y) (hy2 : y ≤ ylst (σ 1 2) c) (m1 : 1 ≤ m) (m2 : m ≤ Mi σ c y) : Ys σ c y + (m - 1) ≤ Ms σ c y m ∧ Ms σ c y m + Ml σ c y m ≤ Ys σ c (y + 1) := by
  obtain ⟨k1, k2, k3, k4, k5⟩ := KF_all hC h1 h2 hy1 hy2
  have a := smI_mono (f := Ml σ c y) (a := 0) (b := m - 1) (by omega) (by omega) (fun j j1 j2 => (k3 j (by omega) (by omega)).1)
  have b := smI_mono (f := Ml σ c y) (a := m) (b := Mi σ c y) (by omega) (by omega) (fun j j1 j2 => (k3 j (by omega) (by omega)).1)
  have e := smI_s (Ml σ c y) (a := m - 1) (by omega)
  rw [show m - 1 + 1 = m by omega] at e
  rw [smI_0] at a
  show Ys σ c y + (m - 1) ≤ Ys σ c y + smI (Ml σ c y) (m - 1) ∧ Ys σ c y + smI (Ml σ c y) (m - 1) + Ml σ c y m ≤ Ys σ c (y + 1)
  omega
theorem IsD.year {σ : St} (hC : CF σ) {c n y m dd : Int} (h1 : 0 ≤ c) (h2 : c ≤ 7) (h : IsD σ c n y m dd) : Ys σ c y ≤ n ∧ n < Ys σ c (y + 1) := by
  obtain ⟨a1, a2, a3, a4, a5, a6, a7⟩ := h
  have := Ms_in hC h1 h2 a1 a2 a3 a4
  omega
theorem IsD.isY {σ : St} (hC : CF σ) {c n y m dd : Int} (h1 : 0 ≤ c) (h2 : c ≤ 7) (h : IsD σ c n y m dd) : IsY σ c n y := ⟨h.1, h.2.1, Or.inr (h.year hC h1 h2).1, Or.inr (h.year hC h1 h2).2⟩
theorem exY {σ : St} (hC : CF σ) {c : Int} (h1 : 0 ≤ c) (h2 : c ≤ 7) (hl : yfst c ≤ ylst (σ 1 2) c) (n : Int) : ∃ y, IsY σ c n y := by
  have key : ∀ k : Nat, yfst c + k ≤ ylst (σ 1 2) c → ∃ y, yfst c ≤ y ∧ y ≤ yfst c + k ∧ (y = yfst c ∨ Ys σ c y ≤ n) ∧ (y = yfst c + k ∨ n < Ys σ c (y + 1)) := by
    intro k
    induction k with
    | zero => intro _; exact ⟨yfst c, by omega, by omega, Or.inl rfl, Or.inl (by simp)⟩
    | succ k ih =>
      intro hk
      obtain ⟨y, a, b, c1, d⟩ := ih (by push_cast at hk; omega)
      rcases d with d | d
      · by_cases q : Ys σ c (yfst c + ((k + 1 : Nat) : Int)) ≤ n
        · exact ⟨yfst c + ((k + 1 : Nat) : Int), by omega, by omega, Or.inr q, Or.inl rfl⟩
        · refine ⟨y, a, by push_cast; omega, c1, Or.inr ?_⟩
          rw [show y + 1 = yfst c + ((k + 1 : Nat) : Int) by push_cast; omega]
          omega
      · exact ⟨y, a, by push_cast; omega, c1, Or.inr d⟩
  obtain ⟨y, a, b, c1, d⟩ := key (ylst (σ 1 2) c - yfst c).toNat (by omega)
  exact ⟨y, a, by omega, c1, d.imp (fun h => by omega) id⟩
theorem IsY.one {σ : St} (hC : CF σ) {c n y z : Int} (h1 : 0 ≤ c) (h2 : c ≤ 7) (hy : IsY σ c n y) (hz : IsY σ c n z) : y = z := by
  obtain ⟨a1, a2, a3, a4⟩ := hy
  obtain ⟨b1, b2, b3, b4⟩ := hz
  rcases Int.lt_trichotomy y z with h | h | h
  · have := Ys_mono hC h1 h2 (a := y + 1) (b := z) (by omega) (by omega) (by omega)
    omega
  · exact h
  · have := Ys_mono hC h1 h2 (a := z + 1) (b := y) (by omega) (by omega) (by omega)
    omega
theorem exM {f : Int → Int} {n : Int} (h0 : 0 ≤ n) : ∀ {k : Nat}, n < smI f k → ∃ m, 1 ≤ m ∧ m ≤ (k : Int) ∧ smI f (m - 1) ≤ n ∧ n < smI f m := by
  intro k
  induction k with
  | zero => intro h; rw [show ((0 : Nat) : Int) = 0 from rfl, smI_0] at h; omega
  | succ k ih =>
    intro h
    by_cases q : n < smI f k
    · obtain ⟨m, a, b, c, d⟩ := ih q
      exact ⟨m, a, by push_cast; omega, c, d⟩
    · exact ⟨((k + 1 : Nat) : Int), by push_cast; omega, by omega, by rw [show ((k + 1 : Nat) : Int) - 1 = k by push_cast; omega]; omega, h⟩
theorem exD {σ : St} (hC : CF σ) {c n y : Int} (h1 : 0 ≤ c) (h2 : c ≤ 7) (hy1 : yfst c ≤ y) (hy2 : y ≤ ylst (σ 1 2) c) (ha : Ys σ c y ≤ n) (hb : n < Ys σ c (y + 1)) : ∃ m dd, IsD σ c n y m dd := by
  obtain ⟨k1, k2, k3, k4, k5⟩ := KF_all hC h1 h2 hy1 hy2
  obtain ⟨m, a, b, e, f⟩ := exM (f := Ml σ c y) (n := n - Ys σ c y) (k := (Mi σ c y).toNat) (by omega) (by rw [show (((Mi σ c y).toNat : Nat) : Int) = Mi σ c y by omega]; omega)
  have s := smI_s (Ml σ c y) (a := m - 1) (by omega)
  rw [show m - 1 + 1 = m by omega] at s
  refine ⟨m, n - (Ys σ c y + smI (Ml σ c y) (m - 1)) + 1, hy1, hy2, a, by omega, by omega, by omega, ?_⟩
  show n = Ys σ c y + smI (Ml σ c y) (m - 1) + (n - (Ys σ c y + smI (Ml σ c y) (m - 1)) + 1) - 1
  omega
/-- every day has a date in each calendar but the town's -/
theorem exD6 {σ : St} (hC : CF σ) {c n : Int} (h1 : 0 ≤ c) (h2 : c ≤ 6) (n1 : 0 ≤ n) (n2 : n ≤ 1500001) : ∃ y m dd, IsD σ c n y m dd := by
  have hf := yfst_b c
  have hl : ylst (σ 1 2) c = 5000 := by unfold ylst; rw [if_neg (by omega)]
  obtain ⟨y, a1, a2, a3, a4⟩ := exY hC h1 (by omega) (by omega) n
  have lo := Ys_lo σ h1 h2
  have hi := Ys_hi σ h1 h2
  have b1 : Ys σ c y ≤ n := by
    rcases a3 with a3 | a3
    · rw [a3]; omega
    · exact a3
  have b2 : n < Ys σ c (y + 1) := by
    rcases a4 with a4 | a4
    · rw [a4, hl, show (5000 + 1 : Int) = 5001 from rfl]; omega
    · exact a4
  obtain ⟨m, dd, h⟩ := exD hC h1 (by omega) a1 a2 b1 b2
  exact ⟨y, m, dd, h⟩
/-! the component finds it -/
theorem X0_yearOf_loop (k : Nat × (Int → Int)) (d : Nat) {σ : St} (hC : CF σ) {c n y0 : Int} (h1 : 0 ≤ c) (h2 : c ≤ 7) (hn : c = 7 → 0 < σ 1 2) (n1 : -100000000 ≤ n) (n2 : n ≤ 100000000) (hy : IsY σ c n y0) : ∀ (t : Nat) (lo hi x5 : Int) (u : PV), 0 ≤ x5 → x5 + t ≤ 31 → hi - lo < 2 ^ t → yfst c ≤ lo → hi ≤ ylst (σ 1 2) c → lo ≤ y0 → y0 ≤ hi → out (WV k) (EV k (d + 2)) MX0_yearOf 15 [vR 1, vI c, vI n, vI lo, vI hi, vI x5, u] [] σ = ansI y0 σ := by
  have hf := yfst_b c
  have hl := ylst_b (c := c) hC.1.1 hC.1.2
  obtain ⟨a1, a2, a3, a4⟩ := hy
  intro t
  induction t with
  | zero =>
    intro lo hi x5 u b1 b2 b3 b4 b5 b6 b7
    rw [bX0_yearOf_15]
    simp at b3
    rw [if_pos (by simp (disch := omega) only [w32_id]; omega), if_neg (by simp (disch := omega) only [w32_id]; omega)]
    exact ansI_c (by omega)
  | succ t ih =>
    intro lo hi x5 u b1 b2 b3 b4 b5 b6 b7
    rw [bX0_yearOf_15, if_pos (by push_cast at b2; simp (disch := omega) only [w32_id]; omega)]
    by_cases q : lo < hi
    · rw [if_pos (by simp (disch := omega) only [w32_id]; omega)]
      have e : jq (lo + hi + 1) 2 = (lo + hi + 1) / 2 := jq_pos (by omega) (by omega) (by omega) (by omega)
      rw [e]
      have hv : YV c ((lo + hi + 1) / 2) := ⟨by omega, by omega, fun _ => by omega⟩
      have bb := Ys_b hC h1 h2 hv hn
      rw [X0_yearStart_ok k d hC h1 h2 hv]
      simp only [jbI_some]
      have p2 : (2 : Int) ^ (t + 1) = 2 * 2 ^ t := by rw [Int.pow_succ]; omega
      rw [p2] at b3
      by_cases g : n < Ys σ c ((lo + hi + 1) / 2)
      · rw [if_pos (by simp (disch := omega) only [w32_id]; exact g)]
        have : y0 ≤ (lo + hi + 1) / 2 - 1 := by
          apply Decidable.byContradiction
          intro z
          have := Ys_mono hC h1 h2 (a := (lo + hi + 1) / 2) (b := y0) (by omega) (by omega) (by omega)
          omega
        exact ih _ _ _ _ (by omega) (by push_cast at b2; omega) (by omega) b4 (by omega) b6 this
      · rw [if_neg (by simp (disch := omega) only [w32_id]; exact g)]
        have : (lo + hi + 1) / 2 ≤ y0 := by
          apply Decidable.byContradiction
          intro z
          have := Ys_mono hC h1 h2 (a := y0 + 1) (b := (lo + hi + 1) / 2) (by omega) (by omega) (by omega)
          omega
        exact ih _ _ _ _ (by omega) (by push_cast at b2; omega) (by omega) (by omega) b5 this b7
    · rw [if_neg (by simp (disch := omega) only [w32_id]; omega)]
      exact ansI_c (by omega)
theorem X0_yearOf_ok (k : Nat × (Int → Int)) (d : Nat) {σ : St} (hC : CF σ) {c n y : Int} (h1 : 0 ≤ c) (h2 : c ≤ 7) (hn : c = 7 → 0 < σ 1 2) (n1 : -100000000 ≤ n) (n2 : n ≤ 100000000) (hy : IsY σ c n y) : EV k (d + 3) mX0_yearOf [vR 1, vI c, vI n] σ = ansI y σ := by
  have hf := yfst_b c
  have hl := ylst_b (c := c) hC.1.1 hC.1.2
  rw [eX0_yearOf, bX0_yearOf_0, X0_firstYear_ok k (d + 1) σ h1 h2]
  simp only [jbI_some]
  rw [X0_lastYear_ok k (d + 1) hC h1 h2]
  simp only [jbI_some]
  exact X0_yearOf_loop k d hC h1 h2 hn n1 n2 hy 13 _ _ 0 _ (by omega) (by omega) (by omega) (by omega) (by omega) hy.1 hy.2.1
theorem X0_yearOfMonth_loop (k : Nat × (Int → Int)) (d : Nat) {σ : St} (hC : CF σ) {c n y0 : Int} (h1 : 0 ≤ c) (h2 : c ≤ 7) (n1 : -100000000 ≤ n) (n2 : n ≤ 100000000) (a1 : yfst c ≤ y0) (a2 : y0 ≤ ylst (σ 1 2) c) (a3 : mah (σ 1 2) c y0 ≤ n) (a4 : n < mah (σ 1 2) c (y0 + 1)) : ∀ (t : Nat) (lo hi x5 : Int) (u : PV), 0 ≤ x5 → x5 + t ≤ 31 → hi - lo < 2 ^ t → yfst c ≤ lo → hi ≤ ylst (σ 1 2) c → lo ≤ y0 → y0 ≤ hi → out (WV k) (EV k (d + 3)) MX0_yearOfMonth 15 [vR 1, vI c, vI n, vI lo, vI hi, vI x5, u] [] σ = ansI y0 σ := by
  have hf := yfst_b c
  have hl := ylst_b (c := c) hC.1.1 hC.1.2
  have hm0 := mah_0 (σ 1 2) c h1 h2 hC.1.1
  have hb : ∀ z, yfst c ≤ z → z ≤ ylst (σ 1 2) c → 0 ≤ mah (σ 1 2) c z ∧ mah (σ 1 2) c z ≤ 300000 := by
    intro z z1 z2
    refine ⟨by have := mah_mono hC h1 h2 (a := yfst c) (b := z) (by omega) z1 (by omega); omega, ?_⟩
    have w := wks_b (y := z) (by omega) (by omega)
    have := hC.1
    unfold mah
    repeat' split
    all_goals omega
  intro t
  induction t with
  | zero =>
    intro lo hi x5 u b1 b2 b3 b4 b5 b6 b7
    rw [bX0_yearOfMonth_15]
    simp at b3
    rw [if_pos (by simp (disch := omega) only [w32_id]; omega), if_neg (by simp (disch := omega) only [w32_id]; omega)]
    exact ansI_c (by omega)
  | succ t ih =>
    intro lo hi x5 u b1 b2 b3 b4 b5 b6 b7
    rw [bX0_yearOfMonth_15, if_pos (by push_cast at b2; simp (disch := omega) only [w32_id]; omega)]
    by_cases q : lo < hi
    · rw [if_pos (by simp (disch := omega) only [w32_id]; omega)]
      have e : jq (lo + hi + 1) 2 = (lo + hi + 1) / 2 := jq_pos (by omega) (by omega) (by omega) (by omega)
      rw [e, X0_monthsAhead_ok k d hC h1 h2 (by omega) (by omega)]
      simp only [jbI_some]
      have bb := hb ((lo + hi + 1) / 2) (by omega) (by omega)
      have p2 : (2 : Int) ^ (t + 1) = 2 * 2 ^ t := by rw [Int.pow_succ]; omega
      rw [p2] at b3
      by_cases g : n < mah (σ 1 2) c ((lo + hi + 1) / 2)
      · rw [if_pos (by simp (disch := omega) only [w32_id]; exact g)]
        have : y0 ≤ (lo + hi + 1) / 2 - 1 := by
          apply Decidable.byContradiction
          intro z
          have := mah_mono hC h1 h2 (a := (lo + hi + 1) / 2) (b := y0) (by omega) (by omega) (by omega)
          omega
        exact ih _ _ _ _ (by omega) (by push_cast at b2; omega) (by omega) b4 (by omega) b6 this
      · rw [if_neg (by simp (disch := omega) only [w32_id]; exact g)]
        have : (lo + hi + 1) / 2 ≤ y0 := by
          apply Decidable.byContradiction
          intro z
          have := mah_mono hC h1 h2 (a := y0 + 1) (b := (lo + hi + 1) / 2) (by omega) (by omega) (by omega)
          omega
        exact ih _ _ _ _ (by omega) (by push_cast at b2; omega) (by omega) (by omega) b5 this b7
    · rw [if_neg (by simp (disch := omega) only [w32_id]; omega)]
      exact ansI_c (by omega)
theorem X0_yearOfMonth_ok (k : Nat × (Int → Int)) (d : Nat) {σ : St} (hC : CF σ) {c n y : Int} (h1 : 0 ≤ c) (h2 : c ≤ 7) (n1 : -100000000 ≤ n) (n2 : n ≤ 100000000) (a1 : yfst c ≤ y) (a2 : y ≤ ylst (σ 1 2) c) (a3 : mah (σ 1 2) c y ≤ n) (a4 : n < mah (σ 1 2) c (y + 1)) : EV k (d + 4) mX0_yearOfMonth [vR 1, vI c, vI n] σ = ansI y σ := by
  have hf := yfst_b c
  have hl := ylst_b (c := c) hC.1.1 hC.1.2
  rw [eX0_yearOfMonth, bX0_yearOfMonth_0, X0_firstYear_ok k (d + 2) σ h1 h2]
  simp only [jbI_some]
  rw [X0_lastYear_ok k (d + 2) hC h1 h2]
  simp only [jbI_some]
  exact X0_yearOfMonth_loop k d hC h1 h2 n1 n2 a1 a2 a3 a4 13 _ _ 0 _ (by omega) (by omega) (by omega) (by omega) (by omega) a1 a2
theorem X0_monthsIn_M (k : Nat × (Int → Int)) (d : Nat) {σ : St} (hC : CF σ) {c y : Int} (h1 : 0 ≤ c) (h2 : c ≤ 7) (hy1 : 0 ≤ y) (hy2 : y ≤ 5001) : EV k (d + 3) mX0_monthsIn [vR 1, vI c, vI y] σ = ansI (Mi σ c y) σ := X0_monthsIn_ok k d hC h1 h2 hy1 hy2
theorem X0_monthOf_loop (k : Nat × (Int → Int)) (d : Nat) {σ : St} (hC : CF σ) {c n y m yd s0 x5 : Int} (h1 : 0 ≤ c) (h2 : c ≤ 7) (hy1 : 0 ≤ y) (hy2 : y ≤ 5001) (n1 : -100000000 ≤ n) (n2 : n ≤ 100000000) (m2 : Mi σ c y ≤ mmx c) (h3 : -100000000 ≤ yd) (h4 : yd ≤ 100000000) (mm : m ≤ Mi σ c y) (g0 : Ys σ c y + smI (fun j => Mls σ c y j yd) (m - 1) ≤ n) (g1 : n < Ys σ c y + smI (fun j => Mls σ c y j yd) m) (hb : ∀ j, 0 ≤ j → j ≤ Mi σ c y → -100000000 ≤ Ys σ c y + smI (fun j => Mls σ c y j yd) j ∧ Ys σ c y + smI (fun j => Mls σ c y j yd) j ≤ 100000000) (hm : ∀ j i, 0 ≤ j → j ≤ i → i ≤ Mi σ c y → smI (fun j => Mls σ c y j yd) j ≤ smI (fun j => Mls σ c y j yd) i) : ∀ (t : Nat) (x9 : Int), x9 + t = m → 1 ≤ x9 → out (WV k) (EV k (d + 2)) MX0_monthOf 64 [vR 1, vI c, vI n, vI y, vI s0, vI x5, vI yd, vI (Mi σ c y), vI (Ys σ c y + smI (fun j => Mls σ c y j yd) (x9 - 1)), vI x9] [] σ = ansI m σ := by
  have hmm : mmx c ≤ 53 := by unfold mmx; repeat' split; all_goals omega
  intro t
  induction t with
  | zero =>
    intro x9 e hx
    obtain rfl : x9 = m := by omega
    rw [bX0_monthOf_64]
    by_cases q : x9 < Mi σ c y
    · rw [if_pos (by simp (disch := omega) only [w32_id]; omega), X0_monthDays_ok k d hC h1 h2 hy1 hy2 hx (by omega) h3 h4]
      simp only [jbI_some]
      have s := smI_s (fun j => Mls σ c y j yd) (a := x9 - 1) (by omega)
      rw [show x9 - 1 + 1 = x9 by omega] at s
      have b := hb x9 (by omega) (by omega)
      rw [show Ys σ c y + smI (fun j => Mls σ c y j yd) (x9 - 1) + Mls σ c y x9 yd = Ys σ c y + smI (fun j => Mls σ c y j yd) x9 by omega]
      rw [if_pos (by simp (disch := omega) only [w32_id]; exact g1)]
    · rw [if_neg (by simp (disch := omega) only [w32_id]; omega)]
      exact ansI_c (by omega)
  | succ t ih =>
    intro x9 e hx
    rw [bX0_monthOf_64, if_pos (by simp (disch := omega) only [w32_id]; omega), X0_monthDays_ok k d hC h1 h2 hy1 hy2 hx (by omega) h3 h4]
    simp only [jbI_some]
    have s := smI_s (fun j => Mls σ c y j yd) (a := x9 - 1) (by omega)
    rw [show x9 - 1 + 1 = x9 by omega] at s
    have b := hb x9 (by omega) (by omega)
    have mo := hm x9 (m - 1) (by omega) (by omega) (by omega)
    rw [show Ys σ c y + smI (fun j => Mls σ c y j yd) (x9 - 1) + Mls σ c y x9 yd = Ys σ c y + smI (fun j => Mls σ c y j yd) x9 by omega]
    rw [if_neg (by simp (disch := omega) only [w32_id]; omega)]
    have := ih (x9 + 1) (by omega) (by omega)
    rw [show x9 + 1 - 1 = x9 by omega] at this
    exact this
theorem Ms_b {σ : St} (hC : CF σ) {c y m : Int} (h1 : 0 ≤ c) (h2 : c ≤ 7) (hn : c = 7 → 0 < σ 1 2) (hy1 : yfst c ≤ y) (hy2 : y ≤ ylst (σ 1 2) c) (m1 : 1 ≤ m) (m2 : m ≤ Mi σ c y) : -63 ≤ Ms σ c y m ∧ Ms σ c y m + Ml σ c y m ≤ 1900003 ∧ 1 ≤ Ml σ c y m ∧ Ml σ c y m ≤ 200 := by
  have hl := ylst_b (c := c) hC.1.1 hC.1.2
  have a := Ms_in hC h1 h2 hy1 hy2 m1 m2
  have hv := YV_of hy1 (show y ≤ 5000 by omega)
  have b1 := Ys_b hC h1 h2 hv.1 hn
  have b2 := Ys_b hC h1 h2 hv.2 hn
  obtain ⟨k1, k2, k3, k4, k5⟩ := KF_all hC h1 h2 hy1 hy2
  have := k3 m m1 m2
  omega
theorem X0_monthOf_ok (k : Nat × (Int → Int)) (d : Nat) {σ : St} (hC : CF σ) {c n y m dd : Int} (h1 : 0 ≤ c) (h2 : c ≤ 7) (hn : c = 7 → 0 < σ 1 2) (n1 : -100000000 ≤ n) (n2 : n ≤ 100000000) (hD : IsD σ c n y m dd) : EV k (d + 4) mX0_monthOf [vR 1, vI c, vI n] σ = ansI m σ := by
  have hY := hD.isY hC h1 h2
  have hr := hD.year hC h1 h2
  obtain ⟨a1, a2, a3, a4, a5, a6, a7⟩ := hD
  have hf := yfst_b c
  have hl := ylst_b (c := c) hC.1.1 hC.1.2
  have hv := YV_of a1 (show y ≤ 5000 by omega)
  have b1 := Ys_b hC h1 h2 hv.1 hn
  have b2 := Ys_b hC h1 h2 hv.2 hn
  obtain ⟨k1, k2, k3, k4, k5⟩ := KF_all hC h1 h2 a1 a2
  have hmm : mmx c ≤ 53 := by unfold mmx; repeat' split; all_goals omega
  rw [eX0_monthOf, bX0_monthOf_0, X0_yearOf_ok k d hC h1 h2 hn n1 n2 hY]
  simp only [jbI_some]
  rw [X0_yearStart_ok k (d + 1) hC h1 h2 hv.1]
  simp only [jbI_some]
  rw [X0_evenMonthDays_ok k (d + 2) σ h1 h2]
  simp only [jbI_some]
  have hMs : Ms σ c y m = Ys σ c y + smI (Ml σ c y) (m - 1) := rfl
  by_cases c2 : c = 2
  · subst c2
    rw [if_pos (by decide), if_neg (by decide)]
    have hM : Mi σ 2 y = 13 := rfl
    have e : smI (Ml σ 2 y) (m - 1) = 30 * (m - 1) := by
      rw [smI_cong (g := fun _ => 30) (fun j j1 j2 => by simp [Ml, Mls, mln]; omega), smI_const 30 (by omega)]
    have el : Ml σ 2 y m ≤ 30 := by
      have : Ys σ 2 (y + 1) - Ys σ 2 y ≤ 366 := by show 365 * (y + 1 - 1) + (y + 1) / 4 - (365 * (y - 1) + y / 4) ≤ 366; omega
      show (if m = 13 then Ys σ 2 (y + 1) - Ys σ 2 y - 360 else 30) ≤ 30
      split <;> omega
    refine ansI_c ?_
    show jq (n - Ys σ 2 y) 30 + 1 = m
    rw [jq_pos (by omega) (by omega) (by omega) (by omega)]
    omega
  by_cases c5 : c = 5
  · subst c5
    rw [if_pos (by decide), if_neg (by decide)]
    have e : smI (Ml σ 5 y) (m - 1) = 7 * (m - 1) := by
      rw [smI_cong (g := fun _ => 7) (fun j j1 j2 => by simp [Ml, Mls, mln]), smI_const 7 (by omega)]
    have el : Ml σ 5 y m = 7 := rfl
    refine ansI_c ?_
    show jq (n - Ys σ 5 y) 7 + 1 = m
    rw [jq_pos (by omega) (by omega) (by omega) (by omega)]
    omega
  by_cases c6 : c = 6
  · subst c6
    rw [if_pos (by decide), if_neg (by decide)]
    have e : smI (Ml σ 6 y) (m - 1) = 20 * (m - 1) := by
      rw [smI_cong (g := fun _ => 20) (fun j j1 j2 => by simp [Ml, Mls, mln]), smI_const 20 (by omega)]
    have el : Ml σ 6 y m = 20 := rfl
    refine ansI_c ?_
    show jq (n - Ys σ 6 y) 20 + 1 = m
    rw [jq_pos (by omega) (by omega) (by omega) (by omega)]
    omega
  · rw [if_neg c2, if_neg c5, if_neg c6, if_neg (by decide), X0_yearStart_ok k (d + 1) hC h1 h2 hv.2]
    simp only [jbI_some]
    rw [X0_monthsIn_M k d hC h1 h2 (by omega) (by omega)]
    simp only [jbI_some]
    have e := smI_s (Ml σ c y) (a := m - 1) (by omega)
    rw [show m - 1 + 1 = m by omega] at e
    have mono : ∀ j i, 0 ≤ j → j ≤ i → i ≤ Mi σ c y → smI (Ml σ c y) j ≤ smI (Ml σ c y) i := fun j i j0 j1 j2 => by
      have := smI_mono (f := Ml σ c y) j0 j1 (fun q q1 q2 => (k3 q (by omega) (by omega)).1)
      omega
    have := X0_monthOf_loop k (d + 1) hC (n := n) (m := m) (yd := Ys σ c (y + 1) - Ys σ c y) (s0 := Ys σ c y) (x5 := 0) h1 h2 (show 0 ≤ y by omega) (by omega) n1 n2 k2 (by omega) (by omega) a4 (show Ys σ c y + smI (Ml σ c y) (m - 1) ≤ n by omega) (show n < Ys σ c y + smI (Ml σ c y) m by omega) (fun j j1 j2 => by
      have q1 := mono 0 j (by omega) j1 j2
      have q2 := mono j (Mi σ c y) j1 j2 (by omega)
      rw [smI_0] at q1
      show -100000000 ≤ Ys σ c y + smI (Ml σ c y) j ∧ Ys σ c y + smI (Ml σ c y) j ≤ 100000000
      omega) mono (m - 1).toNat 1 (by omega) (by omega)
    rw [show (1 : Int) - 1 = 0 from rfl, smI_0, Int.add_zero] at this
    exact this
theorem X0_dayOf_ok (k : Nat × (Int → Int)) (d : Nat) {σ : St} (hC : CF σ) {c n y m dd : Int} (h1 : 0 ≤ c) (h2 : c ≤ 7) (hn : c = 7 → 0 < σ 1 2) (n1 : -100000000 ≤ n) (n2 : n ≤ 100000000) (hD : IsD σ c n y m dd) : EV k (d + 5) mX0_dayOf [vR 1, vI c, vI n] σ = ansI dd σ := by
  have hl := ylst_b (c := c) hC.1.1 hC.1.2
  obtain ⟨k1, k2, k3, k4, k5⟩ := KF_all hC h1 h2 hD.1 hD.2.1
  rw [eX0_dayOf, bX0_dayOf_0, X0_yearOf_ok k (d + 1) hC h1 h2 hn n1 n2 (hD.isY hC h1 h2)]
  simp only [jbI_some]
  rw [X0_monthOf_ok k d hC h1 h2 hn n1 n2 hD]
  simp only [jbI_some]
  obtain ⟨a1, a2, a3, a4, a5, a6, a7⟩ := hD
  rw [X0_monthStart_ok k (d + 1) hC h1 h2 a1 (by omega) hn a3 (by omega)]
  exact ansI_c (by rw [a7]; omega)
theorem X0_monthIndex_ok (k : Nat × (Int → Int)) (d : Nat) {σ : St} (hC : CF σ) {c n y m dd : Int} (h1 : 0 ≤ c) (h2 : c ≤ 7) (hn : c = 7 → 0 < σ 1 2) (n1 : -100000000 ≤ n) (n2 : n ≤ 100000000) (hD : IsD σ c n y m dd) : EV k (d + 5) mX0_monthIndex [vR 1, vI c, vI n] σ = ansI (mah (σ 1 2) c y + m - 1) σ := by
  have hl := ylst_b (c := c) hC.1.1 hC.1.2
  rw [eX0_monthIndex, bX0_monthIndex_0, X0_yearOf_ok k (d + 1) hC h1 h2 hn n1 n2 (hD.isY hC h1 h2)]
  simp only [jbI_some]
  rw [X0_monthsAhead_ok k (d + 1) hC h1 h2 hD.1 (by have := hD.2.1; omega)]
  simp only [jbI_some]
  rw [X0_monthOf_ok k d hC h1 h2 hn n1 n2 hD]
  rfl
/-- the day dd of month m of year y, or the last that it has -/
abbrev Cut (σ : St) (c y m dd : Int) : Int := Ms σ c y m + (if dd ≤ Ml σ c y m then dd else Ml σ c y m) - 1
theorem X0_dayInMonth_ok (k : Nat × (Int → Int)) (d : Nat) {σ : St} (hC : CF σ) {c y m dd : Int} (h1 : 0 ≤ c) (h2 : c ≤ 7) (hn : c = 7 → 0 < σ 1 2) (a1 : yfst c ≤ y) (a2 : y ≤ ylst (σ 1 2) c) (m1 : 1 ≤ m) (m2 : m ≤ Mi σ c y) (d1 : 1 ≤ dd) (d2 : dd ≤ 100000) : EV k (d + 5) mX0_dayInMonth [vR 1, vI c, vI (mah (σ 1 2) c y + m - 1), vI dd] σ = ansI (Cut σ c y m dd) σ := by
  have hl := ylst_b (c := c) hC.1.1 hC.1.2
  obtain ⟨k1, k2, k3, k4, k5⟩ := KF_all hC h1 h2 a1 a2
  have hb := Ms_b hC h1 h2 hn a1 a2 m1 m2
  have hmm : mmx c ≤ 53 := by unfold mmx; repeat' split; all_goals omega
  have hm0 := mah_0 (σ 1 2) c h1 h2 hC.1.1
  have hm1 := mah_mono hC h1 h2 (a := yfst c) (b := y) (by omega) a1 (by omega)
  have hm2 : mah (σ 1 2) c y ≤ 300000 := by
    have w := wks_b (y := y) (by have := yfst_b c; omega) (by omega)
    have := hC.1
    unfold mah
    repeat' split
    all_goals omega
  rw [eX0_dayInMonth, bX0_dayInMonth_0, X0_yearOfMonth_ok k d hC h1 h2 (by omega) (by omega) a1 a2 (by omega) (by omega)]
  simp only [jbI_some]
  rw [X0_monthsAhead_ok k (d + 1) hC h1 h2 a1 (by omega)]
  simp only [jbI_some]
  rw [show mah (σ 1 2) c y + m - 1 - mah (σ 1 2) c y + 1 = m by omega, X0_daysInMonth_ok k (d + 1) hC h1 h2 a1 (by omega) hn m1 (by omega)]
  simp only [jbI_some]
  rw [J9_min_ok k (d + 3) σ (by omega) (by omega) (by omega) (by omega)]
  simp only [jbI_some]
  rw [X0_monthStart_ok k (d + 1) hC h1 h2 a1 (by omega) hn m1 (by omega)]
  rfl
theorem X0_anniversary_ok (k : Nat × (Int → Int)) (d : Nat) {σ : St} (hC : CF σ) {c n y m dd y2 : Int} (h1 : 0 ≤ c) (h2 : c ≤ 7) (hn : c = 7 → 0 < σ 1 2) (n1 : -100000000 ≤ n) (n2 : n ≤ 100000000) (hD : IsD σ c n y m dd) (a1 : yfst c ≤ y2) (a2 : y2 ≤ ylst (σ 1 2) c) : EV k (d + 6) mX0_anniversary [vR 1, vI c, vI n, vI y2] σ = ansI (Cut σ c y2 (if m ≤ Mi σ c y2 then m else Mi σ c y2) dd) σ := by
  have hl := ylst_b (c := c) hC.1.1 hC.1.2
  obtain ⟨k1, k2, k3, k4, k5⟩ := KF_all hC h1 h2 a1 a2
  obtain ⟨q1, q2, q3, q4, q5⟩ := KF_all hC h1 h2 hD.1 hD.2.1
  have hmm : mmx c ≤ 53 := by unfold mmx; repeat' split; all_goals omega
  have hdd := q3 m hD.2.2.1 hD.2.2.2.1
  have hd6 := hD.2.2.2.2
  have hm1 := hD.2.2.1
  have hm2 := hD.2.2.2.1
  have hf := yfst_b c
  rw [eX0_anniversary, bX0_anniversary_0, X0_monthOf_ok k (d + 1) hC h1 h2 hn n1 n2 hD]
  simp only [jbI_some]
  rw [X0_monthsIn_M k (d + 2) hC h1 h2 (by omega) (by omega)]
  simp only [jbI_some]
  rw [J9_min_ok k (d + 4) σ (by omega) (by omega) (by omega) (by omega)]
  simp only [jbI_some]
  generalize hmq : (if m ≤ Mi σ c y2 then m else Mi σ c y2) = mq
  have b1 : 1 ≤ mq ∧ mq ≤ Mi σ c y2 := by rw [← hmq]; split <;> omega
  have hb := Ms_b hC h1 h2 hn a1 a2 b1.1 b1.2
  rw [X0_dayOf_ok k d hC h1 h2 hn n1 n2 hD]
  simp only [jbI_some]
  rw [X0_daysInMonth_ok k (d + 2) hC h1 h2 a1 (by omega) hn b1.1 (by omega)]
  simp only [jbI_some]
  rw [J9_min_ok k (d + 4) σ (by omega) (by omega) (by omega) (by omega)]
  simp only [jbI_some]
  rw [X0_monthStart_ok k (d + 2) hC h1 h2 a1 (by omega) hn b1.1 (by omega)]
  rfl
