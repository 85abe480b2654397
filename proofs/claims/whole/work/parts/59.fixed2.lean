
def dyn (n : Int) : Int := if 0 ≤ n ∧ n ≤ 1500000 then n else -2
theorem fxs_or (σ : St) (c m dd f l : Int) : ∀ (t : Nat) (Y : Int), fxs σ c m dd f l t Y = -2 ∨ ∃ Z, Y ≤ Z ∧ fgd σ c m dd f l Z ∧ fxs σ c m dd f l t Y = Ms σ c Z m + dd - 1 := by
  intro t
  induction t with
  | zero => intro Y; exact Or.inl rfl
  | succ t ih =>
    intro Y
    rw [fxs_s]
    by_cases g : fgd σ c m dd f l Y
    · rw [if_pos g]
      exact Or.inr ⟨Y, by omega, g, rfl⟩
    · rw [if_neg g]
      rcases ih (Y + 1) with q | ⟨Z, z1, z2, z3⟩
      · exact Or.inl q
      · exact Or.inr ⟨Z, by omega, z2, z3⟩
theorem yf_0 {σ : St} (hC : CF σ) {c yf : Int} (h1 : 0 ≤ c) (h2 : c ≤ 6) (hy : IsY σ c 0 yf) : yf = yfst c := by
  have hl : ylst (σ 1 2) c = 5000 := by unfold ylst; rw [if_neg (by omega)]
  have hf := yfst_b c
  have hy1 := hy.1
  have hy2 := hy.2.1
  apply Decidable.byContradiction
  intro z
  have y1 := hy.2.2.1
  have st := len353 σ h1 h2 (Y := yfst c) (by omega) (by omega)
  have mo := Ys_mono hC h1 (by omega) (a := yfst c + 1) (b := yf) (by omega) (by omega) (by omega)
  have hb := Ys_b hC h1 (by omega) (show YV c (yfst c) from ⟨by omega, by omega, fun _ => by omega⟩) (fun _ => by omega)
  omega
theorem Ys_neg {σ : St} (hC : CF σ) {c Y : Int} (h1 : 0 ≤ c) (h2 : c ≤ 6) (hc : c = 2 ∨ c = 3 ∨ c = 4 ∨ c = 6) (y1 : yfst c ≤ Y) (y2 : Y ≤ 5000) : 0 ≤ Ys σ c Y := by
  have hl : ylst (σ 1 2) c = 5000 := by unfold ylst; rw [if_neg (by omega)]
  have mo := Ys_mono hC h1 (by omega) (a := yfst c) (b := Y) (by omega) (by omega) (by omega)
  have : 0 ≤ Ys σ c (yfst c) := by
    rcases hc with e | e | e | e <;> subst e
    · show (0 : Int) ≤ 365 * (1 - 1) + 1 / 4; omega
    · show (0 : Int) ≤ 354 * (1 - 1) + (11 * 1 + 3) / 30; omega
    · have := cys_b (y := 1) (by omega) (by omega)
      show 0 ≤ cys 1
      omega
    · show (0 : Int) ≤ 360 * 0; omega
  omega
theorem fx_year0 {σ : St} (hC : CF σ) {c m dd Z Y0 : Int} (h1 : 0 ≤ c) (h2 : c ≤ 6) (m1 : 1 ≤ m) (d1 : 1 ≤ dd) (z1 : yfst c ≤ Z) (zy : Z < Y0) (y2 : Y0 ≤ 5000) (mz : m ≤ Mi σ c Z) (my : m ≤ Mi σ c Y0) (a1 : -60 ≤ Ms σ c Z m + dd - 1) (a2 : Ms σ c Z m + dd - 1 < 0) (a3 : Ms σ c Y0 m + dd - 1 ≤ 305) : False := by
  have hl : ylst (σ 1 2) c = 5000 := by unfold ylst; rw [if_neg (by omega)]
  have hf := yfst_b c
  have miZ := Ms_in hC h1 (by omega) z1 (by omega) m1 mz
  have miY := Ms_in hC h1 (by omega) (y := Y0) (by omega) (by omega) m1 my
  have hc : (c = 2 ∨ c = 3 ∨ c = 4 ∨ c = 6) ∨ c = 0 ∨ c = 1 ∨ c = 5 := by omega
  rcases hc with hc | e | e | e
  · have := Ys_neg hC h1 h2 hc z1 (by omega)
    omega
  · subst e
    have mo := Ys_mono hC (c := 0) (by omega) (by omega) (a := 1) (b := Y0) (by decide) (by omega) (by omega)
    have : Ys σ 0 1 = 306 := by show greg 1 - 60 = 306; decide
    omega
  · subst e
    have y0 : Ys σ 1 0 = -62 := by show juln 0 - 62 = -62; decide
    have y1 : Ys σ 1 1 = 304 := by show juln 1 - 62 = 304; decide
    have z1' : 0 ≤ Z := z1
    have Z0 : Z = 0 := by
      apply Decidable.byContradiction
      intro q
      have mo := Ys_mono hC (c := 1) (by omega) (by omega) (a := 1) (b := Z) (by decide) (by omega) (by omega)
      omega
    subst Z0
    have mo := Ys_mono hC (c := 1) (by omega) (by omega) (a := 1) (b := Y0) (by decide) (by omega) (by omega)
    have eZ : Ms σ 1 0 m = Ys σ 1 0 + smI (Ml σ 1 0) (m - 1) := rfl
    have eY : Ms σ 1 Y0 m = Ys σ 1 Y0 + smI (Ml σ 1 Y0) (m - 1) := rfl
    by_cases q : m = 1
    · subst q
      rw [show (1 : Int) - 1 = 0 by omega, smI_0] at eZ eY
      omega
    · have kk := KF_all hC (c := 1) (y := Y0) (by omega) (by omega) (by show (0 : Int) ≤ Y0; omega) (by omega)
      have sm := smI_mono (f := Ml σ 1 Y0) (a := 1) (b := m - 1) (by omega) (by omega) (fun j j1 j2 => (kk.2.2.1 j (by omega) (by omega)).1)
      have s1 := smI_s (Ml σ 1 Y0) (a := 0) (by omega)
      rw [smI_0, show (0 : Int) + 1 = 1 by omega] at s1
      have l1 : Ml σ 1 Y0 1 = 31 := by
        show sunL 1 (Ys σ 1 (Y0 + 1) - Ys σ 1 Y0) = 31
        rw [sunL_tab (by omega) (by omega), if_neg (by decide), if_neg (by decide)]
      omega
  · subst e
    have mo := Ys_mono hC (c := 5) (by omega) (by omega) (a := 1) (b := Y0) (by decide) (by omega) (by omega)
    have : Ys σ 5 1 = 308 := by rw [Ys5]; decide
    omega
theorem X9_fixed_ok (k : Nat × (Int → Int)) (d : Nat) {σ : St} (hC : CF σ) (hM : MR σ) {c m dd y : Int} (h1 : 0 ≤ c) (h2 : c ≤ 6) (m1 : 1 ≤ m) (m2 : m ≤ 53) (d1 : 1 ≤ dd) (d2 : dd ≤ 200) (y1 : 0 ≤ y) (y2 : y ≤ 5000) : ∃ v, EV k (d + 7) mX9_fixed [vR 33, vI y, vI m, vI dd, vI c] σ = ansI v σ ∧ -1000 ≤ v ∧ v ≤ 2000000 ∧ dyn v = FXd σ c m dd y := by
  have hl : ylst (σ 1 2) c = 5000 := by unfold ylst; rw [if_neg (by omega)]
  have hf := yfst_b c
  have hv := YV_of (c := 0) (y := y) y1 y2
  have fb := fd_b hC y1 y2
  obtain ⟨yf, hyf⟩ := exY hC h1 (by omega) (by omega) (fdI σ y)
  obtain ⟨yl, hyl⟩ := exY hC h1 (by omega) (by omega) (ldI σ y)
  obtain ⟨low, near⟩ := FXd_mid hC h1 h2 m1 d1 y1 y2 hyf hyl
  have p1 := hyf.1
  have p2 := hyf.2.1
  have ev : EV k (d + 7) mX9_fixed [vR 33, vI y, vI m, vI dd, vI c] σ = ansI (fxs σ c m dd (Ys σ 0 y) (Ys σ 0 (y + 1) - 1) 4 yf) σ := by
    rw [eX9_fixed, bX9_fixed_0, X9_start_ok k (d + 2) σ (by omega) (by omega) hv.1, jbI_some, X9_start_ok k (d + 2) σ (by omega) (by omega) hv.2, jbI_some, w32_id (a := Ys σ 0 y) (by omega) (by omega)]
    by_cases q : 0 < Ys σ 0 y
    · have ef : fdI σ y = Ys σ 0 y := by unfold fdI; rw [if_neg (by omega)]
      rw [ef] at hyf
      rw [if_pos q, X9_yearOf_ok k (d + 1) hC h1 h2 (by omega) (by omega) hyf, jbI_some]
      exact X9_fixed_loop k d hC hM h1 h2 m1 m2 d1 d2 (by omega) (by omega) (by omega) (by omega) (by omega) (by omega) 4 yf vU p1 rfl
    · have ef : fdI σ y = 0 := by unfold fdI; rw [if_pos (by omega)]
      rw [ef] at hyf
      have e0 := yf_0 hC h1 h2 hyf
      rw [if_neg q, X9_firstYear_ok k (d + 5) σ h1 (by omega), jbI_some, ← e0]
      exact X9_fixed_loop k d hC hM h1 h2 m1 m2 d1 d2 (by omega) (by omega) (by omega) (by omega) (by omega) (by omega) 4 yf vU p1 rfl
  refine ⟨_, ev, ?_⟩
  rcases FXd_case (σ := σ) (c := c) (m := m) (dd := dd) (y := y) with ⟨Y0, a1, a2, a3, a4⟩ | ⟨a1, a2⟩
  · have lw := low Y0 a1 a2
    obtain ⟨g0, g1, g2, g3, g4⟩ := id a2
    have nr := near (by omega)
    have good : fgd σ c m dd (Ys σ 0 y) (Ys σ 0 (y + 1) - 1) Y0 := ⟨g0, g1, g2, by omega, by omega⟩
    have none : ∀ Z, yf ≤ Z → Z < Y0 → ¬ fgd σ c m dd (Ys σ 0 y) (Ys σ 0 (y + 1) - 1) Z := by
      intro Z z1 z2 g
      obtain ⟨e0, e1, e2, e3, e4⟩ := g
      have ng := a3 Z (by omega) z2
      have miZ := Ms_in hC h1 (by omega) (y := Z) (by omega) (by omega) m1 e1
      have miY := Ms_in hC h1 (by omega) (y := Y0) (by omega) (by omega) m1 g1
      have mo := Ys_mono hC h1 (by omega) (a := Z + 1) (b := Y0) (by omega) (by omega) (by omega)
      have lt : Ms σ c Z m + dd - 1 < fdI σ y := Decidable.byContradiction fun q => ng ⟨e0, e1, e2, by omega, by omega⟩
      have f0 : fdI σ y = 0 := by omega
      have yz : y = 0 := by
        have : greg y - 60 < 0 := by
          show Ys σ 0 y < 0
          omega
        have : 365 * y ≤ greg y := by unfold greg; omega
        omega
      subst yz
      have q0 : Ys σ 0 (0 + 1) = 306 := by show greg (0 + 1) - 60 = 306; decide
      exact fx_year0 hC h1 h2 m1 d1 (by omega) z2 g0 e1 g1 (by omega) (by omega) (by omega)
    have r := fxs_yes σ c m dd (Ys σ 0 y) (Ys σ 0 (y + 1) - 1) (Y0 - yf).toNat 4 yf Y0 (by omega) (by omega) good none
    rw [r, a4]
    refine ⟨by omega, by omega, ?_⟩
    unfold dyn
    rw [if_pos ⟨by omega, by omega⟩]
  · rw [a2]
    rcases fxs_or σ c m dd (Ys σ 0 y) (Ys σ 0 (y + 1) - 1) 4 yf with q | ⟨Z, z1, z2, z3⟩
    · rw [q]
      exact ⟨by omega, by omega, by decide⟩
    · obtain ⟨e0, e1, e2, e3, e4⟩ := z2
      have ng := a1 Z (by omega)
      rw [z3]
      refine ⟨by omega, by omega, ?_⟩
      unfold dyn
      rw [if_neg]
      intro w
      exact ng ⟨e0, e1, e2, by omega, by omega⟩
noncomputable def WKd (σ : St) (m w q y : Int) : Int := if q = -1 then (if (w - Ms σ 0 y m) % 7 + 28 < Ml σ 0 y m then Ms σ 0 y m + (w - Ms σ 0 y m) % 7 + 28 else Ms σ 0 y m + (w - Ms σ 0 y m) % 7 + 21) else if (w - Ms σ 0 y m) % 7 + 7 * (q - 1) < Ml σ 0 y m then Ms σ 0 y m + (w - Ms σ 0 y m) % 7 + 7 * (q - 1) else -2
theorem sun_b {σ : St} (hC : CF σ) {m y : Int} (m1 : 1 ≤ m) (m2 : m ≤ 12) (y1 : 0 ≤ y) (y2 : y ≤ 5000) : -63 ≤ Ms σ 0 y m ∧ Ms σ 0 y m ≤ 1900003 ∧ 28 ≤ Ml σ 0 y m ∧ Ml σ 0 y m ≤ 31 := by
  have bb := Ms_b hC (c := 0) (y := y) (m := m) (by omega) (by omega) (fun _ => by omega) y1 y2 m1 m2
  have gl := greg_len y
  have e : Ml σ 0 y m = sunL m (Ys σ 0 (y + 1) - Ys σ 0 y) := rfl
  have e2 : Ys σ 0 (y + 1) - Ys σ 0 y = greg (y + 1) - 60 - (greg y - 60) := rfl
  rw [sunL_tab m1 m2] at e
  refine ⟨by omega, by omega, ?_, ?_⟩
  · rw [e]; repeat' split
    all_goals omega
  · rw [e]; repeat' split
    all_goals omega
theorem X2_weekdayDay_ok (k : Nat × (Int → Int)) (d : Nat) {σ : St} (hC : CF σ) {m w q y : Int} (m1 : 1 ≤ m) (m2 : m ≤ 12) (w1 : 0 ≤ w) (w2 : w ≤ 6) (q1 : -1 ≤ q) (q2 : q ≤ 5) (y1 : 0 ≤ y) (y2 : y ≤ 5000) : EV k (d + 4) mX2_weekdayDay [vR 3, vI m, vI w, vI q, vI y] σ = ansI (WKd σ m w q y) σ := by
  have sb := sun_b hC m1 m2 y1 y2
  rw [eX2_weekdayDay, bX2_weekdayDay_0, X0_monthStart_ok k d hC (by omega) (by omega) (show yfst 0 ≤ y from y1) y2 (fun _ => by omega) m1 m2, jbI_some, X0_daysInMonth_ok k d hC (by omega) (by omega) (show yfst 0 ≤ y from y1) y2 (fun _ => by omega) m1 m2, jbI_some, J9_floorMod_ok k (d + 2) σ (by omega) (by omega) (by omega) (by omega), jbI_some]
  rw [w32_id (a := q) (by omega) (by omega), show w32 (-1) = -1 by decide, w32_id (a := Ms σ 0 y m + (w - Ms σ 0 y m) % 7 + 28) (by omega) (by omega), w32_id (a := Ms σ 0 y m + Ml σ 0 y m) (by omega) (by omega), w32_id (a := Ms σ 0 y m + (w - Ms σ 0 y m) % 7 + 7 * (q - 1)) (by omega) (by omega)]
  unfold WKd
  by_cases g : q = -1
  · rw [if_pos g, if_pos g]
    by_cases z : (w - Ms σ 0 y m) % 7 + 28 < Ml σ 0 y m
    · rw [if_pos z, if_pos (by omega)]
    · rw [if_neg z, if_neg (by omega)]
  · rw [if_neg g, if_neg g]
    by_cases z : (w - Ms σ 0 y m) % 7 + 7 * (q - 1) < Ml σ 0 y m
    · rw [if_pos z, if_pos (by omega)]
    · rw [if_neg z, if_neg (by omega)]
theorem X9_weekday_loop (k : Nat × (Int → Int)) (d : Nat) {σ : St} {x1 x2 x3 x4 x5 x6 x8 : Int} (h5 : -100 ≤ x5) (h5b : x5 ≤ 1900003) (h6 : 28 ≤ x6) (h6b : x6 ≤ 31) : ∀ (t : Nat) (x : Int), 0 ≤ x → x + 7 * t ≤ 34 → 28 ≤ x + 7 * t → ∃ z, out (WV k) (EV k d) MX9_weekday 39 [vR 33, vI x1, vI x2, vI x3, vI x4, vI x5, vI x6, vI x, vI x8] [] σ = ansI (x5 + z) σ ∧ z % 7 = x % 7 ∧ x6 ≤ z + 7 ∧ (z < x6 ∨ z = x) := by
  intro t
  induction t with
  | zero =>
    intro x a b c
    refine ⟨x, ?_, rfl, by omega, Or.inr rfl⟩
    rw [bX9_weekday_39, if_neg (by rw [w32_id (by omega) (by omega), w32_id (by omega) (by omega)]; omega)]
  | succ t ih =>
    intro x a b c
    push_cast at b c
    rw [bX9_weekday_39, w32_id (a := x + 7) (by omega) (by omega), w32_id (a := x6) (by omega) (by omega)]
    by_cases q : x + 7 < x6
    · obtain ⟨z, z1, z2, z3, z4⟩ := ih (x + 7) (by omega) (by omega) (by omega)
      rw [if_pos q]
      exact ⟨z, z1, by omega, z3, Or.inl (by omega)⟩
    · rw [if_neg q]
      exact ⟨x, rfl, rfl, by omega, Or.inr rfl⟩
theorem X9_weekday_ok (k : Nat × (Int → Int)) (d : Nat) {σ : St} (hC : CF σ) (hM : MR σ) {m w q y : Int} (m1 : 1 ≤ m) (m2 : m ≤ 12) (w1 : 0 ≤ w) (w2 : w ≤ 6) (q1 : -1 ≤ q) (q2 : q ≤ 5) (y1 : 0 ≤ y) (y2 : y ≤ 5000) : EV k (d + 7) mX9_weekday [vR 33, vI y, vI m, vI w, vI q] σ = ansI (WKd σ m w q y) σ := by
  have sb := sun_b hC m1 m2 y1 y2
  rw [eX9_weekday, bX9_weekday_0, X9_monthStart_ok k d hC hM (by omega) (by omega) (show yfst 0 ≤ y from y1) (show y ≤ ylst (σ 1 2) 0 from y2) m1 m2, jbI_some, X9_lengthOf_ok k (d + 1) hC hM (by omega) (by omega) (show yfst 0 ≤ y from y1) (show y ≤ ylst (σ 1 2) 0 from y2) m1 m2, jbI_some, X9_rest_ok k (d + 5) σ (by omega) (by omega) (by omega) (by omega), jbI_some]
  rw [w32_id (a := q) (by omega) (by omega), show w32 (-1) = -1 by decide, w32_id (a := Ml σ 0 y m) (by omega) (by omega), w32_id (a := (w - Ms σ 0 y m) % 7 + 7 * (q - 1)) (by omega) (by omega)]
  unfold WKd
  by_cases g : q = -1
  · rw [if_pos g, if_pos g]
    obtain ⟨z, z1, z2, z3, z4⟩ := X9_weekday_loop k (d + 6) (σ := σ) (x1 := y) (x2 := m) (x3 := w) (x4 := q) (x5 := Ms σ 0 y m) (x6 := Ml σ 0 y m) (x8 := -2) (by omega) (by omega) (by omega) (by omega) 4 ((w - Ms σ 0 y m) % 7) (by omega) (by omega) (by omega)
    rw [z1]
    by_cases v : (w - Ms σ 0 y m) % 7 + 28 < Ml σ 0 y m
    · rw [if_pos v]
      exact ansI_c (by omega)
    · rw [if_neg v]
      exact ansI_c (by omega)
  · rw [if_neg g, if_neg g]
    by_cases z : (w - Ms σ 0 y m) % 7 + 7 * (q - 1) < Ml σ 0 y m
    · rw [if_pos z, if_pos z]
      exact ansI_c (by omega)
    · rw [if_neg z, if_neg z]
