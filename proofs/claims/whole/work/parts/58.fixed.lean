
abbrev fgd (σ : St) (c m dd f l Y : Int) : Prop := Y ≤ 5000 ∧ m ≤ Mi σ c Y ∧ dd ≤ Ml σ c Y m ∧ f ≤ Ms σ c Y m + dd - 1 ∧ Ms σ c Y m + dd - 1 ≤ l
noncomputable def fxs (σ : St) (c m dd f l : Int) : Nat → Int → Int
  | 0, _ => -2
  | t + 1, Y => if fgd σ c m dd f l Y then Ms σ c Y m + dd - 1 else fxs σ c m dd f l t (Y + 1)
theorem fxs_s (σ : St) (c m dd f l : Int) (t : Nat) (Y : Int) : fxs σ c m dd f l (t + 1) Y = if fgd σ c m dd f l Y then Ms σ c Y m + dd - 1 else fxs σ c m dd f l t (Y + 1) := rfl
theorem fxs_yes (σ : St) (c m dd f l : Int) : ∀ (n t : Nat) (Y Y0 : Int), n < t → Y + n = Y0 → fgd σ c m dd f l Y0 → (∀ Z, Y ≤ Z → Z < Y0 → ¬ fgd σ c m dd f l Z) → fxs σ c m dd f l t Y = Ms σ c Y0 m + dd - 1 := by
  intro n
  induction n with
  | zero =>
    intro t Y Y0 h1 h2 h3 h4
    obtain ⟨u, e⟩ : ∃ u, t = u + 1 := ⟨t - 1, by omega⟩
    have ey : Y = Y0 := by simpa using h2
    subst ey
    subst e
    rw [fxs_s, if_pos h3]
  | succ n ih =>
    intro t Y Y0 h1 h2 h3 h4
    push_cast at h2
    obtain ⟨u, e⟩ : ∃ u, t = u + 1 := ⟨t - 1, by omega⟩
    subst e
    rw [fxs_s, if_neg (h4 Y (by omega) (by omega))]
    exact ih u (Y + 1) Y0 (by omega) (by omega) h3 (fun Z z1 z2 => h4 Z (by omega) z2)
theorem fxs_no (σ : St) (c m dd f l : Int) : ∀ (t : Nat) (Y : Int), (∀ Z, Y ≤ Z → Z < Y + t → ¬ fgd σ c m dd f l Z) → fxs σ c m dd f l t Y = -2 := by
  intro t
  induction t with
  | zero => intro Y _; rfl
  | succ t ih =>
    intro Y h
    rw [fxs_s, if_neg (h Y (by omega) (by push_cast; omega))]
    exact ih (Y + 1) (fun Z z1 z2 => h Z (by omega) (by push_cast; omega))
noncomputable def fdI (σ : St) (y : Int) : Int := if Ys σ 0 y ≤ 0 then 0 else Ys σ 0 y
noncomputable def ldI (σ : St) (y : Int) : Int := if 1500000 ≤ Ys σ 0 (y + 1) - 1 then 1500000 else Ys σ 0 (y + 1) - 1
noncomputable def FXd (σ : St) (c m dd y : Int) : Int := fxs σ c m dd (fdI σ y) (ldI σ y) (5001 - yfst c).toNat (yfst c)
theorem mmx_c (c : Int) : mmx c ≤ 53 := by unfold mmx; repeat' split; all_goals omega
theorem X2_fixed_loop (k : Nat × (Int → Int)) (d : Nat) {σ : St} (hC : CF σ) {c m dd f l v y : Int} (h1 : 0 ≤ c) (h2 : c ≤ 6) (m1 : 1 ≤ m) (m2 : m ≤ 53) (d1 : 1 ≤ dd) (d2 : dd ≤ 200) (f1 : -100 ≤ f) (f2 : f ≤ 1900003) (l1 : -100 ≤ l) (l2 : l ≤ 1900003) (v2 : v ≤ 5000) : ∀ (t : Nat) (o : Int) (u : PV), yfst c ≤ o → o + t = v + 1 → out (WV k) (EV k (d + 3)) MX2_fixedDay 56 [vR 3, vI c, vI m, vI dd, vI y, vI f, vI l, vI v, vI o, u] [] σ = ansI (fxs σ c m dd f l t o) σ := by
  have hl : ylst (σ 1 2) c = 5000 := by unfold ylst; rw [if_neg (by omega)]
  have hf := yfst_b c
  have hp : c = 7 → 0 < σ 1 2 := fun e => by omega
  intro t
  induction t with
  | zero =>
    intro o u o1 o2
    rw [bX2_fixedDay_56, if_pos (by simp (disch := omega) only [w32_id]; omega)]
    rfl
  | succ t ih =>
    intro o u o1 o2
    push_cast at o2
    have kk := KF_all hC h1 (by omega) o1 (by omega)
    have k2 := kk.2.1
    have k1 := kk.1
    have hm := mmx_c c
    have nx : ∀ u : PV, out (WV k) (EV k (d + 3)) MX2_fixedDay 56 [vR 3, vI c, vI m, vI dd, vI y, vI f, vI l, vI v, vI (o + 1), u] [] σ = ansI (fxs σ c m dd f l t (o + 1)) σ := fun u => ih (o + 1) u (by omega) (by omega)
    rw [bX2_fixedDay_56, if_neg (by simp (disch := omega) only [w32_id]; omega), X0_monthsIn_M k d hC h1 (by omega) (by omega) (by omega), jbI_some, w32_id (a := Mi σ c o) (by omega) (by omega), w32_id (a := m) (by omega) (by omega), fxs_s]
    by_cases q1 : Mi σ c o < m
    · rw [if_pos q1, nx, if_neg (fun z => by have := z.2.1; omega)]
    · have bb := Ms_b hC h1 (by omega) hp o1 (by omega) m1 (show m ≤ Mi σ c o by omega)
      rw [if_neg q1, X0_daysInMonth_ok k d hC h1 (by omega) o1 (by omega) hp m1 (by omega), jbI_some, w32_id (a := Ml σ c o m) (by omega) (by omega), w32_id (a := dd) (by omega) (by omega)]
      by_cases q2 : Ml σ c o m < dd
      · rw [if_pos q2, nx, if_neg (fun z => by have := z.2.2.1; omega)]
      · rw [if_neg q2, X0_monthStart_ok k d hC h1 (by omega) o1 (by omega) hp m1 (by omega), jbI_some, w32_id (a := Ms σ c o m + dd - 1) (by omega) (by omega), w32_id (a := f) (by omega) (by omega), w32_id (a := l) (by omega) (by omega)]
        by_cases q3 : Ms σ c o m + dd - 1 < f
        · rw [if_pos q3, nx, if_neg (fun z => by have := z.2.2.2.1; omega)]
        · rw [if_neg q3]
          by_cases q4 : l < Ms σ c o m + dd - 1
          · rw [if_pos q4, nx, if_neg (fun z => by have := z.2.2.2.2; omega)]
          · rw [if_neg q4, if_pos ⟨by omega, by omega, by omega, by omega, by omega⟩]
theorem X9_fixed_loop (k : Nat × (Int → Int)) (d : Nat) {σ : St} (hC : CF σ) (hM : MR σ) {c m dd f l s y : Int} (h1 : 0 ≤ c) (h2 : c ≤ 6) (m1 : 1 ≤ m) (m2 : m ≤ 53) (d1 : 1 ≤ dd) (d2 : dd ≤ 200) (f1 : -100 ≤ f) (f2 : f ≤ 1900003) (l1 : -100 ≤ l) (l2 : l ≤ 1900003) (s1 : 0 ≤ s) (s2 : s ≤ 5000) : ∀ (t : Nat) (o : Int) (u : PV), yfst c ≤ o → o + t = s + 4 → out (WV k) (EV k (d + 6)) MX9_fixed 44 [vR 33, vI y, vI m, vI dd, vI c, vI f, vI l, vI s, vI o, u] [] σ = ansI (fxs σ c m dd f l t o) σ := by
  have hl : ylst (σ 1 2) c = 5000 := by unfold ylst; rw [if_neg (by omega)]
  have hf := yfst_b c
  have hp : c = 7 → 0 < σ 1 2 := fun e => by omega
  intro t
  induction t with
  | zero =>
    intro o u o1 o2
    rw [bX9_fixed_44, if_neg (by simp (disch := omega) only [w32_id]; omega)]
    rfl
  | succ t ih =>
    intro o u o1 o2
    push_cast at o2
    have nx : ∀ u : PV, out (WV k) (EV k (d + 6)) MX9_fixed 44 [vR 33, vI y, vI m, vI dd, vI c, vI f, vI l, vI s, vI (o + 1), u] [] σ = ansI (fxs σ c m dd f l t (o + 1)) σ := fun u => ih (o + 1) u (by omega) (by omega)
    rw [bX9_fixed_44, if_pos (by simp (disch := omega) only [w32_id]; omega), X9_isMonth_ok k d hC hM h1 (by omega) (by omega) (by omega) (by omega) (by omega), jbI_some, ib, fxs_s]
    by_cases q1 : yfst c ≤ o ∧ o ≤ ylst (σ 1 2) c ∧ 1 ≤ m ∧ m ≤ Mi σ c o
    · have bb := Ms_b hC h1 (by omega) hp o1 (by omega) m1 q1.2.2.2
      rw [if_pos q1, X9_lengthOf_ok k (d + 1) hC hM h1 (by omega) o1 (by omega) m1 q1.2.2.2, jbI_some, w32_id (a := Ml σ c o m) (by omega) (by omega), w32_id (a := dd) (by omega) (by omega)]
      by_cases q2 : Ml σ c o m < dd
      · rw [if_pos q2, nx, if_neg (fun z => by have := z.2.2.1; omega)]
      · rw [if_neg q2, X9_monthStart_ok k d hC hM h1 (by omega) o1 (by omega) m1 q1.2.2.2, jbI_some, w32_id (a := Ms σ c o m + dd - 1) (by omega) (by omega), w32_id (a := f) (by omega) (by omega), w32_id (a := l) (by omega) (by omega)]
        by_cases q3 : Ms σ c o m + dd - 1 < f
        · rw [if_pos q3, nx, if_neg (fun z => by have := z.2.2.2.1; omega)]
        · rw [if_neg q3]
          by_cases q4 : l < Ms σ c o m + dd - 1
          · rw [if_pos q4, nx, if_neg (fun z => by have := z.2.2.2.2; omega)]
          · rw [if_neg q4, if_pos ⟨by omega, by omega, by omega, by omega, by omega⟩]
    · rw [if_neg q1, nx, if_neg (fun z => q1 ⟨o1, by have := z.1; omega, m1, z.2.1⟩)]
theorem fgd_in {σ : St} (hC : CF σ) {c m dd f l Y : Int} (h1 : 0 ≤ c) (h2 : c ≤ 6) (m1 : 1 ≤ m) (d1 : 1 ≤ dd) (y1 : yfst c ≤ Y) (g : fgd σ c m dd f l Y) : Ys σ c Y ≤ Ms σ c Y m + dd - 1 ∧ Ms σ c Y m + dd - 1 < Ys σ c (Y + 1) := by
  have hl : ylst (σ 1 2) c = 5000 := by unfold ylst; rw [if_neg (by omega)]
  obtain ⟨g0, g1, g2, g3, g4⟩ := g
  have mi := Ms_in hC h1 (by omega) y1 (by omega) m1 g1
  omega
theorem fd_b {σ : St} (hC : CF σ) {y : Int} (y1 : 0 ≤ y) (y2 : y ≤ 5000) : 0 ≤ fdI σ y ∧ Ys σ 0 y ≤ fdI σ y ∧ (fdI σ y = 0 ∨ fdI σ y = Ys σ 0 y) ∧ fdI σ y ≤ 1900003 ∧ ldI σ y ≤ 1500000 ∧ ldI σ y ≤ Ys σ 0 (y + 1) - 1 ∧ (ldI σ y = 1500000 ∨ ldI σ y = Ys σ 0 (y + 1) - 1) ∧ 0 ≤ ldI σ y ∧ ldI σ y ≤ fdI σ y + 365 ∧ -60 ≤ Ys σ 0 y ∧ Ys σ 0 (y + 1) ≤ 1900003 := by
  have hv := YV_of (c := 0) (y := y) y1 y2
  have b1 := Ys_b hC (c := 0) (by omega) (by omega) hv.1 (fun _ => by omega)
  have b2 := Ys_b hC (c := 0) (by omega) (by omega) hv.2 (fun _ => by omega)
  have gl : Ys σ 0 (y + 1) - Ys σ 0 y ≤ 366 ∧ 365 ≤ Ys σ 0 (y + 1) - Ys σ 0 y := by
    have := greg_len y
    show greg (y + 1) - 60 - (greg y - 60) ≤ 366 ∧ 365 ≤ greg (y + 1) - 60 - (greg y - 60)
    omega
  have st0 : -60 ≤ Ys σ 0 y := by
    have := greg_b (y := y) y1 (by omega)
    show -60 ≤ greg y - 60
    omega
  unfold fdI ldI
  split <;> split <;> omega
theorem FXd_mid {σ : St} (hC : CF σ) {c m dd y yf yl : Int} (h1 : 0 ≤ c) (h2 : c ≤ 6) (m1 : 1 ≤ m) (d1 : 1 ≤ dd) (y1 : 0 ≤ y) (y2 : y ≤ 5000) (hyf : IsY σ c (fdI σ y) yf) (hyl : IsY σ c (ldI σ y) yl) : (∀ Y, yfst c ≤ Y → fgd σ c m dd (fdI σ y) (ldI σ y) Y → yf ≤ Y ∧ Y ≤ yl) ∧ (fdI σ y ≤ ldI σ y → yl ≤ yf + 2 ∧ yf ≤ yl) := by
  have hl : ylst (σ 1 2) c = 5000 := by unfold ylst; rw [if_neg (by omega)]
  have hf := yfst_b c
  have fb := fd_b hC y1 y2
  obtain ⟨p1, p2, p3, p4⟩ := hyf
  obtain ⟨r1, r2, r3, r4⟩ := hyl
  constructor
  · intro Y y1 g
    have gi := fgd_in hC h1 h2 m1 d1 y1 g
    obtain ⟨g0, g1, g2, g3, g4⟩ := g
    constructor
    · apply Decidable.byContradiction
      intro z
      have mo := Ys_mono hC h1 (by omega) (a := Y + 1) (b := yf) (by omega) (by omega) (by omega)
      omega
    · apply Decidable.byContradiction
      intro z
      have mo := Ys_mono hC h1 (by omega) (a := yl + 1) (b := Y) (by omega) (by omega) (by omega)
      omega
  · intro lf
    constructor
    · apply Decidable.byContradiction
      intro z
      have e1 := len353 σ h1 h2 (Y := yf + 1) (by omega) (by omega)
      have e2 := len353 σ h1 h2 (Y := yf + 1 + 1) (by omega) (by omega)
      have mo := Ys_mono hC h1 (by omega) (a := yf + 1 + 1 + 1) (b := yl) (by omega) (by omega) (by omega)
      omega
    · apply Decidable.byContradiction
      intro z
      have mo := Ys_mono hC h1 (by omega) (a := yl + 1) (b := yf) (by omega) (by omega) (by omega)
      omega
theorem FXd_case {σ : St} {c m dd y : Int} : (∃ Y0, yfst c ≤ Y0 ∧ fgd σ c m dd (fdI σ y) (ldI σ y) Y0 ∧ (∀ Z, yfst c ≤ Z → Z < Y0 → ¬ fgd σ c m dd (fdI σ y) (ldI σ y) Z) ∧ FXd σ c m dd y = Ms σ c Y0 m + dd - 1) ∨ ((∀ Z, yfst c ≤ Z → ¬ fgd σ c m dd (fdI σ y) (ldI σ y) Z) ∧ FXd σ c m dd y = -2) := by
  have hf := yfst_b c
  by_cases ex : ∃ Y, yfst c ≤ Y ∧ fgd σ c m dd (fdI σ y) (ldI σ y) Y
  · obtain ⟨Y, y1, g⟩ := ex
    have y2 : Y ≤ 5000 := g.1
    obtain ⟨N, N1, N2, N3⟩ := exStop (fun j => fgd σ c m dd (fdI σ y) (ldI σ y) (yfst c + j)) (Y - yfst c).toNat (by rw [show yfst c + ((Y - yfst c).toNat : Int) = Y by omega]; exact g)
    have none : ∀ Z, yfst c ≤ Z → Z < yfst c + N → ¬ fgd σ c m dd (fdI σ y) (ldI σ y) Z := by
      intro Z z1 z2 g
      exact N3 (Z - yfst c).toNat (by omega) (by rw [show yfst c + ((Z - yfst c).toNat : Int) = Z by omega]; exact g)
    refine Or.inl ⟨yfst c + N, by omega, N2, none, ?_⟩
    exact fxs_yes σ c m dd _ _ N _ (yfst c) (yfst c + N) (by omega) rfl N2 none
  · refine Or.inr ⟨fun Z z1 g => ex ⟨Z, z1, g⟩, ?_⟩
    exact fxs_no σ c m dd _ _ _ _ (fun Z z1 z2 g => ex ⟨Z, z1, g⟩)
theorem X2_fixedDay_ok (k : Nat × (Int → Int)) (d : Nat) {σ : St} (hC : CF σ) {c m dd y : Int} (h1 : 0 ≤ c) (h2 : c ≤ 6) (m1 : 1 ≤ m) (m2 : m ≤ 53) (d1 : 1 ≤ dd) (d2 : dd ≤ 200) (y1 : 0 ≤ y) (y2 : y ≤ 5000) : EV k (d + 4) mX2_fixedDay [vR 3, vI c, vI m, vI dd, vI y] σ = ansI (FXd σ c m dd y) σ := by
  have hl : ylst (σ 1 2) c = 5000 := by unfold ylst; rw [if_neg (by omega)]
  have hf := yfst_b c
  have hp : c = 7 → 0 < σ 1 2 := fun e => by omega
  have fb := fd_b hC y1 y2
  obtain ⟨yf, hyf⟩ := exY hC h1 (by omega) (by omega) (fdI σ y)
  obtain ⟨yl, hyl⟩ := exY hC h1 (by omega) (by omega) (ldI σ y)
  obtain ⟨low, near⟩ := FXd_mid hC h1 h2 m1 d1 y1 y2 hyf hyl
  have p1 := hyf.1
  have r2 := hyl.2.1
  rw [eX2_fixedDay, bX2_fixedDay_0, X0_firstDayIn_ok k d hC y1 y2, jbI_some, X0_lastDayIn_ok k d hC y1 y2, jbI_some, show (if Ys σ 0 y ≤ 0 then 0 else Ys σ 0 y) = fdI σ y from rfl, show (if 1500000 ≤ Ys σ 0 (y + 1) - 1 then 1500000 else Ys σ 0 (y + 1) - 1) = ldI σ y from rfl, w32_id (a := ldI σ y) (by omega) (by omega), w32_id (a := fdI σ y) (by omega) (by omega)]
  rcases FXd_case (σ := σ) (c := c) (m := m) (dd := dd) (y := y) with ⟨Y0, a1, a2, a3, a4⟩ | ⟨a1, a2⟩
  · have lw := low Y0 a1 a2
    obtain ⟨g0, g1, g2, g3, g4⟩ := id a2
    rw [if_neg (by omega), X0_yearOf_ok k d hC h1 (by omega) hp (by omega) (by omega) hyl, jbI_some, X0_yearOf_ok k d hC h1 (by omega) hp (by omega) (by omega) hyf, jbI_some]
    rw [X2_fixed_loop k d hC h1 h2 m1 m2 d1 d2 (by omega) (by omega) (by omega) (by omega) (by omega) (yl + 1 - yf).toNat yf vU (by omega) (by omega), a4]
    exact ansI_c (fxs_yes σ c m dd _ _ (Y0 - yf).toNat _ yf Y0 (by omega) (by omega) a2 (fun Z z1 z2 => a3 Z (by omega) z2))
  · by_cases lf : ldI σ y < fdI σ y
    · rw [if_pos lf, a2]
    · have nr := near (by omega)
      rw [if_neg lf, X0_yearOf_ok k d hC h1 (by omega) hp (by omega) (by omega) hyl, jbI_some, X0_yearOf_ok k d hC h1 (by omega) hp (by omega) (by omega) hyf, jbI_some]
      rw [X2_fixed_loop k d hC h1 h2 m1 m2 d1 d2 (by omega) (by omega) (by omega) (by omega) (by omega) (yl + 1 - yf).toNat yf vU (by omega) (by omega), a2]
      exact ansI_c (fxs_no σ c m dd _ _ _ _ (fun Z z1 z2 => a1 Z (by omega)))
