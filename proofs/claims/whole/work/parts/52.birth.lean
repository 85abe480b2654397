
theorem X0_firstDayIn_ok (k : Nat × (Int → Int)) (d : Nat) {σ : St} (hC : CF σ) {y : Int} (y1 : 0 ≤ y) (y2 : y ≤ 5000) : EV k (d + 3) mX0_firstDayIn [vR 1, vI y] σ = ansI (if Ys σ 0 y ≤ 0 then 0 else Ys σ 0 y) σ := by
  have hv := YV_of (c := 0) (y := y) y1 y2
  have bb := Ys_b hC (c := 0) (by omega) (by omega) hv.1 (fun _ => by omega)
  rw [eX0_firstDayIn, bX0_firstDayIn_0, X0_yearStart_ok k d hC (by omega) (by omega) hv.1, jbI_some, J9_max_ok k (d + 1) σ (by omega) (by omega) (by omega) (by omega), jbI_some]
theorem X0_lastDayIn_ok (k : Nat × (Int → Int)) (d : Nat) {σ : St} (hC : CF σ) {y : Int} (y1 : 0 ≤ y) (y2 : y ≤ 5000) : EV k (d + 3) mX0_lastDayIn [vR 1, vI y] σ = ansI (if 1500000 ≤ Ys σ 0 (y + 1) - 1 then 1500000 else Ys σ 0 (y + 1) - 1) σ := by
  have hv := YV_of (c := 0) (y := y) y1 y2
  have bb := Ys_b hC (c := 0) (by omega) (by omega) hv.2 (fun _ => by omega)
  rw [eX0_lastDayIn, bX0_lastDayIn_0, X0_yearStart_ok k d hC (by omega) (by omega) hv.2, jbI_some, J9_min_ok k (d + 1) σ (by omega) (by omega) (by omega) (by omega), jbI_some]
theorem len353 (σ : St) {c Y : Int} (h1 : 0 ≤ c) (h2 : c ≤ 6) (a1 : yfst c ≤ Y) (a2 : Y ≤ 5000) : Ys σ c Y + 353 ≤ Ys σ c (Y + 1) := by
  have hf := yfst_b c
  have hc : c = 0 ∨ c = 1 ∨ c = 2 ∨ c = 3 ∨ c = 4 ∨ c = 5 ∨ c = 6 := by omega
  rcases hc with e | e | e | e | e | e | e <;> subst e
  · have := greg_len Y
    show greg Y - 60 + 353 ≤ greg (Y + 1) - 60
    omega
  · have := juln_len Y
    show juln Y - 62 + 353 ≤ juln (Y + 1) - 62
    omega
  · show 365 * (Y - 1) + Y / 4 + 353 ≤ 365 * (Y + 1 - 1) + (Y + 1) / 4
    omega
  · show 354 * (Y - 1) + (11 * Y + 3) / 30 + 353 ≤ 354 * (Y + 1 - 1) + (11 * (Y + 1) + 3) / 30
    omega
  · have := cys_len (y := Y) a1 a2
    show cys Y + 353 ≤ cys (Y + 1)
    split at this <;> omega
  · have := wks_len (y := Y) a1
    rw [Ys5, Ys5]
    omega
  · show 360 * Y + 353 ≤ 360 * (Y + 1)
    omega
def gY (σ : St) (c m dd f l Y : Int) : Prop := f ≤ An σ c m dd Y ∧ An σ c m dd Y ≤ l
theorem X8_birth_yes (k : Nat × (Int → Int)) (d : Nat) {σ : St} (hC : CF σ) {c n y m dd f l u v x Y0 : Int} (h1 : 0 ≤ c) (h2 : c ≤ 6) (n1 : 0 ≤ n) (n2 : n ≤ 1500000) (f1 : 0 ≤ f) (f2 : f ≤ 1900000) (l1 : 0 ≤ l) (l2 : l ≤ 1500000) (hD : IsD σ c n y m dd) (v2 : v ≤ 5000) (hY : gY σ c m dd f l Y0) (Y1 : Y0 ≤ v) : ∀ (t : Nat) (o : Int) (q : PV), yfst c ≤ o → o + t = Y0 → (∀ Y, o ≤ Y → Y < Y0 → ¬ gY σ c m dd f l Y) → out (WV k) (EV k (d + 6)) MX8_birthday 94 [vR 0, vI c, vI n, vI x, vI f, vI l, vI v, vI o, q] [] σ = ansI (An σ c m dd Y0) σ := by
  have hl : ylst (σ 1 2) c = 5000 := by unfold ylst; rw [if_neg (by omega)]
  have hf := yfst_b c
  have hp := hD.pos hC h1 (by omega)
  obtain ⟨g1, g2, g3, g4, g5, g6, g7⟩ := id hD
  intro t
  induction t with
  | zero =>
    intro o q o1 o2 _
    have e : o = Y0 := by omega
    subst e
    have ai := An_in hC h1 (by omega) (m := m) (dd := dd) (Y := o) (by omega) (by omega) g3 g5
    have w1 := hY.1
    have w2 := hY.2
    rw [bX8_birthday_94, if_neg (by simp (disch := omega) only [w32_id]; omega), X0_anniversary_ok k d hC h1 (by omega) hp (by omega) (by omega) hD (by omega) (by omega), jbI_some]
    rw [if_neg (by rw [w32_id (a := f) (by omega) (by omega), w32_id (a := An σ c m dd o) (by omega) (by omega)]; omega), if_neg (by rw [w32_id (a := l) (by omega) (by omega), w32_id (a := An σ c m dd o) (by omega) (by omega)]; omega)]
  | succ t ih =>
    intro o q o1 o2 hno
    push_cast at o2
    have ai := An_in hC h1 (by omega) (m := m) (dd := dd) (Y := o) (by omega) (by omega) g3 g5
    have ng := hno o (by omega) (by omega)
    have nx := ih (o + 1) (vI (An σ c m dd o)) (by omega) (by omega) (fun Y y1 y2 => hno Y (by omega) y2)
    rw [bX8_birthday_94, if_neg (by simp (disch := omega) only [w32_id]; omega), X0_anniversary_ok k d hC h1 (by omega) hp (by omega) (by omega) hD (by omega) (by omega), jbI_some]
    rw [w32_id (a := f) (by omega) (by omega), w32_id (a := l) (by omega) (by omega), w32_id (a := An σ c m dd o) (by omega) (by omega)]
    by_cases w1 : An σ c m dd o < f
    · rw [if_pos w1]; exact nx
    · rw [if_neg w1, if_pos (show l < An σ c m dd o from Decidable.byContradiction fun z => ng ⟨by omega, by omega⟩)]; exact nx
theorem X8_birth_no (k : Nat × (Int → Int)) (d : Nat) {σ : St} (hC : CF σ) {c n y m dd f l v x : Int} (h1 : 0 ≤ c) (h2 : c ≤ 6) (n1 : 0 ≤ n) (n2 : n ≤ 1500000) (f1 : 0 ≤ f) (f2 : f ≤ 1900000) (l1 : 0 ≤ l) (l2 : l ≤ 1500000) (hD : IsD σ c n y m dd) (v2 : v ≤ 5000) : ∀ (t : Nat) (o : Int) (q : PV), yfst c ≤ o → o + t = v + 1 → (∀ Y, o ≤ Y → Y ≤ v → ¬ gY σ c m dd f l Y) → out (WV k) (EV k (d + 6)) MX8_birthday 94 [vR 0, vI c, vI n, vI x, vI f, vI l, vI v, vI o, q] [] σ = ansI (-2) σ := by
  have hl : ylst (σ 1 2) c = 5000 := by unfold ylst; rw [if_neg (by omega)]
  have hf := yfst_b c
  have hp := hD.pos hC h1 (by omega)
  obtain ⟨g1, g2, g3, g4, g5, g6, g7⟩ := id hD
  intro t
  induction t with
  | zero =>
    intro o q o1 o2 _
    rw [bX8_birthday_94, if_pos (by simp (disch := omega) only [w32_id]; omega)]
  | succ t ih =>
    intro o q o1 o2 hno
    push_cast at o2
    have ai := An_in hC h1 (by omega) (m := m) (dd := dd) (Y := o) (by omega) (by omega) g3 g5
    have ng := hno o (by omega) (by omega)
    have nx := ih (o + 1) (vI (An σ c m dd o)) (by omega) (by omega) (fun Y y1 y2 => hno Y (by omega) y2)
    rw [bX8_birthday_94, if_neg (by simp (disch := omega) only [w32_id]; omega), X0_anniversary_ok k d hC h1 (by omega) hp (by omega) (by omega) hD (by omega) (by omega), jbI_some]
    rw [w32_id (a := f) (by omega) (by omega), w32_id (a := l) (by omega) (by omega), w32_id (a := An σ c m dd o) (by omega) (by omega)]
    by_cases w1 : An σ c m dd o < f
    · rw [if_pos w1]; exact nx
    · rw [if_neg w1, if_pos (show l < An σ c m dd o from Decidable.byContradiction fun z => ng ⟨by omega, by omega⟩)]; exact nx
theorem X9_birth_step (k : Nat × (Int → Int)) (d : Nat) {σ : St} (hC : CF σ) (hM : MR σ) {c n y m dd x x4 x5 x6 s o : Int} (h1 : 0 ≤ c) (h2 : c ≤ 6) (n1 : 0 ≤ n) (n2 : n ≤ 1500000) (a1 : -100 ≤ x5) (a2 : x5 ≤ 1900003) (a3 : -100 ≤ x6) (a4 : x6 ≤ 1900003) (hD : IsD σ c n y m dd) (s1 : yfst c ≤ s) (s2 : s ≤ 5000) (o1 : 0 ≤ o) (o2 : o ≤ 4) (u : PV) : ∃ v : Int, out (WV k) (EV k (d + 7)) MX9_birthday 106 [vR 33, vI c, vI n, vI x, vI x4, vI x5, vI x6, vI s, vI o, u] [] (fd σ y m dd) = if s + o ≤ 5000 ∧ (0 ≤ An σ c m dd (s + o) ∧ x5 ≤ An σ c m dd (s + o)) ∧ (An σ c m dd (s + o) ≤ x6 ∧ An σ c m dd (s + o) ≤ 1500000) then ansI (An σ c m dd (s + o)) (fd σ y m dd) else out (WV k) (EV k (d + 7)) MX9_birthday 106 [vR 33, vI c, vI n, vI x, vI x4, vI x5, vI x6, vI s, vI (o + 1), vI v] [] (fd σ y m dd) := by
  have hl : ylst (σ 1 2) c = 5000 := by unfold ylst; rw [if_neg (by omega)]
  have hf := yfst_b c
  obtain ⟨g1, g2, g3, g4, g5, g6, g7⟩ := id hD
  have kk := KF_all hC h1 (by omega) g1 g2
  have k2 := kk.2.1
  have kl := (kk.2.2.1 m g3 g4).2
  have hmm : mmx c ≤ 53 := by unfold mmx; repeat' split; all_goals omega
  rw [bX9_birthday_106, if_pos (by simp (disch := omega) only [w32_id]; omega), fd_4, fd_5]
  by_cases q : s + o ≤ 5000
  · have ai := An_in hC h1 (by omega) (m := m) (dd := dd) (Y := s + o) (by omega) (by omega) g3 g5
    rw [X9_cut_fd k d hC hM h1 (by omega) (by omega) (by omega) g3 (by omega) g5 (by omega), jbI_some]
    refine ⟨dyo (An σ c m dd (s + o)), ?_⟩
    by_cases g : 0 ≤ An σ c m dd (s + o) ∧ An σ c m dd (s + o) ≤ 1500000
    · rw [show dyo (An σ c m dd (s + o)) = An σ c m dd (s + o) by unfold dyo; exact if_pos g]
      rw [w32_id (a := An σ c m dd (s + o)) (by omega) (by omega), w32_id (a := x5) (by omega) (by omega), w32_id (a := x6) (by omega) (by omega), if_neg (by omega)]
      by_cases w1 : An σ c m dd (s + o) < x5
      · rw [if_pos w1, if_neg (by omega)]
      · rw [if_neg w1]
        by_cases w2 : x6 < An σ c m dd (s + o)
        · rw [if_pos w2, if_neg (by omega)]
        · rw [if_neg w2, if_pos (by omega)]
    · rw [show dyo (An σ c m dd (s + o)) = -3 by unfold dyo; exact if_neg g, if_pos (by decide), if_neg (by omega)]
  · refine ⟨-3, ?_⟩
    rw [X9_cut_fdno k (d + 4) hC hM h1 (by omega) (by omega) (by omega) (by omega), jbI_some, if_pos (by decide), if_neg (by omega)]
theorem X9_birth_yes (k : Nat × (Int → Int)) (d : Nat) {σ : St} (hC : CF σ) (hM : MR σ) {c n y m dd x x4 x5 x6 s Y0 : Int} (h1 : 0 ≤ c) (h2 : c ≤ 6) (n1 : 0 ≤ n) (n2 : n ≤ 1500000) (a1 : -100 ≤ x5) (a2 : x5 ≤ 1900003) (a3 : -100 ≤ x6) (a4 : x6 ≤ 1900003) (hD : IsD σ c n y m dd) (s1 : yfst c ≤ s) (s2 : s ≤ 5000) (Y1 : Y0 ≤ s + 4) (Y2 : Y0 ≤ 5000) (hY : (0 ≤ An σ c m dd Y0 ∧ x5 ≤ An σ c m dd Y0) ∧ (An σ c m dd Y0 ≤ x6 ∧ An σ c m dd Y0 ≤ 1500000)) : ∀ (t : Nat) (o : Int) (u : PV), 0 ≤ o → o + t = Y0 - s → (∀ Y, s + o ≤ Y → Y < Y0 → ¬ ((0 ≤ An σ c m dd Y ∧ x5 ≤ An σ c m dd Y) ∧ (An σ c m dd Y ≤ x6 ∧ An σ c m dd Y ≤ 1500000))) → out (WV k) (EV k (d + 7)) MX9_birthday 106 [vR 33, vI c, vI n, vI x, vI x4, vI x5, vI x6, vI s, vI o, u] [] (fd σ y m dd) = ansI (An σ c m dd Y0) (fd σ y m dd) := by
  intro t
  induction t with
  | zero =>
    intro o u o1 o2 _
    obtain ⟨v, hv⟩ := X9_birth_step k d hC hM (x := x) (x4 := x4) h1 h2 n1 n2 a1 a2 a3 a4 hD s1 s2 o1 (by omega) u
    rw [hv, show s + o = Y0 by omega, if_pos ⟨Y2, hY⟩]
  | succ t ih =>
    intro o u o1 o2 hno
    push_cast at o2
    obtain ⟨v, hv⟩ := X9_birth_step k d hC hM (x := x) (x4 := x4) h1 h2 n1 n2 a1 a2 a3 a4 hD s1 s2 o1 (by omega) u
    rw [hv, if_neg (fun z => hno (s + o) (by omega) (by omega) z.2)]
    exact ih _ _ (by omega) (by omega) (fun Y y1 y2 => hno Y (by omega) y2)
theorem X9_birth_no (k : Nat × (Int → Int)) (d : Nat) {σ : St} (hC : CF σ) (hM : MR σ) {c n y m dd x x4 x5 x6 s : Int} (h1 : 0 ≤ c) (h2 : c ≤ 6) (n1 : 0 ≤ n) (n2 : n ≤ 1500000) (a1 : -100 ≤ x5) (a2 : x5 ≤ 1900003) (a3 : -100 ≤ x6) (a4 : x6 ≤ 1900003) (hD : IsD σ c n y m dd) (s1 : yfst c ≤ s) (s2 : s ≤ 5000) (hno : ∀ Y, s ≤ Y → Y ≤ 5000 → ¬ ((0 ≤ An σ c m dd Y ∧ x5 ≤ An σ c m dd Y) ∧ (An σ c m dd Y ≤ x6 ∧ An σ c m dd Y ≤ 1500000))) : ∀ (t : Nat) (o : Int) (u : PV), 0 ≤ o → o + t = 5 → out (WV k) (EV k (d + 7)) MX9_birthday 106 [vR 33, vI c, vI n, vI x, vI x4, vI x5, vI x6, vI s, vI o, u] [] (fd σ y m dd) = ansI (-2) (fd σ y m dd) := by
  intro t
  induction t with
  | zero =>
    intro o u o1 o2
    rw [bX9_birthday_106, if_neg (by simp (disch := omega) only [w32_id]; omega)]
  | succ t ih =>
    intro o u o1 o2
    push_cast at o2
    obtain ⟨v, hv⟩ := X9_birth_step k d hC hM (x := x) (x4 := x4) h1 h2 n1 n2 a1 a2 a3 a4 hD s1 s2 o1 (by omega) u
    rw [hv, if_neg (fun z => hno (s + o) (by omega) (by omega) z.2)]
    exact ih _ _ (by omega) (by omega)
theorem birth9 (k : Nat × (Int → Int)) (d : Nat) {σ : St} (hC : CF σ) (hM : MR σ) {c n y m dd x : Int} (h1 : 0 ≤ c) (h2 : c ≤ 6) (n1 : 0 ≤ n) (n2 : n ≤ 1500000) (x1 : 0 ≤ x) (x2 : x ≤ 5000) (hD : IsD σ c n y m dd) {yf : Int} (hy : IsY σ c (if Ys σ 0 x ≤ 0 then 0 else Ys σ 0 x) yf) : ∃ s, yfst c ≤ s ∧ s ≤ yf ∧ yf ≤ s + 1 ∧ EV k (d + 10) mX9_birthday [vR 33, vI c, vI n, vI x] σ = out (WV k) (EV k (d + 9)) MX9_birthday 106 [vR 33, vI c, vI n, vI x, vI 1, vI (Ys σ 0 x), vI (Ys σ 0 (x + 1) - 1), vI s, vI 0, vU] [] (fd σ y m dd) := by
  have hl : ylst (σ 1 2) c = 5000 := by unfold ylst; rw [if_neg (by omega)]
  have hl0 : ylst (σ 1 2) 0 = 5000 := rfl
  have hf := yfst_b c
  have hv := YV_of (c := 0) (y := x) x1 x2
  have b1 := Ys_b hC (c := 0) (by omega) (by omega) hv.1 (fun _ => by omega)
  have b2 := Ys_b hC (c := 0) (by omega) (by omega) hv.2 (fun _ => by omega)
  have ef : ∀ z : Int, Ys (fd σ y m dd) 0 z = Ys σ 0 z := fun z => rfl
  have hy1 := hy.1
  have hy2 := hy.2.1
  have pre : EV k (d + 10) mX9_birthday [vR 33, vI c, vI n, vI x] σ = if 0 < Ys σ 0 x then out (WV k) (EV k (d + 9)) MX9_birthday 81 [vR 33, vI c, vI n, vI x, vI 1, vI (Ys σ 0 x), vI (Ys σ 0 (x + 1) - 1), vU, vU, vU] [vI (yf - 1)] (fd σ y m dd) else out (WV k) (EV k (d + 9)) MX9_birthday 81 [vR 33, vI c, vI n, vI x, vI 1, vI (Ys σ 0 x), vI (Ys σ 0 (x + 1) - 1), vU, vU, vU] [vI (yfst c)] (fd σ y m dd) := by
    rw [eX9_birthday, bX9_birthday_0, X9_in_ok k (d + 8) σ (by omega) (by omega) (by omega) (by omega) (by omega) (by omega), jbI_some, ib, if_pos ⟨h1, h2⟩, X9_isYear_ok k (d + 7) hC hM (by omega) (by omega) (by omega) (by omega), jbI_some, ib, if_pos (show yfst 0 ≤ x ∧ x ≤ ylst (σ 1 2) 0 from ⟨x1, x2⟩), w32_id (a := n) (by omega) (by omega), X9_isDay_ok k (d + 8) σ (by omega) (by omega), jbI_some, ib, if_pos ⟨n1, n2⟩, X9_find_ok k (d + 3) hC hM h1 (by omega) (by omega) (by omega) hD, jbI_some, X9_start_ok k (d + 5) _ (by omega) (by omega) hv.1, jbI_some, X9_start_ok k (d + 5) _ (by omega) (by omega) hv.2, jbI_some, ef, ef, w32_id (a := Ys σ 0 x) (by omega) (by omega)]
    by_cases q : 0 < Ys σ 0 x
    · rw [if_pos q, if_pos q]
      rw [if_neg (show ¬ Ys σ 0 x ≤ 0 by omega)] at hy
      rw [X9_yearOf_ok k (d + 4) (σ := fd σ y m dd) (fd_C hC y m dd) h1 h2 (by omega) (by omega) (show IsY (fd σ y m dd) c (Ys σ 0 x) yf from hy), jbI_some]
    · rw [if_neg q, if_neg q, X9_firstYear_ok k (d + 8) _ h1 (by omega), jbI_some]
  have p81 : ∀ z : Int, 0 ≤ z + 1 → z ≤ 5000 → out (WV k) (EV k (d + 9)) MX9_birthday 81 [vR 33, vI c, vI n, vI x, vI 1, vI (Ys σ 0 x), vI (Ys σ 0 (x + 1) - 1), vU, vU, vU] [vI z] (fd σ y m dd) = out (WV k) (EV k (d + 9)) MX9_birthday 106 [vR 33, vI c, vI n, vI x, vI 1, vI (Ys σ 0 x), vI (Ys σ 0 (x + 1) - 1), vI (if z < yfst c then yfst c else z), vI 0, vU] [] (fd σ y m dd) := by
    intro z z1 z2
    rw [bX9_birthday_81, X9_firstYear_ok k (d + 8) _ h1 (by omega), jbI_some, X9_firstYear_ok k (d + 8) _ h1 (by omega), jbI_some, w32_id (a := z) (by omega) (by omega), w32_id (a := yfst c) (by omega) (by omega)]
    by_cases q : z < yfst c
    · rw [if_pos q, if_pos q]
    · rw [if_neg q, if_neg q]
  by_cases q : 0 < Ys σ 0 x
  · refine ⟨if yf - 1 < yfst c then yfst c else yf - 1, by split <;> omega, by split <;> omega, by split <;> omega, ?_⟩
    rw [pre, if_pos q, p81 _ (by omega) (by omega)]
  · rw [if_pos (by omega)] at hy
    have lo := Ys_lo σ h1 h2
    have : yf = yfst c := by
      apply Decidable.byContradiction
      intro z
      have y1 := hy.2.2.1
      have st := len353 σ h1 h2 (Y := yfst c) (by omega) (by omega)
      have mo := Ys_mono hC h1 (by omega) (a := yfst c + 1) (b := yf) (by omega) (by omega) (by omega)
      have st0 : -353 < Ys σ c (yfst c) := by
        have hb := Ys_b hC h1 (by omega) (show YV c (yfst c) from ⟨by omega, by omega, fun _ => by omega⟩) (fun _ => by omega)
        omega
      omega
    refine ⟨yfst c, by omega, by omega, by omega, ?_⟩
    rw [pre, if_neg q, p81 _ (by omega) (by omega), if_neg (by omega)]
theorem Tw_birthday (k : Nat × (Int → Int)) (d : Nat) {σ : St} (hC : CF σ) (hM : MR σ) {c n x : Int} (h1 : I32 c) (h2 : I32 n) (h3 : I32 x) : Tw k (d + 10) mX8_birthday mX9_birthday [vI c, vI n, vI x] σ := by
  unfold I32 at h1 h2 h3
  unfold Tw
  by_cases hc : 0 ≤ c ∧ c ≤ 6
  · by_cases hx : 0 ≤ x ∧ x ≤ 5000
    · by_cases hn : 0 ≤ n ∧ n ≤ 1500000
      · have hl : ylst (σ 1 2) c = 5000 := by unfold ylst; rw [if_neg (by omega)]
        have hf := yfst_b c
        have hv := YV_of (c := 0) (y := x) hx.1 hx.2
        have b1 := Ys_b hC (c := 0) (by omega) (by omega) hv.1 (fun _ => by omega)
        have b2 := Ys_b hC (c := 0) (by omega) (by omega) hv.2 (fun _ => by omega)
        have gl : Ys σ 0 (x + 1) - Ys σ 0 x ≤ 366 ∧ 365 ≤ Ys σ 0 (x + 1) - Ys σ 0 x := by
          have := greg_len x
          show greg (x + 1) - 60 - (greg x - 60) ≤ 366 ∧ 365 ≤ greg (x + 1) - 60 - (greg x - 60)
          omega
        obtain ⟨y, m, dd, hD⟩ := exD6 hC hc.1 hc.2 hn.1 (by omega)
        have hp := hD.pos hC hc.1 (by omega)
        obtain ⟨g1, g2, g3, g4, g5, g6, g7⟩ := id hD
        obtain ⟨f, ef⟩ : ∃ f, f = (if Ys σ 0 x ≤ 0 then 0 else Ys σ 0 x) := ⟨_, rfl⟩
        obtain ⟨l, el⟩ : ∃ l, l = (if 1500000 ≤ Ys σ 0 (x + 1) - 1 then 1500000 else Ys σ 0 (x + 1) - 1) := ⟨_, rfl⟩
        have f1 : 0 ≤ f ∧ Ys σ 0 x ≤ f ∧ (f = 0 ∨ f = Ys σ 0 x) ∧ (Ys σ 0 x < 0 → f = 0) := by rw [ef]; split <;> omega
        have l1 : l ≤ 1500000 ∧ l ≤ Ys σ 0 (x + 1) - 1 ∧ (l = 1500000 ∨ l = Ys σ 0 (x + 1) - 1) := by rw [el]; split <;> omega
        have l0 : 0 ≤ l := by
          have st0 : -60 ≤ Ys σ 0 x := by
            have := greg_b (y := x) hx.1 (by omega)
            show -60 ≤ greg x - 60
            omega
          omega
        obtain ⟨yf, hyf⟩ := exY hC hc.1 (by omega) (by omega) f
        obtain ⟨yl, hyl⟩ := exY hC hc.1 (by omega) (by omega) l
        obtain ⟨s, s1, s2, s3, e9⟩ := birth9 k d hC hM hc.1 hc.2 hn.1 hn.2 hx.1 hx.2 hD (yf := yf) (by rw [← ef]; exact hyf)
        have e8 : EV k (d + 10) mX8_birthday [vR 0, vI c, vI n, vI x] σ = if l < f then ansI (-2) σ else out (WV k) (EV k (d + 9)) MX8_birthday 94 [vR 0, vI c, vI n, vI x, vI f, vI l, vI yl, vI yf, vU] [] σ := by
          rw [eX8_birthday, bX8_birthday_0, X8_isCalendar_ok k (d + 8) σ h1.1 h1.2, jbI_some, ib, if_pos (show 0 ≤ c ∧ c ≤ 7 by omega), if_neg (show ¬ w32 c = w32 7 by rw [w32_id (by omega) (by omega), show w32 7 = 7 by decide]; omega), X0_hasYear_ok k (d + 7) hC (by omega) (by omega) h3.1 h3.2, jbI_some, ib, if_pos (show yfst 0 ≤ x ∧ x ≤ ylst (σ 1 2) 0 from hx), X8_isDay_ok k (d + 8) σ h2.1 h2.2, jbI_some, ib, if_pos hn, X0_firstDayIn_ok k (d + 6) hC hx.1 hx.2, jbI_some, X0_lastDayIn_ok k (d + 6) hC hx.1 hx.2, jbI_some, ← ef, ← el, w32_id (a := l) (by omega) (by omega), w32_id (a := f) (by omega) (by omega)]
          by_cases q : l < f
          · rw [if_pos q, if_pos q]
          · rw [if_neg q, if_neg q, X0_yearOf_ok k (d + 6) hC hc.1 (by omega) hp (by omega) (by omega) hyl, jbI_some, X0_yearOf_ok k (d + 6) hC hc.1 (by omega) hp (by omega) (by omega) hyf, jbI_some]
        rw [e8, e9]
        obtain ⟨p1, p2, p3, p4⟩ := hyf
        obtain ⟨r1, r2, r3, r4⟩ := hyl
        have iff : ∀ Y : Int, ((0 ≤ An σ c m dd Y ∧ Ys σ 0 x ≤ An σ c m dd Y) ∧ (An σ c m dd Y ≤ Ys σ 0 (x + 1) - 1 ∧ An σ c m dd Y ≤ 1500000)) ↔ gY σ c m dd f l Y := by
          intro Y
          unfold gY
          omega
        have low : ∀ Y, yfst c ≤ Y → Y ≤ 5000 → gY σ c m dd f l Y → yf ≤ Y ∧ Y ≤ yl := by
          intro Y y1 y2 g
          have ai := An_in hC hc.1 (by omega) (m := m) (dd := dd) (Y := Y) (by omega) (by omega) g3 g5
          obtain ⟨ga, gb⟩ := g
          constructor
          · apply Decidable.byContradiction
            intro z
            have mo := Ys_mono hC hc.1 (by omega) (a := Y + 1) (b := yf) (by omega) (by omega) (by omega)
            omega
          · apply Decidable.byContradiction
            intro z
            have mo := Ys_mono hC hc.1 (by omega) (a := yl + 1) (b := Y) (by omega) (by omega) (by omega)
            omega
        have near : ¬ l < f → yl ≤ yf + 2 := by
          intro lf
          apply Decidable.byContradiction
          intro z
          have e1 := len353 σ hc.1 hc.2 (Y := yf + 1) (by omega) (by omega)
          have e2 := len353 σ hc.1 hc.2 (Y := yf + 1 + 1) (by omega) (by omega)
          have mo := Ys_mono hC hc.1 (by omega) (a := yf + 1 + 1 + 1) (b := yl) (by omega) (by omega) (by omega)
          omega
        by_cases ex : ∃ Y, yfst c ≤ Y ∧ Y ≤ 5000 ∧ gY σ c m dd f l Y
        · obtain ⟨Y, y1, y2, gy⟩ := ex
          obtain ⟨N, N1, N2, N3⟩ := exStop (fun j => yfst c + (j : Int) ≤ 5000 ∧ gY σ c m dd f l (yfst c + j)) (Y - yfst c).toNat (by rw [show yfst c + ((Y - yfst c).toNat : Int) = Y by omega]; exact ⟨y2, gy⟩)
          have nl : ¬ l < f := by
            have a := gy.1
            have b := gy.2
            omega
          have lw := low (yfst c + N) (by omega) N2.1 N2.2
          have nr := near nl
          have none : ∀ Z, yfst c ≤ Z → Z < yfst c + N → ¬ gY σ c m dd f l Z := by
            intro Z z1 z2 g
            exact N3 (Z - yfst c).toNat (by omega) (by rw [show yfst c + ((Z - yfst c).toNat : Int) = Z by omega]; exact ⟨by omega, g⟩)
          rw [if_neg nl, X8_birth_yes k (d + 3) hC (u := 0) hc.1 hc.2 hn.1 hn.2 (by omega) (by omega) l0 l1.1 hD (by omega) N2.2 lw.2 (yfst c + N - yf).toNat yf vU (by omega) (by omega) (fun Z z1 z2 => none Z (by omega) z2)]
          rw [X9_birth_yes k (d + 2) hC hM hc.1 hc.2 hn.1 hn.2 (by omega) (by omega) (by omega) (by omega) hD s1 (by omega) (Y0 := yfst c + N) (by omega) N2.1 ((iff _).2 N2.2) (yfst c + N - s).toNat 0 vU (by omega) (by omega) (fun Z z1 z2 g => none Z (by omega) z2 ((iff Z).1 g))]
          exact ⟨_, _, rfl, rfl, Sc.fd _ _ _ _⟩
        · have none : ∀ Z, yfst c ≤ Z → Z ≤ 5000 → ¬ gY σ c m dd f l Z := fun Z z1 z2 g => ex ⟨Z, z1, z2, g⟩
          rw [X9_birth_no k (d + 2) hC hM hc.1 hc.2 hn.1 hn.2 (by omega) (by omega) (by omega) (by omega) hD s1 (by omega) (fun Z z1 z2 g => none Z (by omega) z2 ((iff Z).1 g)) 5 0 vU (by omega) (by omega)]
          refine ⟨_, _, ?_, rfl, Sc.fd _ _ _ _⟩
          by_cases lf : l < f
          · rw [if_pos lf]
          · have fl : yf ≤ yl + 1 := by
              apply Decidable.byContradiction
              intro z
              have mo := Ys_mono hC hc.1 (by omega) (a := yl + 1) (b := yf) (by omega) (by omega) (by omega)
              omega
            rw [if_neg lf, X8_birth_no k (d + 3) hC hc.1 hc.2 hn.1 hn.2 (by omega) (by omega) l0 l1.1 hD (by omega) (yl + 1 - yf).toNat yf vU (by omega) (by omega) (fun Z z1 z2 => none Z (by omega) (by omega))]
      · refine ⟨-3, σ, ?_, ?_, Sc.rfl σ⟩
        · rw [eX8_birthday, bX8_birthday_0, X8_isCalendar_ok k (d + 8) σ h1.1 h1.2, jbI_some, ib, if_pos (show 0 ≤ c ∧ c ≤ 7 by omega), if_neg (show ¬ w32 c = w32 7 by rw [w32_id (by omega) (by omega), show w32 7 = 7 by decide]; omega), X0_hasYear_ok k (d + 7) hC (by omega) (by omega) h3.1 h3.2, jbI_some, ib, if_pos (show yfst 0 ≤ x ∧ x ≤ ylst (σ 1 2) 0 from hx), X8_isDay_ok k (d + 8) σ h2.1 h2.2, jbI_some, ib, if_neg hn]
        · rw [eX9_birthday, bX9_birthday_0, X9_in_ok k (d + 8) σ (by omega) (by omega) (by omega) (by omega) (by omega) (by omega), jbI_some, ib, if_pos hc, X9_isYear_ok k (d + 7) hC hM (by omega) (by omega) (by omega) (by omega), jbI_some, ib, if_pos (show yfst 0 ≤ x ∧ x ≤ ylst (σ 1 2) 0 from hx), w32_id (a := n) (by omega) (by omega), X9_isDay_ok k (d + 8) σ (by omega) (by omega), jbI_some, ib, if_neg hn]
    · refine ⟨-2, σ, ?_, ?_, Sc.rfl σ⟩
      · rw [eX8_birthday, bX8_birthday_0, X8_isCalendar_ok k (d + 8) σ h1.1 h1.2, jbI_some, ib, if_pos (show 0 ≤ c ∧ c ≤ 7 by omega), if_neg (show ¬ w32 c = w32 7 by rw [w32_id (by omega) (by omega), show w32 7 = 7 by decide]; omega), X0_hasYear_ok k (d + 7) hC (by omega) (by omega) h3.1 h3.2, jbI_some, ib, if_neg (show ¬ (yfst 0 ≤ x ∧ x ≤ ylst (σ 1 2) 0) from hx)]
      · rw [eX9_birthday, bX9_birthday_0, X9_in_ok k (d + 8) σ (by omega) (by omega) (by omega) (by omega) (by omega) (by omega), jbI_some, ib, if_pos hc, X9_isYear_ok k (d + 7) hC hM (by omega) (by omega) (by omega) (by omega), jbI_some, ib, if_neg (show ¬ (yfst 0 ≤ x ∧ x ≤ ylst (σ 1 2) 0) from hx)]
  · refine ⟨-1, σ, ?_, ?_, Sc.rfl σ⟩
    · rw [eX8_birthday, bX8_birthday_0, X8_isCalendar_ok k (d + 8) σ h1.1 h1.2, jbI_some, ib]
      by_cases c7 : c = 7
      · rw [if_pos (by omega), if_pos (by rw [c7])]
      · rw [if_neg (by omega)]
    · rw [eX9_birthday, bX9_birthday_0, X9_in_ok k (d + 8) σ (by omega) (by omega) (by omega) (by omega) (by omega) (by omega), jbI_some, ib, if_neg hc]
