/-! lookAt and rests in the component; isFree and isOffDay in the reference -/
theorem look_week (k : Nat × (Int → Int)) (d : Nat) {σ : St} {s e w p x2 x3 : Int} (s0 : 0 ≤ s) (e1 : e ≤ s + 802) (e2 : e ≤ 1500001) (p0 : 0 ≤ p) (p1 : p < 8) : ∀ (t : Nat) (n : Int) (τ : St), s ≤ n → n + t = e → CE σ τ → CV τ → τ 4 11 = s → τ 4 12 = e → τ 4 13 = w → FM τ s n (fun m => wkb (σ 23 p) m) → ∃ ρ, JL σ ρ s e w (fun m => wkb (σ 23 p) m) ∧ out (WV k) (EV k d) MX5_lookAt 61 [vR 4, vI p, vI x2, vI x3, vI n, vU, vU] [] τ = out (WV k) (EV k d) MX5_lookAt 61 [vR 4, vI p, vI x2, vI x3, vI e, vU, vU] [] ρ := by
  intro t
  induction t with
  | zero =>
    intro n τ n0 n1 c v t11 t12 t13 hF
    have z : n = e := by omega
    subst z
    exact ⟨τ, ⟨c, v, t11, t12, t13, hF⟩, rfl⟩
  | succ t ih =>
    intro n τ n0 n1 c v t11 t12 t13 hF
    push_cast at n1
    have step : ∀ x : Int, (x = 0 ∨ x = 1) → (x = 1 ↔ wkb (σ 23 p) n) → ∃ ρ, JL σ ρ s e w (fun m => wkb (σ 23 p) m) ∧ out (WV k) (EV k d) MX5_lookAt 61 [vR 4, vI p, vI x2, vI x3, vI (n + 1), vU, vU] [] (st2 τ 29 (n - s) x) = out (WV k) (EV k d) MX5_lookAt 61 [vR 4, vI p, vI x2, vI x3, vI e, vU, vU] [] ρ := by
      intro x hx hw
      refine ih (n + 1) _ (by omega) (by omega) ⟨fun q hq => ?_, fun a ha => ?_, fun a ha => ?_⟩ ?_ ?_ ?_ ?_ ?_
      · rw [st2_ne (by rintro rfl; exact hq (by decide))]; exact c.1 q hq
      · rw [st2_cell (by decide)]; exact c.2.1 a ha
      · rw [st2_cell (by decide)]; exact c.2.2 a ha
      · exact CV_fs (σ := τ) ⟨st2_ne (by decide), st2_ne (by decide), st2_ne (by decide), st2_ne (by decide), st2_ne (by decide), st2_ne (by decide), st2_ne (by decide), st2_ne (by decide), st2_ne (by decide), st2_cell (by decide) _⟩ (st2_ne (by decide)) (st2_ne (by decide)) (st2_ne (by decide)) v
      · rw [st2_cell (by decide)]; exact t11
      · rw [st2_cell (by decide)]; exact t12
      · rw [st2_cell (by decide)]; exact t13
      · intro m m0 m1
        by_cases z : m = n
        · rw [z, st2_eq]; exact ⟨hx, hw⟩
        · rw [st2_idx (by omega)]; exact hF m m0 (by omega)
    rw [bX5_lookAt_61, t12, w32_id (a := n) (by omega) (by omega), w32_id (a := e) (by omega) (by omega), if_pos (show n < e by omega), w32_id (a := p) (by omega) (by omega), if_pos (show 0 ≤ p ∧ p < 8 by omega), c.1 23 (by decide), t11, w32_id (a := n - s) (by omega) (by omega)]
    have hj : 0 ≤ n - s ∧ n - s < 802 := by omega
    by_cases z : w32 (jand (jshr (σ 23 p) (jr n 7)) 1) = w32 1
    · rw [if_pos z, if_pos hj, if_pos (by decide)]
      exact step 1 (Or.inr rfl) ⟨fun _ => z, fun _ => rfl⟩
    · rw [if_neg z, if_pos hj, if_pos (by decide)]
      exact step 0 (Or.inl rfl) ⟨fun w => by omega, fun w => absurd w z⟩
def LK (σ ρ : St) (s e p : Int) : Prop := ρ 4 11 = s ∧ ρ 4 12 = e ∧ ρ 4 13 = σ 24 p ∧ FM ρ s e (fun n => FREE σ p n)
theorem lookAt_ok (k : Nat × (Int → Int)) (d : Nat) {σ : St} (h : HQ σ) (hP : PR σ) {p a b : Int} (p0 : 0 ≤ p) (p1 : p < σ 4 4) (a0 : 0 ≤ a) (ab : a ≤ b) (b1 : b ≤ 1500000) (ab2 : b < a + 800) : ∃ ρ, EV k (d + 7) mX5_lookAt [vR 4, vI p, vI a, vI b] σ = some (none, ρ) ∧ CE σ ρ ∧ CV ρ ∧ LK σ ρ (if a - 1 ≤ 0 then 0 else a - 1) (if 1500001 ≤ b + 2 then 1500001 else b + 2) p := by
  obtain ⟨P1, P2, P3, P4, P5, P6⟩ := id hP
  obtain ⟨g1, g2, g3, g4, g5, g6, g7⟩ := id h
  obtain ⟨s, hs⟩ : ∃ s, s = if a - 1 ≤ 0 then 0 else a - 1 := ⟨_, rfl⟩
  obtain ⟨e, he⟩ : ∃ e, e = if 1500001 ≤ b + 2 then 1500001 else b + 2 := ⟨_, rfl⟩
  rw [← hs, ← he]
  have sb : 0 ≤ s ∧ a - 1 ≤ s ∧ s ≤ a ∧ (s = 0 ∨ s = a - 1) := by rw [hs]; split <;> omega
  have eb : e ≤ 1500001 ∧ e ≤ b + 2 ∧ (e = 1500001 ∨ e = b + 2) := by rw [he]; split <;> omega
  obtain ⟨w1, w2, _⟩ := P5 p p0 p1
  obtain ⟨τ0, h0⟩ : ∃ τ0, τ0 = st2 (st2 (st2 σ 4 13 (σ 24 p)) 4 11 s) 4 12 e := ⟨_, rfl⟩
  have z4 : ∀ i : Int, i ≠ 11 → i ≠ 12 → i ≠ 13 → τ0 4 i = σ 4 i := fun i i1 i2 i3 => by rw [h0, st2_idx i2, st2_idx i1, st2_idx i3]
  have zq : ∀ q, q ≠ 4 → τ0 q = σ q := fun q hq => by rw [h0, st2_ne hq, st2_ne hq, st2_ne hq]
  have c0 : CE σ τ0 := ⟨fun q hq => zq q (by rintro rfl; exact hq (by decide)), fun x _ => by rw [zq 3 (by decide)], fun x hx => z4 x (by rintro rfl; exact hx (by decide)) (by rintro rfl; exact hx (by decide)) (by rintro rfl; exact hx (by decide))⟩
  have v0 : CV τ0 := CV_fs c0.fs (zq 19 (by decide)) (zq 20 (by decide)) (zq 21 (by decide)) g6
  have t11 : τ0 4 11 = s := by rw [h0, st2_idx (by decide), st2_eq]
  have t12 : τ0 4 12 = e := by rw [h0, st2_eq]
  have t13 : τ0 4 13 = σ 24 p := by rw [h0, st2_idx (by decide), st2_idx (by decide), st2_eq]
  obtain ⟨τ1, j1, j2⟩ := look_week k (d + 6) (σ := σ) (s := s) (e := e) (w := σ 24 p) (p := p) (x2 := a) (x3 := b) sb.1 (by omega) (by omega) p0 (by omega) (e - s).toNat s τ0 (by omega) (by omega) c0 v0 t11 t12 t13 (fun n a b => by omega)
  have begin1 : EV k (d + 7) mX5_lookAt [vR 4, vI p, vI a, vI b] σ = out (WV k) (EV k (d + 6)) MX5_lookAt 61 [vR 4, vI p, vI a, vI b, vI e, vU, vU] [] τ1 := by
    rw [eX5_lookAt, bX5_lookAt_0, X5_has_ok k (d + 5) (by unfold I32; omega) P1, jbI_some, ib, if_pos ⟨p0, p1⟩, w32_id (a := p) (by omega) (by omega), if_pos (show 0 ≤ p ∧ p < 8 by omega), if_pos (by rcases w2 with z | z <;> rw [z] <;> decide), J9_max_ok k (d + 5) _ (by omega) (by omega) (by omega) (by omega), jbI_some, ← hs, st2_eq, J9_min_ok k (d + 5) _ (by omega) (by omega) (by omega) (by omega), jbI_some, if_pos (show b + 2 ≤ s + 802 by omega), J9_min_ok k (d + 5) _ (by omega) (by omega) (by omega) (by omega), jbI_some, ← he, ← h0, t11]
    exact j2
  have c1 := j1.1
  have H1 := h.ce c1 j1.2.1
  have P9 : τ1 4 9 = σ 4 9 := c1.2.2 9 (by decide)
  have Q1 := c1.pr hP
  have rc := rulesOf_ok k (d + 5) (σ := τ1) (p := p) Q1.2.1 (fun i i0 i1 => by have := (Q1.2.2.2.2.2 i i0 i1).1; have := Q1.1; omega) p0 (by omega)
  have rb := rcn_b τ1 p (τ1 4 9).toNat
  rw [begin1, bX5_lookAt_61, j1.2.2.2.1, if_neg (by omega), rc, jbI_some, w32_id (a := rcn τ1 p (τ1 4 9).toNat) (by omega) (by omega)]
  have fin : ∀ (ρ : St) (lo hi : Int), (∀ n, s ≤ n → n < e → ∀ Y, IsY σ 0 n Y → ∀ y, 0 ≤ y → y ≤ 5000 → Y - 1 ≤ y → y ≤ Y + 1 → FYs σ p n y → lo ≤ y ∧ y ≤ hi) → 0 ≤ lo → hi ≤ 5000 → JL σ ρ s e (σ 24 p) (fun n => wkb (σ 23 p) n ∨ ∃ z, lo ≤ z ∧ z ≤ hi ∧ YRL σ n z ∧ FYs σ p n z) → CE σ ρ ∧ CV ρ ∧ LK σ ρ s e p := by
    intro ρ lo hi hr l0 h0 hJ
    obtain ⟨k1, k2, k3, k4, k5, k6⟩ := hJ
    refine ⟨k1, k2, k3, k4, k5, FM_c k6 (fun n n0 n1 => ⟨?_, ?_⟩)⟩
    · rintro (z | ⟨z, z0, z1, ⟨Y, hY, z2, z3⟩, z4⟩)
      · exact ⟨by omega, Or.inl z⟩
      · exact ⟨by omega, Or.inr ⟨z, Y, hY, by omega, by omega, z2, z3, z4⟩⟩
    · rintro ⟨_, z | ⟨z, Y, hY, z0, z1, z2, z3, z4⟩⟩
      · exact Or.inl z
      · have := hr n n0 n1 Y hY z z0 z1 z2 z3 z4
        exact Or.inr ⟨z, this.1, this.2, ⟨Y, hY, z2, z3⟩, z4⟩
  by_cases zr : rcn τ1 p (τ1 4 9).toNat = 0
  · rw [if_pos zr]
    refine ⟨τ1, rfl, ?_⟩
    have none : ∀ i, 0 ≤ i → i < σ 4 9 → σ 25 i ≠ p := by
      intro i i0 i1
      have := rcn_0 τ1 p _ zr i.toNat (by omega)
      rw [show (i.toNat : Int) = i by omega, c1.1 25 (by decide)] at this
      exact this
    refine fin τ1 0 (-1) (fun n _ _ Y _ y _ _ _ _ hy => ?_) (by omega) (by omega) (JL_c j1 (fun n _ _ => ⟨fun z => Or.inl z, ?_⟩))
    · obtain ⟨i, i0, i1, i2, _⟩ := hy
      exact absurd i2 (none i i0 i1)
    · rintro (z | ⟨z, z0, z1, _⟩)
      · exact z
      · omega
  · rw [if_neg zr, j1.2.2.1]
    obtain ⟨Ya, hYa, _, _⟩ := exYr g1 s
    obtain ⟨Yb, hYb, _, _⟩ := exYr g1 (e - 1)
    have ya := Yr_in g1 (show 0 ≤ s by omega) (by omega) hYa
    have yb := Yr_in g1 (show 0 ≤ e - 1 by omega) (by omega) hYb
    obtain ⟨lo, hlo⟩ : ∃ lo, lo = if Ya - 1 ≤ 0 then 0 else Ya - 1 := ⟨_, rfl⟩
    have lob : 0 ≤ lo ∧ Ya - 1 ≤ lo ∧ (lo = 0 ∨ lo = Ya - 1) := by rw [hlo]; split <;> omega
    obtain ⟨ρ, r1, r2⟩ := look_years k d h hP (s := s) (e := e) (w := σ 24 p) (p := p) (x2 := a) (x3 := b) (x4 := lo) (x5 := Yb + 1) sb.1 (by omega) (by omega) (by omega) p0 p1 (by omega) (by omega) (Yb + 1 + 1 - lo).toNat lo τ1 _ (by omega) (by omega) rfl j1
    refine ⟨ρ, ?_, fin ρ lo (Yb + 1) (fun n n0 n1 Y hY y y0 y1 y2 y3 _ => ?_) lob.1 (by omega) r1⟩
    · rw [X0_yearOf_ok k (d + 3) H1.1 (by omega) (by omega) (by omega) (by omega) (by omega) ((IsY_same c1.fs 0 s Ya).2 hYa), jbI_some, J9_max_ok k (d + 5) τ1 (by omega) (by omega) (by omega) (by omega), jbI_some, ← hlo, j1.2.2.2.1, X0_yearOf_ok k (d + 3) H1.1 (by omega) (by omega) (by omega) (by omega) (by omega) ((IsY_same c1.fs 0 (e - 1) Yb).2 hYb), jbI_some, J9_min_ok k (d + 5) τ1 (by omega) (by omega) (by omega) (by omega), jbI_some, if_neg (by omega)]
      exact r2
    · have m1 := Yr_mono g1 (show 0 ≤ s by omega) n0 (by omega) hYa hY
      have m2 := Yr_mono g1 (show 0 ≤ n by omega) (show n ≤ e - 1 by omega) (by omega) hY hYb
      omega
theorem X5_isFree_ok (k : Nat × (Int → Int)) (d : Nat) {σ ρ : St} {s e p n : Int} (h : LK σ ρ s e p) (s0 : 0 ≤ s) (se : s < e) (e1 : e ≤ s + 802) (e2 : e ≤ 1500001) (n0 : -10 ≤ n) (n1 : n ≤ 2000000) : ∃ v, EV k (d + 1) mX5_isFree [vR 4, vI n] ρ = ansI v ρ ∧ (v = 0 ∨ v = 1) ∧ (v = 1 ↔ (s ≤ n ∧ n < e ∧ FREE σ p n)) := by
  obtain ⟨h1, h2, h3, h4⟩ := h
  rw [eX5_isFree, bX5_isFree_0, h1, h2]
  by_cases q1 : n < s
  · rw [w32_id (a := n) (by omega) (by omega), w32_id (a := s) (by omega) (by omega), if_pos q1]
    exact ⟨0, rfl, Or.inl rfl, fun z => by omega, fun z => by omega⟩
  · by_cases q2 : n < e
    · rw [w32_id (a := n) (by omega) (by omega), w32_id (a := s) (by omega) (by omega), w32_id (a := e) (by omega) (by omega), w32_id (a := n - s) (by omega) (by omega), if_neg q1, if_pos q2, if_pos (show 0 ≤ n - s ∧ n - s < 802 by omega)]
      obtain ⟨f1, f2⟩ := h4 n (by omega) q2
      rw [w32_id (a := ρ 29 (n - s)) (by omega) (by omega)]
      by_cases q3 : ρ 29 (n - s) = 0
      · rw [if_pos q3]
        exact ⟨0, rfl, Or.inl rfl, fun z => by omega, fun z => by have := f2.2 z.2.2; omega⟩
      · rw [if_neg q3]
        exact ⟨1, rfl, Or.inr rfl, fun _ => ⟨by omega, q2, f2.1 (by omega)⟩, fun _ => rfl⟩
    · rw [w32_id (a := n) (by omega) (by omega), w32_id (a := s) (by omega) (by omega), w32_id (a := e) (by omega) (by omega), if_neg q1, if_neg q2]
      exact ⟨0, rfl, Or.inl rfl, fun z => by omega, fun z => by omega⟩
theorem X5_rests_ok (k : Nat × (Int → Int)) (d : Nat) {σ ρ : St} {s e p n : Int} (h : LK σ ρ s e p) (s0 : 0 ≤ s) (se : s < e) (e1 : e ≤ s + 802) (e2 : e ≤ 1500001) (hw : σ 24 p = 0 ∨ σ 24 p = 1) (n0 : s ≤ n) (n1 : n < e) (A : s = 0 ∨ s ≤ n - 1) (B : e = 1500001 ∨ n + 1 < e) : ∃ v, EV k (d + 2) mX5_rests [vR 4, vI n] ρ = ansI v ρ ∧ (v = 0 ∨ v = 1) ∧ (v = 1 ↔ OFF σ p n) := by
  obtain ⟨v1, a1, a2, a3⟩ := X5_isFree_ok k d h s0 se e1 e2 (n := n) (by omega) (by omega)
  obtain ⟨v2, b1, b2, b3⟩ := X5_isFree_ok k d h s0 se e1 e2 (n := n - 1) (by omega) (by omega)
  obtain ⟨v3, c1, c2, c3⟩ := X5_isFree_ok k d h s0 se e1 e2 (n := n + 1) (by omega) (by omega)
  have a4 : v1 = 1 ↔ FREE σ p n := a3.trans ⟨fun z => z.2.2, fun z => ⟨n0, n1, z⟩⟩
  have b4 : v2 = 1 ↔ FREE σ p (n - 1) := b3.trans ⟨fun z => z.2.2, fun z => ⟨by have := z.1; omega, by omega, z⟩⟩
  have c4 : v3 = 1 ↔ FREE σ p (n + 1) := c3.trans ⟨fun z => z.2.2, fun z => ⟨by omega, by have := z.1; omega, z⟩⟩
  unfold OFF
  rw [← a4, ← b4, ← c4, eX5_rests, bX5_rests_0, a1, jbI_some, h.2.2.1]
  rcases a2 with z1 | z1
  · rw [z1, i00]
    rcases hw with w | w
    · rw [w, i00]
      exact ⟨0, rfl, Or.inl rfl, by omega⟩
    · rw [w, i10, b1, jbI_some]
      rcases b2 with z2 | z2
      · rw [z2, i00]
        exact ⟨0, rfl, Or.inl rfl, by omega⟩
      · rw [z2, i10, c1, jbI_some]
        rcases c2 with z3 | z3
        · rw [z3, i00]
          exact ⟨0, rfl, Or.inl rfl, by omega⟩
        · rw [z3, i10]
          exact ⟨1, rfl, Or.inr rfl, by omega⟩
  · rw [z1, i10]
    exact ⟨1, rfl, Or.inr rfl, by omega⟩
theorem free_rules (k : Nat × (Int → Int)) (d : Nat) {σ : St} (h : HQ σ) (hP : PR σ) {s y n p Y : Int} (s0 : 0 ≤ s) (s1 : s ≤ 180) (y1 : 0 ≤ y) (y2 : y ≤ 5000) (hT : 0 < σ 4 9 → KT σ s y) (n0 : 0 ≤ n) (n1 : n ≤ 1500000) (p0 : 0 ≤ p) (p1 : p < σ 4 4) : ∀ (t : Nat) (i : Int) (u7 : PV), 0 ≤ i → i + t = σ 4 9 → ((∃ j, i ≤ j ∧ j < σ 4 9 ∧ σ 25 j = p ∧ HIT σ y j n) ∧ out (WV k) (EV k d) MX9_isFree 80 [vR 33, vI p, vI n, vI Y, vI y, vI s, vI i, u7] [] σ = ansI 1 σ) ∨ ((¬ ∃ j, i ≤ j ∧ j < σ 4 9 ∧ σ 25 j = p ∧ HIT σ y j n) ∧ ∃ u5 u6 u7', out (WV k) (EV k d) MX9_isFree 80 [vR 33, vI p, vI n, vI Y, vI y, vI s, vI i, u7] [] σ = out (WV k) (EV k d) MX9_isFree 40 [vR 33, vI p, vI n, vI Y, vI (y + 1), u5, u6, u7'] [] σ) := by
  obtain ⟨P1, P2, P3, P4, P5, P6⟩ := id hP
  have f1 := h.2.2.1.1
  intro t
  induction t with
  | zero =>
    intro i u7 i0 i1
    refine Or.inr ⟨?_, vI s, vI i, u7, ?_⟩
    · rintro ⟨j, j0, j1, _⟩
      omega
    · rw [bX9_isFree_80, P4, w32_id (a := i) (by omega) (by omega), w32_id (a := σ 4 9) (by omega) (by omega), if_neg (by omega)]
  | succ t ih =>
    intro i u7 i0 i1
    push_cast at i1
    have hi : 0 ≤ i ∧ i < 48 := by omega
    have il : i < σ 4 9 := by omega
    obtain ⟨a1, a2, a3, a4, e50, e51, e52, e53⟩ := P6 i i0 il
    have kt := (hT (by omega) (σ 26 i) a2.1 a2.2).2
    have pb := PD_b h y1 y2 a2.1 a2.2
    have hs : 0 ≤ s + σ 26 i ∧ s + σ 26 i < 240 := by omega
    have nxt : ∀ u7', ¬ (σ 25 i = p ∧ HIT σ y i n) → ((∃ j, i ≤ j ∧ j < σ 4 9 ∧ σ 25 j = p ∧ HIT σ y j n) ∧ out (WV k) (EV k d) MX9_isFree 80 [vR 33, vI p, vI n, vI Y, vI y, vI s, vI (i + 1), u7'] [] σ = ansI 1 σ) ∨ ((¬ ∃ j, i ≤ j ∧ j < σ 4 9 ∧ σ 25 j = p ∧ HIT σ y j n) ∧ ∃ u5 u6 u7'', out (WV k) (EV k d) MX9_isFree 80 [vR 33, vI p, vI n, vI Y, vI y, vI s, vI (i + 1), u7'] [] σ = out (WV k) (EV k d) MX9_isFree 40 [vR 33, vI p, vI n, vI Y, vI (y + 1), u5, u6, u7''] [] σ) := by
      intro u7' nz
      rcases ih (i + 1) u7' (by omega) (by omega) with ⟨⟨j, j0, j1⟩, o⟩ | ⟨no, o⟩
      · exact Or.inl ⟨⟨j, by omega, j1⟩, o⟩
      · refine Or.inr ⟨?_, o⟩
        rintro ⟨j, j0, j1, j2, j3⟩
        by_cases q : j = i
        · rw [q] at j2 j3
          exact nz ⟨j2, j3⟩
        · exact no ⟨j, by omega, j1, j2, j3⟩
    rw [bX9_isFree_80, P4, w32_id (a := i) (by omega) (by omega), w32_id (a := σ 4 9) (by omega) (by omega), if_pos il, e50, e51, e52, e53, w32_id (a := s + σ 26 i) (by omega) (by omega), kt, w32_id (a := σ 25 i) (by omega) (by omega), w32_id (a := p) (by omega) (by omega), w32_id (a := PD σ y (σ 26 i)) (by omega) (by omega), show w32 (-2) = -2 by decide, w32_id (a := n) (by omega) (by omega), w32_id (a := PD σ y (σ 26 i) - σ 27 i) (by omega) (by omega), w32_id (a := PD σ y (σ 26 i) + σ 28 i) (by omega) (by omega)]
    simp only [if_pos hi, if_pos hs]
    by_cases q1 : σ 25 i = p
    · rw [if_pos q1]
      by_cases q2 : PD σ y (σ 26 i) = -2
      · rw [if_pos q2]
        exact nxt _ (fun z => z.2.1 q2)
      · rw [if_neg q2]
        by_cases q3 : n < PD σ y (σ 26 i) - σ 27 i
        · rw [if_pos q3]
          exact nxt _ (fun z => by have := z.2.2.1; omega)
        · rw [if_neg q3]
          by_cases q4 : PD σ y (σ 26 i) + σ 28 i < n
          · rw [if_pos q4]
            exact nxt _ (fun z => by have := z.2.2.2; omega)
          · rw [if_neg q4]
            exact Or.inl ⟨⟨i, by omega, il, q1, q2, by omega, by omega⟩, rfl⟩
    · rw [if_neg q1]
      exact nxt _ (fun z => q1 z.1)
theorem FYs_re {σ ρ : St} (h : RE σ ρ) (p n y : Int) : FYs ρ p n y ↔ FYs σ p n y := by
  unfold FYs HIT
  rw [h.fs.pd, h.1 4 (by decide), h.1 25 (by decide), h.1 26 (by decide), h.1 27 (by decide), h.1 28 (by decide)]
theorem free_years (k : Nat × (Int → Int)) (d : Nat) {σ : St} (h : HQ σ) (hP : PR σ) {n p Y : Int} (n0 : 0 ≤ n) (n1 : n ≤ 1500000) (p0 : 0 ≤ p) (p1 : p < σ 4 4) (Y0 : 0 ≤ Y) (Y1 : Y ≤ 4200) : ∀ (t : Nat) (y : Int) (τ : St) (u5 u6 u7 : PV), y + t = Y + 2 → Y - 1 ≤ y → RE σ τ → C9 τ → ∃ v ρ, out (WV k) (EV k (d + 9)) MX9_isFree 40 [vR 33, vI p, vI n, vI Y, vI y, u5, u6, u7] [] τ = ansI v ρ ∧ RE σ ρ ∧ C9 ρ ∧ (v = 0 ∨ v = 1) ∧ (v = 1 ↔ ∃ z, y ≤ z ∧ z ≤ Y + 1 ∧ 0 ≤ z ∧ z ≤ 5000 ∧ FYs σ p n z) := by
  intro t
  induction t with
  | zero =>
    intro y τ u5 u6 u7 yt yY r c
    refine ⟨0, τ, ?_, r, c, Or.inl rfl, fun z => by omega, ?_⟩
    · rw [bX9_isFree_40, w32_id (a := Y + 1) (by omega) (by omega), w32_id (a := y) (by omega) (by omega), if_pos (by omega)]
    · rintro ⟨z, z0, z1, _⟩
      omega
  | succ t ih =>
    intro y τ u5 u6 u7 yt yY r c
    push_cast at yt
    have H := h.re r c
    have hP1 := r.pr hP
    rw [bX9_isFree_40, w32_id (a := Y + 1) (by omega) (by omega), w32_id (a := y) (by omega) (by omega), if_neg (by omega), X9_isYear_ok k (d + 7) H.1 H.2.1 (by omega) (by omega) (by omega) (by omega), jbI_some, ib]
    by_cases q : 0 ≤ y ∧ y ≤ 5000
    · rw [if_pos (show yfst 0 ≤ y ∧ y ≤ ylst (τ 1 2) 0 from q)]
      have key : ∀ (τ1 : St) (s : Int), RE σ τ1 → C9 τ1 → 0 ≤ s → s ≤ 180 → (0 < τ1 4 9 → KT τ1 s y) → ∃ v ρ, out (WV k) (EV k (d + 9)) MX9_isFree 80 [vR 33, vI p, vI n, vI Y, vI y, vI s, vI 0, u7] [] τ1 = ansI v ρ ∧ RE σ ρ ∧ C9 ρ ∧ (v = 0 ∨ v = 1) ∧ (v = 1 ↔ ∃ z, y ≤ z ∧ z ≤ Y + 1 ∧ 0 ≤ z ∧ z ≤ 5000 ∧ FYs σ p n z) := by
        intro τ1 s r1 c1 s0 s1 kt
        have H1 := h.re r1 c1
        have hP2 := r1.pr hP
        have e4 : τ1 4 4 = σ 4 4 := by rw [r1.1 4 (by decide)]
        rcases free_rules k (d + 9) H1 hP2 (s := s) (y := y) (n := n) (p := p) (Y := Y) s0 s1 q.1 q.2 kt n0 n1 p0 (by rw [e4]; exact p1) (τ1 4 9).toNat 0 u7 (by omega) (by have := hP2.2.1; omega) with ⟨⟨j, j0, j1⟩, o⟩ | ⟨no, v5, v6, v7, o⟩
        · refine ⟨1, τ1, o, r1, c1, Or.inr rfl, fun _ => ⟨y, by omega, by omega, q.1, q.2, (FYs_re r1 p n y).1 ⟨j, j0, j1⟩⟩, fun _ => rfl⟩
        · obtain ⟨v, ρ, i1, i2, i3, i4, i5⟩ := ih (y + 1) τ1 v5 v6 v7 (by omega) (by omega) r1 c1
          refine ⟨v, ρ, by rw [o]; exact i1, i2, i3, i4, i5.trans ⟨?_, ?_⟩⟩
          · rintro ⟨z, z0, z1⟩
            exact ⟨z, by omega, z1⟩
          · rintro ⟨z, z0, z1, z2, z3, z4⟩
            by_cases e : z = y
            · rw [e] at z4
              obtain ⟨j, j0, j1⟩ := (FYs_re r1 p n y).2 z4
              exact absurd ⟨j, j0, j1⟩ no
            · exact ⟨z, by omega, z1, z2, z3, z4⟩
      have e26 : τ 33 26 = τ 4 9 := hP1.2.2.2.1
      have e9b := hP1.2.1
      rw [e26, w32_id (a := τ 4 9) (by omega) (by omega)]
      by_cases q9 : 0 < τ 4 9
      · rw [if_pos q9]
        obtain ⟨ρ, j, k1, k2, k3, k4, k5, k6⟩ := kept9 k d H q.1 q.2
        rw [k1, jbI_some]
        exact key ρ (60 * j) (r.trans k4) k5 (by omega) (by omega) (fun _ => k6)
      · rw [if_neg q9]
        exact key τ 0 r c (by omega) (by omega) (fun z => absurd z q9)
    · rw [if_neg (show ¬ (yfst 0 ≤ y ∧ y ≤ ylst (τ 1 2) 0) from q)]
      obtain ⟨v, ρ, i1, i2, i3, i4, i5⟩ := ih (y + 1) τ u5 u6 u7 (by omega) (by omega) r c
      refine ⟨v, ρ, i1, i2, i3, i4, i5.trans ⟨?_, ?_⟩⟩
      · rintro ⟨z, z0, z1⟩
        exact ⟨z, by omega, z1⟩
      · rintro ⟨z, z0, z1, z2, z3, z4⟩
        by_cases e : z = y
        · omega
        · exact ⟨z, by omega, z1, z2, z3, z4⟩
theorem X9_isFree_ok (k : Nat × (Int → Int)) (d : Nat) {σ : St} (h : HQ σ) (hP : PR σ) {n p : Int} (hn : I32 n) (p0 : 0 ≤ p) (p1 : p < σ 4 4) : ∃ v ρ, EV k (d + 10) mX9_isFree [vR 33, vI p, vI n] σ = ansI v ρ ∧ RE σ ρ ∧ C9 ρ ∧ (v = 0 ∨ v = 1) ∧ (v = 1 ↔ FREE σ p n) := by
  obtain ⟨P1, P2, P3, P4, P5, P6⟩ := id hP
  unfold I32 at hn
  rw [eX9_isFree, bX9_isFree_0, w32_id (a := n) hn.1 hn.2, X9_isDay_ok k (d + 8) σ (by omega) (by omega), jbI_some, ib]
  by_cases q : 0 ≤ n ∧ n ≤ 1500000
  · obtain ⟨w1, w2, e48, e49⟩ := P5 p p0 p1
    rw [if_pos q, w32_id (a := p) (by omega) (by omega), if_pos (show 0 ≤ p ∧ p < 8 by omega), e48]
    by_cases z : w32 (jand (jshr (σ 23 p) (jr n 7)) 1) = w32 1
    · rw [if_pos z]
      exact ⟨1, σ, rfl, RE.refl σ, h.2.2.2.2.2.2, Or.inr rfl, fun _ => ⟨q, Or.inl z⟩, fun _ => rfl⟩
    · rw [if_neg z]
      obtain ⟨Y, hY, _, _⟩ := exYr h.1 n
      have yb := Yr_in h.1 q.1 q.2 hY
      obtain ⟨v, ρ, i1, i2, i3, i4, i5⟩ := free_years k d h hP (n := n) (p := p) (Y := Y) q.1 q.2 p0 p1 yb.2.2.1 yb.2.2.2 3 (Y - 1) σ vU vU vU (by omega) (by omega) (RE.refl σ) h.2.2.2.2.2.2
      rw [X9_yearOf_ok k (d + 4) h.1 (by omega) (by omega) (by omega) (by omega) hY, jbI_some]
      refine ⟨v, ρ, i1, i2, i3, i4, i5.trans ⟨?_, ?_⟩⟩
      · rintro ⟨y, y0, y1, y2, y3, y4⟩
        exact ⟨q, Or.inr ⟨y, Y, hY, y2, y3, y0, y1, y4⟩⟩
      · rintro ⟨_, w | ⟨y, Z, hZ, y2, y3, y0, y1, y4⟩⟩
        · exact absurd w z
        · have e0 := IsY.one h.1 (by omega) (by omega) hY hZ
          rw [← e0] at y0 y1
          exact ⟨y, y0, y1, y2, y3, y4⟩
  · rw [if_neg q]
    exact ⟨0, σ, rfl, RE.refl σ, h.2.2.2.2.2.2, Or.inl rfl, fun z => by omega, fun z => absurd z.1 q⟩
theorem X9_isOffDay_ok (k : Nat × (Int → Int)) (d : Nat) {σ : St} (h : HQ σ) (hP : PR σ) {n p : Int} (n0 : 0 ≤ n) (n1 : n ≤ 1500000) (p0 : 0 ≤ p) (p1 : p < σ 4 4) : ∃ v ρ, EV k (d + 11) mX9_isOffDay [vR 33, vI p, vI n] σ = ansI v ρ ∧ RE σ ρ ∧ C9 ρ ∧ (v = 0 ∨ v = 1) ∧ (v = 1 ↔ OFF σ p n) := by
  obtain ⟨P1, P2, P3, P4, P5, P6⟩ := id hP
  obtain ⟨w1, w2, e48, e49⟩ := P5 p p0 p1
  obtain ⟨v1, ρ1, a1, a2, a3, a4, a5⟩ := X9_isFree_ok k d h hP (n := n) (by unfold I32; omega) p0 p1
  rw [eX9_isOffDay, bX9_isOffDay_0, a1, jbI_some, w32_id (a := p) (by omega) (by omega)]
  have hp : 0 ≤ p ∧ p < 8 := by omega
  unfold OFF
  rw [← a5]
  rcases a4 with z1 | z1
  · have e : ρ1 49 p = σ 24 p := by rw [a2.1 49 (by decide), e49]
    rw [z1, i00, if_pos hp, e]
    rcases w2 with w | w
    · rw [w, i00]
      exact ⟨0, ρ1, rfl, a2, a3, Or.inl rfl, by omega⟩
    · have H1 := h.re a2 a3
      have hP1 := a2.pr hP
      have e4 : ρ1 4 4 = σ 4 4 := by rw [a2.1 4 (by decide)]
      obtain ⟨v2, ρ2, b1, b2, b3, b4, b5⟩ := X9_isFree_ok k d H1 hP1 (n := n - 1) (p := p) (by unfold I32; omega) p0 (by omega)
      rw [a2.free] at b5
      rw [w, i10, b1, jbI_some, ← b5]
      rcases b4 with z2 | z2
      · rw [z2, i00]
        exact ⟨0, ρ2, rfl, a2.trans b2, b3, Or.inl rfl, by omega⟩
      · have H2 := H1.re b2 b3
        have hP2 := b2.pr hP1
        have e4' : ρ2 4 4 = ρ1 4 4 := by rw [b2.1 4 (by decide)]
        obtain ⟨v3, ρ3, c1, c2, c3, c4, c5⟩ := X9_isFree_ok k d H2 hP2 (n := n + 1) (p := p) (by unfold I32; omega) p0 (by omega)
        rw [b2.free, a2.free] at c5
        rw [z2, i10, c1, jbI_some, ← c5]
        rcases c4 with z3 | z3
        · rw [z3, i00]
          exact ⟨0, ρ3, rfl, a2.trans (b2.trans c2), c3, Or.inl rfl, by omega⟩
        · rw [z3, i10]
          exact ⟨1, ρ3, rfl, a2.trans (b2.trans c2), c3, Or.inr rfl, by omega⟩
  · rw [z1, i10]
    exact ⟨1, ρ1, rfl, a2, a3, Or.inr rfl, by omega⟩
