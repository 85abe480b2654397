/-! years of days; lookAt put together; rests -/
theorem Yr_in {σ : St} (hC : CF σ) {n Y : Int} (n0 : 0 ≤ n) (n1 : n ≤ 1500000) (hY : IsY σ 0 n Y) : Ys σ 0 Y ≤ n ∧ n < Ys σ 0 (Y + 1) ∧ 0 ≤ Y ∧ Y ≤ 4200 := by
  obtain ⟨a1, a2, a3, a4⟩ := hY
  have lo := Ys_lo σ (c := 0) (by omega) (by omega)
  have hi := Ys_hi σ (c := 0) (by omega) (by omega)
  have a1' : (0 : Int) ≤ Y := a1
  have a2' : Y ≤ 5000 := a2
  have b1 : Ys σ 0 Y ≤ n := by
    rcases a3 with z | z
    · rw [z]; omega
    · exact z
  have b2 : n < Ys σ 0 (Y + 1) := by
    rcases a4 with z | z
    · have z' : Y = 5000 := z
      rw [z']
      show n < Ys σ 0 5001
      omega
    · exact z
  refine ⟨b1, b2, a1', ?_⟩
  have e : Ys σ 0 Y = greg Y - 60 := rfl
  rw [e] at b1
  unfold greg at b1
  omega
theorem Yr_mono {σ : St} (hC : CF σ) {n m Y Z : Int} (n0 : 0 ≤ n) (nm : n ≤ m) (m1 : m ≤ 1500000) (hY : IsY σ 0 n Y) (hZ : IsY σ 0 m Z) : Y ≤ Z := by
  obtain ⟨a1, a2, a3, a4⟩ := Yr_in hC n0 (by omega) hY
  obtain ⟨b1, b2, b3, b4⟩ := Yr_in hC (by omega) m1 hZ
  apply Classical.byContradiction
  intro w
  have := Ys_mono hC (c := 0) (a := Z + 1) (b := Y) (by omega) (by omega) (by show (0 : Int) ≤ Z + 1; omega) (by omega) (by show Y ≤ 5000 + 1; omega)
  omega
theorem Yr_rel {σ : St} (hC : CF σ) {n Y y : Int} (n0 : 0 ≤ n) (n1 : n ≤ 1500000) (hY : IsY σ 0 n Y) (y0 : 0 ≤ y) (y1 : y ≤ 4300) : ((if Ys σ 0 (if y - 1 ≤ 0 then 0 else y - 1) ≤ 0 then 0 else Ys σ 0 (if y - 1 ≤ 0 then 0 else y - 1)) ≤ n ∧ n ≤ (if 1500000 ≤ Ys σ 0 (y + 1 + 1) - 1 then 1500000 else Ys σ 0 (y + 1 + 1) - 1)) ↔ (Y - 1 ≤ y ∧ y ≤ Y + 1) := by
  obtain ⟨a1, a2, a3, a4⟩ := Yr_in hC n0 n1 hY
  have lo := Ys_lo σ (c := 0) (by omega) (by omega)
  have lo' : Ys σ 0 0 ≤ 0 := lo
  have mono : ∀ a b : Int, 0 ≤ a → a ≤ b → b ≤ 5001 → Ys σ 0 a + (b - a) ≤ Ys σ 0 b := fun a b h1 h2 h3 => Ys_mono hC (c := 0) (by omega) (by omega) (show (0 : Int) ≤ a from h1) h2 (by show b ≤ 5000 + 1; omega)
  have up : n ≤ (if 1500000 ≤ Ys σ 0 (y + 1 + 1) - 1 then 1500000 else Ys σ 0 (y + 1 + 1) - 1) ↔ Y - 1 ≤ y := by
    constructor
    · intro z
      apply Classical.byContradiction
      intro w
      have := mono (y + 1 + 1) Y (by omega) (by omega) (by omega)
      split at z <;> omega
    · intro z
      have := mono (Y + 1) (y + 1 + 1) (by omega) (by omega) (by omega)
      split <;> omega
  have dn : (if Ys σ 0 (if y - 1 ≤ 0 then 0 else y - 1) ≤ 0 then 0 else Ys σ 0 (if y - 1 ≤ 0 then 0 else y - 1)) ≤ n ↔ y ≤ Y + 1 := by
    by_cases q : y - 1 ≤ 0
    · rw [if_pos q, if_pos lo']
      omega
    · rw [if_neg q]
      constructor
      · intro z
        apply Classical.byContradiction
        intro w
        have := mono (Y + 1) (y - 1) (by omega) (by omega) (by omega)
        split at z <;> omega
      · intro z
        have := mono (y - 1) Y (by omega) (by omega) (by omega)
        split <;> omega
  rw [up, dn]
  exact ⟨fun z => ⟨z.2, z.1⟩, fun z => ⟨z.2, z.1⟩⟩
def YRL (σ : St) (n y : Int) : Prop := ∃ Y, IsY σ 0 n Y ∧ Y - 1 ≤ y ∧ y ≤ Y + 1
theorem markFeasts_ok (k : Nat × (Int → Int)) (d : Nat) {σ : St} (h : HQ σ) (hP : PR σ) {s e w p y : Int} (s0 : 0 ≤ s) (se : s < e) (e1 : e ≤ s + 802) (e2 : e ≤ 1500001) (p0 : 0 ≤ p) (p1 : p < σ 4 4) (y1 : 0 ≤ y) (y2 : y ≤ 4300) {τ : St} {Q : Int → Prop} (hJ : JL σ τ s e w Q) (hT : PT τ y) : ∃ ρ, JL σ ρ s e w (fun n => Q n ∨ (YRL σ n y ∧ FYs σ p n y)) ∧ EV k (d + 4) mX5_markFeasts [vR 4, vI p, vI y] τ = some (none, ρ) := by
  have c := hJ.1
  have H := h.ce c hJ.2.1
  have hC := h.1
  have q12 : τ 1 2 = σ 1 2 := by rw [c.1 1 (by decide)]
  have q9 : τ 9 = σ 9 := c.1 9 (by decide)
  obtain ⟨y', hy'⟩ : ∃ y', y' = if y - 1 ≤ 0 then 0 else y - 1 := ⟨_, rfl⟩
  have yb : 0 ≤ y' ∧ y' ≤ 4300 := by rw [hy']; split <;> omega
  have fb := fd_b hC (y := y') yb.1 (by omega)
  have lb := fd_b hC (y := y + 1) (by omega) (by omega)
  unfold fdI ldI at fb
  unfold fdI ldI at lb
  obtain ⟨F, hF⟩ : ∃ F, F = (if (if Ys σ 0 y' ≤ 0 then 0 else Ys σ 0 y') ≤ s then s else (if Ys σ 0 y' ≤ 0 then 0 else Ys σ 0 y')) := ⟨_, rfl⟩
  obtain ⟨L, hL⟩ : ∃ L, L = (if e - 1 ≤ (if 1500000 ≤ Ys σ 0 (y + 1 + 1) - 1 then 1500000 else Ys σ 0 (y + 1 + 1) - 1) then e - 1 else (if 1500000 ≤ Ys σ 0 (y + 1 + 1) - 1 then 1500000 else Ys σ 0 (y + 1 + 1) - 1)) := ⟨_, rfl⟩
  obtain ⟨FF, hFF⟩ : ∃ FF, FF = (if Ys σ 0 y' ≤ 0 then 0 else Ys σ 0 y') := ⟨_, rfl⟩
  obtain ⟨LL, hLL⟩ : ∃ LL, LL = (if 1500000 ≤ Ys σ 0 (y + 1 + 1) - 1 then 1500000 else Ys σ 0 (y + 1 + 1) - 1) := ⟨_, rfl⟩
  rw [← hFF] at hF fb
  rw [← hLL] at hL lb
  have F1 : s ≤ F ∧ FF ≤ F ∧ (F = s ∨ F = FF) := by rw [hF]; split <;> omega
  have L1 : L ≤ e - 1 ∧ L ≤ LL ∧ (L = e - 1 ∨ L = LL) := by rw [hL]; split <;> omega
  obtain ⟨ρ, r1, r2⟩ := mark_rules k (d + 1) h hP (s := s) (e := e) (w := w) (p := p) (y := y) (F := F) (L := L) s0 (by omega) e1 e2 p0 p1 y1 (by omega) (by omega) (by omega) (by omega) (by omega) (σ 4 9).toNat 0 τ Q vU vU vU (by omega) (by have := hP.2.1; omega) hJ hT
  refine ⟨ρ, JL_c r1 (fun n n0 n1 => ?_), ?_⟩
  · obtain ⟨Y, hY, _, _⟩ := exYr hC n
    have rel := Yr_rel hC (show 0 ≤ n by omega) (show n ≤ 1500000 by omega) hY y1 (show y ≤ 4300 by omega)
    rw [← hy', ← hFF, ← hLL] at rel
    constructor
    · rintro (z | ⟨j, j0, j1, j2, j3, j4⟩)
      · exact Or.inl z
      · exact Or.inr ⟨⟨Y, hY, rel.1 (by omega)⟩, j, j0, j1, j2, j3⟩
    · rintro (z | ⟨⟨Z, hZ, zr⟩, j, j0, j1, j2, j3⟩)
      · exact Or.inl z
      · have e0 := IsY.one hC (by omega) (by omega) hY hZ
        rw [← e0] at zr
        have := rel.2 zr
        exact Or.inr ⟨j, j0, j1, j2, j3, by omega, by omega⟩
  · rw [eX5_markFeasts, bX5_markFeasts_0, J9_max_ok k (d + 2) τ (by omega) (by omega) (by omega) (by omega), jbI_some, ← hy', X0_firstDayIn_ok k d (c.fs.cf hC) yb.1 (by omega), jbI_some, Ys_same q12 q9, ← hFF, hJ.2.2.1, J9_max_ok k (d + 2) τ (by omega) (by omega) (by omega) (by omega), jbI_some, ← hF, X0_lastDayIn_ok k d (c.fs.cf hC) (by omega) (by omega), jbI_some, Ys_same q12 q9, ← hLL, hJ.2.2.2.1, J9_min_ok k (d + 2) τ (by omega) (by omega) (by omega) (by omega), jbI_some, ← hL]
    exact r2
theorem look_years (k : Nat × (Int → Int)) (d : Nat) {σ : St} (h : HQ σ) (hP : PR σ) {s e w p x2 x3 x4 x5 : Int} (s0 : 0 ≤ s) (se : s < e) (e1 : e ≤ s + 802) (e2 : e ≤ 1500001) (p0 : 0 ≤ p) (p1 : p < σ 4 4) (h5 : 0 ≤ x5) (h6 : x5 ≤ 4300) : ∀ (t : Nat) (y : Int) (τ : St) (Q : Int → Prop), 0 ≤ y → y ≤ 5000 → (x5 + 1 - y).toNat = t → JL σ τ s e w Q → ∃ ρ, JL σ ρ s e w (fun n => Q n ∨ ∃ z, y ≤ z ∧ z ≤ x5 ∧ YRL σ n z ∧ FYs σ p n z) ∧ out (WV k) (EV k (d + 6)) MX5_lookAt 168 [vR 4, vI p, vI x2, vI x3, vI x4, vI x5, vI y] [] τ = some (none, ρ) := by
  intro t
  induction t with
  | zero =>
    intro y τ Q y0 y1 ht hJ
    refine ⟨τ, JL_c hJ (fun n _ _ => ⟨fun z => Or.inl z, ?_⟩), ?_⟩
    · rintro (z | ⟨z, z0, z1, _⟩)
      · exact z
      · omega
    · rw [bX5_lookAt_168, w32_id (a := x5) (by omega) (by omega), w32_id (a := y) (by omega) (by omega), if_pos (by omega)]
  | succ t ih =>
    intro y τ Q y0 y1 ht hJ
    have c := hJ.1
    have H := h.ce c hJ.2.1
    obtain ⟨τ1, m1, m2, m3, m4, m5⟩ := place2 k d H y0 (show y ≤ 5000 by omega)
    have hJ1 : JL σ τ1 s e w Q := by
      obtain ⟨j1, j2, j3, j4, j5, j6⟩ := hJ
      refine ⟨c.trans m2, m3, by rw [m5 4 (by decide)]; exact j3, by rw [m5 4 (by decide)]; exact j4, by rw [m5 4 (by decide)]; exact j5, ?_⟩
      unfold FM
      rw [m5 29 (by decide)]
      exact j6
    obtain ⟨τ2, n1, n2⟩ := markFeasts_ok k (d + 2) h hP s0 se e1 e2 p0 p1 y0 (by omega) hJ1 m4
    obtain ⟨ρ, r1, r2⟩ := ih (y + 1) τ2 _ (by omega) (by omega) (by omega) n1
    refine ⟨ρ, JL_c r1 (fun n _ _ => ⟨?_, ?_⟩), ?_⟩
    · rintro ((z | z) | ⟨z, z0, z1⟩)
      · exact Or.inl z
      · exact Or.inr ⟨y, by omega, by omega, z⟩
      · exact Or.inr ⟨z, by omega, z1⟩
    · rintro (z | ⟨z, z0, z1, z2⟩)
      · exact Or.inl (Or.inl z)
      · by_cases q : z = y
        · rw [q] at z2
          exact Or.inl (Or.inr z2)
        · exact Or.inr ⟨z, by omega, z1, z2⟩
    · rw [bX5_lookAt_168, w32_id (a := x5) (by omega) (by omega), w32_id (a := y) (by omega) (by omega), if_neg (by omega), m1, jbV_some, n2, jbV_some]
      exact r2
def rcn (σ : St) (p : Int) : Nat → Int
  | 0 => 0
  | m + 1 => rcn σ p m + (if σ 25 m = p then 1 else 0)
theorem rcn_s (σ : St) (p : Int) (m : Nat) : rcn σ p (m + 1) = rcn σ p m + (if σ 25 m = p then 1 else 0) := rfl
theorem rcn_b (σ : St) (p : Int) (m : Nat) : 0 ≤ rcn σ p m ∧ rcn σ p m ≤ m := by
  induction m with
  | zero => exact ⟨Int.le_refl 0, Int.le_refl 0⟩
  | succ m ih => rw [rcn_s]; push_cast; split <;> omega
theorem rcn_0 (σ : St) (p : Int) (m : Nat) (h : rcn σ p m = 0) : ∀ i : Nat, i < m → σ 25 i ≠ p := by
  induction m with
  | zero => intro i hi; omega
  | succ m ih =>
    rw [rcn_s] at h
    have b := rcn_b σ p m
    intro i hi
    by_cases z : i = m
    · rw [z]
      intro w
      rw [if_pos w] at h
      omega
    · refine ih ?_ i (by omega)
      split at h <;> omega
theorem rulesOf_loop (k : Nat × (Int → Int)) (d : Nat) {σ : St} (h9 : 0 ≤ σ 4 9 ∧ σ 4 9 ≤ 48) (hp : ∀ i, 0 ≤ i → i < σ 4 9 → 0 ≤ σ 25 i ∧ σ 25 i < 8) {p : Int} (p0 : 0 ≤ p) (p1 : p < 8) : ∀ (t j : Nat) (x : Int), (j : Int) + t = σ 4 9 → out (WV k) (EV k d) MX5_rulesOf 4 [vR 4, vI p, vI x, vI j] [] σ = ansI (x + (rcn σ p (σ 4 9).toNat - rcn σ p j)) σ := by
  intro t
  induction t with
  | zero =>
    intro j x hj
    rw [bX5_rulesOf_4, if_neg (by rw [w32_id (by omega) (by omega), w32_id (by omega) (by omega)]; omega), show (σ 4 9).toNat = j by omega]
    exact ansI_c (by omega)
  | succ t ih =>
    intro j x hj
    push_cast at hj
    have hb := hp j (by omega) (by omega)
    rw [bX5_rulesOf_4, w32_id (a := (j : Int)) (by omega) (by omega), w32_id (a := σ 4 9) (by omega) (by omega), if_pos (by omega), if_pos (by omega), w32_id (a := σ 25 j) (by omega) (by omega), w32_id (a := p) (by omega) (by omega)]
    have i1 := ih (j + 1)
    push_cast at i1
    have rs := rcn_s σ p j
    by_cases z : σ 25 j = p
    · rw [if_pos z, i1 _ (by omega)]
      rw [if_pos z] at rs
      exact ansI_c (by omega)
    · rw [if_neg z, i1 _ (by omega)]
      rw [if_neg z] at rs
      exact ansI_c (by omega)
theorem rulesOf_ok (k : Nat × (Int → Int)) (d : Nat) {σ : St} (h9 : 0 ≤ σ 4 9 ∧ σ 4 9 ≤ 48) (hp : ∀ i, 0 ≤ i → i < σ 4 9 → 0 ≤ σ 25 i ∧ σ 25 i < 8) {p : Int} (p0 : 0 ≤ p) (p1 : p < 8) : EV k (d + 1) mX5_rulesOf [vR 4, vI p] σ = ansI (rcn σ p (σ 4 9).toNat) σ := by
  rw [eX5_rulesOf, bX5_rulesOf_0]
  have := rulesOf_loop k d h9 hp p0 p1 (σ 4 9).toNat 0 0 (by omega)
  rw [show ((0 : Nat) : Int) = 0 from rfl, show rcn σ p 0 = 0 from rfl] at this
  rw [this]
  exact ansI_c (by omega)
theorem X5_has_ok (k : Nat × (Int → Int)) (d : Nat) {σ : St} {i : Int} (h1 : I32 i) (h2 : 0 ≤ σ 4 4 ∧ σ 4 4 ≤ 8) : EV k (d + 1) mX5_has [vR 4, vI i] σ = ansI (if 0 ≤ i ∧ i < σ 4 4 then 1 else 0) σ := by
  unfold I32 at h1
  rw [eX5_has, bX5_has_0, w32_id (a := i) h1.1 h1.2, w32_id (a := σ 4 4) (by omega) (by omega)]
  by_cases p : i < 0
  · rw [if_pos p, if_neg (by omega)]
  · by_cases q : i < σ 4 4
    · rw [if_neg p, if_pos q, if_pos (by omega)]
    · rw [if_neg p, if_neg q, if_neg (by omega)]
