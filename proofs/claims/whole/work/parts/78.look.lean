/-! parishes: which days are free; lookAt -/
def PR (σ : St) : Prop := (0 ≤ σ 4 4 ∧ σ 4 4 ≤ 8) ∧ (0 ≤ σ 4 9 ∧ σ 4 9 ≤ 48) ∧ σ 33 23 = σ 4 4 ∧ σ 33 26 = σ 4 9 ∧ (∀ i, 0 ≤ i → i < σ 4 4 → (0 ≤ σ 23 i ∧ σ 23 i ≤ 127) ∧ (σ 24 i = 0 ∨ σ 24 i = 1) ∧ σ 48 i = σ 23 i ∧ σ 49 i = σ 24 i) ∧ ∀ i, 0 ≤ i → i < σ 4 9 → (0 ≤ σ 25 i ∧ σ 25 i < σ 4 4) ∧ (0 ≤ σ 26 i ∧ σ 26 i < σ 3 6) ∧ (0 ≤ σ 27 i ∧ σ 27 i ≤ 10) ∧ (0 ≤ σ 28 i ∧ σ 28 i ≤ 10) ∧ σ 50 i = σ 25 i ∧ σ 51 i = σ 26 i ∧ σ 52 i = σ 27 i ∧ σ 53 i = σ 28 i
theorem CE.pr {σ ρ : St} (h : CE σ ρ) (g : PR σ) : PR ρ := by
  unfold PR
  rw [h.2.2 4 (by decide), h.2.2 9 (by decide), h.1 33 (by decide), h.1 23 (by decide), h.1 24 (by decide), h.1 25 (by decide), h.1 26 (by decide), h.1 27 (by decide), h.1 28 (by decide), h.1 48 (by decide), h.1 49 (by decide), h.1 50 (by decide), h.1 51 (by decide), h.1 52 (by decide), h.1 53 (by decide), h.2.1 6 (by decide)]
  exact g
theorem RE.pr {σ ρ : St} (h : RE σ ρ) (g : PR σ) : PR ρ := by
  unfold PR
  rw [h.1 4 (by decide), h.2 23 (by decide), h.2 26 (by decide), h.1 23 (by decide), h.1 24 (by decide), h.1 25 (by decide), h.1 26 (by decide), h.1 27 (by decide), h.1 28 (by decide), h.1 48 (by decide), h.1 49 (by decide), h.1 50 (by decide), h.1 51 (by decide), h.1 52 (by decide), h.1 53 (by decide), h.1 3 (by decide)]
  exact g
def wkb (W n : Int) : Prop := w32 (jand (jshr W (jr n 7)) 1) = w32 1
def HIT (σ : St) (y i n : Int) : Prop := PD σ y (σ 26 i) ≠ -2 ∧ PD σ y (σ 26 i) - σ 27 i ≤ n ∧ n ≤ PD σ y (σ 26 i) + σ 28 i
def FYs (σ : St) (p n y : Int) : Prop := ∃ i, 0 ≤ i ∧ i < σ 4 9 ∧ σ 25 i = p ∧ HIT σ y i n
def FREE (σ : St) (p n : Int) : Prop := (0 ≤ n ∧ n ≤ 1500000) ∧ (wkb (σ 23 p) n ∨ ∃ y Y, IsY σ 0 n Y ∧ 0 ≤ y ∧ y ≤ 5000 ∧ Y - 1 ≤ y ∧ y ≤ Y + 1 ∧ FYs σ p n y)
def OFF (σ : St) (p n : Int) : Prop := FREE σ p n ∨ (σ 24 p ≠ 0 ∧ FREE σ p (n - 1) ∧ FREE σ p (n + 1))
theorem IsY_same {σ ρ : St} (h : FSa σ ρ) (c n y : Int) : IsY ρ c n y ↔ IsY σ c n y := by
  have a : ρ 1 2 = σ 1 2 := by rw [h.1]
  have b := h.2.2.1
  unfold IsY
  rw [Ys_same a b, Ys_same a b, a]
theorem FREE_same {σ ρ : St} (h : FSa σ ρ) (e9 : ρ 4 9 = σ 4 9) (e23 : ρ 23 = σ 23) (e25 : ρ 25 = σ 25) (e26 : ρ 26 = σ 26) (e27 : ρ 27 = σ 27) (e28 : ρ 28 = σ 28) (p n : Int) : FREE ρ p n ↔ FREE σ p n := by
  unfold FREE FYs HIT
  simp only [e9, e23, e25, e26, e27, e28, h.pd, IsY_same h]
theorem CE.free {σ ρ : St} (h : CE σ ρ) (p n : Int) : FREE ρ p n ↔ FREE σ p n := FREE_same h.fs (h.2.2 9 (by decide)) (h.1 23 (by decide)) (h.1 25 (by decide)) (h.1 26 (by decide)) (h.1 27 (by decide)) (h.1 28 (by decide)) p n
theorem RE.free {σ ρ : St} (h : RE σ ρ) (p n : Int) : FREE ρ p n ↔ FREE σ p n := FREE_same h.fs (by rw [h.1 4 (by decide)]) (h.1 23 (by decide)) (h.1 25 (by decide)) (h.1 26 (by decide)) (h.1 27 (by decide)) (h.1 28 (by decide)) p n
theorem CE.off {σ ρ : St} (h : CE σ ρ) (p n : Int) : OFF ρ p n ↔ OFF σ p n := by
  unfold OFF
  rw [h.free, h.free, h.free, h.1 24 (by decide)]
theorem RE.off {σ ρ : St} (h : RE σ ρ) (p n : Int) : OFF ρ p n ↔ OFF σ p n := by
  unfold OFF
  rw [h.free, h.free, h.free, h.1 24 (by decide)]
/-- marks the days from a to b -/
def mk (τ : St) (s a b : Int) : St := fun q j => if q = 29 ∧ a ≤ j + s ∧ j + s ≤ b then 1 else τ q j
theorem mk_no {τ : St} {s a b : Int} (h : b < a) : mk τ s a b = τ := by
  funext q j
  unfold mk
  rw [if_neg (by omega)]
theorem mk_s {τ : St} {s a b : Int} (h : a ≤ b) : mk (st2 τ 29 (a - s) 1) s (a + 1) b = mk τ s a b := by
  funext q j
  unfold mk st2
  by_cases z : q = 29 ∧ a + 1 ≤ j + s ∧ j + s ≤ b
  · rw [if_pos z, if_pos (by omega)]
  · rw [if_neg z]
    by_cases w : q = 29 ∧ j = a - s
    · rw [if_pos w, if_pos (by omega)]
    · rw [if_neg w]
      by_cases v : q = 29 ∧ a ≤ j + s ∧ j + s ≤ b
      · exfalso
        omega
      · rw [if_neg v]
theorem mk_ne {τ : St} {s a b : Int} {q : Nat} (h : q ≠ 29) : mk τ s a b q = τ q := by
  funext j
  unfold mk
  rw [if_neg (fun z => h z.1)]
theorem mark_days (k : Nat × (Int → Int)) (d : Nat) {s : Int} {x1 x2 x3 x4 x5 x6 x7 : Int} (s0 : 0 ≤ s) (s1 : s ≤ 1500000) (h7 : x7 < s + 802) (h70 : -100 ≤ x7) : ∀ (t : Nat) (x8 : Int) (τ : St), τ 4 11 = s → s ≤ x8 → x8 ≤ 2000000 → (x7 + 1 - x8).toNat = t → ∃ v8, out (WV k) (EV k d) MX5_markFeasts 122 [vR 4, vI x1, vI x2, vI x3, vI x4, vI x5, vI x6, vI x7, vI x8] [] τ = out (WV k) (EV k d) MX5_markFeasts 46 [vR 4, vI x1, vI x2, vI x3, vI x4, vI (x5 + 1), vI x6, vI x7, v8] [] (mk τ s x8 x7) := by
  intro t
  induction t with
  | zero =>
    intro x8 τ e1 e2 e3 e4
    refine ⟨vI x8, ?_⟩
    rw [bX5_markFeasts_122, w32_id (a := x7) (by omega) (by omega), w32_id (a := x8) (by omega) (by omega), if_pos (by omega), mk_no (by omega)]
  | succ t ih =>
    intro x8 τ e1 e2 e3 e4
    obtain ⟨v8, e5⟩ := ih (x8 + 1) (st2 τ 29 (x8 - s) 1) (by rw [st2_cell (by decide)]; exact e1) (by omega) (by omega) (by omega)
    refine ⟨v8, ?_⟩
    rw [bX5_markFeasts_122, w32_id (a := x7) (by omega) (by omega), w32_id (a := x8) (by omega) (by omega), if_neg (by omega), e1, w32_id (a := x8 - s) (by omega) (by omega), if_pos (by omega), if_pos (by decide), e5, mk_s (by omega)]
/-- the days of the stretch that are marked -/
def FM (τ : St) (s e : Int) (Q : Int → Prop) : Prop := ∀ n, s ≤ n → n < e → (τ 29 (n - s) = 0 ∨ τ 29 (n - s) = 1) ∧ (τ 29 (n - s) = 1 ↔ Q n)
theorem FM_mk {τ : St} {s e a b : Int} {Q : Int → Prop} (h : FM τ s e Q) : FM (mk τ s a b) s e (fun n => Q n ∨ (a ≤ n ∧ n ≤ b)) := by
  intro n n0 n1
  obtain ⟨h1, h2⟩ := h n n0 n1
  unfold mk
  by_cases z : a ≤ n ∧ n ≤ b
  · rw [if_pos (by omega)]
    exact ⟨Or.inr rfl, fun _ => Or.inr z, fun _ => rfl⟩
  · rw [if_neg (by omega)]
    refine ⟨h1, fun w => Or.inl (h2.1 w), ?_⟩
    rintro (w | w)
    · exact h2.2 w
    · exact absurd w z
theorem FM_c {τ : St} {s e : Int} {Q R : Int → Prop} (h : FM τ s e Q) (g : ∀ n, s ≤ n → n < e → (Q n ↔ R n)) : FM τ s e R := fun n n0 n1 => ⟨(h n n0 n1).1, (h n n0 n1).2.trans (g n n0 n1)⟩
/-- where lookAt stands -/
def JL (σ τ : St) (s e w : Int) (Q : Int → Prop) : Prop := CE σ τ ∧ CV τ ∧ τ 4 11 = s ∧ τ 4 12 = e ∧ τ 4 13 = w ∧ FM τ s e Q
theorem CE_mk {σ τ : St} (h : CE σ τ) (s a b : Int) : CE σ (mk τ s a b) := ⟨fun q hq => by rw [mk_ne (by rintro rfl; exact hq (by decide))]; exact h.1 q hq, fun x hx => by rw [mk_ne (by decide)]; exact h.2.1 x hx, fun x hx => by rw [mk_ne (by decide)]; exact h.2.2 x hx⟩
theorem FS_mk (τ : St) (s a b : Int) : FSa τ (mk τ s a b) := ⟨mk_ne (by decide), mk_ne (by decide), mk_ne (by decide), mk_ne (by decide), mk_ne (by decide), mk_ne (by decide), mk_ne (by decide), mk_ne (by decide), mk_ne (by decide), by rw [mk_ne (by decide)]⟩
theorem JL_mk {σ τ : St} {s e w a b : Int} {Q : Int → Prop} (h : JL σ τ s e w Q) : JL σ (mk τ s a b) s e w (fun n => Q n ∨ (a ≤ n ∧ n ≤ b)) := by
  obtain ⟨h1, h2, h3, h4, h5, h6⟩ := h
  exact ⟨CE_mk h1 s a b, CV_fs (FS_mk τ s a b) (mk_ne (by decide)) (mk_ne (by decide)) (mk_ne (by decide)) h2, by rw [mk_ne (by decide)]; exact h3, by rw [mk_ne (by decide)]; exact h4, by rw [mk_ne (by decide)]; exact h5, FM_mk h6⟩
theorem PT_mk {τ : St} {s a b y : Int} (h : PT τ y) : PT (mk τ s a b) y := by
  unfold PT
  rw [(FS_mk τ s a b).um, (FS_mk τ s a b).pd, mk_ne (by decide), mk_ne (by decide), mk_ne (by decide)]
  exact h
theorem JL_c {σ τ : St} {s e w : Int} {Q R : Int → Prop} (h : JL σ τ s e w Q) (g : ∀ n, s ≤ n → n < e → (Q n ↔ R n)) : JL σ τ s e w R := ⟨h.1, h.2.1, h.2.2.1, h.2.2.2.1, h.2.2.2.2.1, FM_c h.2.2.2.2.2 g⟩
theorem mark_rules (k : Nat × (Int → Int)) (d : Nat) {σ : St} (h : HQ σ) (hP : PR σ) {s e w p y F L : Int} (s0 : 0 ≤ s) (s1 : s ≤ 1500000) (e1 : e ≤ s + 802) (e2 : e ≤ 1500001) (p0 : 0 ≤ p) (p1 : p < σ 4 4) (y1 : 0 ≤ y) (y2 : y ≤ 5000) (F0 : s ≤ F) (F1 : F ≤ 1900003) (L0 : L < e) (L1 : 0 ≤ L) : ∀ (t : Nat) (i : Int) (τ : St) (Q : Int → Prop) (u6 u7 u8 : PV), 0 ≤ i → i + t = σ 4 9 → JL σ τ s e w Q → PT τ y → ∃ ρ, JL σ ρ s e w (fun n => Q n ∨ ∃ j, i ≤ j ∧ j < σ 4 9 ∧ σ 25 j = p ∧ HIT σ y j n ∧ F ≤ n ∧ n ≤ L) ∧ out (WV k) (EV k (d + 2)) MX5_markFeasts 46 [vR 4, vI p, vI y, vI F, vI L, vI i, u6, u7, u8] [] τ = some (none, ρ) := by
  obtain ⟨P1, P2, P3, P4, P5, P6⟩ := id hP
  intro t
  induction t with
  | zero =>
    intro i τ Q u6 u7 u8 i0 i1 hJ hT
    have e9 : τ 4 9 = σ 4 9 := hJ.1.2.2 9 (by decide)
    refine ⟨τ, JL_c hJ (fun n _ _ => ⟨fun z => Or.inl z, ?_⟩), ?_⟩
    · rintro (z | ⟨j, j0, j1, _⟩)
      · exact z
      · omega
    · rw [bX5_markFeasts_46, e9, w32_id (a := i) (by omega) (by omega), w32_id (a := σ 4 9) (by omega) (by omega), if_neg (by omega)]
  | succ t ih =>
    intro i τ Q u6 u7 u8 i0 i1 hJ hT
    push_cast at i1
    have c := hJ.1
    have H := h.ce c hJ.2.1
    have e9 : τ 4 9 = σ 4 9 := c.2.2 9 (by decide)
    have e6 : τ 3 6 = σ 3 6 := c.2.1 6 (by decide)
    have pdt : PD τ y = PD σ y := c.fs.pd y
    have hi : 0 ≤ i ∧ i < 48 := by omega
    obtain ⟨a1, a2, a3, a4, _⟩ := P6 i i0 (by omega)
    have pb := PD_b h y1 y2 a2.1 a2.2
    rw [bX5_markFeasts_46, e9, w32_id (a := i) (by omega) (by omega), w32_id (a := σ 4 9) (by omega) (by omega), if_pos (show i < σ 4 9 by omega), if_pos hi, c.1 26 (by decide), X2_placedDay_ok k d H.2.2.1 hT a2.1 (by omega), jbI_some, pdt, c.1 25 (by decide), if_pos hi, w32_id (a := σ 25 i) (by omega) (by omega), w32_id (a := p) (by omega) (by omega), w32_id (a := PD σ y (σ 26 i)) (by omega) (by omega), show w32 (-2) = -2 by decide]
    have skip : ¬ (σ 25 i = p ∧ PD σ y (σ 26 i) ≠ -2) → ∀ (ρ : St), JL σ ρ s e w (fun n => Q n ∨ ∃ j, i + 1 ≤ j ∧ j < σ 4 9 ∧ σ 25 j = p ∧ HIT σ y j n ∧ F ≤ n ∧ n ≤ L) → JL σ ρ s e w (fun n => Q n ∨ ∃ j, i ≤ j ∧ j < σ 4 9 ∧ σ 25 j = p ∧ HIT σ y j n ∧ F ≤ n ∧ n ≤ L) := by
      intro nz ρ g
      refine JL_c g (fun n _ _ => ⟨?_, ?_⟩)
      · rintro (z | ⟨j, j0, j1⟩)
        · exact Or.inl z
        · exact Or.inr ⟨j, by omega, j1⟩
      · rintro (z | ⟨j, j0, j1, j2, j3, j4⟩)
        · exact Or.inl z
        · by_cases e : j = i
          · rw [e] at j2 j3
            exact absurd ⟨j2, j3.1⟩ nz
          · exact Or.inr ⟨j, by omega, j1, j2, j3, j4⟩
    by_cases q1 : σ 25 i = p
    · rw [if_pos q1]
      by_cases q2 : PD σ y (σ 26 i) = -2
      · rw [if_pos q2]
        obtain ⟨ρ, r1, r2⟩ := ih (i + 1) τ Q (vI (PD σ y (σ 26 i))) u7 u8 (by omega) (by omega) hJ hT
        exact ⟨ρ, skip (fun z => z.2 q2) ρ r1, r2⟩
      · rw [if_neg q2, if_pos hi, c.1 28 (by decide), J9_min_ok k (d + 1) τ (by omega) (by omega) (by omega) (by omega), jbI_some, if_pos hi, c.1 27 (by decide), J9_max_ok k (d + 1) τ (by omega) (by omega) (by omega) (by omega), jbI_some]
        obtain ⟨A, hA⟩ : ∃ A, A = (if PD σ y (σ 26 i) - σ 27 i ≤ F then F else PD σ y (σ 26 i) - σ 27 i) := ⟨_, rfl⟩
        obtain ⟨B, hB⟩ : ∃ B, B = (if L ≤ PD σ y (σ 26 i) + σ 28 i then L else PD σ y (σ 26 i) + σ 28 i) := ⟨_, rfl⟩
        rw [← hA, ← hB]
        have A1 : F ≤ A ∧ PD σ y (σ 26 i) - σ 27 i ≤ A ∧ (A = F ∨ A = PD σ y (σ 26 i) - σ 27 i) := by rw [hA]; split <;> omega
        have B1 : B ≤ L ∧ B ≤ PD σ y (σ 26 i) + σ 28 i ∧ (B = L ∨ B = PD σ y (σ 26 i) + σ 28 i) := by rw [hB]; split <;> omega
        obtain ⟨v8, m1⟩ := mark_days k (d + 2) (x1 := p) (x2 := y) (x3 := F) (x4 := L) (x5 := i) (x6 := PD σ y (σ 26 i)) (x7 := B) s0 s1 (by omega) (by omega) (B + 1 - A).toNat A τ hJ.2.2.1 (by omega) (by omega) rfl
        obtain ⟨ρ, r1, r2⟩ := ih (i + 1) (mk τ s A B) _ (vI (PD σ y (σ 26 i))) (vI B) v8 (by omega) (by omega) (JL_mk (a := A) (b := B) hJ) (PT_mk hT)
        refine ⟨ρ, JL_c r1 (fun n _ _ => ⟨?_, ?_⟩), by rw [m1]; exact r2⟩
        · rintro ((z | z) | ⟨j, j0, j1⟩)
          · exact Or.inl z
          · exact Or.inr ⟨i, by omega, by omega, q1, ⟨q2, by omega, by omega⟩, by omega, by omega⟩
          · exact Or.inr ⟨j, by omega, j1⟩
        · rintro (z | ⟨j, j0, j1, j2, j3, j4⟩)
          · exact Or.inl (Or.inl z)
          · by_cases e : j = i
            · rw [e] at j3
              obtain ⟨t1, t2, t3⟩ := j3
              exact Or.inl (Or.inr (by omega))
            · exact Or.inr ⟨j, by omega, j1, j2, j3, j4⟩
    · rw [if_neg q1]
      obtain ⟨ρ, r1, r2⟩ := ih (i + 1) τ Q (vI (PD σ y (σ 26 i))) u7 u8 (by omega) (by omega) hJ hT
      exact ⟨ρ, skip (fun z => q1 z.1) ρ r1, r2⟩
