/-! new moons, lines, the page's head, sign -/
def nwb (n : Int) : Int := if (25920 * n + 20315) % 765433 < 25920 then 1 else 0
theorem X3_isNewOn_ok (k : Nat × (Int → Int)) (d : Nat) (σ : St) {n : Int} (h1 : 0 ≤ n) (h2 : n ≤ 1500000) : EV k (d + 2) mX3_isNewOn [vI n] σ = ansI (nwb n) σ := by
  have rb : 0 ≤ ((n + 1) * 25920 - 1 - 5604) % 765433 ∧ ((n + 1) * 25920 - 1 - 5604) % 765433 < 765433 := by omega
  rw [eX3_isNewOn, bX3_isNewOn_0, w32_id (a := n + 1) (by omega) (by omega), J9_floorModL_ok k d σ (by omega) (by omega) (by omega) (by omega), jbL_some, jlcp_lt (by omega) (by omega) (by omega) (by omega)]
  unfold nwb
  rw [show (n + 1) * 25920 - 1 - 5604 = 25920 * n + 20315 by omega] at rb ⊢
  by_cases z : (25920 * n + 20315) % 765433 < 25920
  · rw [if_pos z, if_neg (show ¬ 25920 < (25920 * n + 20315) % 765433 by omega), if_neg (show ¬ (25920 * n + 20315) % 765433 = 25920 by omega), if_pos (by decide)]
  · rw [if_neg z]
    by_cases y : 25920 < (25920 * n + 20315) % 765433
    · rw [if_pos y, if_neg (by decide)]
    · rw [if_neg y, if_pos (show (25920 * n + 20315) % 765433 = 25920 by omega), if_neg (by decide)]
theorem neg1 {a b : Int} : (w32 (if b < a then 1 else if a = b then 0 else -1) < 0) ↔ a < b := by
  by_cases y : b < a
  · rw [if_pos y]; constructor
    · intro w; exact absurd w (by decide)
    · intro w; omega
  · rw [if_neg y]
    by_cases z : a = b
    · rw [if_pos z]; constructor
      · intro w; exact absurd w (by decide)
      · intro w; omega
    · rw [if_neg z]
      exact ⟨fun _ => by omega, fun _ => by decide⟩
theorem X9_isNew_ok (k : Nat × (Int → Int)) (d : Nat) (σ : St) {n : Int} (h1 : 0 ≤ n) (h2 : n ≤ 1500000) : EV k (d + 1) mX9_isNew [vI n] σ = ansI (nwb n) σ := by
  rw [eX9_isNew, bX9_isNew_0, w32_id (a := n) (by omega) (by omega), jlq_pos (by omega) (by omega) (by omega) (by omega)]
  obtain ⟨K, hK⟩ : ∃ K, K = (25920 * n - 5604 + 765432) / 765433 := ⟨_, rfl⟩
  rw [← hK, jlcp_lt (by omega) (by omega) (by omega) (by omega), if_neg (by rw [neg1]; omega), bX9_isNew_30, w32_id (a := n) (by omega) (by omega), jlcp_lt (by omega) (by omega) (by omega) (by omega), jlcp_lt (by omega) (by omega) (by omega) (by omega), if_neg (by rw [neg1]; omega)]
  unfold nwb
  obtain ⟨C, hC⟩ : ∃ C, C = (25920 * n + 20315) / 765433 := ⟨_, rfl⟩
  have key : 5604 + 765433 * K < 25920 * n + 25920 ↔ (25920 * n + 20315) % 765433 < 25920 := by
    have r0 : (25920 * n + 20315) % 765433 = 25920 * n + 20315 - 765433 * C := by omega
    rw [r0]
    by_cases l1 : K < C
    · omega
    · by_cases l2 : C < K
      · omega
      · have e : K = C := by omega
        rw [e]
        omega
  by_cases z : (25920 * n + 20315) % 765433 < 25920
  · rw [if_pos z, if_pos (by rw [neg1, key]; exact z)]
  · rw [if_neg z, if_neg (by rw [neg1, key]; exact z)]
theorem nwb_or (n : Int) : nwb n = 0 ∨ nwb n = 1 := by unfold nwb; split; exact Or.inr rfl; exact Or.inl rfl
def lnO (f n : Int) : Int := 2 + n / 7 - f / 7
theorem X4_lineOf_ok (k : Nat × (Int → Int)) (d : Nat) (σ : St) {f n : Int} (f0 : 0 ≤ f) (fn : f ≤ n) (n1 : n ≤ 1500000) : EV k (d + 1) mX4_lineOf [vI f, vI n] σ = ansI (lnO f n) σ := by
  rw [eX4_lineOf, bX4_lineOf_0, jr_pos f0 (by omega) (by omega) (by omega), jq_pos (by omega) (by omega) (by omega) (by omega)]
  unfold lnO
  exact ansI_c (by omega)
def lett (i : Int) : Int := ([77, 84, 87, 84, 70, 83, 83] : List Int).getD i.toNat 0
theorem lett_b {i : Int} (h0 : 0 ≤ i) (h1 : i < 7) : 0 ≤ lett i ∧ lett i ≤ 127 := by
  have : i = 0 ∨ i = 1 ∨ i = 2 ∨ i = 3 ∨ i = 4 ∨ i = 5 ∨ i = 6 := by omega
  rcases this with z | z | z | z | z | z | z <;> subst z <;> decide
theorem J0_len_ok (k : Nat × (Int → Int)) (d : Nat) (σ : St) : EV k (d + 3) mJ0_length_8abf5 [vR 1002] σ = ansI 7 σ := by
  show ev (WV k) jprim (d + 3) mJ0_length_8abf5 [vR 1002] σ = _
  have e : jprim (d + 2) mJ0_length_8abf5 [vR 1002] σ = ansI 7 σ := by
    unfold jprim
    rw [if_pos rfl]
    exact if_pos ⟨rfl, by omega⟩
  unfold ev
  rw [e]
theorem J0_char_ok (k : Nat × (Int → Int)) (d : Nat) (σ : St) {i : Int} (h0 : 0 ≤ i) (h1 : i < 7) : EV k (d + 4) mJ0_charAt_5068e [vR 1002, vI i] σ = ansI (lett i) σ := by
  show ev (WV k) jprim (d + 4) mJ0_charAt_5068e [vR 1002, vI i] σ = _
  have w := w32_id (a := i) (by omega) (by omega)
  have e : jprim (d + 3) mJ0_charAt_5068e [vR 1002, vI i] σ = ansI (lett i) σ := by
    unfold jprim
    rw [if_neg (by decide), if_pos rfl]
    simp only [w]
    exact if_pos ⟨trivial, by omega, h0, h1⟩
  unfold ev
  rw [e]
theorem X9_letter_ok (k : Nat × (Int → Int)) (d : Nat) (σ : St) {i : Int} (h0 : 0 ≤ i) (h1 : i < 7) : EV k (d + 1) mX9_letterOf [vI i] σ = ansI (lett i) σ := by
  rw [eX9_letterOf, bX9_letterOf_0]
  have : i = 0 ∨ i = 1 ∨ i = 2 ∨ i = 3 ∨ i = 4 ∨ i = 5 ∨ i = 6 := by omega
  rcases this with z | z | z | z | z | z | z <;> subst z <;> rfl
def ltW : Nat → Int → List (Int × Int × Int)
  | 0, _ => []
  | t + 1, i => (1, 3 * i + 1, lett i) :: ltW t (i + 1)
theorem lett4 (k : Nat × (Int → Int)) (d : Nat) {x1 x2 x3 : Int} : ∀ (t : Nat) (i : Int) (S : St), 0 ≤ i → i + t = 7 → out (WV k) (EV k (d + 4)) MX4_begin 30 [vR 5, vI x1, vI x2, vI x3, vI i] [] S = some (none, pgS S (ltW t i)) := by
  intro t
  induction t with
  | zero =>
    intro i S i0 it
    rw [show i = 7 by omega, bX4_begin_30, J0_len_ok k (d + 1), jbI_some, if_neg (by decide)]
    show _ = some (none, pgS S [])
    rw [pgS_nil]
  | succ t ih =>
    intro i S i0 it
    push_cast at it
    rw [bX4_begin_30, J0_len_ok k (d + 1), jbI_some, w32_id (a := i) (by omega) (by omega), show w32 7 = 7 by decide, if_pos (by omega), J0_char_ok k d _ i0 (by omega), jbI_some, X4_put_ok k (d + 3) S _ (by omega) (by omega) (by omega) (by omega), jbV_some, ih (i + 1) _ (by omega) (by omega), pgS_app]
    rfl
theorem lett9 (k : Nat × (Int → Int)) (d : Nat) {x1 x2 x3 x4 x5 x6 x7 : Int} : ∀ (t : Nat) (i : Int) (T : St), 0 ≤ i → i + t = 7 → out (WV k) (EV k (d + 1)) MX9_page 133 [vR 33, vI x1, vI x2, vI x3, vI x4, vI x5, vI x6, vI x7, vI i, vU, vU, vU] [] T = out (WV k) (EV k (d + 1)) MX9_page 165 [vR 33, vI x1, vI x2, vI x3, vI x4, vI x5, vI x6, vI x7, vI 1, vU, vU, vU] [] (pgT T (ltW t i)) := by
  intro t
  induction t with
  | zero =>
    intro i T i0 it
    rw [show i = 7 by omega, bX9_page_133, if_neg (by decide)]
    show _ = out (WV k) (EV k (d + 1)) MX9_page 165 [vR 33, vI x1, vI x2, vI x3, vI x4, vI x5, vI x6, vI x7, vI 1, vU, vU, vU] [] (pgT T [])
    rw [pgT_nil]
  | succ t ih =>
    intro i T i0 it
    push_cast at it
    have lb := lett_b i0 (show i < 7 by omega)
    rw [bX9_page_133, w32_id (a := i) (by omega) (by omega), show w32 7 = 7 by decide, if_pos (by omega), X9_letter_ok k d T i0 (by omega), jbI_some, X9_write_ok k d T (by omega) (by omega) (by omega) (by omega) lb.1 lb.2, jbV_some, ih (i + 1) _ (by omega) (by omega), pgT_app, show 1 + 3 * i = 3 * i + 1 by omega]
    rfl
theorem fill30 (k : Nat × (Int → Int)) (d : Nat) {σ : St} (v : Int) : ∀ (t : Nat) (i : Int) (τ : St), 0 ≤ i → i + t = 1120 → (∀ j, 0 ≤ j → j < i → τ 30 j = v) → (∀ q, q ≠ 30 → τ q = σ q) → ∃ ρ, (∀ j, 0 ≤ j → j < 1120 → ρ 30 j = v) ∧ (∀ q, q ≠ 30 → ρ q = σ q) ∧ out (WV k) (EV k d) MJ7_fill_53178 5 [vR 30, vI v, vI i, vI 1120] [] τ = some (none, ρ) := by
  intro t
  induction t with
  | zero =>
    intro i τ i0 i1 h1 h2
    have e : i = 1120 := by omega
    subst e
    exact ⟨τ, h1, h2, by rw [bJ7_fill30_5, if_neg (by decide)]⟩
  | succ t ih =>
    intro i τ i0 i1 h1 h2
    push_cast at i1
    rw [bJ7_fill30_5, w32_id (a := i) (by omega) (by omega), show w32 1120 = 1120 by decide, if_pos (by omega), if_pos (by omega)]
    refine ih (i + 1) _ (by omega) (by omega) (fun j j0 j1 => ?_) (fun q hq => by rw [st2_ne hq]; exact h2 q hq)
    by_cases z : j = i
    · rw [z, st2_eq]
    · rw [st2_idx z]; exact h1 j j0 (by omega)
theorem fill54 (k : Nat × (Int → Int)) (d : Nat) {σ : St} {x1 x2 x3 x4 x5 x6 : Int} : ∀ (t : Nat) (i : Int) (τ : St), 0 ≤ i → i + t = 1120 → (∀ j, 0 ≤ j → j < i → τ 54 j = 32) → (∀ q, q ≠ 54 → τ q = σ q) → ∃ ρ, (∀ j, 0 ≤ j → j < 1120 → ρ 54 j = 32) ∧ (∀ q, q ≠ 54 → ρ q = σ q) ∧ out (WV k) (EV k d) MX9_page 80 [vR 33, vI x1, vI x2, vI x3, vI x4, vI x5, vI x6, vI i, vU, vU, vU, vU] [] τ = out (WV k) (EV k d) MX9_page 80 [vR 33, vI x1, vI x2, vI x3, vI x4, vI x5, vI x6, vI 1120, vU, vU, vU, vU] [] ρ := by
  intro t
  induction t with
  | zero =>
    intro i τ i0 i1 h1 h2
    have e : i = 1120 := by omega
    subst e
    exact ⟨τ, h1, h2, rfl⟩
  | succ t ih =>
    intro i τ i0 i1 h1 h2
    push_cast at i1
    rw [bX9_page_80, w32_id (a := i) (by omega) (by omega), show w32 1120 = 1120 by decide, if_pos (show i < 1120 by omega), if_pos (show 0 ≤ i ∧ i < 1120 by omega), b8_id (show (0 : Int) ≤ 32 by omega) (by omega)]
    refine ih (i + 1) _ (by omega) (by omega) (fun j j0 j1 => ?_) (fun q hq => by rw [st2_ne hq]; exact h2 q hq)
    by_cases z : j = i
    · rw [z, st2_eq]
    · rw [st2_idx z]; exact h1 j j0 (by omega)
def hdW (y m : Int) : List (Int × Int × Int) := numW 0 0 y ++ (numW 0 (0 + nzs y + 1 + 1) m ++ ltW 7 0)
theorem nzs_b (v : Int) : nzs v ≤ 3 := by unfold nzs; split; omega; split; omega; split <;> omega
theorem X4_begin_ok (k : Nat × (Int → Int)) (d : Nat) (S : St) {y m : Int} (y1 : 0 ≤ y) (y2 : y ≤ 9999) (m1 : 0 ≤ m) (m2 : m ≤ 9999) : ∃ S0, (∀ j, 0 ≤ j → j < 1120 → S0 30 j = 32) ∧ (∀ q, q ≠ 30 → S0 q = S q) ∧ EV k (d + 5) mX4_begin [vR 5, vI y, vI m] S = some (none, pgS S0 (hdW y m)) := by
  obtain ⟨S0, a1, a2, a3⟩ := fill30 k (d + 3) (σ := S) 32 1120 0 S (by omega) rfl (fun j _ _ => by omega) (fun _ _ => rfl)
  have nb_ := nzs_b y
  refine ⟨S0, a1, a2, ?_⟩
  rw [eX4_begin, bX4_begin_0, eJ7_fill30, bJ7_fill30_0, a3, jbV_some, X4_number_ok k (d + 2) S0 (by omega) (by omega) (by omega) (by omega) y1 y2, jbI_some, X4_number_ok k (d + 2) _ (by omega) (by omega) (by omega) (by omega) m1 m2, jbI_some, lett4 k d 7 0 _ (by omega) rfl, pgS_app, pgS_app]
  rfl
theorem X9_head_ok (k : Nat × (Int → Int)) (d : Nat) (T : St) {x1 x2 y m x5 x6 : Int} (y1 : 0 ≤ y) (y2 : y ≤ 9999) (m1 : 0 ≤ m) (m2 : m ≤ 9999) : ∃ T0 x7, (∀ j, 0 ≤ j → j < 1120 → T0 54 j = 32) ∧ (∀ q, q ∉ [33, 54] → T0 q = T q) ∧ (∀ a : Int, a ≠ 32 → T0 33 a = T 33 a) ∧ T0 33 32 = 1 ∧ out (WV k) (EV k (d + 3)) MX9_page 80 [vR 33, vI x1, vI x2, vI y, vI m, vI x5, vI x6, vI 0, vU, vU, vU, vU] [] T = out (WV k) (EV k (d + 3)) MX9_page 165 [vR 33, vI x1, vI x2, vI y, vI m, vI x5, vI x6, vI x7, vI 1, vU, vU, vU] [] (pgT T0 (hdW y m)) := by
  obtain ⟨T1, a1, a2, a3⟩ := fill54 k (d + 3) (σ := T) (x1 := x1) (x2 := x2) (x3 := y) (x4 := m) (x5 := x5) (x6 := x6) 1120 0 T (by omega) rfl (fun j _ _ => by omega) (fun _ _ => rfl)
  have nb_ := nzs_b y
  refine ⟨st2 T1 33 32 1, 0 + nzs y + 1 + 1 + nzs m + 1, fun j j0 j1 => by rw [st2_cell (by decide)]; exact a1 j j0 j1, fun q hq => ?_, fun a ha => ?_, st2_eq _ _ _ _, ?_⟩
  · simp only [List.mem_cons, not_or] at hq
    rw [st2_ne (by simp [hq]), a2 q (by simp [hq])]
  · rw [st2_idx ha, a2 33 (by decide)]
  · rw [a3, bX9_page_80, if_neg (by decide), if_pos (by decide), X9_number_ok k (d + 1) _ (by omega) (by omega) (by omega) (by omega) y1 y2, jbI_some, X9_number_ok k (d + 1) _ (by omega) (by omega) (by omega) (by omega) m1 m2, jbI_some, lett9 k (d + 2) 7 0 _ (by omega) rfl, pgT_app, pgT_app]
    rfl
def PG (σ : St) : Prop := (σ 33 32 = 0 ∨ σ 33 32 = 1) ∧ ∀ j, 0 ≤ j → j < 1120 → (σ 33 32 = 0 → σ 30 j = 32) ∧ (σ 33 32 = 1 → σ 54 j = σ 30 j)
theorem Tw_sign (k : Nat × (Int → Int)) (d : Nat) {σ : St} (h : PG σ) {l i : Int} (h1 : I32 l) (h2 : I32 i) : Tw k (d + 10) mX8_sign mX9_sign [vI l, vI i] σ := by
  unfold I32 at h1 h2
  refine ⟨if (0 ≤ l ∧ l ≤ 27) ∧ 0 ≤ i ∧ i ≤ 39 then σ 30 (l * 40 + i) else -1, σ, ?_, ?_, Sc.rfl σ⟩
  · rw [eX8_sign, bX8_sign_0, w32_id (a := l) h1.1 h1.2, w32_id (a := i) h2.1 h2.2, show w32 28 = 28 by decide, show w32 40 = 40 by decide]
    by_cases a1 : l < 0
    · rw [if_pos a1, if_neg (by omega)]
    · rw [if_neg a1]
      by_cases a2 : l < 28
      · rw [if_pos a2]
        by_cases a3 : i < 0
        · rw [if_pos a3, if_neg (by omega)]
        · rw [if_neg a3]
          by_cases a4 : i < 40
          · rw [if_pos a4, w32_id (a := l * 40 + i) (by omega) (by omega), if_pos (by omega), if_pos (by omega)]
          · rw [if_neg a4, if_neg (by omega)]
      · rw [if_neg a2, if_neg (by omega)]
  · rw [eX9_sign, bX9_sign_0, X9_in_ok k (d + 8) σ h1.1 h1.2 (by omega) (by omega) (by omega) (by omega), jbI_some, ib, X9_in_ok k (d + 8) σ h2.1 h2.2 (by omega) (by omega) (by omega) (by omega), jbI_some, ib]
    by_cases a1 : 0 ≤ l ∧ l ≤ 27
    · rw [if_pos a1]
      by_cases a2 : 0 ≤ i ∧ i ≤ 39
      · obtain ⟨g1, g2⟩ := h.2 (l * 40 + i) (by omega) (by omega)
        rw [if_pos a2, if_pos (show (0 ≤ l ∧ l ≤ 27) ∧ 0 ≤ i ∧ i ≤ 39 from ⟨a1, a2⟩), w32_id (a := 40 * l + i) (by omega) (by omega), if_pos (show 0 ≤ 40 * l + i ∧ 40 * l + i < 1120 by omega), show 40 * l + i = l * 40 + i by omega]
        rcases h.1 with z | z
        · rw [z, i00, g1 z]
        · rw [z, i10, g2 z]
      · rw [if_neg a2, if_neg (show ¬ ((0 ≤ l ∧ l ≤ 27) ∧ 0 ≤ i ∧ i ≤ 39) from fun w => a2 w.2)]
    · rw [if_neg a1, if_neg (show ¬ ((0 ≤ l ∧ l ≤ 27) ∧ 0 ≤ i ∧ i ≤ 39) from fun w => a1 w.1)]
