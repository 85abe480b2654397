
/-- the taken days stand in rising order -/
def TK (σ : St) : Prop := (0 ≤ σ 3 13 ∧ σ 3 13 ≤ 60) ∧ (∀ a, 0 ≤ a → a < σ 3 13 → 0 ≤ σ 22 a ∧ σ 22 a ≤ 1500000) ∧ ∀ a b, 0 ≤ a → a < b → b < σ 3 13 → σ 22 a < σ 22 b
theorem settle_a (k : Nat × (Int → Int)) (d : Nat) {σ : St} (h : TK σ) {n : Int} (n1 : 0 ≤ n) (n2 : n ≤ 1500000) : ∀ (t : Nat) (i : Int), 0 ≤ i → i + t = σ 3 13 → (∀ j, 0 ≤ j → j < i → σ 22 j < n) → ∃ p, 0 ≤ p ∧ p ≤ σ 3 13 ∧ (∀ j, 0 ≤ j → j < p → σ 22 j < n) ∧ (p < σ 3 13 → n ≤ σ 22 p) ∧ out (WV k) (EV k d) MX2_settle 2 [vR 3, vI n, vI i, vU, vU] [] σ = out (WV k) (EV k d) MX2_settle 28 [vR 3, vI n, vI p, vI n, vU] [] σ := by
  obtain ⟨h1, h2, h3⟩ := h
  intro t
  induction t with
  | zero =>
    intro i i0 i1 hj
    refine ⟨i, i0, by omega, hj, fun z => by omega, ?_⟩
    rw [bX2_settle_2, if_neg (by rw [w32_id (by omega) (by omega), w32_id (by omega) (by omega)]; omega)]
  | succ t ih =>
    intro i i0 i1 hj
    push_cast at i1
    have b := h2 i i0 (by omega)
    rw [bX2_settle_2, w32_id (a := i) (by omega) (by omega), w32_id (a := σ 3 13) (by omega) (by omega), if_pos (show i < σ 3 13 by omega), if_pos (show 0 ≤ i ∧ i < 60 by omega), w32_id (a := σ 22 i) (by omega) (by omega), w32_id (a := n) (by omega) (by omega)]
    by_cases q : σ 22 i < n
    · rw [if_pos q]
      refine ih (i + 1) (by omega) (by omega) ?_
      intro j j0 j1
      by_cases z : j = i
      · rw [z]; exact q
      · exact hj j j0 (by omega)
    · rw [if_neg q]
      exact ⟨i, i0, by omega, hj, fun _ => by omega, rfl⟩
theorem settle_b (k : Nat × (Int → Int)) (d : Nat) {σ : St} (h : TK σ) {n : Int} (n1 : 0 ≤ n) (n2 : n ≤ 1500000) : ∀ (t : Nat) (i f : Int), 0 ≤ i → i + t = σ 3 13 → n ≤ f → f ≤ n + i → (∀ j, 0 ≤ j → j < i → σ 22 j < f) → (i < σ 3 13 → f ≤ σ 22 i) → (∀ x, n ≤ x → x < f → ∃ j, 0 ≤ j ∧ j < σ 3 13 ∧ σ 22 j = x) → ∃ p r, 0 ≤ p ∧ p ≤ σ 3 13 ∧ n ≤ r ∧ r ≤ n + p ∧ (∀ j, 0 ≤ j → j < p → σ 22 j < r) ∧ (p < σ 3 13 → r < σ 22 p) ∧ (∀ x, n ≤ x → x < r → ∃ j, 0 ≤ j ∧ j < σ 3 13 ∧ σ 22 j = x) ∧ out (WV k) (EV k d) MX2_settle 28 [vR 3, vI n, vI i, vI f, vU] [] σ = (if 1500000 < r then ansI (-2) σ else if σ 3 13 < 60 then out (WV k) (EV k d) MX2_settle 79 [vR 3, vI n, vI p, vI r, vI (σ 3 13)] [] σ else ansI (-2) σ) := by
  obtain ⟨h1, h2, h3⟩ := h
  intro t
  induction t with
  | zero =>
    intro i f i0 i1 f1 f2 hj hf hx
    refine ⟨i, f, i0, by omega, f1, f2, hj, fun z => by omega, hx, ?_⟩
    rw [bX2_settle_28, w32_id (a := i) (by omega) (by omega), w32_id (a := σ 3 13) (by omega) (by omega), if_neg (by omega), w32_id (a := f) (by omega) (by omega), show w32 1500000 = 1500000 from w32_id (by omega) (by omega), show w32 60 = 60 by decide]
  | succ t ih =>
    intro i f i0 i1 f1 f2 hj hf hx
    push_cast at i1
    have b := h2 i i0 (by omega)
    have g := hf (by omega)
    rw [bX2_settle_28, w32_id (a := i) (by omega) (by omega), w32_id (a := σ 3 13) (by omega) (by omega), if_pos (show i < σ 3 13 by omega), if_pos (show 0 ≤ i ∧ i < 60 by omega), w32_id (a := σ 22 i) (by omega) (by omega), w32_id (a := f) (by omega) (by omega), show w32 1500000 = 1500000 from w32_id (by omega) (by omega), show w32 60 = 60 by decide]
    by_cases q : σ 22 i = f
    · rw [if_pos q]
      refine ih (i + 1) (f + 1) (by omega) (by omega) (by omega) (by omega) ?_ ?_ ?_
      · intro j j0 j1
        by_cases z : j = i
        · rw [z]; omega
        · have := hj j j0 (by omega)
          omega
      · intro z
        have := h3 i (i + 1) i0 (by omega) z
        omega
      · intro x x1 x2
        by_cases z : x = f
        · exact ⟨i, i0, by omega, by omega⟩
        · exact hx x x1 (by omega)
    · rw [if_neg q]
      exact ⟨i, f, i0, by omega, f1, f2, hj, fun _ => by omega, hx, rfl⟩
def shD (σ : St) (c i : Int) : St := fun q p => if q = 22 ∧ i < p ∧ p ≤ c then σ 22 (p - 1) else σ q p
theorem settle_c (k : Nat × (Int → Int)) (d : Nat) {σ : St} {n r p : Int} (h1 : 0 ≤ σ 3 13) (h2 : σ 3 13 < 60) (p0 : 0 ≤ p) : ∀ (t : Nat) (i : Int), i ≤ σ 3 13 → p + t = i → out (WV k) (EV k d) MX2_settle 79 [vR 3, vI n, vI p, vI r, vI i] [] (shD σ (σ 3 13) i) = ansI r (st2 (st2 (shD σ (σ 3 13) p) 22 p r) 3 13 (σ 3 13 + 1)) := by
  intro t
  induction t with
  | zero =>
    intro i i1 i2
    have e : i = p := by omega
    subst e
    rw [bX2_settle_79, w32_id (a := i) (by omega) (by omega), if_neg (by omega), if_pos (by omega), st2_cell (show (3 : Nat) ≠ 22 by decide)]
    rfl
  | succ t ih =>
    intro i i1 i2
    push_cast at i2
    have e : st2 (shD σ (σ 3 13) i) 22 i (shD σ (σ 3 13) i 22 (i - 1)) = shD σ (σ 3 13) (i - 1) := by
      have e1 : shD σ (σ 3 13) i 22 (i - 1) = σ 22 (i - 1) := by
        unfold shD
        rw [if_neg (by omega)]
      rw [e1]
      funext q x
      unfold st2 shD
      by_cases a : q = 22 ∧ x = i
      · rw [if_pos a, if_pos ⟨a.1, by omega, by omega⟩, a.2]
      · rw [if_neg a]
        by_cases b : q = 22 ∧ i < x ∧ x ≤ σ 3 13
        · rw [if_pos b, if_pos ⟨b.1, by omega, by omega⟩]
        · rw [if_neg b, if_neg (by omega)]
    rw [bX2_settle_79, w32_id (a := p) (by omega) (by omega), w32_id (a := i) (by omega) (by omega), w32_id (a := i - 1) (by omega) (by omega), if_pos (by omega), if_pos (by omega), if_pos (by omega), e, show i + (-1) = i - 1 by omega]
    exact ih (i - 1) (by omega) (by omega)
