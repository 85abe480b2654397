
def WR (σ τ : St) : Prop := (0 ≤ σ 2 3 ∧ σ 2 3 ≤ 300) ∧ τ 33 8 = σ 2 3 ∧ ∀ j, 0 ≤ j → j < σ 2 3 → τ 37 j = σ 11 j ∧ τ 38 j = σ 12 j ∧ τ 39 j = σ 10 j
theorem words_loop (k : Nat × (Int → Int)) (d e : Nat) {σ τ : St} (h : WR σ τ) (c w : Int) : ∀ (t : Nat) (j : Int), 0 ≤ j → j + t = σ 2 3 → ∃ a, out (WV k) (EV k d) MX7_monthBy 3 [vR 2, vI c, vL w, vU, vI j] [] σ = ansI a σ ∧ out (WV k) (EV k e) MX9_namedBy 3 [vR 33, vI c, vL w, vU, vI j] [] τ = ansI a τ := by
  obtain ⟨h1, h2, h3⟩ := h
  intro t
  induction t with
  | zero =>
    intro j j0 j1
    rw [bX7_monthBy_3, bX9_namedBy_3, h2, w32_id (a := j) (by omega) (by omega), w32_id (a := σ 2 3) (by omega) (by omega), if_neg (by omega), if_neg (by omega)]
    exact ⟨_, rfl, rfl⟩
  | succ t ih =>
    intro j j0 j1
    push_cast at j1
    obtain ⟨e1, e2, e3⟩ := h3 j j0 (by omega)
    obtain ⟨a, a1, a2⟩ := ih (j + 1) (by omega) (by omega)
    have hj : 0 ≤ j ∧ j < 300 := by omega
    have hl : j < σ 2 3 := by omega
    rw [bX7_monthBy_3, bX9_namedBy_3, h2, w32_id (a := j) (by omega) (by omega), w32_id (a := σ 2 3) (by omega) (by omega), e1, e2, e3, a1, a2]
    simp only [if_pos hj, if_pos hl]
    by_cases q1 : w32 (σ 11 j) = w32 c
    · simp only [if_pos q1]
      by_cases q2 : w32 (jlcp (σ 10 j) w) = 0
      · simp only [if_pos q2]
        exact ⟨_, rfl, rfl⟩
      · simp only [if_neg q2]
        exact ⟨_, rfl, rfl⟩
    · simp only [if_neg q1]
      exact ⟨_, rfl, rfl⟩
theorem words_by (k : Nat × (Int → Int)) (d e : Nat) {σ τ : St} (h : WR σ τ) (c w : Int) : ∃ a, EV k (d + 1) mX7_monthBy [vR 2, vI c, vL w] σ = ansI a σ ∧ EV k (e + 1) mX9_namedBy [vR 33, vI c, vL w] τ = ansI a τ := by
  rw [eX7_monthBy, bX7_monthBy_0, eX9_namedBy, bX9_namedBy_0]
  have := h.1
  exact words_loop k d e h c w (σ 2 3).toNat 0 (by omega) (by omega)
theorem Tw_monthNamed (k : Nat × (Int → Int)) (d : Nat) {σ : St} (h : WR σ σ) {c w : Int} (h1 : I32 c) : Tw k (d + 10) mX8_monthNamed mX9_monthNamed [vI c, vL w] σ := by
  unfold I32 at h1
  unfold Tw
  rw [eX8_monthNamed, bX8_monthNamed_0, eX9_monthNamed, bX9_monthNamed_0, X8_isCalendar_ok k (d + 8) σ h1.1 h1.2, X9_isCalendar_ok k (d + 7) σ h1.1 h1.2, jbI_some, jbI_some, ib, ib]
  by_cases hc : 0 ≤ c ∧ c ≤ 7
  · obtain ⟨a, a1, a2⟩ := words_by k (d + 8) (d + 8) h c w
    rw [if_pos hc, if_pos hc, a1, a2, jbI_some]
    exact ⟨_, _, rfl, rfl, Sc.rfl σ⟩
  · rw [if_neg hc, if_neg hc]
    exact ⟨_, _, rfl, rfl, Sc.rfl σ⟩
theorem Tw_spellings (k : Nat × (Int → Int)) (d : Nat) {σ : St} (h : WR σ σ) {w : Int} : Tw k (d + 10) mX8_spellings mX9_spellings [vL w] σ := by
  unfold Tw
  rw [eX8_spellings, bX8_spellings_0, eX9_spellings, bX9_spellings_0]
  have main : ∀ (t : Nat) (x j : Int), 0 ≤ j → j + t = 8 → ∃ a, out (WV k) (EV k (d + 9)) MX8_spellings 5 [vR 0, vL w, vU, vI x, vI j] [] σ = ansI a σ ∧ out (WV k) (EV k (d + 9)) MX9_spellings 5 [vR 33, vL w, vU, vI x, vI j] [] σ = ansI a σ := by
    intro t
    induction t with
    | zero =>
      intro x j j0 j1
      rw [bX8_spellings_5, bX9_spellings_5, w32_id (a := j) (by omega) (by omega), show w32 8 = 8 by decide, if_neg (by omega), if_neg (by omega)]
      exact ⟨_, rfl, rfl⟩
    | succ t ih =>
      intro x j j0 j1
      push_cast at j1
      obtain ⟨a, a1, a2⟩ := words_by k (d + 8) (d + 8) h j w
      rw [bX8_spellings_5, bX9_spellings_5, w32_id (a := j) (by omega) (by omega), show w32 8 = 8 by decide, if_pos (show j < 8 by omega), if_pos (show j < 8 by omega), a1, a2, jbI_some, jbI_some, show x + 0 = x by omega]
      by_cases q : w32 a = w32 (-2)
      · rw [if_pos q, if_pos q]
        exact ih _ _ (by omega) (by omega)
      · rw [if_neg q, if_neg q]
        exact ih _ _ (by omega) (by omega)
  obtain ⟨a, a1, a2⟩ := main 8 0 0 (by omega) (by omega)
  exact ⟨a, σ, a1, a2, Sc.rfl σ⟩
def wcn (σ : St) (c m : Int) : Nat → Int
  | 0 => 0
  | n + 1 => wcn σ c m n + (if w32 (σ 11 n) = w32 c ∧ w32 (σ 12 n) = w32 m then 1 else 0)
theorem wcn_b (σ : St) (c m : Int) (n : Nat) : 0 ≤ wcn σ c m n ∧ wcn σ c m n ≤ n := by
  induction n with
  | zero => exact ⟨Int.le_refl 0, Int.le_refl 0⟩
  | succ n ih =>
    show 0 ≤ wcn σ c m n + _ ∧ wcn σ c m n + _ ≤ _
    push_cast
    split <;> omega
theorem wcn_c {σ τ : St} (c m : Int) (n : Nat) (h : ∀ j : Nat, j < n → τ 11 j = σ 11 j ∧ τ 12 j = σ 12 j) : wcn τ c m n = wcn σ c m n := by
  induction n with
  | zero => rfl
  | succ n ih =>
    show wcn τ c m n + (if w32 (τ 11 n) = w32 c ∧ w32 (τ 12 n) = w32 m then 1 else 0) = wcn σ c m n + (if w32 (σ 11 n) = w32 c ∧ w32 (σ 12 n) = w32 m then 1 else 0)
    rw [ih (fun j hj => h j (by omega)), (h n (by omega)).1, (h n (by omega)).2]
theorem wcn_w (σ : St) {c m c2 m2 : Int} (h1 : w32 c = w32 c2) (h2 : w32 m = w32 m2) (n : Nat) : wcn σ c m n = wcn σ c2 m2 n := by
  induction n with
  | zero => rfl
  | succ n ih =>
    show wcn σ c m n + (if w32 (σ 11 n) = w32 c ∧ w32 (σ 12 n) = w32 m then 1 else 0) = wcn σ c2 m2 n + (if w32 (σ 11 n) = w32 c2 ∧ w32 (σ 12 n) = w32 m2 then 1 else 0)
    rw [ih, h1, h2]
theorem count_loop (k : Nat × (Int → Int)) (d : Nat) {σ : St} (h1 : 0 ≤ σ 2 3) (h2 : σ 2 3 ≤ 300) (c m : Int) : ∀ (t j : Nat) (x : Int), (j : Int) + t = σ 2 3 → out (WV k) (EV k d) MX7_countFor 5 [vR 2, vI c, vI m, vI x, vI j] [] σ = ansI (x + (wcn σ c m (σ 2 3).toNat - wcn σ c m j)) σ := by
  intro t
  induction t with
  | zero =>
    intro j x j1
    rw [bX7_countFor_5, w32_id (a := (j : Int)) (by omega) (by omega), w32_id (a := σ 2 3) (by omega) (by omega), if_neg (by omega)]
    exact ansI_c (by rw [show (σ 2 3).toNat = j by omega]; omega)
  | succ t ih =>
    intro j x j1
    push_cast at j1
    have st : wcn σ c m (j + 1) = wcn σ c m j + (if w32 (σ 11 j) = w32 c ∧ w32 (σ 12 j) = w32 m then 1 else 0) := rfl
    have i0 := ih (j + 1) x (by push_cast; omega)
    have i1 := ih (j + 1) (x + 1) (by push_cast; omega)
    push_cast at i0 i1
    rw [bX7_countFor_5, w32_id (a := (j : Int)) (by omega) (by omega), w32_id (a := σ 2 3) (by omega) (by omega), if_pos (show (j : Int) < σ 2 3 by omega), if_pos (show 0 ≤ (j : Int) ∧ (j : Int) < 300 by omega), i0, i1]
    by_cases q1 : w32 (σ 11 j) = w32 c
    · rw [if_pos q1, if_pos (show 0 ≤ (j : Int) ∧ (j : Int) < 300 by omega)]
      by_cases q2 : w32 (σ 12 j) = w32 m
      · rw [if_pos ⟨q1, q2⟩] at st
        rw [if_pos q2]
        exact ansI_c (by omega)
      · rw [if_neg (fun z => q2 z.2)] at st
        rw [if_neg q2]
        exact ansI_c (by omega)
    · rw [if_neg (fun z => q1 z.1)] at st
      rw [if_neg q1]
      exact ansI_c (by omega)
theorem name_loop (k : Nat × (Int → Int)) (d : Nat) {σ τ : St} (h : WR σ τ) (c m w : Int) : ∀ (t j : Nat) (x : Int), (j : Int) + t = σ 2 3 → out (WV k) (EV k d) MX9_name 42 [vR 33, vI c, vI m, vL w, vU, vI x, vI j] [] τ = out (WV k) (EV k d) MX9_name 42 [vR 33, vI c, vI m, vL w, vU, vI (x + (wcn σ c m (σ 2 3).toNat - wcn σ c m j)), vI (σ 2 3)] [] τ := by
  obtain ⟨h1, h2, h3⟩ := h
  intro t
  induction t with
  | zero =>
    intro j x j1
    rw [show (σ 2 3).toNat = j by omega, show (σ 2 3) = j by omega, show x + (wcn σ c m j - wcn σ c m j) = x by omega]
  | succ t ih =>
    intro j x j1
    push_cast at j1
    obtain ⟨e1, e2, e3⟩ := h3 j (by omega) (by omega)
    have st : wcn σ c m (j + 1) = wcn σ c m j + (if w32 (σ 11 j) = w32 c ∧ w32 (σ 12 j) = w32 m then 1 else 0) := rfl
    have i0 := ih (j + 1) (x + 0) (by push_cast; omega)
    have i1 := ih (j + 1) (x + 1) (by push_cast; omega)
    push_cast at i0 i1
    rw [bX9_name_42, w32_id (a := (j : Int)) (by omega) (by omega), h2, w32_id (a := σ 2 3) (by omega) (by omega), if_pos (show (j : Int) < σ 2 3 by omega), if_pos (show 0 ≤ (j : Int) ∧ (j : Int) < 300 by omega), e1, e2, i0, i1]
    by_cases q1 : w32 (σ 11 j) = w32 c
    · rw [if_pos q1, if_pos (show 0 ≤ (j : Int) ∧ (j : Int) < 300 by omega)]
      by_cases q2 : w32 (σ 12 j) = w32 m
      · rw [if_pos ⟨q1, q2⟩] at st
        rw [if_pos q2, st, show x + 1 + (wcn σ c m (σ 2 3).toNat - (wcn σ c m j + 1)) = x + (wcn σ c m (σ 2 3).toNat - wcn σ c m j) by omega]
      · rw [if_neg (fun z => q2 z.2)] at st
        rw [if_neg q2, st, show x + 0 + (wcn σ c m (σ 2 3).toNat - (wcn σ c m j + 0)) = x + (wcn σ c m (σ 2 3).toNat - wcn σ c m j) by omega]
    · rw [if_neg (fun z => q1 z.1)] at st
      rw [if_neg q1, st, show x + 0 + (wcn σ c m (σ 2 3).toNat - (wcn σ c m j + 0)) = x + (wcn σ c m (σ 2 3).toNat - wcn σ c m j) by omega]
