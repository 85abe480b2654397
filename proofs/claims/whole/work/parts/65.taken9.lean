
def tk9 (τ : St) (s x : Int) : Prop := ∃ j, 0 ≤ j ∧ j < τ 33 12 ∧ 0 < τ 44 j ∧ τ 47 (s + j) = x
/-- the reference's placed days and ranks are in bounds -/
def B9 (τ : St) (s : Int) : Prop := (0 ≤ τ 33 12 ∧ τ 33 12 ≤ 60) ∧ ∀ j, 0 ≤ j → j < τ 33 12 → (0 ≤ τ 44 j ∧ τ 44 j ≤ 9) ∧ -2 ≤ τ 47 (s + j) ∧ τ 47 (s + j) ≤ 1500000
theorem X9_isTaken_loop (k : Nat × (Int → Int)) (d : Nat) {τ : St} {s x : Int} (hB : B9 τ s) (s1 : 0 ≤ s) (s2 : s ≤ 180) (x1 : 0 ≤ x) (x2 : x ≤ 1600000) : ∀ (t : Nat) (i f : Int), 0 ≤ i → i + t = τ 33 12 → (f = 0 ∨ f = 1) → ∃ b, out (WV k) (EV k d) MX9_isTaken 5 [vR 33, vI s, vI x, vI f, vI i] [] τ = ansI b τ ∧ (b = 0 ∨ b = 1) ∧ (b = 1 ↔ (f = 1 ∨ ∃ j, i ≤ j ∧ j < τ 33 12 ∧ 0 < τ 44 j ∧ τ 47 (s + j) = x)) := by
  obtain ⟨h1, h2⟩ := hB
  intro t
  induction t with
  | zero =>
    intro i f i0 i1 hf
    refine ⟨f, ?_, hf, ?_⟩
    · rw [bX9_isTaken_5, w32_id (a := i) (by omega) (by omega), w32_id (a := τ 33 12) (by omega) (by omega), if_neg (by omega), w32_id (a := f) (by omega) (by omega), if_pos hf]
    · constructor
      · intro z; exact Or.inl z
      · rintro (z | ⟨j, j0, j1, _⟩)
        · exact z
        · omega
  | succ t ih =>
    intro i f i0 i1 hf
    push_cast at i1
    obtain ⟨c1, c2, c3⟩ := h2 i i0 (by omega)
    have hs : 0 ≤ s + i ∧ s + i < 240 := by omega
    rw [bX9_isTaken_5, w32_id (a := i) (by omega) (by omega), w32_id (a := τ 33 12) (by omega) (by omega), if_pos (show i < τ 33 12 by omega), w32_id (a := f) (by omega) (by omega)]
    by_cases qf : f = 0
    · rw [if_pos qf, if_pos (show 0 ≤ i ∧ i < 60 by omega), w32_id (a := τ 44 i) (by omega) (by omega), w32_id (a := s + i) (by omega) (by omega), w32_id (a := τ 47 (s + i)) (by omega) (by omega), w32_id (a := x) (by omega) (by omega)]
      by_cases g : 0 < τ 44 i ∧ τ 47 (s + i) = x
      · obtain ⟨b, b1, b2, b3⟩ := ih (i + 1) 1 (by omega) (by omega) (Or.inr rfl)
        refine ⟨b, ?_, b2, ?_⟩
        · rw [if_pos g.1, if_pos hs, if_pos g.2]; exact b1
        · exact ⟨fun _ => Or.inr ⟨i, by omega, by omega, g.1, g.2⟩, fun _ => b3.2 (Or.inl rfl)⟩
      · obtain ⟨b, b1, b2, b3⟩ := ih (i + 1) 0 (by omega) (by omega) (Or.inl rfl)
        refine ⟨b, ?_, b2, ?_⟩
        · by_cases g1 : 0 < τ 44 i
          · rw [if_pos g1, if_pos hs, if_neg (fun z => g ⟨g1, z⟩)]; exact b1
          · rw [if_neg g1]; exact b1
        · constructor
          · intro z
            rcases b3.1 z with y | ⟨j, j0, j1⟩
            · omega
            · exact Or.inr ⟨j, by omega, j1⟩
          · rintro (z | ⟨j, j0, j1, j2, j3⟩)
            · omega
            · by_cases y : j = i
              · subst y
                exact absurd ⟨j2, j3⟩ g
              · exact b3.2 (Or.inr ⟨j, by omega, j1, j2, j3⟩)
    · have f1 : f = 1 := by omega
      obtain ⟨b, b1, b2, b3⟩ := ih (i + 1) 1 (by omega) (by omega) (Or.inr rfl)
      rw [if_neg qf]
      exact ⟨b, b1, b2, fun _ => Or.inl f1, fun _ => b3.2 (Or.inl rfl)⟩
theorem X9_isTaken_ok (k : Nat × (Int → Int)) (d : Nat) {τ : St} {s x : Int} (hB : B9 τ s) (s1 : 0 ≤ s) (s2 : s ≤ 180) (x1 : 0 ≤ x) (x2 : x ≤ 1600000) : ∃ b, EV k (d + 1) mX9_isTaken [vR 33, vI s, vI x] τ = ansI b τ ∧ (b = 0 ∨ b = 1) ∧ (b = 1 ↔ tk9 τ s x) := by
  have h1 := hB.1
  obtain ⟨b, b1, b2, b3⟩ := X9_isTaken_loop k d hB s1 s2 x1 x2 (τ 33 12).toNat 0 0 (by omega) (by omega) (Or.inl rfl)
  refine ⟨b, by rw [eX9_isTaken, bX9_isTaken_0]; exact b1, b2, ?_⟩
  constructor
  · intro z
    rcases b3.1 z with y | ⟨j, j0, j1, j2, j3⟩
    · omega
    · exact ⟨j, j0, j1, j2, j3⟩
  · rintro ⟨j, j0, j1, j2, j3⟩
    exact b3.2 (Or.inr ⟨j, j0, j1, j2, j3⟩)
theorem X9_place_find (k : Nat × (Int → Int)) (d : Nat) {τ : St} {s y r0 i r : Int} (hB : B9 τ s) (s1 : 0 ≤ s) (s2 : s ≤ 180) (i1 : 0 ≤ i) (i2 : i < 60) (r2 : r ≤ 1600000) (u6 u7 u8 : PV) : ∀ (t : Nat) (n : Int), 0 ≤ n → n + t = r → LF (tk9 τ s) n r → out (WV k) (EV k (d + 1)) MX9_place 306 [vR 33, vI s, vI y, vI r0, vI i, vI n, u6, u7, u8] [] τ = out (WV k) (EV k (d + 1)) MX9_place 261 [vR 33, vI s, vI y, vI r0, vI (i + 1), vI r, u6, u7, u8] [] (st2 τ 47 (s + i) (dyn r)) := by
  have hs : 0 ≤ s + i ∧ s + i < 240 := by omega
  intro t
  induction t with
  | zero =>
    intro n n1 n2 h
    have e : n = r := by omega
    subst e
    obtain ⟨b, b1, b2, b3⟩ := X9_isTaken_ok k d hB s1 s2 n1 (by omega)
    have b0 : b = 0 := by
      rcases b2 with z | z
      · exact z
      · exact absurd (b3.1 z) h.2.2
    rw [bX9_place_306, b1, jbI_some, b0, i00, w32_id (a := n) (by omega) (by omega), X9_isDay_ok k d τ (by omega) (by omega), jbI_some, ib, w32_id (a := s + i) (by omega) (by omega)]
    simp only [if_pos hs]
    unfold dyn
    by_cases q : 0 ≤ n ∧ n ≤ 1500000
    · rw [if_pos q, if_pos q]
    · rw [if_neg q, if_neg q]
  | succ t ih =>
    intro n n1 n2 h
    push_cast at n2
    obtain ⟨b, b1, b2, b3⟩ := X9_isTaken_ok k d hB s1 s2 n1 (by omega)
    have b0 : b = 1 := b3.2 (h.2.1 n (by omega) (by omega))
    rw [bX9_place_306, b1, jbI_some, b0, i10]
    exact ih (n + 1) (by omega) (by omega) ⟨by omega, fun x z1 z2 => h.2.1 x (by omega) z2, h.2.2⟩
