/-! undo and count -/
def tb (σ : St) : St := st2 (st2 σ 7 2 (σ 7 2 - 1)) 7 1 ((σ 7 1 + 99) % 100)
theorem tb_71 (σ : St) : tb σ 7 1 = (σ 7 1 + 99) % 100 := st2_eq _ _ _ _
theorem tb_72 (σ : St) : tb σ 7 2 = σ 7 2 - 1 := by unfold tb; rw [st2_idx (by decide), st2_eq]
theorem tb_ne {σ : St} {q : Nat} (h : q ≠ 7) : tb σ q = σ q := by unfold tb; rw [st2_ne h, st2_ne h]
theorem X1_takeBack_ok (k : Nat × (Int → Int)) (d : Nat) {σ : St} (h1 : 0 ≤ σ 7 1 ∧ σ 7 1 < 100) (h2 : 0 < σ 7 2) (h3 : σ 7 2 ≤ 100) : EV k (d + 1) mX1_takeBack [vR 7] σ = ansI (σ 32 ((σ 7 1 - 1) % 100)) (tb σ) := by
  have e1 : st2 σ 7 2 (σ 7 2 - 1) 7 1 = σ 7 1 := st2_idx (by decide)
  rw [eX1_takeBack, bX1_takeBack_0, w32_id (a := σ 7 2) (by omega) (by omega), if_neg (by omega), e1, jr_pos (by omega) (by omega) (by omega) (by omega), show σ 7 1 + 100 - 1 = σ 7 1 + 99 by omega, st2_eq, w32_id (a := (σ 7 1 + 99) % 100) (by omega) (by omega), if_pos (by omega), st2_cell (show (32 : Nat) ≠ 7 by decide), st2_cell (show (32 : Nat) ≠ 7 by decide), show (σ 7 1 + 99) % 100 = (σ 7 1 - 1) % 100 by omega]
  show _ = ansI _ (st2 (st2 σ 7 2 (σ 7 2 - 1)) 7 1 ((σ 7 1 + 99) % 100))
  rw [show (σ 7 1 + 99) % 100 = (σ 7 1 - 1) % 100 by omega]
theorem DR_pop {σ ρ : St} (h : DR σ σ) (h2 : 0 < σ 7 2) (p7 : ρ 7 = tb σ 7) (p32 : ρ 32 = σ 32) (p6 : ρ 33 6 = σ 33 6 - 1) (p36 : ρ 36 = σ 36) : DR ρ ρ := by
  obtain ⟨r1, r2, r3, r4⟩ := h
  unfold DR
  rw [p7, tb_71, tb_72, p32, p6, p36, r3]
  refine ⟨by omega, by omega, rfl, fun j j0 j1 => ?_⟩
  have := r4 (j + 1) (by omega) (by omega)
  rw [show σ 7 2 - 1 - (j + 1) = σ 7 2 - 1 - 1 - j by omega, show (σ 7 1 - 1 - (j + 1)) % 100 = ((σ 7 1 + 99) % 100 - 1 - j) % 100 by omega] at this
  exact this
theorem UU_pop {σ ρ : St} (hR : DR σ σ) (h2 : 0 < σ 7 2) (p7 : ρ 7 = tb σ 7) (p32 : ρ 32 = σ 32) {x : Int} (hx : x = σ 32 ((σ 7 1 - 1) % 100)) (h : UU σ) (e25 : ρ 25 = σ 25) (e26 : ρ 26 = σ 26) (c1 : ρ 1 2 = σ 1 2 - if x = 0 then 1 else 0) (c2 : ρ 2 3 = σ 2 3 - if x = 1 then 1 else 0) (c3 : ρ 3 6 = σ 3 6 - if x = 2 then 1 else 0) (c4 : ρ 4 4 = σ 4 4 - if x = 3 then 1 else 0) (c5 : ρ 4 9 = σ 4 9 - if x = 4 then 1 else 0) : UU ρ ∧ OKc (σ 25) (σ 26) (ρ 1 2) (ρ 2 3) (ρ 3 6) (ρ 4 4) (ρ 4 9) := by
  obtain ⟨r1, r2, r3, r4⟩ := hR
  obtain ⟨m, hm⟩ : ∃ m : Nat, (σ 7 2).toNat = m + 1 := ⟨(σ 7 2).toNat - 1, by omega⟩
  have g := h
  unfold UU at g
  rw [hm, UV_s] at g
  have e0 : σ 32 ((σ 7 1 - 1 - 0) % 100) = x := by rw [hx, show σ 7 1 - 1 - 0 = σ 7 1 - 1 by omega]
  have g2 := g.2
  rw [e0, ← c1, ← c2, ← c3, ← c4, ← c5] at g2
  refine ⟨?_, UV_ok g2⟩
  unfold UU
  rw [e25, e26, p7, tb_71, tb_72, p32, show (σ 7 2 - 1).toNat = m by omega]
  refine UV_c m _ _ _ _ _ _ _ (fun j j0 j1 => ?_) (fun i _ _ => ⟨rfl, rfl⟩) g2
  show σ 32 (((σ 7 1 + 99) % 100 - 1 - j) % 100) = σ 32 ((σ 7 1 - 1 - (j + 1)) % 100)
  rw [show ((σ 7 1 + 99) % 100 - 1 - j) % 100 = (σ 7 1 - 1 - (j + 1)) % 100 by omega]
theorem wcn_mono (σ : St) (c m : Int) (n : Nat) : wcn σ c m n ≤ wcn σ c m (n + 1) := by
  show wcn σ c m n ≤ wcn σ c m n + (if w32 (σ 11 n) = w32 c ∧ w32 (σ 12 n) = w32 m then 1 else 0)
  split <;> omega
/-- the reference's undo, but of a feast -/
theorem X9_undo_ok (k : Nat × (Int → Int)) (d : Nat) {τ : St} {n x : Int} (h6 : τ 33 6 = n) (n0 : 0 < n) (n1 : n ≤ 100) (hx : τ 36 (n - 1) = x) (x0 : 0 ≤ x) (x1 : x ≤ 4) : EV k (d + 2) mX9_undo [vR 33] τ = if x = 0 then ansI (n - 1) (st2 (st2 τ 33 6 (n - 1)) 33 0 (τ 33 0 - 1)) else if x = 1 then ansI (n - 1) (st2 (st2 τ 33 6 (n - 1)) 33 8 (τ 33 8 - 1)) else if x = 2 then ansI (n - 1) (st2 (st2 (st2 τ 33 6 (n - 1)) 33 12 (τ 33 12 - 1)) 33 22 0) else if x = 3 then ansI (n - 1) (st2 (st2 τ 33 6 (n - 1)) 33 23 (τ 33 23 - 1)) else ansI (n - 1) (st2 (st2 τ 33 6 (n - 1)) 33 26 (τ 33 26 - 1)) := by
  have a0 : st2 τ 33 6 (n - 1) 33 0 = τ 33 0 := st2_idx (by decide)
  have a8 : st2 τ 33 6 (n - 1) 33 8 = τ 33 8 := st2_idx (by decide)
  have a12 : st2 τ 33 6 (n - 1) 33 12 = τ 33 12 := st2_idx (by decide)
  have a23 : st2 τ 33 6 (n - 1) 33 23 = τ 33 23 := st2_idx (by decide)
  have a26 : st2 τ 33 6 (n - 1) 33 26 = τ 33 26 := st2_idx (by decide)
  have b : ∀ (i v : Int), i ≠ 6 → st2 (st2 τ 33 6 (n - 1)) 33 i v 33 6 = n - 1 := fun i v hi => by rw [st2_idx (Ne.symm hi), st2_eq]
  rw [eX9_undo, bX9_undo_0, h6, st2_eq, w32_id (a := n) (by omega) (by omega), w32_id (a := n - 1) (by omega) (by omega), if_neg (by omega), if_pos (show 0 ≤ n - 1 ∧ n - 1 < 100 by omega), st2_cell (show (36 : Nat) ≠ 33 by decide), hx, w32_id (a := x) (by omega) (by omega), a0, a8, a12, a23, a26, b 0 _ (by decide), b 8 _ (by decide), b 23 _ (by decide), b 26 _ (by decide), eX9_forget, bX9_forget_0, if_pos (show w32 0 = 0 ∨ w32 0 = 1 by decide), jbV_some]
  have b12 : st2 (st2 (st2 τ 33 6 (n - 1)) 33 12 (τ 33 12 - 1)) 33 22 0 33 6 = n - 1 := by rw [st2_idx (by decide), b 12 _ (by decide)]
  rw [b12]
theorem Dd_undo (k : Nat × (Int → Int)) (d : Nat) {σ : St} (h : INV σ) : ∃ v σ1 ρ, EV k (d + 10) mX8_undo [vR 0] σ = ansI v σ1 ∧ EV k (d + 10) mX9_undo [vR 33] σ1 = ansI v ρ ∧ INV ρ := by
  obtain ⟨hq, hw, hd, hp, hg, ht, hu⟩ := id h
  obtain ⟨h1, h2, h3, h4, h5, hv, h9⟩ := id hq
  obtain ⟨r1, r2, r3, r4⟩ := id hd
  by_cases z : σ 7 2 = 0
  · refine ⟨-2, σ, σ, ?_, ?_, h⟩
    · rw [eX8_undo, bX8_undo_0, eX1_takeBack, bX1_takeBack_0, z, i00, jbI_some, if_neg (by decide), if_neg (by decide), if_neg (by decide), if_neg (by decide), if_neg (by decide)]
    · rw [eX9_undo, bX9_undo_0, r3, z, i00]
  · obtain ⟨x, hx⟩ : ∃ x, x = σ 32 ((σ 7 1 - 1) % 100) := ⟨_, rfl⟩
    obtain ⟨k1, k2, k3⟩ := r4 0 (by omega) (by omega)
    rw [show σ 7 2 - 1 - 0 = σ 7 2 - 1 by omega, show σ 7 1 - 1 - 0 = σ 7 1 - 1 by omega, ← hx] at k1
    rw [show σ 7 1 - 1 - 0 = σ 7 1 - 1 by omega, ← hx] at k2 k3
    have n9 : σ 33 6 = σ 7 2 := r3
    have x9 : ∀ τ : St, τ 33 = σ 33 → τ 36 = σ 36 → _ := fun τ e33 e36 => X9_undo_ok k (d + 8) (τ := τ) (n := σ 7 2) (x := x) (by rw [e33]; exact n9) (by omega) (by omega) (by rw [e36]; exact k1) k2 k3
    rw [eX8_undo, bX8_undo_0, X1_takeBack_ok k (d + 8) r1 (by omega) (by omega), jbI_some, ← hx, w32_id (a := x) (by omega) (by omega)]
    -- what every case needs
    have sub1 : ∀ (a : Int) (P : Prop) [Decidable P], ¬ P → (a - if P then 1 else 0) = a := fun a P _ hP => by rw [if_neg hP]; omega
    rcases (show x = 0 ∨ x = 1 ∨ x = 2 ∨ x = 3 ∨ x = 4 by omega) with e | e | e | e | e
    · -- a row
      obtain ⟨S, hS⟩ : ∃ S, S = st2 (tb σ) 1 2 (σ 1 2 - 1) := ⟨_, rfl⟩
      obtain ⟨ρ, hρ⟩ : ∃ ρ, ρ = st2 (st2 S 33 6 (σ 7 2 - 1)) 33 0 (σ 33 0 - 1) := ⟨_, rfl⟩
      have Sq : ∀ q, q ≠ 1 → q ≠ 7 → S q = σ q := fun q a b => by rw [hS, st2_ne a, tb_ne b]
      have S7 : S 7 = tb σ 7 := by rw [hS, st2_ne (by decide)]
      have q : ∀ q, q ∉ [1, 7, 33] → ρ q = σ q := fun q hq => by
        simp only [List.mem_cons, not_or] at hq
        rw [hρ, st2_ne (by simp [hq]), st2_ne (by simp [hq]), Sq q (by simp [hq]) (by simp [hq])]
      have q33 : ∀ i, i ≠ 0 → i ≠ 6 → ρ 33 i = σ 33 i := fun i a b => by rw [hρ, st2_idx a, st2_idx b, Sq 33 (by decide) (by decide)]
      have p7 : ρ 7 = tb σ 7 := by rw [hρ, st2_ne (by decide), st2_ne (by decide), S7]
      have p6 : ρ 33 6 = σ 33 6 - 1 := by rw [hρ, st2_idx (by decide), st2_eq, n9]
      have p0 : ρ 33 0 = σ 33 0 - 1 := by rw [hρ, st2_eq]
      have p1 : ρ 1 = S 1 := by rw [hρ, st2_ne (by decide), st2_ne (by decide)]
      have p12 : ρ 1 2 = σ 1 2 - 1 := by rw [p1, hS, st2_eq]
      obtain ⟨u1, u2⟩ := UU_pop (ρ := ρ) hd (by omega) p7 (q 32 (by decide)) hx hu (q 25 (by decide)) (q 26 (by decide)) (by rw [p12, if_pos e]) (by rw [q 2 (by decide), sub1 _ _ (by omega)]) (by rw [q 3 (by decide), sub1 _ _ (by omega)]) (by rw [q 4 (by decide), sub1 _ _ (by omega)]) (by rw [q 4 (by decide), sub1 _ _ (by omega)])
      have pos : 0 ≤ σ 1 2 - 1 := by rw [← p12]; exact u2.1
      have CFρ : CF ρ := by
        obtain ⟨c1, c2, c3⟩ := h1
        refine ⟨by rw [p12]; omega, by rw [q 8 (by decide)]; exact c2, ?_⟩
        rw [p12, q 9 (by decide)]
        intro j j0 j1
        exact c3 j j0 (by omega)
      have MRρ : MR ρ := by
        obtain ⟨m1, m2⟩ := h2
        refine ⟨by rw [p0, p12, m1], ?_⟩
        rw [p12, q 34 (by decide), q 35 (by decide), q 9 (by decide)]
        intro j j0 j1
        exact m2 j j0 (by omega)
      refine ⟨σ 7 2 - 1, S, ρ, ?_, ?_, HQ_rows hq CFρ MRρ (by rw [q 3 (by decide)]) (q33 12 (by decide) (by decide)) (q33 21 (by decide) (by decide)) (q33 22 (by decide) (by decide)) (fun x hx => q x (by revert x; decide)), WR_k (by rw [q 2 (by decide)]) (q33 8 (by decide) (by decide)) (q 10 (by decide)) (q 11 (by decide)) (q 12 (by decide)) (q 37 (by decide)) (q 38 (by decide)) (q 39 (by decide)) hw, DR_pop hd (by omega) p7 (q 32 (by decide)) p6 (q 36 (by decide)), PR_k (by rw [q 4 (by decide)]) (by rw [q 4 (by decide)]) (by rw [q 3 (by decide)]; omega) (q33 23 (by decide) (by decide)) (q33 26 (by decide) (by decide)) (fun x hx => q x (by revert x; decide)) hp, PG_k (q33 32 (by decide) (by decide)) (q 30 (by decide)) (q 54 (by decide)) hg, TR_k (q 6 (by decide)) (q 31 (by decide)) (q33 34 (by decide) (by decide)) (q 55 (by decide)) ht, u1⟩
      · rw [if_pos e, eX0_dropRow, bX0_dropRow_0, tb_ne (show (1 : Nat) ≠ 7 by decide), w32_id (a := σ 1 2) (by have := h1.1; omega) (by have := h1.1; omega), if_pos (by omega), jbV_some, ← hS, S7, tb_72]
      · rw [x9 S (Sq 33 (by decide) (by decide)) (Sq 36 (by decide) (by decide)), if_pos e, Sq 33 (by decide) (by decide), ← hρ]
    · -- a word
      obtain ⟨S, hS⟩ : ∃ S, S = st2 (tb σ) 2 3 (σ 2 3 - 1) := ⟨_, rfl⟩
      obtain ⟨ρ, hρ⟩ : ∃ ρ, ρ = st2 (st2 S 33 6 (σ 7 2 - 1)) 33 8 (σ 33 8 - 1) := ⟨_, rfl⟩
      have Sq : ∀ q, q ≠ 2 → q ≠ 7 → S q = σ q := fun q a b => by rw [hS, st2_ne a, tb_ne b]
      have S7 : S 7 = tb σ 7 := by rw [hS, st2_ne (by decide)]
      have q : ∀ q, q ∉ [2, 7, 33] → ρ q = σ q := fun q hq => by
        simp only [List.mem_cons, not_or] at hq
        rw [hρ, st2_ne (by simp [hq]), st2_ne (by simp [hq]), Sq q (by simp [hq]) (by simp [hq])]
      have q33 : ∀ i, i ≠ 8 → i ≠ 6 → ρ 33 i = σ 33 i := fun i a b => by rw [hρ, st2_idx a, st2_idx b, Sq 33 (by decide) (by decide)]
      have p7 : ρ 7 = tb σ 7 := by rw [hρ, st2_ne (by decide), st2_ne (by decide), S7]
      have p6 : ρ 33 6 = σ 33 6 - 1 := by rw [hρ, st2_idx (by decide), st2_eq, n9]
      have p8 : ρ 33 8 = σ 33 8 - 1 := by rw [hρ, st2_eq]
      have p23 : ρ 2 3 = σ 2 3 - 1 := by rw [hρ, st2_ne (by decide), st2_ne (by decide), hS, st2_eq]
      obtain ⟨u1, u2⟩ := UU_pop (ρ := ρ) hd (by omega) p7 (q 32 (by decide)) hx hu (q 25 (by decide)) (q 26 (by decide)) (by rw [q 1 (by decide), sub1 _ _ (by omega)]) (by rw [p23, if_pos e]) (by rw [q 3 (by decide), sub1 _ _ (by omega)]) (by rw [q 4 (by decide), sub1 _ _ (by omega)]) (by rw [q 4 (by decide), sub1 _ _ (by omega)])
      have pos : 0 ≤ σ 2 3 - 1 := by rw [← p23]; exact u2.2.1
      have w1 := hw.1.1
      have WRρ : WR ρ ρ := by
        obtain ⟨c1, c2, c3⟩ := hw.1
        refine ⟨by rw [p23]; omega, by rw [p8, p23, c2], ?_⟩
        rw [p23, q 37 (by decide), q 38 (by decide), q 39 (by decide), q 10 (by decide), q 11 (by decide), q 12 (by decide)]
        intro j j0 j1
        exact c3 j j0 (by omega)
      have WCρ : ∀ c m, wcn ρ c m (ρ 2 3).toNat ≤ 3 := by
        intro c m
        rw [p23, wcn_c (σ := σ) c m _ (fun j _ => by rw [q 11 (by decide), q 12 (by decide)]; exact ⟨rfl, rfl⟩)]
        have a := wcn_mono σ c m (σ 2 3 - 1).toNat
        rw [show (σ 2 3 - 1).toNat + 1 = (σ 2 3).toNat by omega] at a
        have b := hw.2 c m
        omega
      refine ⟨σ 7 2 - 1, S, ρ, ?_, ?_, HQ_k ⟨q 1 (by decide), q 8 (by decide), q 9 (by decide), q 13 (by decide), q 14 (by decide), q 15 (by decide), q 16 (by decide), q 17 (by decide), q 18 (by decide), by rw [q 3 (by decide)]⟩ (q33 0 (by decide) (by decide)) (q33 12 (by decide) (by decide)) (q33 21 (by decide) (by decide)) (q33 22 (by decide) (by decide)) (fun x hx => q x (by revert x; decide)) hq, ⟨WRρ, WCρ⟩, DR_pop hd (by omega) p7 (q 32 (by decide)) p6 (q 36 (by decide)), PR_k (by rw [q 4 (by decide)]) (by rw [q 4 (by decide)]) (by rw [q 3 (by decide)]; omega) (q33 23 (by decide) (by decide)) (q33 26 (by decide) (by decide)) (fun x hx => q x (by revert x; decide)) hp, PG_k (q33 32 (by decide) (by decide)) (q 30 (by decide)) (q 54 (by decide)) hg, TR_k (q 6 (by decide)) (q 31 (by decide)) (q33 34 (by decide) (by decide)) (q 55 (by decide)) ht, u1⟩
      · rw [if_neg (by omega), if_pos e, eX7_drop, bX7_drop_0, tb_ne (show (2 : Nat) ≠ 7 by decide), w32_id (a := σ 2 3) (by omega) (by omega), if_pos (by omega), jbV_some, ← hS, S7, tb_72]
      · rw [x9 S (Sq 33 (by decide) (by decide)) (Sq 36 (by decide) (by decide)), if_neg (by omega), if_pos e, Sq 33 (by decide) (by decide), ← hρ]
    · -- a feast
      obtain ⟨S0, hS0⟩ : ∃ S0, S0 = st2 (tb σ) 3 6 (σ 3 6 - 1) := ⟨_, rfl⟩
      have S0q : ∀ q, q ≠ 3 → q ≠ 7 → S0 q = σ q := fun q a b => by rw [hS0, st2_ne a, tb_ne b]
      have S06 : S0 3 6 = σ 3 6 - 1 := by rw [hS0, st2_eq]
      have S0i : ∀ i, i ≠ 6 → S0 3 i = σ 3 i := fun i hi => by rw [hS0, st2_idx hi, tb_ne (by decide)]
      -- first that there is a feast
      have pos : 0 ≤ σ 3 6 - 1 := by
        obtain ⟨_, u2⟩ := UU_pop (ρ := S0) hd (by omega) (by rw [hS0, st2_ne (by decide)]) (S0q 32 (by decide) (by decide)) hx hu (S0q 25 (by decide) (by decide)) (S0q 26 (by decide) (by decide)) (by rw [S0q 1 (by decide) (by decide), sub1 _ _ (by omega)]) (by rw [S0q 2 (by decide) (by decide), sub1 _ _ (by omega)]) (by rw [S06, if_pos e]) (by rw [S0q 4 (by decide) (by decide), sub1 _ _ (by omega)]) (by rw [S0q 4 (by decide) (by decide), sub1 _ _ (by omega)])
        rw [← S06]
        exact u2.2.2.1
      have f1 := h3.1
      have FV0 : FV S0 := by
        refine ⟨by rw [S06]; omega, ?_⟩
        rw [S06, S0q 13 (by decide) (by decide), S0q 14 (by decide) (by decide), S0q 15 (by decide) (by decide), S0q 16 (by decide) (by decide), S0q 17 (by decide) (by decide)]
        intro i i0 i1
        exact h3.2 i i0 (by omega)
      obtain ⟨S, c1, c2, c3, c4⟩ := X2_changed_ok k (d + 6) (σ := S0) ⟨FV0.1, fun i j0 j1 => (FV0.2 i j0 j1).2⟩
      obtain ⟨ρ, hρ⟩ : ∃ ρ, ρ = st2 (st2 (st2 S 33 6 (σ 7 2 - 1)) 33 12 (σ 33 12 - 1)) 33 22 0 := ⟨_, rfl⟩
      have Sq : ∀ q, q ∉ [3, 7, 18, 19] → S q = σ q := fun q hq => by
        simp only [List.mem_cons, not_or] at hq
        rw [c4 q (by simp [hq]), S0q q (by simp [hq]) (by simp [hq])]
      have S7 : S 7 = tb σ 7 := by rw [c4 7 (by decide), hS0, st2_ne (by decide)]
      have q : ∀ q, q ∉ [3, 7, 18, 19, 33] → ρ q = σ q := fun q hq => by
        simp only [List.mem_cons, not_or] at hq
        rw [hρ, st2_ne (by simp [hq]), st2_ne (by simp [hq]), st2_ne (by simp [hq]), Sq q (by simp [hq])]
      have ρS : ∀ q, q ≠ 33 → ρ q = S q := fun q hq => by rw [hρ, st2_ne hq, st2_ne hq, st2_ne hq]
      have q33 : ∀ i, i ≠ 22 → i ≠ 12 → i ≠ 6 → ρ 33 i = σ 33 i := fun i a b c => by rw [hρ, st2_idx a, st2_idx b, st2_idx c, Sq 33 (by decide)]
      have p7 : ρ 7 = tb σ 7 := by rw [ρS 7 (by decide), S7]
      have p6 : ρ 33 6 = σ 33 6 - 1 := by rw [hρ, st2_idx (by decide), st2_idx (by decide), st2_eq, n9]
      have p12 : ρ 33 12 = σ 33 12 - 1 := by rw [hρ, st2_idx (by decide), st2_eq]
      have p22 : ρ 33 22 = 0 := by rw [hρ, st2_eq]
      have p3 : ρ 3 6 = σ 3 6 - 1 := by rw [ρS 3 (by decide), c4 3 (by decide), S06]
      obtain ⟨u1, u2⟩ := UU_pop (ρ := ρ) hd (by omega) p7 (q 32 (by decide)) hx hu (q 25 (by decide)) (q 26 (by decide)) (by rw [q 1 (by decide), sub1 _ _ (by omega)]) (by rw [q 2 (by decide), sub1 _ _ (by omega)]) (by rw [p3, if_pos e]) (by rw [q 4 (by decide), sub1 _ _ (by omega)]) (by rw [q 4 (by decide), sub1 _ _ (by omega)])
      have fs1 : FSa S ρ := ⟨ρS 1 (by decide), ρS 8 (by decide), ρS 9 (by decide), ρS 13 (by decide), ρS 14 (by decide), ρS 15 (by decide), ρS 16 (by decide), ρS 17 (by decide), ρS 18 (by decide), by rw [ρS 3 (by decide)]⟩
      have FVρ : FV ρ := by
        refine FV_same ?_ ?_ ?_ ?_ ?_ ?_ FV0
        · rw [ρS 3 (by decide), c4 3 (by decide)]
        · rw [ρS 13 (by decide), c4 13 (by decide)]
        · rw [ρS 14 (by decide), c4 14 (by decide)]
        · rw [ρS 15 (by decide), c4 15 (by decide)]
        · rw [ρS 16 (by decide), c4 16 (by decide)]
        · rw [ρS 17 (by decide), c4 17 (by decide)]
      have FRρ : FR ρ ρ := by
        refine ⟨by rw [p12, p3, h4.1], ?_⟩
        rw [p3, q 40 (by decide), q 41 (by decide), q 42 (by decide), q 43 (by decide), q 44 (by decide), q 13 (by decide), q 14 (by decide), q 15 (by decide), q 16 (by decide), q 17 (by decide)]
        intro i i0 i1
        exact h4.2 i i0 (by omega)
      have PRρ : PR ρ := by
        obtain ⟨t1, t2, t3, t4, t5, t6⟩ := hp
        have o6 := u2.2.2.2.2.2
        unfold PR
        rw [q 4 (by decide), q33 23 (by decide) (by decide) (by decide), q33 26 (by decide) (by decide) (by decide), q 23 (by decide), q 24 (by decide), q 25 (by decide), q 26 (by decide), q 27 (by decide), q 28 (by decide), q 48 (by decide), q 49 (by decide), q 50 (by decide), q 51 (by decide), q 52 (by decide), q 53 (by decide)]
        rw [q 4 (by decide)] at o6
        refine ⟨t1, t2, t3, t4, t5, fun i i0 i1 => ?_⟩
        obtain ⟨a1, a2, a3⟩ := t6 i i0 i1
        exact ⟨a1, ⟨a2.1, (o6 i i0 i1).2⟩, a3⟩
      refine ⟨σ 7 2 - 1, S, ρ, ?_, ?_, ⟨CF_same (q 1 (by decide)) (q 8 (by decide)) (q 9 (by decide)) h1, MR_same (q 1 (by decide)) (q 9 (by decide)) (q33 0 (by decide) (by decide) (by decide)) (q 34 (by decide)) (q 35 (by decide)) h2, FVρ, FRρ, fs1.ord c2, CV_fs fs1 (ρS 19 (by decide)) (ρS 20 (by decide)) (ρS 21 (by decide)) c3, ⟨by rw [q33 21 (by decide) (by decide) (by decide)]; exact h9.1, Or.inl p22, fun w => by rw [p22] at w; omega⟩⟩, WR_k (by rw [q 2 (by decide)]) (q33 8 (by decide) (by decide) (by decide)) (q 10 (by decide)) (q 11 (by decide)) (q 12 (by decide)) (q 37 (by decide)) (q 38 (by decide)) (q 39 (by decide)) hw, DR_pop hd (by omega) p7 (q 32 (by decide)) p6 (q 36 (by decide)), PRρ, PG_k (q33 32 (by decide) (by decide) (by decide)) (q 30 (by decide)) (q 54 (by decide)) hg, TR_k (q 6 (by decide)) (q 31 (by decide)) (q33 34 (by decide) (by decide) (by decide)) (q 55 (by decide)) ht, u1⟩
      · rw [if_neg (by omega), if_neg (by omega), if_pos e, eX2_drop, bX2_drop_0, tb_ne (show (3 : Nat) ≠ 7 by decide), w32_id (a := σ 3 6) (by omega) (by omega), if_pos (by omega), ← hS0, c1, jbV_some, jbV_some, S7, tb_72]
      · rw [x9 S (Sq 33 (by decide)) (Sq 36 (by decide)), if_neg (by omega), if_neg (by omega), if_pos e, Sq 33 (by decide), ← hρ]
    · -- a parish
      obtain ⟨S, hS⟩ : ∃ S, S = st2 (tb σ) 4 4 (σ 4 4 - 1) := ⟨_, rfl⟩
      obtain ⟨ρ, hρ⟩ : ∃ ρ, ρ = st2 (st2 S 33 6 (σ 7 2 - 1)) 33 23 (σ 33 23 - 1) := ⟨_, rfl⟩
      have Sq : ∀ q, q ≠ 4 → q ≠ 7 → S q = σ q := fun q a b => by rw [hS, st2_ne a, tb_ne b]
      have S7 : S 7 = tb σ 7 := by rw [hS, st2_ne (by decide)]
      have q : ∀ q, q ∉ [4, 7, 33] → ρ q = σ q := fun q hq => by
        simp only [List.mem_cons, not_or] at hq
        rw [hρ, st2_ne (by simp [hq]), st2_ne (by simp [hq]), Sq q (by simp [hq]) (by simp [hq])]
      have q33 : ∀ i, i ≠ 23 → i ≠ 6 → ρ 33 i = σ 33 i := fun i a b => by rw [hρ, st2_idx a, st2_idx b, Sq 33 (by decide) (by decide)]
      have p7 : ρ 7 = tb σ 7 := by rw [hρ, st2_ne (by decide), st2_ne (by decide), S7]
      have p6 : ρ 33 6 = σ 33 6 - 1 := by rw [hρ, st2_idx (by decide), st2_eq, n9]
      have p23 : ρ 33 23 = σ 33 23 - 1 := by rw [hρ, st2_eq]
      have p44 : ρ 4 4 = σ 4 4 - 1 := by rw [hρ, st2_ne (by decide), st2_ne (by decide), hS, st2_eq]
      have p49 : ρ 4 9 = σ 4 9 := by rw [hρ, st2_ne (by decide), st2_ne (by decide), hS, st2_idx (by decide), tb_ne (by decide)]
      obtain ⟨u1, u2⟩ := UU_pop (ρ := ρ) hd (by omega) p7 (q 32 (by decide)) hx hu (q 25 (by decide)) (q 26 (by decide)) (by rw [q 1 (by decide), sub1 _ _ (by omega)]) (by rw [q 2 (by decide), sub1 _ _ (by omega)]) (by rw [q 3 (by decide), sub1 _ _ (by omega)]) (by rw [p44, if_pos e]) (by rw [p49, sub1 _ _ (by omega)])
      have pos : 0 ≤ σ 4 4 - 1 := by rw [← p44]; exact u2.2.2.2.1
      have P1 := hp.1
      have PRρ : PR ρ := by
        obtain ⟨t1, t2, t3, t4, t5, t6⟩ := hp
        have o6 := u2.2.2.2.2.2
        unfold PR
        rw [p44, p49, p23, q33 26 (by decide) (by decide), q 23 (by decide), q 24 (by decide), q 25 (by decide), q 26 (by decide), q 27 (by decide), q 28 (by decide), q 48 (by decide), q 49 (by decide), q 50 (by decide), q 51 (by decide), q 52 (by decide), q 53 (by decide), q 3 (by decide)]
        rw [p44, p49] at o6
        refine ⟨by omega, t2, by omega, t4, fun i i0 i1 => t5 i i0 (by omega), fun i i0 i1 => ?_⟩
        obtain ⟨a1, a2, a3⟩ := t6 i i0 i1
        exact ⟨⟨a1.1, (o6 i i0 i1).1⟩, a2, a3⟩
      refine ⟨σ 7 2 - 1, S, ρ, ?_, ?_, HQ_k ⟨q 1 (by decide), q 8 (by decide), q 9 (by decide), q 13 (by decide), q 14 (by decide), q 15 (by decide), q 16 (by decide), q 17 (by decide), q 18 (by decide), by rw [q 3 (by decide)]⟩ (q33 0 (by decide) (by decide)) (q33 12 (by decide) (by decide)) (q33 21 (by decide) (by decide)) (q33 22 (by decide) (by decide)) (fun x hx => q x (by revert x; decide)) hq, WR_k (by rw [q 2 (by decide)]) (q33 8 (by decide) (by decide)) (q 10 (by decide)) (q 11 (by decide)) (q 12 (by decide)) (q 37 (by decide)) (q 38 (by decide)) (q 39 (by decide)) hw, DR_pop hd (by omega) p7 (q 32 (by decide)) p6 (q 36 (by decide)), PRρ, PG_k (q33 32 (by decide) (by decide)) (q 30 (by decide)) (q 54 (by decide)) hg, TR_k (q 6 (by decide)) (q 31 (by decide)) (q33 34 (by decide) (by decide)) (q 55 (by decide)) ht, u1⟩
      · rw [if_neg (by omega), if_neg (by omega), if_neg (by omega), if_pos e, eX5_drop, bX5_drop_0, tb_ne (show (4 : Nat) ≠ 7 by decide), w32_id (a := σ 4 4) (by omega) (by omega), if_pos (by omega), jbV_some, ← hS, S7, tb_72]
      · rw [x9 S (Sq 33 (by decide) (by decide)) (Sq 36 (by decide) (by decide)), if_neg (by omega), if_neg (by omega), if_neg (by omega), if_pos e, Sq 33 (by decide) (by decide), ← hρ]
    · -- a rule
      obtain ⟨S, hS⟩ : ∃ S, S = st2 (tb σ) 4 9 (σ 4 9 - 1) := ⟨_, rfl⟩
      obtain ⟨ρ, hρ⟩ : ∃ ρ, ρ = st2 (st2 S 33 6 (σ 7 2 - 1)) 33 26 (σ 33 26 - 1) := ⟨_, rfl⟩
      have Sq : ∀ q, q ≠ 4 → q ≠ 7 → S q = σ q := fun q a b => by rw [hS, st2_ne a, tb_ne b]
      have S7 : S 7 = tb σ 7 := by rw [hS, st2_ne (by decide)]
      have q : ∀ q, q ∉ [4, 7, 33] → ρ q = σ q := fun q hq => by
        simp only [List.mem_cons, not_or] at hq
        rw [hρ, st2_ne (by simp [hq]), st2_ne (by simp [hq]), Sq q (by simp [hq]) (by simp [hq])]
      have q33 : ∀ i, i ≠ 26 → i ≠ 6 → ρ 33 i = σ 33 i := fun i a b => by rw [hρ, st2_idx a, st2_idx b, Sq 33 (by decide) (by decide)]
      have p7 : ρ 7 = tb σ 7 := by rw [hρ, st2_ne (by decide), st2_ne (by decide), S7]
      have p6 : ρ 33 6 = σ 33 6 - 1 := by rw [hρ, st2_idx (by decide), st2_eq, n9]
      have p26 : ρ 33 26 = σ 33 26 - 1 := by rw [hρ, st2_eq]
      have p49 : ρ 4 9 = σ 4 9 - 1 := by rw [hρ, st2_ne (by decide), st2_ne (by decide), hS, st2_eq]
      have p44 : ρ 4 4 = σ 4 4 := by rw [hρ, st2_ne (by decide), st2_ne (by decide), hS, st2_idx (by decide), tb_ne (by decide)]
      obtain ⟨u1, u2⟩ := UU_pop (ρ := ρ) hd (by omega) p7 (q 32 (by decide)) hx hu (q 25 (by decide)) (q 26 (by decide)) (by rw [q 1 (by decide), sub1 _ _ (by omega)]) (by rw [q 2 (by decide), sub1 _ _ (by omega)]) (by rw [q 3 (by decide), sub1 _ _ (by omega)]) (by rw [p44, sub1 _ _ (by omega)]) (by rw [p49, if_pos e])
      have pos : 0 ≤ σ 4 9 - 1 := by rw [← p49]; exact u2.2.2.2.2.1
      have P2 := hp.2.1
      have PRρ : PR ρ := by
        obtain ⟨t1, t2, t3, t4, t5, t6⟩ := hp
        unfold PR
        rw [p44, p49, p26, q33 23 (by decide) (by decide), q 23 (by decide), q 24 (by decide), q 25 (by decide), q 26 (by decide), q 27 (by decide), q 28 (by decide), q 48 (by decide), q 49 (by decide), q 50 (by decide), q 51 (by decide), q 52 (by decide), q 53 (by decide), q 3 (by decide)]
        exact ⟨t1, by omega, t3, by omega, t5, fun i i0 i1 => t6 i i0 (by omega)⟩
      refine ⟨σ 7 2 - 1, S, ρ, ?_, ?_, HQ_k ⟨q 1 (by decide), q 8 (by decide), q 9 (by decide), q 13 (by decide), q 14 (by decide), q 15 (by decide), q 16 (by decide), q 17 (by decide), q 18 (by decide), by rw [q 3 (by decide)]⟩ (q33 0 (by decide) (by decide)) (q33 12 (by decide) (by decide)) (q33 21 (by decide) (by decide)) (q33 22 (by decide) (by decide)) (fun x hx => q x (by revert x; decide)) hq, WR_k (by rw [q 2 (by decide)]) (q33 8 (by decide) (by decide)) (q 10 (by decide)) (q 11 (by decide)) (q 12 (by decide)) (q 37 (by decide)) (q 38 (by decide)) (q 39 (by decide)) hw, DR_pop hd (by omega) p7 (q 32 (by decide)) p6 (q 36 (by decide)), PRρ, PG_k (q33 32 (by decide) (by decide)) (q 30 (by decide)) (q 54 (by decide)) hg, TR_k (q 6 (by decide)) (q 31 (by decide)) (q33 34 (by decide) (by decide)) (q 55 (by decide)) ht, u1⟩
      · rw [if_neg (by omega), if_neg (by omega), if_neg (by omega), if_neg (by omega), if_pos e, eX5_dropRule, bX5_dropRule_0, tb_ne (show (4 : Nat) ≠ 7 by decide), w32_id (a := σ 4 9) (by omega) (by omega), if_pos (by omega), jbV_some, ← hS, S7, tb_72]
      · rw [x9 S (Sq 33 (by decide) (by decide)) (Sq 36 (by decide) (by decide)), if_neg (by omega), if_neg (by omega), if_neg (by omega), if_neg (by omega), Sq 33 (by decide) (by decide), ← hρ]
theorem Tw_count (k : Nat × (Int → Int)) (d : Nat) {σ : St} (h : INV σ) {x : Int} : Tw k (d + 10) mX8_count mX9_count [vI x] σ := by
  obtain ⟨hq, hw, hd, hp, hg, ht, hu⟩ := h
  have e0 : σ 33 0 = σ 1 2 := hq.2.1.1
  have e8 : σ 33 8 = σ 2 3 := hw.1.2.1
  have e12 : σ 33 12 = σ 3 6 := hq.2.2.2.1.1
  have e23 : σ 33 23 = σ 4 4 := hp.2.2.1
  have e26 : σ 33 26 = σ 4 9 := hp.2.2.2.1
  have e6 : σ 33 6 = σ 7 2 := hd.2.2.1
  have e34 : σ 33 34 = σ 6 1 := ht.2.1
  unfold Tw
  rw [eX8_count, bX8_count_0, eX9_count, bX9_count_0, e0, e8, e12, e23, e26, e6, e34]
  by_cases z0 : w32 x = 0
  · rw [if_pos z0]; exact ⟨_, σ, rfl, rfl, Sc.rfl σ⟩
  · rw [if_neg z0]
    by_cases z1 : w32 x = 1
    · rw [if_pos z1]; exact ⟨_, σ, rfl, rfl, Sc.rfl σ⟩
    · rw [if_neg z1]
      by_cases z2 : w32 x = 2
      · rw [if_pos z2]; exact ⟨_, σ, rfl, rfl, Sc.rfl σ⟩
      · rw [if_neg z2]
        by_cases z3 : w32 x = 3
        · rw [if_pos z3]; exact ⟨_, σ, rfl, rfl, Sc.rfl σ⟩
        · rw [if_neg z3]
          by_cases z4 : w32 x = 4
          · rw [if_pos z4]; exact ⟨_, σ, rfl, rfl, Sc.rfl σ⟩
          · rw [if_neg z4]
            by_cases z5 : w32 x = 5
            · rw [if_pos z5]; exact ⟨_, σ, rfl, rfl, Sc.rfl σ⟩
            · rw [if_neg z5]
              by_cases z6 : w32 x = 6
              · rw [if_pos z6]; exact ⟨_, σ, rfl, rfl, Sc.rfl σ⟩
              · rw [if_neg z6]; exact ⟨_, σ, rfl, rfl, Sc.rfl σ⟩
