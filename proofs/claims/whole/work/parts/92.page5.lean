/-! the page's feasts: loops -/
theorem FSa.trans {σ τ ρ : St} (h : FSa σ τ) (g : FSa τ ρ) : FSa σ ρ := by
  obtain ⟨x1, x2, x3, x4, x5, x6, x7, x8, x9, x10⟩ := h
  obtain ⟨y1, y2, y3, y4, y5, y6, y7, y8, y9, y10⟩ := g
  exact ⟨y1.trans x1, y2.trans x2, y3.trans x3, y4.trans x4, y5.trans x5, y6.trans x6, y7.trans x7, y8.trans x8, y9.trans x9, y10.trans x10⟩
theorem FS_pgS (S : St) (ws : List (Int × Int × Int)) : FSa S (pgS S ws) := ⟨pgS_ne (by decide), pgS_ne (by decide), pgS_ne (by decide), pgS_ne (by decide), pgS_ne (by decide), pgS_ne (by decide), pgS_ne (by decide), pgS_ne (by decide), pgS_ne (by decide), by rw [pgS_ne (by decide)]⟩
theorem placedQ (k : Nat × (Int → Int)) (d : Nat) {S : St} {N : Int} {p : Int → Int} (h : PQ S N p) (N0 : 0 ≤ N) (N1 : N ≤ 60) {i : Int} (i0 : 0 ≤ i) (i1 : i < N) : EV k (d + 2) mX2_placedDay [vR 3, vI i] S = ansI (p i) S := by
  obtain ⟨h1, h2, h3⟩ := h
  rw [eX2_placedDay, bX2_placedDay_0, X2_has_ok k d (by unfold I32; omega) (by rw [h2]; omega), jbI_some, ib, h2, if_pos ⟨i0, i1⟩, w32_id (a := S 3 11 + i) (by omega) (by omega), if_pos (by omega), (h3 i i0 i1).1]
theorem feast8_in (k : Nat × (Int → Int)) (d : Nat) {σ : St} (h : HQ σ) {f a b x4 n y : Int} (n1 : 0 ≤ n) (n1' : n ≤ 1500000) (nf : f ≤ n) (nf2 : n ≤ f + 300) : ∀ (t : Nat) (i l : Int) (S : St) (u9 : PV), 0 ≤ i → i + t = σ 3 6 → 0 ≤ l → l + t ≤ 100000 → FSa σ S → PQ S (σ 3 6) (PD σ y) → ∃ v8 v9, out (WV k) (EV k (d + 3)) MX8_writeFeasts 41 [vR 0, vI f, vI a, vI b, vI x4, vI l, vI n, vI (σ 3 6), vI i, u9] [] S = out (WV k) (EV k (d + 3)) MX8_writeFeasts 7 [vR 0, vI f, vI a, vI b, vI x4, vI (l + fdN (σ 18) (PD σ y) n t i), vI (n + 1), vI (σ 3 6), v8, v9] [] (pgS S (fdW (σ 18) (PD σ y) (σ 17) f n t i l)) := by
  have N1 := h.2.2.1.1
  have hO := h.2.2.2.2.1
  intro t
  induction t with
  | zero =>
    intro i l S u9 i0 it l0 l1 fs hQ
    refine ⟨vI i, u9, ?_⟩
    rw [bX8_writeFeasts_41, w32_id (a := i) (by omega) (by omega), w32_id (a := σ 3 6) (by omega) (by omega), if_neg (by omega)]
    show _ = out (WV k) (EV k (d + 3)) MX8_writeFeasts 7 [vR 0, vI f, vI a, vI b, vI x4, vI (l + 0), vI (n + 1), vI (σ 3 6), vI i, u9] [] (pgS S [])
    rw [pgS_nil, show l + 0 = l by omega]
  | succ t ih =>
    intro i l S u9 i0 it l0 l1 fs hQ
    push_cast at it l1
    have of := hO.1 i i0 (by omega)
    have FVS := fs.fv h.2.2.1
    have e18 : S 18 = σ 18 := fs.2.2.2.2.2.2.2.2.1
    have e17 : S 17 = σ 17 := fs.2.2.2.2.2.2.2.1
    have e36 : S 3 6 = σ 3 6 := fs.2.2.2.2.2.2.2.2.2
    have pb := hQ.2.2 (σ 18 i) of.1 of.2
    rw [bX8_writeFeasts_41, w32_id (a := i) (by omega) (by omega), w32_id (a := σ 3 6) (by omega) (by omega), if_pos (show i < σ 3 6 by omega), X2_inOrder_ok k (d + 1) FVS i0 (by omega), jbI_some, e18, placedQ k (d + 1) hQ N1.1 N1.2 of.1 of.2, jbI_some, w32_id (a := PD σ y (σ 18 i)) (by omega) (by omega), w32_id (a := n) (by omega) (by omega), fdW_s, fdN_s]
    by_cases z : PD σ y (σ 18 i) = n
    · rw [if_pos z, if_pos z, if_pos z]
      rw [line8 k d h (n := n) (f := f) (g := σ 18 i) (α := Unit) hQ e17 l0 (by omega) (by omega) (by omega) of.1 of.2 (fun τ6 => out (WV k) (EV k (d + 3)) MX8_writeFeasts 41 [vR 0, vI f, vI a, vI b, vI x4, vI (l + 1), vI n, vI (σ 3 6), vI (i + 1), vI (σ 18 i)] [] τ6)]
      obtain ⟨v8, v9, e⟩ := ih (i + 1) (l + 1) (pgS S (fW f n l (σ 18 i) (σ 17 (σ 18 i)))) (vI (σ 18 i)) (by omega) (by omega) (by omega) (by omega) (fs.trans (FS_pgS _ _)) (PQ_pg _ hQ)
      refine ⟨v8, v9, ?_⟩
      rw [e, pgS_app, show l + 1 + fdN (σ 18) (PD σ y) n t (i + 1) = l + (1 + fdN (σ 18) (PD σ y) n t (i + 1)) by omega]
    · rw [if_neg z, if_neg z, if_neg z]
      obtain ⟨v8, v9, e⟩ := ih (i + 1) l S (vI (σ 18 i)) (by omega) (by omega) (by omega) (by omega) fs hQ
      refine ⟨v8, v9, ?_⟩
      rw [e, show l + (0 + fdN (σ 18) (PD σ y) n t (i + 1)) = l + fdN (σ 18) (PD σ y) n t (i + 1) by omega]
theorem feasts8 (k : Nat × (Int → Int)) (d : Nat) {σ : St} (h : HQ σ) {f a b x4 y : Int} (f0 : 0 ≤ f) (fa : f ≤ a) (b0 : 0 ≤ b) (b1 : b ≤ 1500000) (fb : b ≤ f + 300) (hy : ∀ n, a ≤ n → n ≤ b → yrO σ n = y) : ∀ (t : Nat) (n l : Int) (S : St) (u7 u8 u9 : PV), a ≤ n → n ≤ 1500001 → (b + 1 - n).toNat = t → 0 ≤ l → l + 60 * t ≤ 100000 → FSa σ S → PQ S (σ 3 6) (PD σ y) → out (WV k) (EV k (d + 3)) MX8_writeFeasts 7 [vR 0, vI f, vI a, vI b, vI x4, vI l, vI n, u7, u8, u9] [] S = ansI (l + FN σ t n) (pgS S (FW σ f t n l)) := by
  have N1 := h.2.2.1.1
  have hO := h.2.2.2.2.1
  intro t
  induction t with
  | zero =>
    intro n l S u7 u8 u9 an n1 nt_ l0 l1 fs hQ
    rw [bX8_writeFeasts_7, w32_id (a := b) (by omega) (by omega), w32_id (a := n) (by omega) (by omega), if_pos (by omega)]
    show _ = ansI (l + 0) (pgS S [])
    rw [pgS_nil, show l + 0 = l by omega]
  | succ t ih =>
    intro n l S u7 u8 u9 an n1 nt_ l0 l1 fs hQ
    push_cast at l1
    have nb_ : n ≤ b := by omega
    have cb := cno_b (PD σ y) n (σ 3 6).toNat
    have e36 : S 3 6 = σ 3 6 := fs.2.2.2.2.2.2.2.2.2
    have qb := fqN_b N1 n
    have yy := hy n an nb_
    have dW : fqW σ f n l = fdW (σ 18) (PD σ y) (σ 17) f n (σ 3 6).toNat 0 l := by unfold fqW; rw [yy]
    have dN : fqN σ n = fdN (σ 18) (PD σ y) n (σ 3 6).toNat 0 := by unfold fqN; rw [yy]
    rw [bX8_writeFeasts_7, w32_id (a := b) (by omega) (by omega), w32_id (a := n) (by omega) (by omega), if_neg (by omega), X2_countOn_ok k (d + 2) hQ N1.1 N1.2 (by omega) (by omega), jbI_some, w32_id (a := cno (PD σ y) n (σ 3 6).toNat) (by omega) (by omega), e36, FW_s, FN_s]
    by_cases z : cno (PD σ y) n (σ 3 6).toNat = 0
    · have none := (cno_0 (PD σ y) n (σ 3 6).toNat).1 z
      obtain ⟨g1, g2⟩ := fd_none (σ 18) (PD σ y) (σ 17) f n (σ 3 6).toNat 0 l (fun m m0 m1 => by
        have o := hO.1 m m0 (by omega)
        have := none (σ 18 m).toNat (by omega)
        rw [show ((σ 18 m).toNat : Int) = σ 18 m by omega] at this
        exact this)
      rw [if_pos z, bX8_writeFeasts_41, if_neg (by decide), ih (n + 1) l S _ _ _ (by omega) (by omega) (by omega) l0 (by omega) fs hQ, dW, dN, g1, g2, show l + 0 = l by omega, show l + (0 + FN σ t (n + 1)) = l + FN σ t (n + 1) by omega]
      rfl
    · rw [if_neg z]
      obtain ⟨v8, v9, e⟩ := feast8_in k d h (f := f) (a := a) (b := b) (x4 := x4) (n := n) (y := y) (by omega) (by omega) (by omega) (by omega) (σ 3 6).toNat 0 l S u9 (by omega) (by omega) l0 (by omega) fs hQ
      rw [e, ← dW, ← dN, ih (n + 1) _ _ _ _ _ (by omega) (by omega) (by omega) (by omega) (by omega) (fs.trans (FS_pgS _ _)) (PQ_pg _ hQ), pgS_app, show l + fqN σ n + FN σ t (n + 1) = l + (fqN σ n + FN σ t (n + 1)) by omega]
theorem feast9_in (k : Nat × (Int → Int)) (d : Nat) {σ : St} (h : HQ σ) {p x2 x3 x4 f len dd n : Int} (hn : n = f + dd - 1) (n1 : 0 ≤ n) (n1' : n ≤ 1500000) (d1 : 0 ≤ dd) (d2 : dd ≤ 1000) : ∀ (t : Nat) (i kk l x7 : Int) (T : St), 0 ≤ i → i + t = σ 3 6 → 0 ≤ kk → kk ≤ i → 0 ≤ l → l + t ≤ 100000 → RP σ T → C9 T → (∀ L, 0 ≤ L → nth (σ 18) (PD σ (yrO σ n)) n (σ 3 6).toNat 0 (kk + L) = nth (σ 18) (PD σ (yrO σ n)) n t i L) → ∃ (T' : St) (v7 : Int) (v10 v11 : PV), RP σ T' ∧ C9 T' ∧ T' 54 = wrs (T 54) (fdW (σ 18) (PD σ (yrO σ n)) (σ 17) f n t i l) ∧ T' 33 32 = T 33 32 ∧ out (WV k) (EV k (d + 11)) MX9_page 342 [vR 33, vI p, vI x2, vI x3, vI x4, vI f, vI len, vI x7, vI l, vI dd, vI kk, vI (nth (σ 18) (PD σ (yrO σ n)) n (σ 3 6).toNat 0 kk)] [] T = out (WV k) (EV k (d + 11)) MX9_page 318 [vR 33, vI p, vI x2, vI x3, vI x4, vI f, vI len, vI v7, vI (l + fdN (σ 18) (PD σ (yrO σ n)) n t i), vI (dd + 1), v10, v11] [] T' := by
  have N1 := h.2.2.1.1
  have hO := h.2.2.2.2.1
  intro t
  induction t with
  | zero =>
    intro i kk l x7 T i0 it k0 k1 l0 l1 r c hk
    have z := hk 0 (by omega)
    rw [show kk + 0 = kk by omega] at z
    rw [z]
    refine ⟨T, x7, vI kk, vI (-2), r, c, rfl, rfl, ?_⟩
    show out (WV k) (EV k (d + 11)) MX9_page 342 [vR 33, vI p, vI x2, vI x3, vI x4, vI f, vI len, vI x7, vI l, vI dd, vI kk, vI (-2)] [] T = out (WV k) (EV k (d + 11)) MX9_page 318 [vR 33, vI p, vI x2, vI x3, vI x4, vI f, vI len, vI x7, vI (l + 0), vI (dd + 1), vI kk, vI (-2)] [] T
    rw [bX9_page_342, if_pos rfl, show l + 0 = l by omega]
  | succ t ih =>
    intro i kk l x7 T i0 it k0 k1 l0 l1 r c hk
    push_cast at it l1
    have of := hO.1 i i0 (by omega)
    rw [fdW_s, fdN_s]
    by_cases z : PD σ (yrO σ n) (σ 18 i) = n
    · have v0 : nth (σ 18) (PD σ (yrO σ n)) n (σ 3 6).toNat 0 kk = σ 18 i := by
        have w := hk 0 (by omega)
        rw [show kk + 0 = kk by omega, nth_s, if_pos z, if_pos rfl] at w
        exact w
      have hk2 : ∀ L, 0 ≤ L → nth (σ 18) (PD σ (yrO σ n)) n (σ 3 6).toNat 0 (kk + 1 + L) = nth (σ 18) (PD σ (yrO σ n)) n t (i + 1) L := by
        intro L L0
        have w := hk (1 + L) (by omega)
        rw [nth_s, if_pos z, if_neg (by omega), show 1 + L - 1 = L by omega, ← Int.add_assoc] at w
        exact w
      have rk := (h.2.2.1.2 (σ 18 i) of.1 of.2).2
      have e44 : ∀ T1 : St, RP σ T1 → T1 44 (σ 18 i) = σ 17 (σ 18 i) := fun T1 r1 => by rw [r1.1 44 (by decide), (h.2.2.2.1.2 (σ 18 i) of.1 of.2).2.2.2.2]
      have e6 : T 3 6 ≤ 60 := by rw [r.fs.2.2.2.2.2.2.2.2.2]; exact N1.2
      have rr : ∀ ws, RP σ (pgT T ws) := fun ws => r.trans (RP_pg _ _)
      obtain ⟨T2, a1, a2, a3, a4⟩ := fe9 k d h (rr (fW f n l (σ 18 i) (σ 17 (σ 18 i)))) (C9_pg e6 _ c) (n := n) (q := kk + 1) n1 n1' (by unfold I32; omega)
      obtain ⟨T', v7, v10, v11, i1, i2, i3, i4, i5⟩ := ih (i + 1) (kk + 1) (l + 1) (6 + nzs (σ 17 (σ 18 i)) + 1) T2 (by omega) (by omega) (by omega) (by omega) (by omega) (by omega) a4 a3 hk2
      refine ⟨T', v7, v10, v11, i1, i2, ?_, ?_, ?_⟩
      · rw [i3, a2.1 54 (by decide), pgT_54, ← wrs_app, if_pos z]
      · rw [i4, a2.2 32 (by decide), pgT_ne (by decide)]
      · rw [v0, bX9_page_342, w32_id (a := σ 18 i) (by omega) (by omega), show w32 (-2) = -2 by decide, if_neg (by omega), X9_day_ok k (d + 9) T l0 (by omega) (by omega) (by omega) (by omega) (by omega), jbV_some, X9_number_ok k (d + 9) _ l0 (by omega) (by omega) (by omega) of.1 (by omega), jbI_some, if_pos (show 0 ≤ σ 18 i ∧ σ 18 i < 60 by omega), pgT_app, e44 _ (rr _), X9_number_ok k (d + 9) _ l0 (by omega) (by omega) (by omega) rk.1 (by omega), jbI_some, pgT_app, List.append_assoc, ← hn]
        rw [show twoW l 0 dd ++ (numW l 3 (σ 18 i) ++ numW l 6 (σ 17 (σ 18 i))) = fW f n l (σ 18 i) (σ 17 (σ 18 i)) by unfold fW; rw [show n - f + 1 = dd by omega], a1, jbI_some, if_pos z, show l + (1 + fdN (σ 18) (PD σ (yrO σ n)) n t (i + 1)) = l + 1 + fdN (σ 18) (PD σ (yrO σ n)) n t (i + 1) by omega]
        exact i5
    · have hk2 : ∀ L, 0 ≤ L → nth (σ 18) (PD σ (yrO σ n)) n (σ 3 6).toNat 0 (kk + L) = nth (σ 18) (PD σ (yrO σ n)) n t (i + 1) L := by
        intro L L0
        have w := hk L L0
        rw [nth_s, if_neg z] at w
        exact w
      rw [if_neg z, if_neg z, show l + (0 + fdN (σ 18) (PD σ (yrO σ n)) n t (i + 1)) = l + fdN (σ 18) (PD σ (yrO σ n)) n t (i + 1) by omega]
      exact ih (i + 1) kk l x7 T (by omega) (by omega) k0 (by omega) l0 (by omega) r c hk2
theorem feasts9 (k : Nat × (Int → Int)) (d : Nat) {σ : St} (h : HQ σ) {p x2 x3 x4 f len : Int} (f0 : 0 ≤ f) (fl : f + len - 1 ≤ 1500000) (l1 : len ≤ 300) : ∀ (t : Nat) (dd l x7 : Int) (T : St) (u10 u11 : PV), 1 ≤ dd → dd + t = len + 1 → 0 ≤ l → l + 60 * t ≤ 100000 → RP σ T → C9 T → ∃ T', RP σ T' ∧ C9 T' ∧ T' 54 = wrs (T 54) (FW σ f t (f + dd - 1) l) ∧ T' 33 32 = T 33 32 ∧ out (WV k) (EV k (d + 11)) MX9_page 318 [vR 33, vI p, vI x2, vI x3, vI x4, vI f, vI len, vI x7, vI l, vI dd, u10, u11] [] T = ansI (if l + FN σ t (f + dd - 1) < 28 then l + FN σ t (f + dd - 1) else 28) T' := by
  have N1 := h.2.2.1.1
  intro t
  induction t with
  | zero =>
    intro dd l x7 T u10 u11 d1 dt l0 lb r c
    refine ⟨T, r, c, rfl, rfl, ?_⟩
    show _ = ansI (if l + 0 < 28 then l + 0 else 28) T
    rw [bX9_page_318, w32_id (a := len) (by omega) (by omega), w32_id (a := dd) (by omega) (by omega), if_pos (by omega), w32_id (a := l) (by omega) (by omega), show w32 28 = 28 by decide, show l + 0 = l by omega]
    by_cases z : l < 28
    · rw [if_pos z, if_pos z]
    · rw [if_neg z, if_neg z]
  | succ t ih =>
    intro dd l x7 T u10 u11 d1 dt l0 lb r c
    push_cast at dt lb
    obtain ⟨n, hn⟩ : ∃ n, n = f + dd - 1 := ⟨_, rfl⟩
    rw [← hn]
    have qb := fqN_b N1 n
    obtain ⟨T1, a1, a2, a3, a4⟩ := fe9 k d h r c (n := n) (q := 0) (by omega) (by omega) (by unfold I32; omega)
    obtain ⟨T2, v7, v10, v11, b1, b2, b3, b4, b5⟩ := feast9_in k d h (p := p) (x2 := x2) (x3 := x3) (x4 := x4) (len := len) hn (by omega) (by omega) (by omega) (by omega) (σ 3 6).toNat 0 0 l x7 T1 (by omega) (by omega) (by omega) (by omega) l0 (by omega) a4 a3 (fun L _ => by rw [show (0 : Int) + L = L by omega])
    have eN : fdN (σ 18) (PD σ (yrO σ n)) n (σ 3 6).toNat 0 = fqN σ n := rfl
    have eW : fdW (σ 18) (PD σ (yrO σ n)) (σ 17) f n (σ 3 6).toNat 0 l = fqW σ f n l := rfl
    rw [eN] at b5
    rw [eW] at b3
    obtain ⟨T', c1, c2, c3, c4, c5⟩ := ih (dd + 1) (l + fqN σ n) v7 T2 v10 v11 (by omega) (by omega) (by omega) (by omega) b1 b2
    rw [show f + (dd + 1) - 1 = n + 1 by omega] at c3 c5
    refine ⟨T', c1, c2, ?_, ?_, ?_⟩
    · rw [c3, b3, a2.1 54 (by decide), ← wrs_app, FW_s]
    · rw [c4, b4, a2.2 32 (by decide)]
    · rw [bX9_page_318, w32_id (a := len) (by omega) (by omega), w32_id (a := dd) (by omega) (by omega), if_neg (by omega), ← hn, a1, jbI_some, b5, c5, FN_s, show l + fqN σ n + FN σ t (n + 1) = l + (fqN σ n + FN σ t (n + 1)) by omega]
