/-! book put together -/
theorem TE.fs {σ ρ : St} (h : TE σ ρ) : FSa σ ρ := ⟨h.1 1 (by decide), h.1 8 (by decide), h.1 9 (by decide), h.1 13 (by decide), h.1 14 (by decide), h.1 15 (by decide), h.1 16 (by decide), h.1 17 (by decide), h.1 18 (by decide), by rw [h.1 3 (by decide)]⟩
theorem HQ.te {σ ρ : St} (h : HQ σ) (c : TE σ ρ) : HQ ρ := by
  obtain ⟨h1, h2, h3, h4, h5, h6, h7⟩ := h
  have e33 := c.1 33 (by decide)
  refine ⟨c.fs.cf h1, MR_same (c.1 1 (by decide)) (c.1 9 (by decide)) (by rw [e33]) (c.1 34 (by decide)) (c.1 35 (by decide)) h2, c.fs.fv h3, FR_same c.fs (by rw [e33]) (c.1 40 (by decide)) (c.1 41 (by decide)) (c.1 42 (by decide)) (c.1 43 (by decide)) (c.1 44 (by decide)) h4, c.fs.ord h5, CV_fs c.fs (c.1 19 (by decide)) (c.1 20 (by decide)) (c.1 21 (by decide)) h6, ?_⟩
  have e45 := c.1 45 (by decide)
  have e46 := c.1 46 (by decide)
  have e47 := c.1 47 (by decide)
  refine ⟨by rw [e33]; exact h7.1, by rw [e33]; exact h7.2.1, fun z s s0 s1 => ?_⟩
  rw [e33] at z
  obtain ⟨g1, g2⟩ := h7.2.2 z s s0 s1
  rw [e45]
  exact ⟨g1, fun a b => KP_f c.fs h3.1.2 (fun j _ _ => by rw [e46, e47]; exact ⟨rfl, rfl⟩) (g2 a b)⟩
theorem TE.pr {σ ρ : St} (h : TE σ ρ) (g : PR σ) : PR ρ := by
  unfold PR
  rw [h.1 4 (by decide), h.1 33 (by decide), h.1 23 (by decide), h.1 24 (by decide), h.1 25 (by decide), h.1 26 (by decide), h.1 27 (by decide), h.1 28 (by decide), h.1 48 (by decide), h.1 49 (by decide), h.1 50 (by decide), h.1 51 (by decide), h.1 52 (by decide), h.1 53 (by decide), h.1 3 (by decide)]
  exact g
theorem TE.free {σ ρ : St} (h : TE σ ρ) (p n : Int) : FREE ρ p n ↔ FREE σ p n := FREE_same h.fs (by rw [h.1 4 (by decide)]) (h.1 23 (by decide)) (h.1 25 (by decide)) (h.1 26 (by decide)) (h.1 27 (by decide)) (h.1 28 (by decide)) p n
theorem LK_te {σ S S' : St} {s e p : Int} (h : TE S S') (g : LK σ S s e p) : LK σ S' s e p := by
  obtain ⟨g1, g2, g3, g4⟩ := g
  have e4 := h.1 4 (by decide)
  have e29 := h.1 29 (by decide)
  exact ⟨by rw [e4]; exact g1, by rw [e4]; exact g2, by rw [e4]; exact g3, by unfold FM; rw [e29]; exact g4⟩
theorem PQ_te {S S' : St} {N : Int} {p : Int → Int} (h : TE S S') (g : PQ S N p) : PQ S' N p := by
  unfold PQ
  rw [h.1 3 (by decide), h.1 21 (by decide)]
  exact g
theorem LK_c {σ τ S : St} {s e p : Int} (h : ∀ n, FREE τ p n ↔ FREE σ p n) (h24 : τ 24 = σ 24) (g : LK σ S s e p) : LK τ S s e p := by
  obtain ⟨g1, g2, g3, g4⟩ := g
  exact ⟨g1, g2, by rw [h24]; exact g3, FM_c g4 (fun n _ _ => (h n).symm)⟩
theorem book_end (k : Nat × (Int → Int)) (d : Nat) {σ : St} (h : HQ σ) (hP : PR σ) {p y a b st s e N : Int} (hN : N = σ 3 6) (p0 : 0 ≤ p) (p1 : p < σ 4 4) (y1 : 0 ≤ y) (y2 : y ≤ 5000) (a0 : 0 ≤ a) (b0 : 0 ≤ b) (ab : a + b - 1 ≤ 1500000) (s0 : 0 ≤ s) (se : s < e) (e1 : e ≤ s + 802) (e2 : e ≤ 1500001) (A : s = 0 ∨ s ≤ a - 1) (As : s ≤ a) (B : e = 1500001 ∨ a + b < e) (Bs : a + b ≤ e) {S T : St} (u7 v7 v8 v9 v10 : PV) (hL : LK σ S s e p) (hQ : PQ S N (PD σ y)) (r : RB σ T) (cc : C9 T) (tr : TR S T) (l : S 6 1 + b + 4 ≤ 1200) (st0 : 0 ≤ st) (st1 : st ≤ S 6 1) : ∃ v F ρ, TE S F ∧ RB σ ρ ∧ C9 ρ ∧ TR F ρ ∧ out (WV k) (EV k (d + 11)) MX8_book 147 [vR 0, vI p, vI y, vI a, vI b, vI st, vI a, u7] [] S = ansI v F ∧ out (WV k) (EV k (d + 11)) MX9_book 119 [vR 33, vI p, vI y, vI a, vI b, vI st, vI a, v7, v8, v9, v10] [] T = ansI v ρ := by
  obtain ⟨S', T', u1, w1, w2, w3, w4, i1, i2, i3, i4, i5, i6, i7⟩ := book_loop k d h hP (c := st) (st := st) hN p0 p1 y1 y2 a0 ab s0 se e1 e2 A As B Bs b.toNat a S T u7 v7 v8 v9 v10 (by omega) (by omega) hL hQ r cc tr (by omega)
  have t1 := i4.1
  have t2 := i4.2.1
  have sz : S' 6 1 = S 6 1 + b := by omega
  obtain ⟨q, hq⟩ : ∃ q, q = sm S' (S' 6 1 - st).toNat st 1 := ⟨_, rfl⟩
  obtain ⟨a1, a2⟩ := TE_apN q 4 S'
  obtain ⟨r1, r2⟩ := RT_ptN q 4 T'
  have tr4 := TR_N q 4 S' T' i4 (by omega)
  have e12 : T' 3 6 ≤ 60 := by rw [i2.fs.2.2.2.2.2.2.2.2.2]; exact h.2.2.1.1.2
  refine ⟨S' 6 1 + 4, apN S' q 4, ptN T' q 4, i1.trans a1, i2.trans r1.rb, r1.c9 e12 i3, tr4, ?_, ?_⟩
  · have app := X6_append_ok k (d + 10) q 4 (S := S') t1.1 (by omega)
    rw [show ((4 : Nat) : Int) = 4 from rfl] at app a2
    rw [i6, bX8_book_147, if_neg (by omega), X6_sumOf_ok k (d + 9) S' st0 (show st ≤ S' 6 1 by omega) t1.2, jbI_some, ← hq, app, jbV_some, a2]
  · rw [i7, bX9_book_119, if_neg (by omega), t2, X9_sum_ok k (d + 10) i4 st0 (show st ≤ S' 6 1 by omega) (by omega), jbI_some, ← hq]
    have p1_ := fun (x : Int) (T : St) (h0 : 0 ≤ T 33 34) (h1 : T 33 34 < 1200) => X9_put_ok k (d + 10) x (T := T) h0 h1
    rw [bX9_book_251, if_neg (by decide), p1_ _ _ (by omega) (by omega), jbV_some, show (24 : Int) + -8 = 16 from rfl, bX9_book_251, if_neg (by decide), p1_ _ _ (by rw [pt_34]; omega) (by rw [pt_34]; omega), jbV_some, show (16 : Int) + -8 = 8 from rfl, bX9_book_251, if_neg (by decide), p1_ _ _ (by rw [pt_34, pt_34]; omega) (by rw [pt_34, pt_34]; omega), jbV_some, show (8 : Int) + -8 = 0 from rfl, bX9_book_251, if_neg (by decide), p1_ _ _ (by rw [pt_34, pt_34, pt_34]; omega) (by rw [pt_34, pt_34, pt_34]; omega), jbV_some, bX9_book_251, if_pos (by decide), pt_34, pt_34, pt_34, pt_34, t2]
    exact ansI_c (by omega)
def GE (σ ρ : St) : Prop := (∀ q, q ∉ [3, 4, 6, 19, 20, 21, 22, 29, 30, 31, 33, 45, 46, 47, 54, 55] → ρ q = σ q) ∧ (∀ a : Int, a ∉ ([11, 13] : List Int) → ρ 3 a = σ 3 a) ∧ (∀ a : Int, a ∉ ([11, 12, 13] : List Int) → ρ 4 a = σ 4 a) ∧ (∀ a : Int, a ≠ 1 → ρ 6 a = σ 6 a) ∧ (∀ a : Int, a ∉ ([3, 4, 5, 21, 22, 32, 34] : List Int) → ρ 33 a = σ 33 a) ∧ CV ρ ∧ C9 ρ
theorem ansI_inj {a b : Int} {σ τ : St} (h : (ansI a σ) = ansI b τ) : a = b ∧ σ = τ := by
  injection h with h
  injection h with h1 h2
  injection h1 with h1
  injection h1 with h1
  exact ⟨h1, h2⟩
theorem Td_book (k : Nat × (Int → Int)) (d : Nat) {σ : St} (h : HQ σ) (hP : PR σ) (hT : TR σ σ) {p y : Int} (h1 : I32 p) (h2 : I32 y) : ∃ v σ1 ρ, EV k (d + 12) mX8_book [vR 0, vI p, vI y] σ = ansI v σ1 ∧ EV k (d + 12) mX9_book [vR 33, vI p, vI y] σ1 = ansI v ρ ∧ GE σ ρ ∧ TR ρ ρ ∧ ρ 30 = σ 30 ∧ ρ 54 = σ 54 ∧ ρ 33 32 = σ 33 32 := by
  obtain ⟨g1, g2, g3, g4, g5, g6, g7⟩ := id h
  obtain ⟨t1, t2, t3, t4⟩ := id hT
  have b2 := h2
  unfold I32 at b2
  have self : GE σ σ := ⟨fun _ _ => rfl, fun _ _ => rfl, fun _ _ => rfl, fun _ _ => rfl, fun _ _ => rfl, g6, g7⟩
  have same : ∀ v, EV k (d + 12) mX8_book [vR 0, vI p, vI y] σ = ansI v σ → EV k (d + 12) mX9_book [vR 33, vI p, vI y] σ = ansI v σ → ∃ v σ1 ρ, EV k (d + 12) mX8_book [vR 0, vI p, vI y] σ = ansI v σ1 ∧ EV k (d + 12) mX9_book [vR 33, vI p, vI y] σ1 = ansI v ρ ∧ GE σ ρ ∧ TR ρ ρ ∧ ρ 30 = σ 30 ∧ ρ 54 = σ 54 ∧ ρ 33 32 = σ 33 32 := fun v a b => ⟨v, σ, σ, a, b, self, hT, rfl, rfl, rfl⟩
  by_cases q : 0 ≤ p ∧ p < σ 4 4
  · by_cases z : 0 ≤ y ∧ y ≤ 5000
    · obtain ⟨yv1, yv2⟩ := YV_of (c := 0) (y := y) z.1 z.2
      have gl := greg_len y
      obtain ⟨F, hF⟩ : ∃ F, F = Ys σ 0 y := ⟨_, rfl⟩
      obtain ⟨G, hG⟩ : ∃ G, G = Ys σ 0 (y + 1) := ⟨_, rfl⟩
      have FG : G - F = 365 ∨ G - F = 366 := by
        rw [hF, hG]
        show greg (y + 1) - 60 - (greg y - 60) = 365 ∨ greg (y + 1) - 60 - (greg y - 60) = 366
        omega
      have Fb := Ys_b g1 (c := 0) (y := y) (by omega) (by omega) yv1 (by omega)
      rw [← hF] at Fb
      obtain ⟨D, hD⟩ : ∃ D, D = G - F := ⟨_, rfl⟩
      have c8 : EV k (d + 12) mX8_book [vR 0, vI p, vI y] σ = if 0 ≤ F ∧ F ≤ 1500000 then (if 0 ≤ F + D - 1 ∧ F + D - 1 ≤ 1500000 then (if 1200 < σ 6 1 + D + 8 then ansI (-4) σ else jbV (EV k (d + 11) mX5_lookAt [vR 4, vI p, vI F, vI (F + D - 1)] σ) (fun τ7 => jbV (EV k (d + 11) mX2_place [vR 3, vI y] τ7) (fun τ8 => jbV (EV k (d + 11) mX6_append [vR 6, vI y, vI 2] τ8) (fun τ9 => jbV (EV k (d + 11) mX6_append [vR 6, vI D, vI 2] τ9) (fun τ10 => out (WV k) (EV k (d + 11)) MX8_book 147 [vR 0, vI p, vI y, vI F, vI D, vI (τ8 6 1), vI F, vU] [] τ10))))) else ansI (-3) σ) else ansI (-3) σ := by
        rw [eX8_book, bX8_book_0, X5_has_ok k (d + 10) h1 hP.1, jbI_some, ib, if_pos q, X0_hasYear_ok k (d + 9) g1 (by omega) (by omega) b2.1 b2.2, jbI_some, ib, if_pos (show yfst 0 ≤ y ∧ y ≤ ylst (σ 1 2) 0 from z), X0_yearStart_ok k (d + 9) g1 (by omega) (by omega) yv1, jbI_some, X0_daysInYear_ok k (d + 8) g1 (by omega) (by omega) yv1 yv2, jbI_some, ← hF, ← hG, ← hD, X8_isDay_ok k (d + 10) σ (by omega) (by omega), jbI_some, ib, X8_isDay_ok k (d + 10) σ (by omega) (by omega), jbI_some, ib, show w32 1200 = 1200 by decide, w32_id (a := σ 6 1 + D + 8) (by omega) (by omega)]
      have c9 : ∀ τ : St, HQ τ → PR τ → FSa σ τ → τ 4 4 = σ 4 4 → τ 33 34 = σ 6 1 → EV k (d + 12) mX9_book [vR 33, vI p, vI y] τ = if 0 ≤ F ∧ F ≤ 1500000 then (if 0 ≤ F + D - 1 ∧ F + D - 1 ≤ 1500000 then (if 1200 < σ 6 1 + D + 8 then ansI (-4) τ else jbV (EV k (d + 11) mX9_put [vR 33, vI (jshr y 8)] τ) (fun τ7 => jbV (EV k (d + 11) mX9_put [vR 33, vI y] τ7) (fun τ8 => jbV (EV k (d + 11) mX9_put [vR 33, vI (jshr D 8)] τ8) (fun τ9 => jbV (EV k (d + 11) mX9_put [vR 33, vI D] τ9) (fun τ10 => out (WV k) (EV k (d + 11)) MX9_book 119 [vR 33, vI p, vI y, vI F, vI D, vI (σ 6 1), vI F, vU, vU, vU, vU] [] τ10))))) else ansI (-3) τ) else ansI (-3) τ := by
        intro τ Hτ Pτ fs e4 e34
        have q12 : τ 1 2 = σ 1 2 := by rw [fs.1]
        rw [eX9_book, bX9_book_0, X9_isParish_ok k (d + 9) Pτ h1, jbI_some, ib, if_pos (by omega), X9_isYear_ok k (d + 9) Hτ.1 Hτ.2.1 (by omega) (by omega) b2.1 b2.2, jbI_some, ib, if_pos (show yfst 0 ≤ y ∧ y ≤ ylst (τ 1 2) 0 from z), X9_start_ok k (d + 7) τ (by omega) (by omega) yv1, jbI_some, X9_start_ok k (d + 7) τ (by omega) (by omega) yv2, jbI_some, Ys_same q12 fs.2.2.1, Ys_same q12 fs.2.2.1, ← hF, ← hG, ← hD, w32_id (a := F) (by omega) (by omega), X9_isDay_ok k (d + 10) τ (by omega) (by omega), jbI_some, ib, w32_id (a := F + D - 1) (by omega) (by omega), X9_isDay_ok k (d + 10) τ (by omega) (by omega), jbI_some, ib, e34, show w32 1200 = 1200 by decide, w32_id (a := σ 6 1 + D + 8) (by omega) (by omega)]
      have c9s := c9 σ h hP ⟨rfl, rfl, rfl, rfl, rfl, rfl, rfl, rfl, rfl, rfl⟩ rfl t2
      by_cases z1 : 0 ≤ F ∧ F ≤ 1500000
      · by_cases z2 : 0 ≤ F + D - 1 ∧ F + D - 1 ≤ 1500000
        · by_cases z3 : 1200 < σ 6 1 + D + 8
          · exact same (-4) (by rw [c8, if_pos z1, if_pos z2, if_pos z3]) (by rw [c9s, if_pos z1, if_pos z2, if_pos z3])
          · -- the book is written
            obtain ⟨S1, l1, l2, l3, l4⟩ := lookAt_ok k (d + 4) h hP q.1 q.2 z1.1 (show F ≤ F + D - 1 by omega) z2.2 (by omega)
            obtain ⟨s, hs⟩ : ∃ s, s = if F - 1 ≤ 0 then 0 else F - 1 := ⟨_, rfl⟩
            obtain ⟨e, he⟩ : ∃ e, e = if 1500001 ≤ F + D - 1 + 2 then 1500001 else F + D - 1 + 2 := ⟨_, rfl⟩
            rw [← hs, ← he] at l4
            have sb : 0 ≤ s ∧ F - 1 ≤ s ∧ s ≤ F ∧ (s = 0 ∨ s = F - 1) := by rw [hs]; split <;> omega
            have eb : e ≤ 1500001 ∧ e ≤ F + D + 1 ∧ (e = 1500001 ∨ e = F + D + 1) := by rw [he]; split <;> omega
            have H1 := h.ce l2 l3
            obtain ⟨S2, m1, m2, m3, m4, m5⟩ := place2 k (d + 5) H1 z.1 z.2
            have c12 := l2.trans m2
            have H2 := h.ce c12 m3
            have P2 := c12.pr hP
            have LK2 : LK σ S2 s e p := by
              obtain ⟨w1, w2, w3, w4⟩ := l4
              have e4 := m5 4 (by decide)
              have e29 := m5 29 (by decide)
              exact ⟨by rw [e4]; exact w1, by rw [e4]; exact w2, by rw [e4]; exact w3, by unfold FM; rw [e29]; exact w4⟩
            have PQ2 : PQ S2 (σ 3 6) (PD σ y) := by
              have e6 : S2 3 6 = σ 3 6 := c12.fs.2.2.2.2.2.2.2.2.2
              refine ⟨m4.1, e6, fun j j0 j1 => ?_⟩
              have pb := PD_b h z.1 z.2 j0 j1
              exact ⟨by rw [(m4.2 j j0 (by omega)).2, c12.fs.pd], pb.1, pb.2.1⟩
            have s61 : S2 6 = σ 6 := c12.1 6 (by decide)
            have s31 : S2 31 = σ 31 := c12.1 31 (by decide)
            have trS : ∀ τ : St, τ 33 34 = σ 33 34 → τ 55 = σ 55 → TR S2 τ := fun τ e1 e2 => ⟨by rw [s61]; exact t1, by rw [e1, s61]; exact t2, by rw [s31]; exact t3, by rw [s61, s31, e2]; exact t4⟩
            obtain ⟨S4, hS4⟩ : ∃ S4, S4 = apN (apN S2 y 2) D 2 := ⟨_, rfl⟩
            have tA := TE_apN y 2 S2
            have tB := TE_apN D 2 (apN S2 y 2)
            have te4 : TE S2 S4 := by rw [hS4]; exact tA.1.trans tB.1
            have sz4 : S4 6 1 = σ 6 1 + 4 := by
              rw [hS4, tB.2, tA.2, s61]
              push_cast
              omega
            have put4 : ∀ τ : St, TR S2 τ → TR S4 (pt (pt (pt (pt τ (jshr y 8)) y) (jshr D 8)) D) ∧ RT τ (pt (pt (pt (pt τ (jshr y 8)) y) (jshr D 8)) D) ∧ jbV (EV k (d + 11) mX9_put [vR 33, vI (jshr y 8)] τ) (fun τ7 => jbV (EV k (d + 11) mX9_put [vR 33, vI y] τ7) (fun τ8 => jbV (EV k (d + 11) mX9_put [vR 33, vI (jshr D 8)] τ8) (fun τ9 => jbV (EV k (d + 11) mX9_put [vR 33, vI D] τ9) (fun τ10 => out (WV k) (EV k (d + 11)) MX9_book 119 [vR 33, vI p, vI y, vI F, vI D, vI (σ 6 1), vI F, vU, vU, vU, vU] [] τ10)))) = out (WV k) (EV k (d + 11)) MX9_book 119 [vR 33, vI p, vI y, vI F, vI D, vI (σ 6 1), vI F, vU, vU, vU, vU] [] (pt (pt (pt (pt τ (jshr y 8)) y) (jshr D 8)) D) := by
              intro τ ht
              have e34 : τ 33 34 = σ 6 1 := by rw [ht.2.1, s61]
              refine ⟨?_, ((RT_pt τ _).trans (RT_pt _ _)).trans ((RT_pt _ _).trans (RT_pt _ _)), ?_⟩
              · rw [hS4]
                refine TR_ap (TR_ap (TR_ap (TR_ap ht ?_ ?_) ?_ ?_) ?_ ?_) ?_ ?_
                · rw [s61]; omega
                · rfl
                · rw [ap_61, s61]; omega
                · exact shr0 y
                · rw [ap_61, ap_61, s61]; omega
                · rfl
                · rw [ap_61, ap_61, ap_61, s61]; omega
                · exact shr0 D
              · rw [X9_put_ok k (d + 10) _ (by omega) (by omega), jbV_some, X9_put_ok k (d + 10) _ (by rw [pt_34]; omega) (by rw [pt_34]; omega), jbV_some, X9_put_ok k (d + 10) _ (by rw [pt_34, pt_34]; omega) (by rw [pt_34, pt_34]; omega), jbV_some, X9_put_ok k (d + 10) _ (by rw [pt_34, pt_34, pt_34]; omega) (by rw [pt_34, pt_34, pt_34]; omega), jbV_some]
            have x8 : EV k (d + 12) mX8_book [vR 0, vI p, vI y] σ = out (WV k) (EV k (d + 11)) MX8_book 147 [vR 0, vI p, vI y, vI F, vI D, vI (σ 6 1), vI F, vU] [] S4 := by
              have a1 := X6_append_ok k (d + 10) y 2 (S := S2) (by rw [s61]; omega) (by rw [s61]; push_cast; omega)
              have a2 := X6_append_ok k (d + 10) D 2 (S := apN S2 y 2) (by rw [tA.2, s61]; push_cast; omega) (by rw [tA.2, s61]; push_cast; omega)
              rw [show ((2 : Nat) : Int) = 2 from rfl] at a1 a2
              rw [c8, if_pos z1, if_pos z2, if_neg z3, l1, jbV_some, m1, jbV_some, a1, jbV_some, a2, jbV_some, ← hS4, s61]
            have LK4 := LK_te te4 LK2
            have PQ4 := PQ_te te4 PQ2
            -- once for the component's end
            obtain ⟨A1, A2, A3⟩ := put4 σ (trS σ rfl rfl)
            obtain ⟨v0, K, ρ0, f1, _, _, _, f5, _⟩ := book_end k d h hP (S := S4) (st := σ 6 1) rfl q.1 q.2 z.1 z.2 z1.1 (show 0 ≤ D by omega) (by omega) sb.1 (show s < e by omega) (by omega) (by omega) (by omega) (by omega) (by omega) (by omega) vU vU vU vU vU LK4 PQ4 A2.rb (A2.c9 g3.1.2 g7) A1 (by omega) t1.1 (by omega)
            have teK : TE S2 K := te4.trans f1
            have HK := H2.te teK
            have PK := teK.pr P2
            have fsK : FSa σ K := by
              obtain ⟨x1, x2, x3, x4, x5, x6, x7, x8, x9, x10⟩ := c12.fs
              obtain ⟨y1, y2, y3, y4, y5, y6, y7, y8, y9, y10⟩ := teK.fs
              exact ⟨y1.trans x1, y2.trans x2, y3.trans x3, y4.trans x4, y5.trans x5, y6.trans x6, y7.trans x7, y8.trans x8, y9.trans x9, y10.trans x10⟩
            have K33 : K 33 = σ 33 := by rw [teK.1 33 (by decide), c12.1 33 (by decide)]
            have K55 : K 55 = σ 55 := by rw [teK.1 55 (by decide), c12.1 55 (by decide)]
            have K44 : K 4 4 = σ 4 4 := by rw [teK.1 4 (by decide), c12.2.2 4 (by decide)]
            have K36 : K 3 6 = σ 3 6 := fsK.2.2.2.2.2.2.2.2.2
            have K24 : K 24 = σ 24 := by rw [teK.1 24 (by decide), c12.1 24 (by decide)]
            have frK : ∀ n, FREE K p n ↔ FREE σ p n := fun n => (teK.free p n).trans (c12.free p n)
            -- and once for both
            obtain ⟨B1, B2, B3⟩ := put4 K (trS K (by rw [K33]) K55)
            obtain ⟨v, K', ρ, h1', h2', h3', h4', h5', h6'⟩ := book_end k d HK PK (S := S4) (st := σ 6 1) K36.symm q.1 (show p < K 4 4 by omega) z.1 z.2 z1.1 (show 0 ≤ D by omega) (by omega) sb.1 (show s < e by omega) (by omega) (by omega) (by omega) (by omega) (by omega) (by omega) vU vU vU vU vU (LK_c frK K24 LK4) (by rw [fsK.pd]; exact PQ4) B2.rb (B2.c9 (by rw [K36]; exact g3.1.2) HK.2.2.2.2.2.2) B1 (by omega) t1.1 (by omega)
            obtain ⟨ev, eK⟩ := ansI_inj (f5.symm.trans h5')
            subst eK
            have Kq : ∀ q, q ∉ [3, 4, 6, 19, 20, 21, 22, 29, 31] → K q = σ q := fun q hq => by
              simp only [List.mem_cons, not_or] at hq
              rw [teK.1 q (by simp [hq]), c12.1 q (by simp [hq])]
            have ρq : ∀ q, q ∉ [3, 4, 6, 19, 20, 21, 22, 29, 31, 33, 45, 46, 47, 55] → ρ q = σ q := fun q hq => by
              simp only [List.mem_cons, not_or] at hq
              rw [h2'.1 q (by simp [hq]), Kq q (by simp [hq])]
            refine ⟨v, K, ρ, by rw [x8]; exact h5', ?_, ⟨fun q hq => ρq q ?_, fun a ha => ?_, fun a ha => ?_, fun a ha => ?_, fun a ha => ?_, ?_, h3'⟩, ?_, ρq 30 (by decide), ρq 54 (by decide), ?_⟩
            · rw [c9 K HK PK fsK K44 (by rw [K33, t2]), if_pos z1, if_pos z2, if_neg z3, B3]
              exact h6'
            · simp only [List.mem_cons, not_or] at hq ⊢
              simp [hq]
            · rw [h2'.1 3 (by decide), teK.1 3 (by decide), c12.2.1 a ha]
            · rw [h2'.1 4 (by decide), teK.1 4 (by decide), c12.2.2 a ha]
            · rw [h2'.1 6 (by decide), teK.2 a ha, s61]
            · simp only [List.mem_cons, not_or] at ha
              rw [h2'.2 a (by simp [ha]), K33]
            · exact (HK.rb h2' h3').2.2.2.2.2.1
            · obtain ⟨y1, y2, y3, y4⟩ := h4'
              have e6 := h2'.1 6 (by decide)
              have e31 := h2'.1 31 (by decide)
              exact ⟨by rw [e6]; exact y1, by rw [e6]; exact y2, by rw [e31]; exact y3, by rw [e6, e31]; exact y4⟩
            · rw [h2'.2 32 (by decide), K33]
        · exact same (-3) (by rw [c8, if_pos z1, if_neg z2]) (by rw [c9s, if_pos z1, if_neg z2])
      · exact same (-3) (by rw [c8, if_neg z1]) (by rw [c9s, if_neg z1])
    · refine same (-2) ?_ ?_
      · rw [eX8_book, bX8_book_0, X5_has_ok k (d + 10) h1 hP.1, jbI_some, ib, if_pos q, X0_hasYear_ok k (d + 9) g1 (by omega) (by omega) b2.1 b2.2, jbI_some, ib, if_neg (show ¬ (yfst 0 ≤ y ∧ y ≤ ylst (σ 1 2) 0) from z)]
      · rw [eX9_book, bX9_book_0, X9_isParish_ok k (d + 9) hP h1, jbI_some, ib, if_pos q, X9_isYear_ok k (d + 9) g1 g2 (by omega) (by omega) b2.1 b2.2, jbI_some, ib, if_neg (show ¬ (yfst 0 ≤ y ∧ y ≤ ylst (σ 1 2) 0) from z)]
  · refine same (-1) ?_ ?_
    · rw [eX8_book, bX8_book_0, X5_has_ok k (d + 10) h1 hP.1, jbI_some, ib, if_neg q]
    · rw [eX9_book, bX9_book_0, X9_isParish_ok k (d + 9) hP h1, jbI_some, ib, if_neg q]
