/-! book on both sides -/
def RB (σ ρ : St) : Prop := (∀ q, q ∉ [33, 45, 46, 47, 55] → ρ q = σ q) ∧ ∀ a : Int, a ∉ ([3, 4, 5, 21, 22, 34] : List Int) → ρ 33 a = σ 33 a
theorem RB.refl (σ : St) : RB σ σ := ⟨fun _ _ => rfl, fun _ _ => rfl⟩
theorem RB.trans {σ τ ρ : St} (h : RB σ τ) (g : RB τ ρ) : RB σ ρ := ⟨fun q hq => (g.1 q hq).trans (h.1 q hq), fun a ha => (g.2 a ha).trans (h.2 a ha)⟩
theorem RE.rb {σ ρ : St} (h : RE σ ρ) : RB σ ρ := ⟨fun q hq => h.1 q (by simp only [List.mem_cons, not_or] at hq ⊢; simp [hq]), fun a ha => h.2 a (by simp only [List.mem_cons, not_or] at ha ⊢; simp [ha])⟩
theorem RT.rb {σ ρ : St} (h : RT σ ρ) : RB σ ρ := ⟨fun q hq => h.1 q (by simp only [List.mem_cons, not_or] at hq ⊢; simp [hq]), fun a ha => h.2 a (by simp only [List.mem_cons, not_or] at ha; simp [ha])⟩
theorem RB.fs {σ ρ : St} (h : RB σ ρ) : FSa σ ρ := ⟨h.1 1 (by decide), h.1 8 (by decide), h.1 9 (by decide), h.1 13 (by decide), h.1 14 (by decide), h.1 15 (by decide), h.1 16 (by decide), h.1 17 (by decide), h.1 18 (by decide), by rw [h.1 3 (by decide)]⟩
theorem HQ.rb {σ ρ : St} (h : HQ σ) (c : RB σ ρ) (v : C9 ρ) : HQ ρ := by
  obtain ⟨h1, h2, h3, h4, h5, h6, h7⟩ := h
  exact ⟨c.fs.cf h1, MR_same (c.1 1 (by decide)) (c.1 9 (by decide)) (c.2 0 (by decide)) (c.1 34 (by decide)) (c.1 35 (by decide)) h2, c.fs.fv h3, FR_same c.fs (c.2 12 (by decide)) (c.1 40 (by decide)) (c.1 41 (by decide)) (c.1 42 (by decide)) (c.1 43 (by decide)) (c.1 44 (by decide)) h4, c.fs.ord h5, CV_fs c.fs (c.1 19 (by decide)) (c.1 20 (by decide)) (c.1 21 (by decide)) h6, v⟩
theorem RB.pr {σ ρ : St} (h : RB σ ρ) (g : PR σ) : PR ρ := by
  unfold PR
  rw [h.1 4 (by decide), h.2 23 (by decide), h.2 26 (by decide), h.1 23 (by decide), h.1 24 (by decide), h.1 25 (by decide), h.1 26 (by decide), h.1 27 (by decide), h.1 28 (by decide), h.1 48 (by decide), h.1 49 (by decide), h.1 50 (by decide), h.1 51 (by decide), h.1 52 (by decide), h.1 53 (by decide), h.1 3 (by decide)]
  exact g
theorem RB.off {σ ρ : St} (h : RB σ ρ) (p n : Int) : OFF ρ p n ↔ OFF σ p n := by
  have f := fun m => FREE_same h.fs (by rw [h.1 4 (by decide)]) (h.1 23 (by decide)) (h.1 25 (by decide)) (h.1 26 (by decide)) (h.1 27 (by decide)) (h.1 28 (by decide)) p m
  unfold OFF
  rw [f, f, f, h.1 24 (by decide)]
theorem RT.c9 {σ ρ : St} (h : RT σ ρ) (n60 : σ 3 6 ≤ 60) (g : C9 σ) : C9 ρ := by
  have e45 := h.1 45 (by decide)
  have e46 := h.1 46 (by decide)
  have e47 := h.1 47 (by decide)
  refine ⟨by rw [h.2 21 (by decide)]; exact g.1, by rw [h.2 22 (by decide)]; exact g.2.1, fun z s s0 s1 => ?_⟩
  rw [h.2 22 (by decide)] at z
  obtain ⟨g1, g2⟩ := g.2.2 z s s0 s1
  rw [e45]
  exact ⟨g1, fun a b => KP_f h.rb.fs n60 (fun j _ _ => by rw [e46, e47]; exact ⟨rfl, rfl⟩) (g2 a b)⟩
theorem TR_re {S T T' : St} (h : RE T T') (g : TR S T) : TR S T' := by
  obtain ⟨t1, t2, t3, t4⟩ := g
  exact ⟨t1, by rw [h.2 34 (by decide)]; exact t2, t3, by rw [h.1 55 (by decide)]; exact t4⟩
def cno (p : Int → Int) (n : Int) : Nat → Int
  | 0 => 0
  | m + 1 => cno p n m + (if p m = n then 1 else 0)
theorem cno_s (p : Int → Int) (n : Int) (m : Nat) : cno p n (m + 1) = cno p n m + (if p m = n then 1 else 0) := rfl
theorem cno_b (p : Int → Int) (n : Int) (m : Nat) : 0 ≤ cno p n m ∧ cno p n m ≤ m := by
  induction m with
  | zero => exact ⟨Int.le_refl 0, Int.le_refl 0⟩
  | succ m ih => rw [cno_s]; push_cast; split <;> omega
/-- the component's table holds the days p -/
def PQ (S : St) (N : Int) (p : Int → Int) : Prop := (0 ≤ S 3 11 ∧ S 3 11 ≤ 420) ∧ S 3 6 = N ∧ ∀ j, 0 ≤ j → j < N → S 21 (S 3 11 + j) = p j ∧ -2 ≤ p j ∧ p j ≤ 1500000
theorem countOn_loop (k : Nat × (Int → Int)) (d : Nat) {S : St} {N : Int} {p : Int → Int} (h : PQ S N p) (N1 : N ≤ 60) {n : Int} (n0 : 0 ≤ n) (n1 : n ≤ 1500000) : ∀ (t j : Nat) (x : Int), (j : Int) + t = N → out (WV k) (EV k d) MX2_countOn 4 [vR 3, vI n, vI x, vI j] [] S = ansI (x + (cno p n N.toNat - cno p n j)) S := by
  obtain ⟨h1, h2, h3⟩ := h
  intro t
  induction t with
  | zero =>
    intro j x hj
    rw [bX2_countOn_4, h2, if_neg (by rw [w32_id (by omega) (by omega), w32_id (by omega) (by omega)]; omega), show N.toNat = j by omega]
    exact ansI_c (by omega)
  | succ t ih =>
    intro j x hj
    push_cast at hj
    have hb := h3 j (by omega) (by omega)
    rw [bX2_countOn_4, h2, w32_id (a := (j : Int)) (by omega) (by omega), w32_id (a := N) (by omega) (by omega), if_pos (by omega), w32_id (a := S 3 11 + (j : Int)) (by omega) (by omega), if_pos (by omega), hb.1, w32_id (a := p j) (by omega) (by omega), w32_id (a := n) (by omega) (by omega)]
    have i1 := ih (j + 1)
    push_cast at i1
    have rs := cno_s p n j
    by_cases z : p j = n
    · rw [if_pos z, i1 _ (by omega)]
      rw [if_pos z] at rs
      exact ansI_c (by omega)
    · rw [if_neg z, i1 _ (by omega)]
      rw [if_neg z] at rs
      exact ansI_c (by omega)
theorem X2_countOn_ok (k : Nat × (Int → Int)) (d : Nat) {S : St} {N : Int} {p : Int → Int} (h : PQ S N p) (N0 : 0 ≤ N) (N1 : N ≤ 60) {n : Int} (n0 : 0 ≤ n) (n1 : n ≤ 1500000) : EV k (d + 1) mX2_countOn [vR 3, vI n] S = ansI (cno p n N.toNat) S := by
  rw [eX2_countOn, bX2_countOn_0]
  have := countOn_loop k d h N1 n0 n1 N.toNat 0 0 (by omega)
  rw [show ((0 : Nat) : Int) = 0 from rfl, show cno p n 0 = 0 from rfl] at this
  rw [this]
  exact ansI_c (by omega)
theorem book9_count (k : Nat × (Int → Int)) (d : Nat) {T : St} {N s : Int} {p : Int → Int} (s0 : 0 ≤ s) (s1 : s ≤ 180) (N1 : N ≤ 60) (h12 : T 33 12 = N) (h3 : ∀ j, 0 ≤ j → j < N → T 47 (s + j) = p j ∧ -2 ≤ p j ∧ p j ≤ 1500000) {x1 x2 x3 x4 x5 n x7 : Int} (n0 : 0 ≤ n) (n1 : n ≤ 1500000) : ∀ (t j : Nat) (x : Int), (j : Int) + t = N → out (WV k) (EV k d) MX9_book 150 [vR 33, vI x1, vI x2, vI x3, vI x4, vI x5, vI n, vI x7, vI s, vI x, vI j] [] T = (if w32 x7 = 0 then out (WV k) (EV k d) MX9_book 207 [vR 33, vI x1, vI x2, vI x3, vI x4, vI x5, vI n, vI x7, vI s, vI (x + (cno p n N.toNat - cno p n j)), vI N] [vI 0, vI (jr n 7), vR 33] T else out (WV k) (EV k d) MX9_book 207 [vR 33, vI x1, vI x2, vI x3, vI x4, vI x5, vI n, vI x7, vI s, vI (x + (cno p n N.toNat - cno p n j)), vI N] [vI 8, vI (jr n 7), vR 33] T) := by
  intro t
  induction t with
  | zero =>
    intro j x hj
    rw [bX9_book_150, h12, if_neg (by rw [w32_id (by omega) (by omega), w32_id (by omega) (by omega)]; omega), show N.toNat = j by omega, show x + (cno p n j - cno p n j) = x by omega, show N = (j : Int) by omega]
  | succ t ih =>
    intro j x hj
    push_cast at hj
    have hb := h3 j (by omega) (by omega)
    rw [bX9_book_150, h12, w32_id (a := (j : Int)) (by omega) (by omega), w32_id (a := N) (by omega) (by omega), if_pos (show (j : Int) < N by omega), w32_id (a := s + (j : Int)) (by omega) (by omega), if_pos (show 0 ≤ s + (j : Int) ∧ s + (j : Int) < 240 by omega), hb.1, w32_id (a := p j) (by omega) (by omega), w32_id (a := n) (by omega) (by omega)]
    have i1 := ih (j + 1)
    push_cast at i1
    have rs := cno_s p n j
    by_cases z : p j = n
    · rw [if_pos z] at rs
      rw [if_pos z, i1 _ (by omega), show x + 1 + (cno p n N.toNat - cno p n (j + 1)) = x + (cno p n N.toNat - cno p n j) by omega]
    · rw [if_neg z] at rs
      rw [if_neg z, i1 _ (by omega), show x + 0 + (cno p n N.toNat - cno p n (j + 1)) = x + (cno p n N.toNat - cno p n j) by omega]
theorem shr0 (v : Int) : jand (jshr v (8 * 0)) 255 = jand v 255 := by
  have e : jshr v (8 * 0) = w32 v := by
    show (Int32.ofInt v >>> (Int32.ofInt (8 * 0) &&& 31)).toInt = (Int32.ofInt v).toInt
    rw [show (Int32.ofInt (8 * 0) &&& 31) = 0 by decide, Int32.shiftRight_zero]
  rw [e, jand_d, jand_d, show Int32.ofInt (w32 v) = Int32.ofInt v from Int32.ofInt_toInt _]
theorem book_loop (k : Nat × (Int → Int)) (d : Nat) {σ : St} (h : HQ σ) (hP : PR σ) {p y a b c st s e N : Int} (hN : N = σ 3 6) (p0 : 0 ≤ p) (p1 : p < σ 4 4) (y1 : 0 ≤ y) (y2 : y ≤ 5000) (a0 : 0 ≤ a) (ab : a + b - 1 ≤ 1500000) (s0 : 0 ≤ s) (se : s < e) (e1 : e ≤ s + 802) (e2 : e ≤ 1500001) (A : s = 0 ∨ s ≤ a - 1) (As : s ≤ a) (B : e = 1500001 ∨ a + b < e) (Bs : a + b ≤ e) : ∀ (t : Nat) (n : Int) (S T : St) (u7 v7 v8 v9 v10 : PV), n + t = a + b → a ≤ n → LK σ S s e p → PQ S N (PD σ y) → RB σ T → C9 T → TR S T → S 6 1 + t ≤ 1200 → ∃ S' T' u7' v7' v8' v9' v10', TE S S' ∧ RB σ T' ∧ C9 T' ∧ TR S' T' ∧ S' 6 1 = S 6 1 + t ∧ out (WV k) (EV k (d + 11)) MX8_book 147 [vR 0, vI p, vI y, vI a, vI b, vI st, vI n, u7] [] S = out (WV k) (EV k (d + 11)) MX8_book 147 [vR 0, vI p, vI y, vI a, vI b, vI st, vI (a + b), u7'] [] S' ∧ out (WV k) (EV k (d + 11)) MX9_book 119 [vR 33, vI p, vI y, vI a, vI b, vI c, vI n, v7, v8, v9, v10] [] T = out (WV k) (EV k (d + 11)) MX9_book 119 [vR 33, vI p, vI y, vI a, vI b, vI c, vI (a + b), v7', v8', v9', v10'] [] T' := by
  have N1 : 0 ≤ N ∧ N ≤ 60 := by rw [hN]; exact h.2.2.1.1
  have hw := (hP.2.2.2.2.1 p p0 p1).2.1
  intro t
  induction t with
  | zero =>
    intro n S T u7 v7 v8 v9 v10 nt_ an hL hQ r cc tr l
    rw [show n = a + b by omega]
    exact ⟨S, T, u7, v7, v8, v9, v10, TE.refl S, r, cc, tr, by omega, rfl, rfl⟩
  | succ t ih =>
    intro n S T u7 v7 v8 v9 v10 nt_ an hL hQ r cc tr l
    push_cast at nt_ l
    -- the component
    obtain ⟨v, r1, r2, r3⟩ := X5_rests_ok k (d + 9) hL s0 se e1 e2 hw (n := n) (by omega) (by omega) (by omega) (by omega)
    have rv := ofb_eq r2 r3
    rw [rv] at r1
    -- the reference
    have HT := h.rb r cc
    have PT_ := r.pr hP
    have e44 : T 4 4 = σ 4 4 := by rw [r.1 4 (by decide)]
    obtain ⟨T1, o1, o2, o3⟩ := off9 k d HT PT_ (n := n) (p := p) (by omega) (by omega) p0 (by omega)
    rw [ofb_c (r.off p n)] at o1
    have HT1 := HT.re o2 o3
    obtain ⟨T2, j, k1, k2, k3, k4, k5, k6⟩ := kept9 k (d + 2) HT1 y1 y2
    have r2' : RB σ T2 := r.trans (o2.rb.trans k4.rb)
    have HT2 := HT1.re k4 k5
    have tr2 : TR S T2 := TR_re k4 (TR_re o2 tr)
    have e6 : T2 3 6 = σ 3 6 := r2'.fs.2.2.2.2.2.2.2.2.2
    have hK : ∀ j', 0 ≤ j' → j' < N → T2 47 (60 * j + j') = PD σ y j' ∧ -2 ≤ PD σ y j' ∧ PD σ y j' ≤ 1500000 := by
      intro j' j0 j1
      have pb := PD_b h y1 y2 j0 (by omega)
      refine ⟨?_, pb.1, pb.2.1⟩
      rw [(k6 j' j0 (by omega)).2, r2'.fs.pd]
    have cnt := book9_count k (d + 11) (T := T2) (N := N) (s := 60 * j) (p := PD σ y) (by omega) (by omega) N1.2 (by rw [HT2.2.2.2.1.1, e6, hN]) hK (x1 := p) (x2 := y) (x3 := a) (x4 := b) (x5 := c) (n := n) (x7 := ofb σ p n) (by omega) (by omega) N.toNat 0 0 (by omega)
    rw [show ((0 : Nat) : Int) = 0 from rfl, show cno (PD σ y) n 0 = 0 from rfl, show (0 : Int) + (cno (PD σ y) n N.toNat - 0) = cno (PD σ y) n N.toNat by omega] at cnt
    have cb := cno_b (PD σ y) n N.toNat
    obtain ⟨q, hq⟩ : ∃ q, q = cno (PD σ y) n N.toNat := ⟨_, rfl⟩
    rw [← hq] at cnt cb
    have t1 := tr.1
    have tt := tr2.2.1
    -- one step of both for the sign s0 of a day off
    have both : ∀ z0 : Int, ∃ S' T' u7' v7' v8' v9' v10', TE S S' ∧ RB σ T' ∧ C9 T' ∧ TR S' T' ∧ S' 6 1 = S 6 1 + (t + 1) ∧ out (WV k) (EV k (d + 11)) MX8_book 174 [vR 0, vI p, vI y, vI a, vI b, vI st, vI n, u7] [vI z0] S = out (WV k) (EV k (d + 11)) MX8_book 147 [vR 0, vI p, vI y, vI a, vI b, vI st, vI (a + b), u7'] [] S' ∧ out (WV k) (EV k (d + 11)) MX9_book 207 [vR 33, vI p, vI y, vI a, vI b, vI c, vI n, vI (ofb σ p n), vI (60 * j), vI q, vI N] [vI z0, vI (jr n 7), vR 33] T2 = out (WV k) (EV k (d + 11)) MX9_book 119 [vR 33, vI p, vI y, vI a, vI b, vI c, vI (a + b), v7', v8', v9', v10'] [] T' := by
      intro z0
      obtain ⟨w, hw_⟩ : ∃ w, w = jr n 7 + z0 + 16 * (if 15 ≤ q then 15 else q) := ⟨_, rfl⟩
      have c8 : out (WV k) (EV k (d + 11)) MX8_book 174 [vR 0, vI p, vI y, vI a, vI b, vI st, vI n, u7] [vI z0] S = out (WV k) (EV k (d + 11)) MX8_book 147 [vR 0, vI p, vI y, vI a, vI b, vI st, vI (n + 1), vI z0] [] (ap S (jshr w (8 * 0))) := by
        have app := X6_append_ok k (d + 10) w 1 (S := S) t1.1 (by omega)
        rw [show ((1 : Nat) : Int) = 1 from rfl] at app
        rw [bX8_book_174, X2_countOn_ok k (d + 10) hQ N1.1 N1.2 (by omega) (by omega), jbI_some, ← hq, J9_min_ok k (d + 10) S (by omega) (by omega) (by omega) (by omega), jbI_some, ← hw_, app, jbV_some]
        rfl
      have c9 : out (WV k) (EV k (d + 11)) MX9_book 207 [vR 33, vI p, vI y, vI a, vI b, vI c, vI n, vI (ofb σ p n), vI (60 * j), vI q, vI N] [vI z0, vI (jr n 7), vR 33] T2 = out (WV k) (EV k (d + 11)) MX9_book 119 [vR 33, vI p, vI y, vI a, vI b, vI c, vI (n + 1), vI (ofb σ p n), vI (60 * j), vI q, vI N] [] (pt T2 w) := by
        rw [bX9_book_207, show w32 15 = 15 by decide, w32_id (a := q) (by omega) (by omega)]
        by_cases z : 15 < q
        · rw [if_pos z, X9_put_ok k (d + 10) _ (by omega) (by omega), jbV_some, hw_, if_pos (by omega)]
        · rw [if_neg z, X9_put_ok k (d + 10) _ (by omega) (by omega), jbV_some, hw_]
          by_cases z2 : 15 ≤ q
          · rw [if_pos z2, show q = 15 by omega]
          · rw [if_neg z2]
      have te := TE_ap S (jshr w (8 * 0))
      have rt := RT_pt T2 w
      have tr3 : TR (ap S (jshr w (8 * 0))) (pt T2 w) := TR_ap tr2 (by omega) (shr0 w)
      obtain ⟨S', T', u1, u2, u3, u4, u5, i1, i2, i3, i4, i5, i6, i7⟩ := ih (n + 1) (ap S (jshr w (8 * 0))) (pt T2 w) (vI z0) (vI (ofb σ p n)) (vI (60 * j)) (vI q) (vI N) (by omega) (by omega) ⟨by rw [te.1 4 (by decide)]; exact hL.1, by rw [te.1 4 (by decide)]; exact hL.2.1, by rw [te.1 4 (by decide)]; exact hL.2.2.1, by unfold FM; rw [te.1 29 (by decide)]; exact hL.2.2.2⟩ (by unfold PQ; rw [te.1 3 (by decide), te.1 21 (by decide)]; exact hQ) (r2'.trans rt.rb) (rt.c9 (by rw [e6]; exact h.2.2.1.1.2) k5) tr3 (by rw [ap_61]; omega)
      exact ⟨S', T', u1, u2, u3, u4, u5, te.trans i1, i2, i3, i4, by rw [i5, ap_61]; omega, by rw [c8]; exact i6, by rw [c9]; exact i7⟩
    rw [bX8_book_147, w32_id (a := n) (by omega) (by omega), w32_id (a := a + b) (by omega) (by omega), if_pos (show n < a + b by omega), r1, jbI_some, bX9_book_119, w32_id (a := n) (by omega) (by omega), w32_id (a := a + b) (by omega) (by omega), if_pos (show n < a + b by omega), o1, jbI_some, k1, jbI_some, cnt]
    push_cast
    rcases ofb_or σ p n with z | z
    · have b0 := both 0
      rw [z] at b0 ⊢
      rw [i00, i00]
      exact b0
    · have b0 := both 8
      rw [z] at b0 ⊢
      rw [i10, i10]
      exact b0
