/-! the page put together: the years of the component -/
def CQ (σ ρ : St) : Prop := (∀ q, q ∉ [3, 4, 19, 20, 21, 22, 29, 30] → ρ q = σ q) ∧ (∀ a : Int, a ∉ ([11, 13] : List Int) → ρ 3 a = σ 3 a) ∧ ∀ a : Int, a ∉ ([11, 12, 13] : List Int) → ρ 4 a = σ 4 a
theorem CE.cq {σ ρ : St} (h : CE σ ρ) : CQ σ ρ := ⟨fun q hq => h.1 q (by simp only [List.mem_cons, not_or] at hq ⊢; simp [hq]), h.2.1, h.2.2⟩
theorem CQ.trans {σ τ ρ : St} (h : CQ σ τ) (g : CQ τ ρ) : CQ σ ρ := ⟨fun q hq => (g.1 q hq).trans (h.1 q hq), fun a ha => (g.2.1 a ha).trans (h.2.1 a ha), fun a ha => (g.2.2 a ha).trans (h.2.2 a ha)⟩
theorem CQ_pg (S : St) (ws : List (Int × Int × Int)) : CQ S (pgS S ws) := ⟨fun q hq => pgS_ne (by rintro rfl; exact hq (by decide)), fun a _ => by rw [pgS_ne (by decide)], fun a _ => by rw [pgS_ne (by decide)]⟩
theorem CQ.fs {σ ρ : St} (h : CQ σ ρ) : FSa σ ρ := ⟨h.1 1 (by decide), h.1 8 (by decide), h.1 9 (by decide), h.1 13 (by decide), h.1 14 (by decide), h.1 15 (by decide), h.1 16 (by decide), h.1 17 (by decide), h.1 18 (by decide), h.2.1 6 (by decide)⟩
theorem HQ.cq {σ ρ : St} (h : HQ σ) (c : CQ σ ρ) (v : CV ρ) : HQ ρ := by
  obtain ⟨h1, h2, h3, h4, h5, h6, h7⟩ := h
  have e33 := c.1 33 (by decide)
  exact ⟨c.fs.cf h1, MR_same (c.1 1 (by decide)) (c.1 9 (by decide)) (by rw [e33]) (c.1 34 (by decide)) (c.1 35 (by decide)) h2, c.fs.fv h3, FR_same c.fs (by rw [e33]) (c.1 40 (by decide)) (c.1 41 (by decide)) (c.1 42 (by decide)) (c.1 43 (by decide)) (c.1 44 (by decide)) h4, c.fs.ord h5, v, C9_k c.fs h3.1.2 (by rw [e33]) (by rw [e33]) (c.1 45 (by decide)) (c.1 46 (by decide)) (c.1 47 (by decide)) h7⟩
theorem CQ.pr {σ ρ : St} (h : CQ σ ρ) (g : PR σ) : PR ρ := by
  unfold PR
  rw [h.2.2 4 (by decide), h.2.2 9 (by decide), h.1 33 (by decide), h.1 23 (by decide), h.1 24 (by decide), h.1 25 (by decide), h.1 26 (by decide), h.1 27 (by decide), h.1 28 (by decide), h.1 48 (by decide), h.1 49 (by decide), h.1 50 (by decide), h.1 51 (by decide), h.1 52 (by decide), h.1 53 (by decide), h.2.1 6 (by decide)]
  exact g
theorem CQ.free {σ ρ : St} (h : CQ σ ρ) (p n : Int) : FREE ρ p n ↔ FREE σ p n := FREE_same h.fs (h.2.2 9 (by decide)) (h.1 23 (by decide)) (h.1 25 (by decide)) (h.1 26 (by decide)) (h.1 27 (by decide)) (h.1 28 (by decide)) p n
theorem CV_pg {S : St} (ws : List (Int × Int × Int)) (g : CV S) : CV (pgS S ws) := CV_fs (FS_pgS S ws) (pgS_ne (by decide)) (pgS_ne (by decide)) (pgS_ne (by decide)) g
theorem DW_add (σ : St) (p f : Int) (b : Nat) : ∀ (a : Nat) (n : Int), DW σ p f (a + b) n = DW σ p f a n ++ DW σ p f b (n + a) := by
  intro a
  induction a with
  | zero => intro n; rw [Nat.zero_add, show n + ((0 : Nat) : Int) = n by omega]; rfl
  | succ a ih =>
    intro n
    rw [show a + 1 + b = (a + b) + 1 by omega]
    show dayW σ p f n ++ DW σ p f (a + b) (n + 1) = (dayW σ p f n ++ DW σ p f a (n + 1)) ++ DW σ p f b (n + ((a + 1 : Nat) : Int))
    rw [ih, List.append_assoc, show n + 1 + (a : Int) = n + ((a + 1 : Nat) : Int) by push_cast; omega]
theorem FN_add (σ : St) (b : Nat) : ∀ (a : Nat) (n : Int), FN σ (a + b) n = FN σ a n + FN σ b (n + a) := by
  intro a
  induction a with
  | zero => intro n; rw [Nat.zero_add, show n + ((0 : Nat) : Int) = n by omega]; show _ = 0 + _; omega
  | succ a ih =>
    intro n
    rw [show a + 1 + b = (a + b) + 1 by omega, FN_s, FN_s, ih, show n + 1 + (a : Int) = n + ((a + 1 : Nat) : Int) by push_cast; omega]
    omega
theorem FW_add (σ : St) (f : Int) (b : Nat) : ∀ (a : Nat) (n l : Int), FW σ f (a + b) n l = FW σ f a n l ++ FW σ f b (n + a) (l + FN σ a n) := by
  intro a
  induction a with
  | zero => intro n l; rw [Nat.zero_add, show n + ((0 : Nat) : Int) = n by omega]; show _ = [] ++ FW σ f b n (l + 0); rw [show l + 0 = l by omega]; rfl
  | succ a ih =>
    intro n l
    rw [show a + 1 + b = (a + b) + 1 by omega, FW_s, FW_s, ih, List.append_assoc, FN_s, show n + 1 + (a : Int) = n + ((a + 1 : Nat) : Int) by push_cast; omega, show l + fqN σ n + FN σ a (n + 1) = l + (fqN σ n + FN σ a (n + 1)) by omega]
theorem dig_l (l v : Int) : ∀ (m : Nat) (i : Int) (w : Int × Int × Int), w ∈ digW l v m i → w.1 = l := by
  intro m
  induction m with
  | zero =>
    intro i w hw
    simp only [digW, List.mem_singleton] at hw
    rw [hw]
  | succ m ih =>
    intro i w hw
    simp only [digW, List.mem_cons] at hw
    rcases hw with z | z
    · rw [z]
    · exact ih (i + 1) w z
theorem two_l {l i n : Int} {w : Int × Int × Int} (h : w ∈ twoW l i n) : w.1 = l := by
  unfold twoW at h
  simp only [List.mem_cons, List.mem_singleton, List.not_mem_nil, or_false] at h
  rcases h with z | z <;> rw [z]
theorem day_l {σ : St} {p f n : Int} {w : Int × Int × Int} (h : w ∈ dayW σ p f n) : w.1 = lnO f n := by
  unfold dayW at h
  rw [List.mem_append, List.mem_append] at h
  rcases h with z | z | z
  · exact two_l z
  · unfold midW at z
    split at z
    · rw [List.mem_singleton] at z; rw [z]
    · split at z
      · cases z
      · rw [List.mem_singleton] at z; rw [z]
  · unfold newW at z
    split at z
    · cases z
    · rw [List.mem_singleton] at z; rw [z]
theorem DW_l {σ : St} {p f b : Int} (f0 : 0 ≤ f) : ∀ (t : Nat) (n : Int) (w : Int × Int × Int), n + t ≤ b + 1 → w ∈ DW σ p f t n → w.1 ≤ lnO f b := by
  intro t
  induction t with
  | zero => intro n w _ hw; cases hw
  | succ t ih =>
    intro n w hb hw
    push_cast at hb
    rw [show DW σ p f (t + 1) n = dayW σ p f n ++ DW σ p f t (n + 1) from rfl, List.mem_append] at hw
    rcases hw with z | z
    · rw [day_l z]; unfold lnO; omega
    · exact ih (n + 1) w (by omega) z
theorem fd_l (o p rk : Int → Int) (f n : Int) : ∀ (t : Nat) (i l : Int) (w : Int × Int × Int), w ∈ fdW o p rk f n t i l → l ≤ w.1 := by
  intro t
  induction t with
  | zero => intro i l w hw; cases hw
  | succ t ih =>
    intro i l w hw
    rw [fdW_s] at hw
    by_cases z : p (o i) = n
    · rw [if_pos z, List.mem_append] at hw
      rcases hw with y | y
      · unfold fW at y
        rw [List.mem_append, List.mem_append] at y
        rcases y with y | y | y
        · rw [two_l y]; omega
        · rw [dig_l l _ _ _ w y]; omega
        · rw [dig_l l _ _ _ w y]; omega
      · have := ih (i + 1) (l + 1) w y
        omega
    · rw [if_neg z] at hw
      exact ih (i + 1) l w hw
theorem FW_l {σ : St} {f : Int} (hN : 0 ≤ σ 3 6 ∧ σ 3 6 ≤ 60) : ∀ (t : Nat) (n l : Int) (w : Int × Int × Int), w ∈ FW σ f t n l → l ≤ w.1 := by
  intro t
  induction t with
  | zero => intro n l w hw; cases hw
  | succ t ih =>
    intro n l w hw
    rw [FW_s, List.mem_append] at hw
    rcases hw with z | z
    · exact fd_l _ _ _ _ _ _ _ _ w z
    · have a := ih (n + 1) (l + fqN σ n) w z
      have b := fqN_b hN n
      omega
theorem FN_b {σ : St} (hN : 0 ≤ σ 3 6 ∧ σ 3 6 ≤ 60) : ∀ (t : Nat) (n : Int), 0 ≤ FN σ t n ∧ FN σ t n ≤ 60 * t := by
  intro t
  induction t with
  | zero => intro n; show 0 ≤ (0 : Int) ∧ (0 : Int) ≤ _; omega
  | succ t ih =>
    intro n
    have a := ih (n + 1)
    have b := fqN_b hN n
    rw [FN_s]
    push_cast
    omega
def low (L : Int) (w : Int × Int × Int) : Bool := decide (w.1 ≤ L)
theorem filt_all {P : Int × Int × Int → Bool} {ws : List (Int × Int × Int)} (h : ∀ w, w ∈ ws → P w = true) : ws.filter P = ws := List.filter_eq_self.2 h
theorem filt_none {P : Int × Int × Int → Bool} {ws : List (Int × Int × Int)} (h : ∀ w, w ∈ ws → P w = false) : ws.filter P = [] := List.filter_eq_nil_iff.2 (fun w hw => by rw [h w hw]; decide)
theorem page_years (k : Nat × (Int → Int)) (d : Nat) {σ : St} (h : HQ σ) (hP : PR σ) {p x2 x3 x4 f b s e Yl : Int} (p0 : 0 ≤ p) (p1 : p < σ 4 4) (f0 : 0 ≤ f) (fb : f ≤ b) (b1 : b ≤ 1500000) (fb2 : b ≤ f + 299) (s0 : 0 ≤ s) (se : s < e) (e1 : e ≤ s + 802) (e2 : e ≤ 1500001) (A : s = 0 ∨ s ≤ f - 1) (As : s ≤ f) (B : e = 1500001 ∨ b + 1 < e) (Bs : b < e) (hYl : IsY σ 0 b Yl) : ∀ (t : Nat) (y n l : Int) (S : St) (u10 u11 : PV), y + t = Yl + 1 → (∀ Yf, IsY σ 0 f Yf → Yf ≤ y) → (y ≤ Yl → n = if Ys σ 0 y ≤ f then f else Ys σ 0 y) → (Yl < y → n = b + 1) → lnO f b < l → l + 60 * (b + 1 - n) ≤ 90000 → CQ σ S → CV S → LK σ S s e p → ∃ C S', CQ σ S' ∧ CV S' ∧ S' 30 = wrs (S 30) C ∧ C.filter (low (lnO f b)) = DW σ p f (b + 1 - n).toNat n ∧ C.filter (fun w => !low (lnO f b) w) = FW σ f (b + 1 - n).toNat n l ∧ out (WV k) (EV k (d + 11)) MX8_page 144 [vR 0, vI p, vI x2, vI x3, vI x4, vI f, vI b, vI l, vI Yl, vI y, u10, u11] [] S = ansI (if l + FN σ (b + 1 - n).toNat n ≤ 28 then l + FN σ (b + 1 - n).toNat n else 28) S' := by
  have N1 := h.2.2.1.1
  have hC := h.1
  have yl := Yr_in hC (show 0 ≤ b by omega) b1 hYl
  have lnb := lnO_b f0 fb (by omega)
  intro t
  induction t with
  | zero =>
    intro y n l S u10 u11 yt hf hn hn2 ll lb c v hL
    have en : n = b + 1 := hn2 (by omega)
    rw [en, show (b + 1 - (b + 1)).toNat = 0 by omega]
    refine ⟨[], S, c, v, rfl, rfl, rfl, ?_⟩
    show _ = ansI (if l + 0 ≤ 28 then l + 0 else 28) S
    rw [bX8_page_144, w32_id (a := Yl) (by omega) (by omega), w32_id (a := y) (by omega) (by omega), if_pos (by omega), J9_min_ok k (d + 10) S (by omega) (by omega) (by omega) (by omega), jbI_some, show l + 0 = l by omega]
  | succ t ih =>
    intro y n l S u10 u11 yt hf hn hn2 ll lb c v hL
    push_cast at yt
    have yy : y ≤ Yl := by omega
    have en := hn yy
    obtain ⟨Yf, hYf, _, _⟩ := exYr hC f
    have yf := Yr_in hC f0 (by omega) hYf
    have fy := hf Yf hYf
    have mono : ∀ a b : Int, 0 ≤ a → a ≤ b → b ≤ 5001 → Ys σ 0 a + (b - a) ≤ Ys σ 0 b := fun a b h1 h2 h3 => Ys_mono hC (c := 0) (by omega) (by omega) (show (0 : Int) ≤ a from h1) h2 (by show b ≤ 5000 + 1; omega)
    have m1 := mono y Yl (by omega) yy (by omega)
    have m2 := mono (Yf + 1) (y + 1) (by omega) (by omega) (by omega)
    have yb := Ys_b hC (c := 0) (y := y) (by omega) (by omega) (YV_of (c := 0) (show (0 : Int) ≤ y by omega) (by omega)).1 (by omega)
    have yb2 := Ys_b hC (c := 0) (y := y + 1) (by omega) (by omega) (YV_of (c := 0) (show (0 : Int) ≤ y by omega) (by omega)).2 (by omega)
    have nb0 : f ≤ n ∧ n ≤ b ∧ Ys σ 0 y ≤ n ∧ (n = f ∨ n = Ys σ 0 y) := by rw [en]; split <;> omega
    -- the days of the year y
    obtain ⟨b', hb'⟩ : ∃ b', b' = if b ≤ (if 1500000 ≤ Ys σ 0 (y + 1) - 1 then 1500000 else Ys σ 0 (y + 1) - 1) then b else (if 1500000 ≤ Ys σ 0 (y + 1) - 1 then 1500000 else Ys σ 0 (y + 1) - 1) := ⟨_, rfl⟩
    have bb : b' ≤ b ∧ b' ≤ Ys σ 0 (y + 1) - 1 ∧ (b' = b ∨ b' = Ys σ 0 (y + 1) - 1) := by
      rw [hb']
      by_cases w1 : 1500000 ≤ Ys σ 0 (y + 1) - 1
      · rw [if_pos w1, if_pos b1]; omega
      · rw [if_neg w1]
        by_cases w2 : b ≤ Ys σ 0 (y + 1) - 1
        · rw [if_pos w2]; omega
        · rw [if_neg w2]; omega
    have nlt : n < Ys σ 0 (y + 1) := by
      rcases nb0.2.2.2 with w | w
      · omega
      · have := mono y (y + 1) (by omega) (by omega) (by omega)
        omega
    have nb1 : n ≤ b' := by omega
    have hy : ∀ m, n ≤ m → m ≤ b' → yrO σ m = y := by
      intro m m0 m1'
      refine yrO_eq hC ⟨by show (0 : Int) ≤ y; omega, by show y ≤ 5000; omega, Or.inr (by omega), Or.inr (by omega)⟩
    -- placing
    have HS := h.cq c v
    obtain ⟨S1, q1, q2, q3, q4, q5⟩ := place2 k (d + 5) HS (show 0 ≤ y by omega) (show y ≤ 5000 by omega)
    have c1 : CQ σ S1 := c.trans q2.cq
    have L1 : LK σ S1 s e p := by
      obtain ⟨w1, w2, w3, w4⟩ := hL
      have e4 := q5 4 (by decide)
      have e29 := q5 29 (by decide)
      exact ⟨by rw [e4]; exact w1, by rw [e4]; exact w2, by rw [e4]; exact w3, by unfold FM; rw [e29]; exact w4⟩
    have Q1 : PQ S1 (σ 3 6) (PD σ y) := by
      have e6 : S1 3 6 = σ 3 6 := c1.fs.2.2.2.2.2.2.2.2.2
      refine ⟨q4.1, e6, fun j j0 j1 => ?_⟩
      have pb := PD_b h (show 0 ≤ y by omega) (show y ≤ 5000 by omega) j0 j1
      exact ⟨by rw [(q4.2 j j0 (by omega)).2, c1.fs.pd], pb.1, pb.2.1⟩
    have q12 : S1 1 2 = σ 1 2 := by rw [c1.fs.1]
    have C1 := c1.fs.cf hC
    obtain ⟨D1, hD1⟩ : ∃ D1, D1 = DW σ p f (b' + 1 - n).toNat n := ⟨_, rfl⟩
    obtain ⟨F1, hF1⟩ : ∃ F1, F1 = FW σ f (b' + 1 - n).toNat n l := ⟨_, rfl⟩
    have w8 : EV k (d + 11) mX8_writeDays [vR 0, vI f, vI n, vI b'] S1 = some (none, pgS S1 D1) := by
      rw [eX8_writeDays, bX8_writeDays_0, hD1]
      exact days8 k (d + 8) h hP p0 p1 f0 (by omega) (by omega) (by omega) s0 se e1 e2 (by omega) (by omega) (by omega) (by omega) nb0.1 hy (b' + 1 - n).toNat n S1 vU vU (by omega) rfl (by omega) L1 Q1
    have w9 : EV k (d + 11) mX8_writeFeasts [vR 0, vI f, vI n, vI b', vI l] (pgS S1 D1) = ansI (l + FN σ (b' + 1 - n).toNat n) (pgS (pgS S1 D1) F1) := by
      rw [eX8_writeFeasts, bX8_writeFeasts_0, hF1]
      exact feasts8 k (d + 7) h f0 nb0.1 (by omega) (by omega) (by omega) hy (b' + 1 - n).toNat n l _ vU vU vU (by omega) (by omega) rfl (by omega) (by omega) (c1.fs.trans (FS_pgS _ _)) (PQ_pg _ Q1)
    have fnb := FN_b N1 (b' + 1 - n).toNat n
    obtain ⟨C, S', i1, i2, i3, i4, i5, i6⟩ := ih (y + 1) (b' + 1) (l + FN σ (b' + 1 - n).toNat n) (pgS (pgS S1 D1) F1) (vI n) (vI b') (by omega) (fun Y hY => by have := hf Y hY; omega) (fun w => by
      have m3 := mono (y + 1) Yl (by omega) (by omega) (by omega)
      rw [if_neg (by omega)]
      omega) (fun w => by
      have ey : y = Yl := by omega
      rw [ey] at bb
      omega) (by omega) (by omega) (c1.trans ((CQ_pg _ _).trans (CQ_pg _ _))) (CV_pg _ (CV_pg _ q3)) (LK_pg _ (LK_pg _ L1))
    have split_ : (b + 1 - n).toNat = (b' + 1 - n).toNat + (b + 1 - (b' + 1)).toNat := by omega
    have nx : n + (((b' + 1 - n).toNat : Nat) : Int) = b' + 1 := by omega
    have D_low : ∀ w, w ∈ D1 → low (lnO f b) w = true := by
      intro w hw
      rw [hD1] at hw
      unfold low
      exact decide_eq_true (DW_l f0 _ _ w (by omega) hw)
    have F_hi : ∀ w, w ∈ F1 → low (lnO f b) w = false := by
      intro w hw
      rw [hF1] at hw
      unfold low
      exact decide_eq_false (by have := FW_l N1 _ _ _ w hw; omega)
    refine ⟨D1 ++ (F1 ++ C), S', i1, i2, ?_, ?_, ?_, ?_⟩
    · rw [i3, pgS_30, pgS_30, q5 30 (by decide), wrs_app, wrs_app]
    · rw [List.filter_append, List.filter_append, filt_all D_low, filt_none F_hi, i4, split_, DW_add, nx, ← hD1]
      rfl
    · rw [List.filter_append, List.filter_append, filt_none (fun w hw => by rw [D_low w hw]; rfl), filt_all (fun w hw => by rw [F_hi w hw]; rfl), i5, split_, FW_add, nx, ← hF1]
      rfl
    · rw [bX8_page_144, w32_id (a := Yl) (by omega) (by omega), w32_id (a := y) (by omega) (by omega), if_neg (by omega), q1, jbV_some, X0_firstDayIn_ok k (d + 8) C1 (by omega) (by omega), jbI_some, Ys_same q12 c1.fs.2.2.1]
      have e3 : (if (if Ys σ 0 y ≤ 0 then 0 else Ys σ 0 y) ≤ f then f else (if Ys σ 0 y ≤ 0 then 0 else Ys σ 0 y)) = n := by
        rw [en]
        by_cases w1 : Ys σ 0 y ≤ 0
        · rw [if_pos w1, if_pos f0, if_pos (by omega)]
        · rw [if_neg w1]
      have r3b : -100 ≤ (if Ys σ 0 y ≤ 0 then 0 else Ys σ 0 y) ∧ (if Ys σ 0 y ≤ 0 then 0 else Ys σ 0 y) ≤ 2000000 := by split <;> omega
      have r5b : -100 ≤ (if 1500000 ≤ Ys σ 0 (y + 1) - 1 then 1500000 else Ys σ 0 (y + 1) - 1) ∧ (if 1500000 ≤ Ys σ 0 (y + 1) - 1 then 1500000 else Ys σ 0 (y + 1) - 1) ≤ 2000000 := by split <;> omega
      rw [J9_max_ok k (d + 10) S1 (by omega) (by omega) (by omega) (by omega), jbI_some, e3, X0_lastDayIn_ok k (d + 8) C1 (by omega) (by omega), jbI_some, Ys_same q12 c1.fs.2.2.1, J9_min_ok k (d + 10) S1 (by omega) (by omega) (by omega) (by omega), jbI_some, ← hb', w8, jbV_some, w9, jbI_some, i6, split_, FN_add, nx, Int.add_assoc]
