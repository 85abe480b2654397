/-! page on both sides -/
theorem yrO_same {σ ρ : St} (h : FSa σ ρ) (n : Int) : yrO ρ n = yrO σ n := by
  have e : (fun y => IsY ρ 0 n y) = fun y => IsY σ 0 n y := funext fun y => propext (IsY_same h 0 n y)
  unfold yrO
  show @dite _ (∃ y, (fun y => IsY ρ 0 n y) y) (Classical.propDecidable _) (fun h => Classical.choose h) (fun _ => 0) = _
  rw [e]
theorem DW_same {σ ρ : St} (h : FSa σ ρ) {p : Int} (ho : ∀ n, ofb ρ p n = ofb σ p n) (f : Int) : ∀ (t : Nat) (n : Int), DW ρ p f t n = DW σ p f t n := by
  have h6 : ρ 3 6 = σ 3 6 := h.2.2.2.2.2.2.2.2.2
  intro t
  induction t with
  | zero => intro n; rfl
  | succ t ih =>
    intro n
    show dayW ρ p f n ++ DW ρ p f t (n + 1) = dayW σ p f n ++ DW σ p f t (n + 1)
    rw [ih]
    unfold dayW
    rw [yrO_same h, h.pd, ho, h6]
theorem FW_same {σ ρ : St} (h : FSa σ ρ) (f : Int) : ∀ (t : Nat) (n l : Int), FW ρ f t n l = FW σ f t n l ∧ FN ρ t n = FN σ t n := by
  have h6 : ρ 3 6 = σ 3 6 := h.2.2.2.2.2.2.2.2.2
  have h17 : ρ 17 = σ 17 := h.2.2.2.2.2.2.2.1
  have h18 : ρ 18 = σ 18 := h.2.2.2.2.2.2.2.2.1
  have eN : ∀ n, fqN ρ n = fqN σ n := by
    intro n
    unfold fqN
    rw [yrO_same h, h.pd, h6, h18]
  have eW : ∀ n l, fqW ρ f n l = fqW σ f n l := by
    intro n l
    unfold fqW
    rw [yrO_same h, h.pd, h6, h17, h18]
  intro t
  induction t with
  | zero => intro n l; exact ⟨rfl, rfl⟩
  | succ t ih =>
    intro n l
    rw [FW_s, FW_s, FN_s, FN_s, eN, eW, (ih _ _).1, (ih _ l).2]
    exact ⟨rfl, rfl⟩
theorem Td_page (k : Nat × (Int → Int)) (d : Nat) {σ : St} (h : HQ σ) (hP : PR σ) (hG : PG σ) {p c y m : Int} (h1 : I32 p) (h2 : I32 c) (h3 : I32 y) (h4 : I32 m) : ∃ v σ1 ρ, EV k (d + 12) mX8_page [vR 0, vI p, vI c, vI y, vI m] σ = ansI v σ1 ∧ EV k (d + 12) mX9_page [vR 33, vI p, vI c, vI y, vI m] σ1 = ansI v ρ ∧ GE σ ρ ∧ PG ρ ∧ ρ 6 = σ 6 ∧ ρ 31 = σ 31 ∧ ρ 55 = σ 55 ∧ ρ 33 34 = σ 33 34 := by
  obtain ⟨g1, g2, g3, g4, g5, g6, g7⟩ := id h
  have b2 := h2
  have b3 := h3
  have b4 := h4
  unfold I32 at b2 b3 b4
  have self : GE σ σ := ⟨fun _ _ => rfl, fun _ _ => rfl, fun _ _ => rfl, fun _ _ => rfl, fun _ _ => rfl, g6, g7⟩
  have same : ∀ v, EV k (d + 12) mX8_page [vR 0, vI p, vI c, vI y, vI m] σ = ansI v σ → EV k (d + 12) mX9_page [vR 33, vI p, vI c, vI y, vI m] σ = ansI v σ → ∃ v σ1 ρ, EV k (d + 12) mX8_page [vR 0, vI p, vI c, vI y, vI m] σ = ansI v σ1 ∧ EV k (d + 12) mX9_page [vR 33, vI p, vI c, vI y, vI m] σ1 = ansI v ρ ∧ GE σ ρ ∧ PG ρ ∧ ρ 6 = σ 6 ∧ ρ 31 = σ 31 ∧ ρ 55 = σ 55 ∧ ρ 33 34 = σ 33 34 := fun v a b => ⟨v, σ, σ, a, b, self, hG, rfl, rfl, rfl, rfl⟩
  by_cases q : 0 ≤ p ∧ p < σ 4 4
  · by_cases hc : 0 ≤ c ∧ c ≤ 7
    · by_cases hm : yfst c ≤ y ∧ y ≤ ylst (σ 1 2) c ∧ 1 ≤ m ∧ m ≤ Mi σ c y
      · have hl := ylst_b (c := c) g1.1.1 g1.1.2
        have kk := KF_all g1 hc.1 hc.2 hm.1 hm.2.1
        have kk2 := kk.2.1
        have mx := mmx_c c
        have yb := yfst_b c
        have hn : c = 7 → 0 < σ 1 2 := by
          intro e
          subst e
          have a1 : y ≤ (σ 1 2 + 9) / 10 := hm.2.1
          have a2 : (1 : Int) ≤ y := hm.1
          omega
        have bb := Ms_b g1 hc.1 hc.2 hn hm.1 hm.2.1 hm.2.2.1 hm.2.2.2
        obtain ⟨f, hf⟩ : ∃ f, f = Ms σ c y m := ⟨_, rfl⟩
        obtain ⟨len, hlen⟩ : ∃ len, len = Ml σ c y m := ⟨_, rfl⟩
        rw [← hf, ← hlen] at bb
        obtain ⟨b, hb⟩ : ∃ b, b = f + len - 1 := ⟨_, rfl⟩
        have c8 : EV k (d + 12) mX8_page [vR 0, vI p, vI c, vI y, vI m] σ = if 0 ≤ f ∧ f ≤ 1500000 then (if 0 ≤ b ∧ b ≤ 1500000 then jbV (EV k (d + 11) mX5_lookAt [vR 4, vI p, vI f, vI b] σ) (fun τ8 => jbV (EV k (d + 11) mX4_begin [vR 5, vI y, vI m] τ8) (fun τ9 => jbI (EV k (d + 11) mX4_lineOf [vI f, vI b] τ9) (fun r10 τ10 => jbI (EV k (d + 11) mX0_yearOf [vR 1, vI 0, vI b] τ10) (fun r11 τ11 => jbI (EV k (d + 11) mX0_yearOf [vR 1, vI 0, vI f] τ11) (fun r12 τ12 => out (WV k) (EV k (d + 11)) MX8_page 144 [vR 0, vI p, vI c, vI y, vI m, vI f, vI b, vI (r10 + 1), vI r11, vI r12, vU, vU] [] τ12))))) else ansI (-3) σ) else ansI (-3) σ := by
          rw [eX8_page, bX8_page_0, X5_has_ok k (d + 10) h1 hP.1, jbI_some, ib, if_pos q, X8_isCalendar_ok k (d + 10) σ b2.1 b2.2, jbI_some, ib, if_pos hc, X0_hasMonth_ok k (d + 7) g1 hc.1 hc.2 b3.1 b3.2 b4.1 b4.2, jbI_some, ib, if_pos hm, X0_monthStart_ok k (d + 8) g1 hc.1 hc.2 hm.1 (by omega) hn hm.2.2.1 (by omega), jbI_some, X0_daysInMonth_ok k (d + 8) g1 hc.1 hc.2 hm.1 (by omega) hn hm.2.2.1 (by omega), jbI_some, ← hf, ← hlen, ← hb, X8_isDay_ok k (d + 10) σ (by omega) (by omega), jbI_some, ib, X8_isDay_ok k (d + 10) σ (by omega) (by omega), jbI_some, ib]
        have c9 : ∀ τ : St, HQ τ → PR τ → FSa σ τ → τ 4 4 = σ 4 4 → EV k (d + 12) mX9_page [vR 33, vI p, vI c, vI y, vI m] τ = if 0 ≤ f ∧ f ≤ 1500000 then (if 0 ≤ b ∧ b ≤ 1500000 then out (WV k) (EV k (d + 11)) MX9_page 80 [vR 33, vI p, vI c, vI y, vI m, vI f, vI len, vI 0, vU, vU, vU, vU] [] τ else ansI (-3) τ) else ansI (-3) τ := by
          intro τ Hτ Pτ fs e4
          have q12 : τ 1 2 = σ 1 2 := by rw [fs.1]
          have em : Mi τ c y = Mi σ c y := Mi_same q12 c y
          have hm2 : yfst c ≤ y ∧ y ≤ ylst (τ 1 2) c ∧ 1 ≤ m ∧ m ≤ Mi τ c y := by rw [q12, em]; exact hm
          have ml : Ml τ c y m = Ml σ c y m := by rw [Ml_same q12 fs.2.2.1]
          rw [eX9_page, bX9_page_0, X9_isParish_ok k (d + 9) Pτ h1, jbI_some, ib, if_pos (by omega), X9_isCalendar_ok k (d + 9) τ b2.1 b2.2, jbI_some, ib, if_pos hc, X9_isMonth_ok k (d + 5) Hτ.1 Hτ.2.1 hc.1 hc.2 b3.1 b3.2 b4.1 b4.2, jbI_some, ib, if_pos hm2, X9_monthStart_ok k (d + 5) Hτ.1 Hτ.2.1 hc.1 hc.2 hm2.1 hm2.2.1 hm2.2.2.1 hm2.2.2.2, jbI_some, X9_lengthOf_ok k (d + 6) Hτ.1 Hτ.2.1 hc.1 hc.2 hm2.1 hm2.2.1 hm2.2.2.1 hm2.2.2.2, jbI_some, Ms_same q12 fs.2.2.1, ml, ← hf, ← hlen, ← hb, w32_id (a := f) (by omega) (by omega), w32_id (a := b) (by omega) (by omega), X9_isDay_ok k (d + 10) τ (by omega) (by omega), jbI_some, ib, X9_isDay_ok k (d + 10) τ (by omega) (by omega), jbI_some, ib]
        have c9s := c9 σ h hP ⟨rfl, rfl, rfl, rfl, rfl, rfl, rfl, rfl, rfl, rfl⟩ rfl
        by_cases z1 : 0 ≤ f ∧ f ≤ 1500000
        · by_cases z2 : 0 ≤ b ∧ b ≤ 1500000
          · obtain ⟨S1, l1, l2, l3, l4⟩ := lookAt_ok k (d + 4) h hP q.1 q.2 z1.1 (show f ≤ b by omega) z2.2 (by omega)
            obtain ⟨s, hs⟩ : ∃ s, s = if f - 1 ≤ 0 then 0 else f - 1 := ⟨_, rfl⟩
            obtain ⟨e, he⟩ : ∃ e, e = if 1500001 ≤ b + 2 then 1500001 else b + 2 := ⟨_, rfl⟩
            rw [← hs, ← he] at l4
            have sb : 0 ≤ s ∧ f - 1 ≤ s ∧ s ≤ f ∧ (s = 0 ∨ s = f - 1) := by rw [hs]; split <;> omega
            have eb : e ≤ 1500001 ∧ e ≤ b + 2 ∧ (e = 1500001 ∨ e = b + 2) := by rw [he]; split <;> omega
            obtain ⟨S0, s1, s2, s3⟩ := X4_begin_ok k (d + 6) S1 (y := y) (m := m) (by omega) (by omega) (by omega) (by omega)
            obtain ⟨S2, hS2⟩ : ∃ S2, S2 = pgS S0 (hdW y m) := ⟨_, rfl⟩
            rw [← hS2] at s3
            have S2q : ∀ q, q ≠ 30 → S2 q = S1 q := fun q hq => by rw [hS2, pgS_ne hq, s2 q hq]
            have cq2 : CQ σ S2 := by
              refine ⟨fun q hq => ?_, fun a ha => ?_, fun a ha => ?_⟩
              · simp only [List.mem_cons, not_or] at hq
                rw [S2q q (by simp [hq]), l2.1 q (by simp [hq])]
              · rw [S2q 3 (by decide), l2.2.1 a ha]
              · rw [S2q 4 (by decide), l2.2.2 a ha]
            have cv2 : CV S2 := by
              refine CV_fs (σ := S1) ⟨S2q 1 (by decide), S2q 8 (by decide), S2q 9 (by decide), S2q 13 (by decide), S2q 14 (by decide), S2q 15 (by decide), S2q 16 (by decide), S2q 17 (by decide), S2q 18 (by decide), by rw [S2q 3 (by decide)]⟩ (S2q 19 (by decide)) (S2q 20 (by decide)) (S2q 21 (by decide)) l3
            have lk2 : LK σ S2 s e p := by
              obtain ⟨w1, w2, w3, w4⟩ := l4
              exact ⟨by rw [S2q 4 (by decide)]; exact w1, by rw [S2q 4 (by decide)]; exact w2, by rw [S2q 4 (by decide)]; exact w3, by unfold FM; rw [S2q 29 (by decide)]; exact w4⟩
            obtain ⟨Yf, hYf, _, _⟩ := exYr g1 f
            obtain ⟨Yl, hYl, _, _⟩ := exYr g1 b
            have yf := Yr_in g1 z1.1 z1.2 hYf
            have ylx := Yr_in g1 z2.1 z2.2 hYl
            have ymo := Yr_mono g1 z1.1 (show f ≤ b by omega) z2.2 hYf hYl
            have lnb := lnO_b z1.1 (show f ≤ b by omega) (by omega)
            obtain ⟨C, K, i1, i2, i3, i4, i5, i6⟩ := page_years k d h hP (x2 := c) (x3 := y) (x4 := m) q.1 q.2 z1.1 (show f ≤ b by omega) z2.2 (by omega) sb.1 (show s < e by omega) (by omega) (by omega) (by omega) (by omega) (by omega) (by omega) hYl (Yl + 1 - Yf).toNat Yf f (lnO f b + 1) S2 vU vU (by omega) (fun Y hY => by have := IsY.one g1 (by omega) (by omega) hY hYf; omega) (fun _ => by rw [if_pos yf.1]) (fun w => by omega) (by omega) (by omega) cq2 cv2 lk2
            rw [show (b + 1 - f).toNat = len.toNat by omega] at i4 i5 i6
            have x8 : EV k (d + 12) mX8_page [vR 0, vI p, vI c, vI y, vI m] σ = ansI (if lnO f b + 1 + FN σ len.toNat f ≤ 28 then lnO f b + 1 + FN σ len.toNat f else 28) K := by
              have C2 := cq2.fs.cf g1
              rw [c8, if_pos z1, if_pos z2, l1, jbV_some, s3, jbV_some, X4_lineOf_ok k (d + 10) S2 z1.1 (by omega) z2.2, jbI_some, X0_yearOf_ok k (d + 8) C2 (by omega) (by omega) (by omega) (by omega) (by omega) ((IsY_same cq2.fs 0 b Yl).2 hYl), jbI_some, X0_yearOf_ok k (d + 8) C2 (by omega) (by omega) (by omega) (by omega) (by omega) ((IsY_same cq2.fs 0 f Yf).2 hYf), jbI_some]
              exact i6
            -- the reference
            have HK := h.cq i1 i2
            have PK := i1.pr hP
            have fsK := i1.fs
            have K44 : K 4 4 = σ 4 4 := i1.2.2 4 (by decide)
            have oK : ∀ n, ofb K p n = ofb σ p n := fun n => ofb_c (by
              unfold OFF
              rw [i1.free, i1.free, i1.free, i1.1 24 (by decide)])
            obtain ⟨T0, x7, t1, t2, t3, t4, t5⟩ := X9_head_ok k (d + 8) K (x1 := p) (x2 := c) (y := y) (m := m) (x5 := f) (x6 := len) (by omega) (by omega) (by omega) (by omega)
            have rp0 : RP K (pgT T0 (hdW y m)) := by
              refine ⟨fun q hq => ?_, fun a ha => ?_⟩
              · simp only [List.mem_cons, not_or] at hq
                rw [pgT_ne (by simp [hq]), t2 q (by simp [hq])]
              · simp only [List.mem_cons, not_or] at ha
                rw [pgT_ne (by decide), t3 a (by simp [ha])]
            have e6K : K 3 6 ≤ 60 := by rw [fsK.2.2.2.2.2.2.2.2.2]; exact g3.1.2
            have c90 : C9 (pgT T0 (hdW y m)) := C9_k rp0.fs e6K (by rw [pgT_ne (by decide), t3 21 (by decide)]) (by rw [pgT_ne (by decide), t3 22 (by decide)]) (by rw [pgT_ne (by decide), t2 45 (by decide)]) (by rw [pgT_ne (by decide), t2 46 (by decide)]) (by rw [pgT_ne (by decide), t2 47 (by decide)]) HK.2.2.2.2.2.2
            obtain ⟨T1, v9, v10, v11, d1, d2, d3, d4, d5⟩ := days9 k d HK PK (x2 := c) (x3 := y) (x4 := m) (x7 := x7) q.1 (show p < K 4 4 by omega) z1.1 (show f + len - 1 ≤ 1500000 by omega) (by omega) len.toNat 1 _ vU vU vU (by omega) (by omega) rp0 c90
            rw [show f + 1 - 1 = f by omega] at d3
            have L_ : 3 + jq (f + len - 1) 7 - jq f 7 = lnO f b + 1 := by
              rw [jq_pos (by omega) (by omega) (by omega) (by omega), jq_pos z1.1 (by omega) (by omega) (by omega), hb]
              unfold lnO
              omega
            obtain ⟨ρ, f1, f2, f3, f4, f5⟩ := feasts9 k d HK (p := p) (x2 := c) (x3 := y) (x4 := m) z1.1 (show f + len - 1 ≤ 1500000 by omega) (by omega) len.toNat 1 (lnO f b + 1) x7 T1 v10 v11 (by omega) (by omega) (by omega) (by omega) d1 d2
            rw [show f + 1 - 1 = f by omega, (FW_same fsK f _ _ _).1] at f3
            rw [show f + 1 - 1 = f by omega, (FW_same fsK f _ _ 0).2] at f5
            rw [DW_same fsK oK] at d3
            have fnb := FN_b g3.1 len.toNat f
            have x9 : EV k (d + 12) mX9_page [vR 33, vI p, vI c, vI y, vI m] K = ansI (if lnO f b + 1 + FN σ len.toNat f ≤ 28 then lnO f b + 1 + FN σ len.toNat f else 28) ρ := by
              rw [c9 K HK PK fsK K44, if_pos z1, if_pos z2, t5, d5, bX9_page_165, w32_id (a := len) (by omega) (by omega), w32_id (a := len + 1) (by omega) (by omega), if_pos (show len < len + 1 by omega), L_, f5]
              refine ansI_c ?_
              by_cases w : lnO f b + 1 + FN σ len.toNat f < 28
              · rw [if_pos w, if_pos (by omega)]
              · rw [if_neg w]
                by_cases w2 : lnO f b + 1 + FN σ len.toNat f ≤ 28
                · rw [if_pos w2]; omega
                · rw [if_neg w2]
            have ρq : ∀ q, q ∉ [3, 4, 19, 20, 21, 22, 29, 30, 33, 45, 46, 47, 54] → ρ q = σ q := fun q hq => by
              simp only [List.mem_cons, not_or] at hq
              rw [f1.1 q (by simp [hq]), i1.1 q (by simp [hq])]
            have ρ33 : ∀ a : Int, a ∉ ([3, 4, 5, 21, 22, 32] : List Int) → ρ 33 a = σ 33 a := fun a ha => by rw [f1.2 a ha, i1.1 33 (by decide)]
            have ρ32 : ρ 33 32 = 1 := by rw [f4, d4, pgT_ne (by decide), t4]
            refine ⟨_, K, ρ, x8, x9, ⟨fun q hq => ρq q ?_, fun a ha => ?_, fun a ha => ?_, fun a _ => ?_, fun a ha => ρ33 a ?_, (HK.rp f1 f2).2.2.2.2.2.1, f2⟩, ⟨Or.inr ρ32, fun j j0 j1 => ⟨fun w => by rw [ρ32] at w; omega, fun _ => ?_⟩⟩, ρq 6 (by decide), ρq 31 (by decide), ρq 55 (by decide), ρ33 34 (by decide)⟩
            · simp only [List.mem_cons, not_or] at hq ⊢
              simp [hq]
            · rw [f1.1 3 (by decide), i1.2.1 a ha]
            · rw [f1.1 4 (by decide), i1.2.2 a ha]
            · rw [ρq 6 (by decide)]
            · simp only [List.mem_cons, not_or] at ha ⊢
              simp [ha]
            · rw [f1.1 30 (by decide), i3, f3, d3, pgT_54, ← wrs_app, hS2, pgS_30]
              have base : wrs (T0 54) (hdW y m) j = wrs (S0 30) (hdW y m) j := wrs_pt (by rw [t1 j j0 j1, s1 j j0 j1]) _
              rw [wrs_pt base]
              obtain ⟨G, hG'⟩ : ∃ G, G = wrs (S0 30) (hdW y m) := ⟨_, rfl⟩
              rw [← hG']
              have Dl : ∀ w, w ∈ DW σ p f len.toNat f → low (lnO f b) w = true := fun w hw => by
                unfold low
                exact decide_eq_true (DW_l z1.1 _ _ w (by omega) hw)
              have Fh : ∀ w, w ∈ FW σ f len.toNat f (lnO f b + 1) → low (lnO f b) w = false := fun w hw => by
                unfold low
                exact decide_eq_false (by have := FW_l g3.1 _ _ _ w hw; omega)
              by_cases jl : j < 40 * (lnO f b + 1)
              · have hk : ∀ w : Int × Int × Int, low (lnO f b) w = false → ¬ ((0 ≤ w.1 ∧ w.1 < 28 ∧ 0 ≤ w.2.1 ∧ w.2.1 < 40) ∧ j = 40 * w.1 + w.2.1) := by
                  intro w hw
                  unfold low at hw
                  have := of_decide_eq_false hw
                  omega
                rw [wrs_keep (low (lnO f b)) hk C, i4, wrs_keep (low (lnO f b)) hk (DW σ p f len.toNat f ++ FW σ f len.toNat f (lnO f b + 1)), List.filter_append, filt_all Dl, filt_none Fh, List.append_nil]
              · have hk : ∀ w : Int × Int × Int, (!low (lnO f b) w) = false → ¬ ((0 ≤ w.1 ∧ w.1 < 28 ∧ 0 ≤ w.2.1 ∧ w.2.1 < 40) ∧ j = 40 * w.1 + w.2.1) := by
                  intro w hw
                  have hw2 : low (lnO f b) w = true := by
                    cases hz : low (lnO f b) w with
                    | true => rfl
                    | false => rw [hz] at hw; cases hw
                  unfold low at hw2
                  have := of_decide_eq_true hw2
                  omega
                rw [wrs_keep (fun w => !low (lnO f b) w) hk C, i5, wrs_keep (fun w => !low (lnO f b) w) hk (DW σ p f len.toNat f ++ FW σ f len.toNat f (lnO f b + 1)), List.filter_append, filt_none (fun w hw => by rw [Dl w hw]; rfl), filt_all (fun w hw => by rw [Fh w hw]; rfl), List.nil_append]
          · exact same (-3) (by rw [c8, if_pos z1, if_neg z2]) (by rw [c9s, if_pos z1, if_neg z2])
        · exact same (-3) (by rw [c8, if_neg z1]) (by rw [c9s, if_neg z1])
      · refine same (-2) ?_ ?_
        · rw [eX8_page, bX8_page_0, X5_has_ok k (d + 10) h1 hP.1, jbI_some, ib, if_pos q, X8_isCalendar_ok k (d + 10) σ b2.1 b2.2, jbI_some, ib, if_pos hc, X0_hasMonth_ok k (d + 7) g1 hc.1 hc.2 b3.1 b3.2 b4.1 b4.2, jbI_some, ib, if_neg hm]
        · rw [eX9_page, bX9_page_0, X9_isParish_ok k (d + 9) hP h1, jbI_some, ib, if_pos q, X9_isCalendar_ok k (d + 9) σ b2.1 b2.2, jbI_some, ib, if_pos hc, X9_isMonth_ok k (d + 5) g1 g2 hc.1 hc.2 b3.1 b3.2 b4.1 b4.2, jbI_some, ib, if_neg hm]
    · refine same (-1) ?_ ?_
      · rw [eX8_page, bX8_page_0, X5_has_ok k (d + 10) h1 hP.1, jbI_some, ib, if_pos q, X8_isCalendar_ok k (d + 10) σ b2.1 b2.2, jbI_some, ib, if_neg hc]
      · rw [eX9_page, bX9_page_0, X9_isParish_ok k (d + 9) hP h1, jbI_some, ib, if_pos q, X9_isCalendar_ok k (d + 9) σ b2.1 b2.2, jbI_some, ib, if_neg hc]
  · refine same (-1) ?_ ?_
    · rw [eX8_page, bX8_page_0, X5_has_ok k (d + 10) h1 hP.1, jbI_some, ib, if_neg q]
    · rw [eX9_page, bX9_page_0, X9_isParish_ok k (d + 9) hP h1, jbI_some, ib, if_neg q]
