/-! the page's days in the reference; its feasts on both sides -/
theorem fe9 (k : Nat × (Int → Int)) (d : Nat) {σ T : St} (h : HQ σ) (r : RP σ T) (c : C9 T) {n q : Int} (n1 : 0 ≤ n) (n2 : n ≤ 1500000) (hq : I32 q) : ∃ ρ, EV k (d + 11) mX9_feastAt [vR 33, vI n, vI q] T = ansI (nth (σ 18) (PD σ (yrO σ n)) n (σ 3 6).toNat 0 q) ρ ∧ RE T ρ ∧ C9 ρ ∧ RP σ ρ := by
  have H := h.rp r c
  obtain ⟨y, hy, _, _⟩ := exYr h.1 n
  obtain ⟨ρ, a1, a2, a3⟩ := X9_feastAt_ok k (d + 1) H n1 n2 hq ((IsY_same r.fs 0 n y).2 hy)
  refine ⟨ρ, ?_, a2, a3, r.trans a2.rp⟩
  rw [a1, r.1 18 (by decide), r.fs.pd, yrO_eq h.1 hy, show T 3 6 = σ 3 6 from r.fs.2.2.2.2.2.2.2.2.2]
theorem of9 (k : Nat × (Int → Int)) (d : Nat) {σ T : St} (h : HQ σ) (hP : PR σ) (r : RP σ T) (c : C9 T) {n p : Int} (n0 : 0 ≤ n) (n1 : n ≤ 1500000) (p0 : 0 ≤ p) (p1 : p < σ 4 4) : ∃ ρ, EV k (d + 11) mX9_isOffDay [vR 33, vI p, vI n] T = ansI (ofb σ p n) ρ ∧ RE T ρ ∧ C9 ρ ∧ RP σ ρ := by
  obtain ⟨ρ, a1, a2, a3⟩ := off9 k d (h.rp r c) (r.pr hP) n0 n1 p0 (by rw [r.1 4 (by decide)]; exact p1)
  exact ⟨ρ, by rw [a1, ofb_c (r.off p n)], a2, a3, r.trans a2.rp⟩
theorem days9 (k : Nat × (Int → Int)) (d : Nat) {σ : St} (h : HQ σ) (hP : PR σ) {p x2 x3 x4 f len x7 : Int} (p0 : 0 ≤ p) (p1 : p < σ 4 4) (f0 : 0 ≤ f) (fl : f + len - 1 ≤ 1500000) (l1 : len ≤ 300) : ∀ (t : Nat) (dd : Int) (T : St) (u9 u10 u11 : PV), 1 ≤ dd → dd + t = len + 1 → RP σ T → C9 T → ∃ T' v9 v10 v11, RP σ T' ∧ C9 T' ∧ T' 54 = wrs (T 54) (DW σ p f t (f + dd - 1)) ∧ T' 33 32 = T 33 32 ∧ out (WV k) (EV k (d + 11)) MX9_page 165 [vR 33, vI p, vI x2, vI x3, vI x4, vI f, vI len, vI x7, vI dd, u9, u10, u11] [] T = out (WV k) (EV k (d + 11)) MX9_page 165 [vR 33, vI p, vI x2, vI x3, vI x4, vI f, vI len, vI x7, vI (len + 1), v9, v10, v11] [] T' := by
  have N1 := h.2.2.1.1
  intro t
  induction t with
  | zero =>
    intro dd T u9 u10 u11 d1 dt r c
    rw [show dd = len + 1 by omega]
    exact ⟨T, u9, u10, u11, r, c, rfl, rfl, rfl⟩
  | succ t ih =>
    intro dd T u9 u10 u11 d1 dt r c
    push_cast at dt
    obtain ⟨n, hn⟩ : ∃ n, n = f + dd - 1 := ⟨_, rfl⟩
    rw [← hn]
    have lb := lnO_b f0 (show f ≤ n by omega) (by omega)
    have r7 : jr n 7 = n % 7 := jr_pos (by omega) (by omega) (by omega) (by omega)
    have L_ : 2 + jq n 7 - jq f 7 = lnO f n := by
      rw [jq_pos (by omega) (by omega) (by omega) (by omega), jq_pos f0 (by omega) (by omega) (by omega)]
      rfl
    have e6 : ∀ T1 : St, RP σ T1 → T1 3 6 ≤ 60 := fun T1 r1 => by rw [r1.fs.2.2.2.2.2.2.2.2.2]; exact N1.2
    -- the end of a day's work
    have fin : ∀ (T3 : St) (ws : List (Int × Int × Int)), RP σ T3 → C9 T3 → T3 54 = wrs (T 54) ws → T3 33 32 = T 33 32 → dayW σ p f n = ws ++ newW f n → ∃ T' v9 v10 v11, RP σ T' ∧ C9 T' ∧ T' 54 = wrs (T 54) (DW σ p f (t + 1) n) ∧ T' 33 32 = T 33 32 ∧ jbI (EV k (d + 11) mX9_isNew [vI n] T3) (fun r4 τ4 => if w32 r4 = 0 then out (WV k) (EV k (d + 11)) MX9_page 165 [vR 33, vI p, vI x2, vI x3, vI x4, vI f, vI len, vI x7, vI (dd + 1), vI n, vI (n % 7), vI (lnO f n)] [] τ4 else jbV (EV k (d + 11) mX9_write [vR 33, vI (lnO f n), vI (23 + n % 7), vI 111] τ4) (fun τ5 => out (WV k) (EV k (d + 11)) MX9_page 165 [vR 33, vI p, vI x2, vI x3, vI x4, vI f, vI len, vI x7, vI (dd + 1), vI n, vI (n % 7), vI (lnO f n)] [] τ5)) = out (WV k) (EV k (d + 11)) MX9_page 165 [vR 33, vI p, vI x2, vI x3, vI x4, vI f, vI len, vI x7, vI (len + 1), v9, v10, v11] [] T' := by
      intro T3 ws r3 c3 e54 e32 hw
      rw [X9_isNew_ok k (d + 10) T3 (by omega) (by omega), jbI_some]
      have nx : f + (dd + 1) - 1 = n + 1 := by omega
      have list : DW σ p f (t + 1) n = ws ++ (newW f n ++ DW σ p f t (n + 1)) := by
        show dayW σ p f n ++ DW σ p f t (n + 1) = _
        rw [hw, List.append_assoc]
      rw [list]
      unfold newW
      rcases nwb_or n with z | z
      · rw [z, i00, if_pos rfl]
        obtain ⟨T', v9, v10, v11, i1, i2, i3, i4, i5⟩ := ih (dd + 1) T3 (vI n) (vI (n % 7)) (vI (lnO f n)) (by omega) (by omega) r3 c3
        exact ⟨T', v9, v10, v11, i1, i2, by rw [i3, nx, e54, ← wrs_app]; rfl, by rw [i4, e32], i5⟩
      · rw [z, i10, if_neg (by decide), X9_write_ok k (d + 10) T3 (by omega) (by omega) (by omega) (by omega) (by omega) (by omega), jbV_some]
        obtain ⟨T', v9, v10, v11, i1, i2, i3, i4, i5⟩ := ih (dd + 1) (pgT T3 [(lnO f n, 23 + n % 7, 111)]) (vI n) (vI (n % 7)) (vI (lnO f n)) (by omega) (by omega) (r3.trans (RP_pg _ _)) (C9_pg (e6 T3 r3) _ c3)
        exact ⟨T', v9, v10, v11, i1, i2, by rw [i3, nx, pgT_54, e54, ← wrs_app, ← wrs_app], by rw [i4, pgT_ne (by decide), e32], i5⟩
    rw [bX9_page_165, w32_id (a := len) (by omega) (by omega), w32_id (a := dd) (by omega) (by omega), if_neg (by omega), ← hn, r7, L_, X9_day_ok k (d + 9) T (by omega) (by omega) (by omega) (by omega) (by omega) (by omega), jbV_some]
    have r1 : RP σ (pgT T (twoW (lnO f n) (3 * (n % 7)) dd)) := r.trans (RP_pg _ _)
    have c1 := C9_pg (e6 T r) (twoW (lnO f n) (3 * (n % 7)) dd) c
    have e1 : pgT T (twoW (lnO f n) (3 * (n % 7)) dd) 54 = wrs (T 54) (twoW (lnO f n) (3 * (n % 7)) dd) := pgT_54 _ _
    have g1 : pgT T (twoW (lnO f n) (3 * (n % 7)) dd) 33 = T 33 := pgT_ne (by decide)
    have dn : n - f + 1 = dd := by omega
    obtain ⟨T2, a1, a2, a3, a4⟩ := fe9 k d h r1 c1 (n := n) (q := 0) (by omega) (by omega) (by unfold I32; omega)
    have nb_ := nth_b h.2.2.2.2.1 N1.1 (PD σ (yrO σ n)) n
    have nc := nth_cno h.2.2.2.2.1 N1.1 (PD σ (yrO σ n)) n
    have cb := cno_b (PD σ (yrO σ n)) n (σ 3 6).toNat
    rw [a1, jbI_some, w32_id (a := nth (σ 18) (PD σ (yrO σ n)) n (σ 3 6).toNat 0 0) (by omega) (by omega), show w32 (-2) = -2 by decide]
    have e2 : T2 54 = wrs (T 54) (twoW (lnO f n) (3 * (n % 7)) dd) := by rw [a2.1 54 (by decide), e1]
    have g2 : T2 33 32 = T 33 32 := by rw [a2.2 32 (by decide), g1]
    have dw : ∀ m, midW f n (cno (PD σ (yrO σ n)) n (σ 3 6).toNat) (ofb σ p n) = m → dayW σ p f n = (twoW (lnO f n) (3 * (n % 7)) dd ++ m) ++ newW f n := by
      intro m hm
      unfold dayW
      rw [hm, dn, List.append_assoc]
    by_cases z : nth (σ 18) (PD σ (yrO σ n)) n (σ 3 6).toNat 0 0 = -2
    · have c0 := nc.1 z
      rw [if_pos z]
      obtain ⟨T3, b1, b2, b3, b4⟩ := of9 k d h hP a4 a3 (n := n) (p := p) (by omega) (by omega) p0 p1
      have e3 : T3 54 = wrs (T 54) (twoW (lnO f n) (3 * (n % 7)) dd) := by rw [b2.1 54 (by decide), e2]
      have g3 : T3 33 32 = T 33 32 := by rw [b2.2 32 (by decide), g2]
      rw [b1, jbI_some]
      rcases ofb_or σ p n with y0 | y0
      · rw [y0, i00]
        refine fin T3 (twoW (lnO f n) (3 * (n % 7)) dd ++ []) b4 b3 (by rw [List.append_nil]; exact e3) g3 (dw [] ?_)
        unfold midW
        rw [if_neg (by omega), if_pos y0]
      · rw [y0, i10, X9_write_ok k (d + 10) T3 (by omega) (by omega) (by omega) (by omega) (by omega) (by omega), jbV_some]
        refine fin _ (twoW (lnO f n) (3 * (n % 7)) dd ++ [(lnO f n, 3 * (n % 7) + 2, 46)]) (b4.trans (RP_pg _ _)) (C9_pg (e6 T3 b4) _ b3) (by rw [pgT_54, e3, ← wrs_app]) (by rw [pgT_ne (by decide)]; exact g3) (dw _ ?_)
        unfold midW
        rw [if_neg (by omega), if_neg (by omega)]
    · rw [if_neg z, X9_write_ok k (d + 10) T2 (by omega) (by omega) (by omega) (by omega) (by omega) (by omega), jbV_some]
      have c0 : ¬ cno (PD σ (yrO σ n)) n (σ 3 6).toNat = 0 := fun w => z (nc.2 w)
      refine fin _ (twoW (lnO f n) (3 * (n % 7)) dd ++ [(lnO f n, 3 * (n % 7) + 2, 42)]) (a4.trans (RP_pg _ _)) (C9_pg (e6 T2 a4) _ a3) (by rw [pgT_54, e2, ← wrs_app]) (by rw [pgT_ne (by decide)]; exact g2) (dw _ ?_)
      unfold midW
      rw [if_pos (by omega)]
def fW (f n l g r : Int) : List (Int × Int × Int) := twoW l 0 (n - f + 1) ++ (numW l 3 g ++ numW l 6 r)
def fdW (o p rk : Int → Int) (f n : Int) : Nat → Int → Int → List (Int × Int × Int)
  | 0, _, _ => []
  | t + 1, i, l => if p (o i) = n then fW f n l (o i) (rk (o i)) ++ fdW o p rk f n t (i + 1) (l + 1) else fdW o p rk f n t (i + 1) l
def fdN (o p : Int → Int) (n : Int) : Nat → Int → Int
  | 0, _ => 0
  | t + 1, i => (if p (o i) = n then 1 else 0) + fdN o p n t (i + 1)
theorem fdW_s (o p rk : Int → Int) (f n : Int) (t : Nat) (i l : Int) : fdW o p rk f n (t + 1) i l = if p (o i) = n then fW f n l (o i) (rk (o i)) ++ fdW o p rk f n t (i + 1) (l + 1) else fdW o p rk f n t (i + 1) l := rfl
theorem fdN_s (o p : Int → Int) (n : Int) (t : Nat) (i : Int) : fdN o p n (t + 1) i = (if p (o i) = n then 1 else 0) + fdN o p n t (i + 1) := rfl
theorem fdN_b (o p : Int → Int) (n : Int) : ∀ (t : Nat) (i : Int), 0 ≤ fdN o p n t i ∧ fdN o p n t i ≤ t := by
  intro t
  induction t with
  | zero => intro i; exact ⟨Int.le_refl 0, Int.le_refl 0⟩
  | succ t ih =>
    intro i
    have := ih (i + 1)
    rw [fdN_s]
    push_cast
    split <;> omega
theorem fd_none (o p rk : Int → Int) (f n : Int) : ∀ (t : Nat) (i l : Int), (∀ m, i ≤ m → m < i + t → p (o m) ≠ n) → fdW o p rk f n t i l = [] ∧ fdN o p n t i = 0 := by
  intro t
  induction t with
  | zero => intro i l _; exact ⟨rfl, rfl⟩
  | succ t ih =>
    intro i l h
    push_cast at h
    have z := h i (by omega) (by omega)
    obtain ⟨a, b⟩ := ih (i + 1) l (fun m m0 m1 => h m (by omega) (by omega))
    rw [fdW_s, fdN_s, if_neg z, if_neg z, a, b]
    exact ⟨rfl, rfl⟩
noncomputable def fqW (σ : St) (f n l : Int) : List (Int × Int × Int) := fdW (σ 18) (PD σ (yrO σ n)) (σ 17) f n (σ 3 6).toNat 0 l
noncomputable def fqN (σ : St) (n : Int) : Int := fdN (σ 18) (PD σ (yrO σ n)) n (σ 3 6).toNat 0
noncomputable def FW (σ : St) (f : Int) : Nat → Int → Int → List (Int × Int × Int)
  | 0, _, _ => []
  | t + 1, n, l => fqW σ f n l ++ FW σ f t (n + 1) (l + fqN σ n)
noncomputable def FN (σ : St) : Nat → Int → Int
  | 0, _ => 0
  | t + 1, n => fqN σ n + FN σ t (n + 1)
theorem FW_s (σ : St) (f : Int) (t : Nat) (n l : Int) : FW σ f (t + 1) n l = fqW σ f n l ++ FW σ f t (n + 1) (l + fqN σ n) := rfl
theorem FN_s (σ : St) (t : Nat) (n : Int) : FN σ (t + 1) n = fqN σ n + FN σ t (n + 1) := rfl
theorem fqN_b {σ : St} (h : 0 ≤ σ 3 6 ∧ σ 3 6 ≤ 60) (n : Int) : 0 ≤ fqN σ n ∧ fqN σ n ≤ 60 := by
  have := fdN_b (σ 18) (PD σ (yrO σ n)) n (σ 3 6).toNat 0
  unfold fqN
  omega
/-- one feast's line -/
theorem line8 (k : Nat × (Int → Int)) (d : Nat) {σ S : St} (h : HQ σ) {f n l g y : Int} (hQ : PQ S (σ 3 6) (PD σ y)) (e17 : S 17 = σ 17) (l1 : 0 ≤ l) (l2 : l ≤ 100000) (n1 : 0 ≤ n - f) (n2 : n - f ≤ 1000) (g0 : 0 ≤ g) (g1 : g < σ 3 6) {α : Type} (K : St → Option Rt) : jbV (EV k (d + 3) mX4_putTwoDigits [vR 5, vI l, vI 0, vI (n - f + 1)] S) (fun τ3 => jbI (EV k (d + 3) mX4_putNumber [vR 5, vI l, vI 3, vI g] τ3) (fun r4 τ4 => jbI (EV k (d + 3) mX2_rankOf [vR 3, vI g] τ4) (fun r5 τ5 => jbI (EV k (d + 3) mX4_putNumber [vR 5, vI l, vI 6, vI r5] τ5) (fun r6 τ6 => K τ6)))) = K (pgS S (fW f n l g (σ 17 g))) := by
  have N1 := h.2.2.1.1
  have rk := (h.2.2.1.2 g g0 g1).2
  have e36 : S 3 6 = σ 3 6 := hQ.2.1
  have rko : ∀ ws, EV k (d + 3) mX2_rankOf [vR 3, vI g] (pgS S ws) = ansI (σ 17 g) (pgS S ws) := by
    intro ws
    have p3 : pgS S ws 3 = S 3 := pgS_ne (by decide)
    rw [eX2_rankOf, bX2_rankOf_0, X2_has_ok k (d + 1) (by unfold I32; omega) (by rw [p3, e36]; exact N1), jbI_some, ib, p3, if_pos (by omega), w32_id (a := g) (by omega) (by omega), if_pos (by omega), pgS_ne (by decide), e17]
  rw [X4_two_ok k (d + 1) S l1 (by omega) (by omega) (by omega) (by omega) (by omega), jbV_some, X4_number_ok k (d + 1) _ l1 (by omega) (by omega) (by omega) g0 (by omega), jbI_some, pgS_app, rko, jbI_some, X4_number_ok k (d + 1) _ l1 (by omega) (by omega) (by omega) rk.1 (by omega), jbI_some, pgS_app, List.append_assoc]
  rfl
