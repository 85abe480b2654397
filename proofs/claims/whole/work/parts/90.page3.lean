/-! the page's days on both sides -/
noncomputable def yrO (σ : St) (n : Int) : Int := @dite _ (∃ y, IsY σ 0 n y) (Classical.propDecidable _) (fun h => Classical.choose h) (fun _ => 0)
theorem yrO_eq {σ : St} (hC : CF σ) {n y : Int} (h : IsY σ 0 n y) : yrO σ n = y := by
  have hx : ∃ y, IsY σ 0 n y := ⟨y, h⟩
  unfold yrO
  rw [dif_pos hx]
  exact IsY.one hC (by omega) (by omega) (Classical.choose_spec hx) h
def RP (σ ρ : St) : Prop := (∀ q, q ∉ [33, 45, 46, 47, 54] → ρ q = σ q) ∧ ∀ a : Int, a ∉ ([3, 4, 5, 21, 22, 32] : List Int) → ρ 33 a = σ 33 a
theorem RP.trans {σ τ ρ : St} (h : RP σ τ) (g : RP τ ρ) : RP σ ρ := ⟨fun q hq => (g.1 q hq).trans (h.1 q hq), fun a ha => (g.2 a ha).trans (h.2 a ha)⟩
theorem RE.rp {σ ρ : St} (h : RE σ ρ) : RP σ ρ := ⟨fun q hq => h.1 q (by simp only [List.mem_cons, not_or] at hq ⊢; simp [hq]), fun a ha => h.2 a (by simp only [List.mem_cons, not_or] at ha ⊢; simp [ha])⟩
theorem RP_pg (T : St) (ws : List (Int × Int × Int)) : RP T (pgT T ws) := ⟨fun q hq => pgT_ne (by rintro rfl; exact hq (by decide)), fun a _ => by rw [pgT_ne (by decide)]⟩
theorem RP.fs {σ ρ : St} (h : RP σ ρ) : FSa σ ρ := ⟨h.1 1 (by decide), h.1 8 (by decide), h.1 9 (by decide), h.1 13 (by decide), h.1 14 (by decide), h.1 15 (by decide), h.1 16 (by decide), h.1 17 (by decide), h.1 18 (by decide), by rw [h.1 3 (by decide)]⟩
theorem HQ.rp {σ ρ : St} (h : HQ σ) (c : RP σ ρ) (v : C9 ρ) : HQ ρ := by
  obtain ⟨h1, h2, h3, h4, h5, h6, h7⟩ := h
  exact ⟨c.fs.cf h1, MR_same (c.1 1 (by decide)) (c.1 9 (by decide)) (c.2 0 (by decide)) (c.1 34 (by decide)) (c.1 35 (by decide)) h2, c.fs.fv h3, FR_same c.fs (c.2 12 (by decide)) (c.1 40 (by decide)) (c.1 41 (by decide)) (c.1 42 (by decide)) (c.1 43 (by decide)) (c.1 44 (by decide)) h4, c.fs.ord h5, CV_fs c.fs (c.1 19 (by decide)) (c.1 20 (by decide)) (c.1 21 (by decide)) h6, v⟩
theorem RP.pr {σ ρ : St} (h : RP σ ρ) (g : PR σ) : PR ρ := by
  unfold PR
  rw [h.1 4 (by decide), h.2 23 (by decide), h.2 26 (by decide), h.1 23 (by decide), h.1 24 (by decide), h.1 25 (by decide), h.1 26 (by decide), h.1 27 (by decide), h.1 28 (by decide), h.1 48 (by decide), h.1 49 (by decide), h.1 50 (by decide), h.1 51 (by decide), h.1 52 (by decide), h.1 53 (by decide), h.1 3 (by decide)]
  exact g
theorem RP.off {σ ρ : St} (h : RP σ ρ) (p n : Int) : OFF ρ p n ↔ OFF σ p n := by
  have f := fun m => FREE_same h.fs (by rw [h.1 4 (by decide)]) (h.1 23 (by decide)) (h.1 25 (by decide)) (h.1 26 (by decide)) (h.1 27 (by decide)) (h.1 28 (by decide)) p m
  unfold OFF
  rw [f, f, f, h.1 24 (by decide)]
theorem C9_k {σ ρ : St} (f : FSa σ ρ) (n60 : σ 3 6 ≤ 60) (e21 : ρ 33 21 = σ 33 21) (e22 : ρ 33 22 = σ 33 22) (e45 : ρ 45 = σ 45) (e46 : ρ 46 = σ 46) (e47 : ρ 47 = σ 47) (g : C9 σ) : C9 ρ := by
  refine ⟨by rw [e21]; exact g.1, by rw [e22]; exact g.2.1, fun z s s0 s1 => ?_⟩
  rw [e22] at z
  obtain ⟨g1, g2⟩ := g.2.2 z s s0 s1
  rw [e45]
  exact ⟨g1, fun a b => KP_f f n60 (fun j _ _ => by rw [e46, e47]; exact ⟨rfl, rfl⟩) (g2 a b)⟩
theorem C9_pg {T : St} (n60 : T 3 6 ≤ 60) (ws : List (Int × Int × Int)) (g : C9 T) : C9 (pgT T ws) := C9_k (RP_pg T ws).fs n60 (by rw [pgT_ne (by decide)]) (by rw [pgT_ne (by decide)]) (pgT_ne (by decide)) (pgT_ne (by decide)) (pgT_ne (by decide)) g
theorem LK_pg {σ S : St} {s e p : Int} (ws : List (Int × Int × Int)) (g : LK σ S s e p) : LK σ (pgS S ws) s e p := by
  obtain ⟨g1, g2, g3, g4⟩ := g
  have e4 : pgS S ws 4 = S 4 := pgS_ne (by decide)
  have e29 : pgS S ws 29 = S 29 := pgS_ne (by decide)
  exact ⟨by rw [e4]; exact g1, by rw [e4]; exact g2, by rw [e4]; exact g3, by unfold FM; rw [e29]; exact g4⟩
theorem PQ_pg {S : St} {N : Int} {p : Int → Int} (ws : List (Int × Int × Int)) (g : PQ S N p) : PQ (pgS S ws) N p := by
  unfold PQ
  rw [pgS_ne (show (3 : Nat) ≠ 30 by decide), pgS_ne (show (21 : Nat) ≠ 30 by decide)]
  exact g
def midW (f n c o : Int) : List (Int × Int × Int) := if 0 < c then [(lnO f n, 3 * (n % 7) + 2, 42)] else if o = 0 then [] else [(lnO f n, 3 * (n % 7) + 2, 46)]
def newW (f n : Int) : List (Int × Int × Int) := if nwb n = 0 then [] else [(lnO f n, 23 + n % 7, 111)]
noncomputable def dayW (σ : St) (p f n : Int) : List (Int × Int × Int) := twoW (lnO f n) (3 * (n % 7)) (n - f + 1) ++ (midW f n (cno (PD σ (yrO σ n)) n (σ 3 6).toNat) (ofb σ p n) ++ newW f n)
noncomputable def DW (σ : St) (p f : Int) : Nat → Int → List (Int × Int × Int)
  | 0, _ => []
  | t + 1, n => dayW σ p f n ++ DW σ p f t (n + 1)
theorem lnO_b {f n : Int} (f0 : 0 ≤ f) (fn : f ≤ n) (h : n ≤ f + 300) : 2 ≤ lnO f n ∧ lnO f n ≤ 50 := by unfold lnO; omega
theorem days8 (k : Nat × (Int → Int)) (d : Nat) {σ : St} (h : HQ σ) (hP : PR σ) {p y f a b s e : Int} (p0 : 0 ≤ p) (p1 : p < σ 4 4) (f0 : 0 ≤ f) (b0 : 0 ≤ b) (b1 : b ≤ 1500000) (fb : b ≤ f + 300) (s0 : 0 ≤ s) (se : s < e) (e1 : e ≤ s + 802) (e2 : e ≤ 1500001) (A : s = 0 ∨ s ≤ a - 1) (As : s ≤ a) (B : e = 1500001 ∨ b + 1 < e) (Bs : b < e) (fa : f ≤ a) (hy : ∀ n, a ≤ n → n ≤ b → yrO σ n = y) : ∀ (t : Nat) (n : Int) (S : St) (u5 u6 : PV), a ≤ n → (b + 1 - n).toNat = t → n ≤ 1500001 → LK σ S s e p → PQ S (σ 3 6) (PD σ y) → out (WV k) (EV k (d + 2)) MX8_writeDays 3 [vR 0, vI f, vI a, vI b, vI n, u5, u6] [] S = some (none, pgS S (DW σ p f t n)) := by
  have N1 := h.2.2.1.1
  have hw := (hP.2.2.2.2.1 p p0 p1).2.1
  intro t
  induction t with
  | zero =>
    intro n S u5 u6 an nt_ n1 hL hQ
    rw [bX8_writeDays_3, w32_id (a := b) (by omega) (by omega), w32_id (a := n) (by omega) (by omega), if_pos (by omega)]
    show _ = some (none, pgS S [])
    rw [pgS_nil]
  | succ t ih =>
    intro n S u5 u6 an nt_ n1 hL hQ
    have nb_ : n ≤ b := by omega
    have lb := lnO_b f0 (show f ≤ n by omega) (by omega)
    have r7 : jr n 7 = n % 7 := jr_pos (by omega) (by omega) (by omega) (by omega)
    have cb := cno_b (PD σ y) n (σ 3 6).toNat
    have go : ∀ (S1 : St) (ws : List (Int × Int × Int)) (v5 v6 : Int), S1 = pgS S ws → v5 = lnO f n → v6 = n % 7 → out (WV k) (EV k (d + 2)) MX8_writeDays 104 [vR 0, vI f, vI a, vI b, vI n, vI v5, vI v6] [] S1 = some (none, pgS S (ws ++ (newW f n ++ DW σ p f t (n + 1)))) := by
      intro S1 ws v5 v6 h1 h5 h6
      subst h1 h5 h6
      rw [bX8_writeDays_104, X3_isNewOn_ok k d _ (by omega) (by omega), jbI_some]
      unfold newW
      rcases nwb_or n with z | z
      · rw [z, i00, if_pos rfl, ih (n + 1) _ _ _ (by omega) (by omega) (by omega) (LK_pg ws hL) (PQ_pg ws hQ), pgS_app]
        rfl
      · rw [z, i10, if_neg (by decide), X4_put_ok k (d + 1) _ _ (by omega) (by omega) (by omega) (by omega), jbV_some, pgS_app, ih (n + 1) _ _ _ (by omega) (by omega) (by omega) (LK_pg _ hL) (PQ_pg _ hQ), pgS_app, List.append_assoc]
    rw [bX8_writeDays_3, w32_id (a := b) (by omega) (by omega), w32_id (a := n) (by omega) (by omega), if_neg (by omega), X4_lineOf_ok k (d + 1) S f0 (by omega) (by omega), jbI_some, r7, X4_two_ok k d S (by omega) (by omega) (by omega) (by omega) (by omega) (by omega), jbV_some, X2_countOn_ok k (d + 1) (PQ_pg _ hQ) N1.1 N1.2 (by omega) (by omega), jbI_some, w32_id (a := cno (PD σ y) n (σ 3 6).toNat) (by omega) (by omega)]
    show _ = some (none, pgS S (dayW σ p f n ++ DW σ p f t (n + 1)))
    unfold dayW
    rw [hy n an nb_, List.append_assoc, List.append_assoc]
    unfold midW
    by_cases z : 0 < cno (PD σ y) n (σ 3 6).toNat
    · rw [if_pos z, if_pos z, X4_put_ok k (d + 1) _ _ (by omega) (by omega) (by omega) (by omega), jbV_some, pgS_app, go _ _ _ _ rfl rfl rfl, List.append_assoc]
    · obtain ⟨v, r1, r2, r3⟩ := X5_rests_ok k d (LK_pg (twoW (lnO f n) (3 * (n % 7)) (n - f + 1)) hL) s0 se e1 e2 hw (n := n) (by omega) (by omega) (by omega) (by omega)
      have rv := ofb_eq r2 r3
      rw [rv] at r1
      rw [if_neg z, if_neg z, r1, jbI_some]
      rcases ofb_or σ p n with y0 | y0
      · rw [y0, i00, if_pos rfl, go _ _ _ _ rfl rfl rfl]
        rfl
      · rw [y0, i10, if_neg (by decide), X4_put_ok k (d + 1) _ _ (by omega) (by omega) (by omega) (by omega), jbV_some, pgS_app, go _ _ _ _ rfl rfl rfl, List.append_assoc]
theorem nth_any (o p : Int → Int) (n : Int) : ∀ (t : Nat) (i : Int), nth o p n t i 0 = -2 ∨ ∃ m, i ≤ m ∧ m < i + t ∧ p (o m) = n ∧ nth o p n t i 0 = o m := by
  intro t
  induction t with
  | zero => intro i; exact Or.inl rfl
  | succ t ih =>
    intro i
    rw [nth_s]
    by_cases z : p (o i) = n
    · rw [if_pos z, if_pos rfl]
      exact Or.inr ⟨i, by omega, by push_cast; omega, z, rfl⟩
    · rw [if_neg z]
      rcases ih (i + 1) with w | ⟨m, m0, m1, m2, m3⟩
      · exact Or.inl w
      · exact Or.inr ⟨m, by omega, by push_cast; omega, m2, m3⟩
theorem nth_none (o p : Int → Int) (n : Int) : ∀ (t : Nat) (i : Int), (∀ m, i ≤ m → m < i + t → 0 ≤ o m) → nth o p n t i 0 = -2 → ∀ m, i ≤ m → m < i + t → p (o m) ≠ n := by
  intro t
  induction t with
  | zero => intro i _ _ m m0 m1; omega
  | succ t ih =>
    intro i ho hn m m0 m1
    push_cast at m1 ho
    rw [nth_s] at hn
    by_cases z : p (o i) = n
    · rw [if_pos z, if_pos rfl] at hn
      have := ho i (by omega) (by omega)
      omega
    · rw [if_neg z] at hn
      by_cases w : m = i
      · rw [w]; exact z
      · exact ih (i + 1) (fun m a b => ho m (by omega) (by omega)) hn m (by omega) (by omega)
theorem cno_0 (p : Int → Int) (n : Int) (m : Nat) : cno p n m = 0 ↔ ∀ j : Nat, j < m → p j ≠ n := by
  induction m with
  | zero => exact ⟨fun _ j hj => by omega, fun _ => rfl⟩
  | succ m ih =>
    rw [cno_s]
    have b := cno_b p n m
    constructor
    · intro h j hj
      by_cases z : j = m
      · rw [z]
        intro w
        rw [if_pos w] at h
        omega
      · refine ih.1 ?_ j (by omega)
        split at h <;> omega
    · intro h
      rw [if_neg (h m (by omega)), ih.2 (fun j hj => h j (by omega))]
      rfl
theorem nth_cno {σ : St} (hO : ORD σ) (h6 : 0 ≤ σ 3 6) (p : Int → Int) (n : Int) : nth (σ 18) p n (σ 3 6).toNat 0 0 = -2 ↔ cno p n (σ 3 6).toNat = 0 := by
  rw [cno_0]
  constructor
  · intro h j hj
    obtain ⟨i, i0, i1, i2⟩ := hO.2.2 (j : Int) (by omega) (by omega)
    have := nth_none (σ 18) p n (σ 3 6).toNat 0 (fun m a b => (hO.1 m a (by omega)).1) h i i0 (by omega)
    rw [i2] at this
    exact this
  · intro h
    rcases nth_any (σ 18) p n (σ 3 6).toNat 0 with w | ⟨m, m0, m1, m2, m3⟩
    · exact w
    · have o := hO.1 m m0 (by omega)
      have := h (σ 18 m).toNat (by omega)
      rw [show ((σ 18 m).toNat : Int) = σ 18 m by omega] at this
      exact absurd m2 this
theorem nth_b {σ : St} (hO : ORD σ) (h6 : 0 ≤ σ 3 6) (p : Int → Int) (n : Int) : nth (σ 18) p n (σ 3 6).toNat 0 0 = -2 ∨ (0 ≤ nth (σ 18) p n (σ 3 6).toNat 0 0 ∧ nth (σ 18) p n (σ 3 6).toNat 0 0 < σ 3 6) := by
  rcases nth_any (σ 18) p n (σ 3 6).toNat 0 with w | ⟨m, m0, m1, m2, m3⟩
  · exact Or.inl w
  · have o := hO.1 m m0 (by omega)
    exact Or.inr (by omega)
