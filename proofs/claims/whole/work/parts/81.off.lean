/-! isOff, worked, nextOff, inRow on both sides -/
noncomputable def ofb (σ : St) (p n : Int) : Int := @ite _ (OFF σ p n) (Classical.propDecidable _) 1 0
theorem ofb_or (σ : St) (p n : Int) : ofb σ p n = 0 ∨ ofb σ p n = 1 := by
  unfold ofb
  by_cases z : OFF σ p n
  · rw [if_pos z]; exact Or.inr rfl
  · rw [if_neg z]; exact Or.inl rfl
theorem ofb_eq {σ : St} {p n v : Int} (h : v = 0 ∨ v = 1) (g : v = 1 ↔ OFF σ p n) : v = ofb σ p n := by
  unfold ofb
  by_cases z : OFF σ p n
  · rw [if_pos z]; exact g.2 z
  · rw [if_neg z]
    rcases h with w | w
    · exact w
    · exact absurd (g.1 w) z
theorem ofb_c {σ ρ : St} {p n : Int} (h : OFF ρ p n ↔ OFF σ p n) : ofb ρ p n = ofb σ p n := by
  refine (ofb_eq (ofb_or σ p n) ?_).symm
  rw [h]
  unfold ofb
  by_cases z : OFF σ p n
  · rw [if_pos z]; exact ⟨fun _ => z, fun _ => rfl⟩
  · rw [if_neg z]; exact ⟨fun w => by omega, fun w => absurd w z⟩
def RST (k : Nat × (Int → Int)) (σ : St) (p a b : Int) : Prop := ∀ (d : Nat) (n : Int), a ≤ n → n ≤ b → EV k (d + 2) mX5_rests [vR 4, vI n] σ = ansI (ofb σ p n) σ
theorem look_rests (k : Nat × (Int → Int)) (d : Nat) {σ : St} (h : HQ σ) (hP : PR σ) {p a b : Int} (p0 : 0 ≤ p) (p1 : p < σ 4 4) (a0 : 0 ≤ a) (ab : a ≤ b) (b1 : b ≤ 1500000) (ab2 : b < a + 800) : ∃ σ1, EV k (d + 7) mX5_lookAt [vR 4, vI p, vI a, vI b] σ = some (none, σ1) ∧ CE σ σ1 ∧ CV σ1 ∧ RST k σ1 p a b ∧ ∃ s e, LK σ σ1 s e p := by
  obtain ⟨σ1, l1, l2, l3, l4⟩ := lookAt_ok k d h hP p0 p1 a0 ab b1 ab2
  obtain ⟨s, hs⟩ : ∃ s, s = if a - 1 ≤ 0 then 0 else a - 1 := ⟨_, rfl⟩
  obtain ⟨e, he⟩ : ∃ e, e = if 1500001 ≤ b + 2 then 1500001 else b + 2 := ⟨_, rfl⟩
  rw [← hs, ← he] at l4
  have sb : 0 ≤ s ∧ a - 1 ≤ s ∧ s ≤ a ∧ (s = 0 ∨ s = a - 1) := by rw [hs]; split <;> omega
  have eb : e ≤ 1500001 ∧ e ≤ b + 2 ∧ (e = 1500001 ∨ e = b + 2) := by rw [he]; split <;> omega
  refine ⟨σ1, l1, l2, l3, fun d' n n0 n1 => ?_, s, e, l4⟩
  obtain ⟨v, r1, r2, r3⟩ := X5_rests_ok k d' l4 sb.1 (by omega) (by omega) (by omega) (hP.2.2.2.2.1 p p0 p1).2.1 (n := n) (by omega) (by omega) (by omega) (by omega)
  rw [r1, ofb_eq r2 (r3.trans (l2.off p n).symm)]
theorem off9 (k : Nat × (Int → Int)) (d : Nat) {σ : St} (h : HQ σ) (hP : PR σ) {n p : Int} (n0 : 0 ≤ n) (n1 : n ≤ 1500000) (p0 : 0 ≤ p) (p1 : p < σ 4 4) : ∃ ρ, EV k (d + 11) mX9_isOffDay [vR 33, vI p, vI n] σ = ansI (ofb σ p n) ρ ∧ RE σ ρ ∧ C9 ρ := by
  obtain ⟨v, ρ, a1, a2, a3, a4, a5⟩ := X9_isOffDay_ok k d h hP n0 n1 p0 p1
  exact ⟨ρ, by rw [a1, ofb_eq a4 a5], a2, a3⟩
/-- the reference's answer of a later state, by the first one -/
theorem off9' (k : Nat × (Int → Int)) (d : Nat) {σ τ : St} (h : HQ σ) (hP : PR σ) (r : RE σ τ) (c : C9 τ) {n p : Int} (n0 : 0 ≤ n) (n1 : n ≤ 1500000) (p0 : 0 ≤ p) (p1 : p < σ 4 4) : ∃ ρ, EV k (d + 11) mX9_isOffDay [vR 33, vI p, vI n] τ = ansI (ofb σ p n) ρ ∧ RE σ ρ ∧ C9 ρ := by
  obtain ⟨ρ, a1, a2, a3⟩ := off9 k d (h.re r c) (r.pr hP) n0 n1 p0 (by rw [r.1 4 (by decide)]; exact p1)
  exact ⟨ρ, by rw [a1, ofb_c (r.off p n)], r.trans a2, a3⟩
theorem X9_isParish_ok (k : Nat × (Int → Int)) (d : Nat) {σ : St} (hP : PR σ) {i : Int} (h1 : I32 i) : EV k (d + 2) mX9_isParish [vR 33, vI i] σ = ansI (if 0 ≤ i ∧ i < σ 4 4 then 1 else 0) σ := by
  have f1 := hP.1
  unfold I32 at h1
  rw [eX9_isParish, bX9_isParish_0, hP.2.2.1, X9_in_ok k d σ h1.1 h1.2 (by omega) (by omega) (by omega) (by omega), jbI_some]
  by_cases q : 0 ≤ i ∧ i < σ 4 4
  · rw [if_pos (show 0 ≤ i ∧ i ≤ σ 4 4 - 1 by omega), if_pos q]; rfl
  · rw [if_neg (show ¬ (0 ≤ i ∧ i ≤ σ 4 4 - 1) by omega), if_neg q]; rfl
theorem Qw_isOff (k : Nat × (Int → Int)) (d : Nat) {σ : St} (h : HQ σ) (hP : PR σ) {p n : Int} (h1 : I32 p) (h2 : I32 n) : Qw k (d + 12) mX8_isOff mX9_isOff [vI p, vI n] σ := by
  have b2 := h2
  unfold I32 at b2
  by_cases q : 0 ≤ p ∧ p < σ 4 4
  · by_cases z : 0 ≤ n ∧ n ≤ 1500000
    · obtain ⟨σ1, l1, l2, l3, l4, _⟩ := look_rests k (d + 4) h hP q.1 q.2 z.1 (Int.le_refl n) z.2 (by omega)
      have H1 := h.ce l2 l3
      have P1 := l2.pr hP
      have e4 : σ1 4 4 = σ 4 4 := l2.2.2 4 (by decide)
      obtain ⟨ρ, o1, o2, o3⟩ := off9 k d H1 P1 z.1 z.2 q.1 (show p < σ1 4 4 by omega)
      refine ⟨if w32 (ofb σ1 p n) = 0 then 0 else 1, σ1, ρ, ?_, ?_, l2, l3, o2, o3⟩
      · rw [eX8_isOff, bX8_isOff_0, X5_has_ok k (d + 10) h1 hP.1, jbI_some, ib, if_pos q, X8_isDay_ok k (d + 10) σ b2.1 b2.2, jbI_some, ib, if_pos z, l1, jbV_some, l4 (d + 9) n (by omega) (by omega), jbI_some]
        split <;> rfl
      · rw [eX9_isOff, bX9_isOff_0, X9_isParish_ok k (d + 9) P1 h1, jbI_some, ib, if_pos (by omega), w32_id (a := n) b2.1 b2.2, X9_isDay_ok k (d + 10) σ1 (by omega) (by omega), jbI_some, ib, if_pos z, o1, jbI_some]
        split <;> rfl
    · refine Qw.same (a := -3) h ?_ ?_
      · rw [eX8_isOff, bX8_isOff_0, X5_has_ok k (d + 10) h1 hP.1, jbI_some, ib, if_pos q, X8_isDay_ok k (d + 10) σ b2.1 b2.2, jbI_some, ib, if_neg z]
      · rw [eX9_isOff, bX9_isOff_0, X9_isParish_ok k (d + 9) hP h1, jbI_some, ib, if_pos q, w32_id (a := n) b2.1 b2.2, X9_isDay_ok k (d + 10) σ (by omega) (by omega), jbI_some, ib, if_neg z]
  · refine Qw.same (a := -1) h ?_ ?_
    · rw [eX8_isOff, bX8_isOff_0, X5_has_ok k (d + 10) h1 hP.1, jbI_some, ib, if_neg q]
    · rw [eX9_isOff, bX9_isOff_0, X9_isParish_ok k (d + 9) hP h1, jbI_some, ib, if_neg q]
theorem worked_loop (k : Nat × (Int → Int)) (d : Nat) {σ : St} (h : HQ σ) (hP : PR σ) {p a b : Int} (p0 : 0 ≤ p) (p1 : p < σ 4 4) (a0 : 0 ≤ a) (b1 : b ≤ 1500000) (hS : RST k σ p a b) : ∀ (t : Nat) (n x : Int) (τ : St), a ≤ n → n + t = b + 1 → RE σ τ → C9 τ → ∃ v ρ, out (WV k) (EV k (d + 11)) MX8_worked 63 [vR 0, vI p, vI a, vI b, vI x, vI n] [] σ = ansI v σ ∧ out (WV k) (EV k (d + 11)) MX9_worked 54 [vR 33, vI p, vI a, vI b, vI x, vI n] [] τ = ansI v ρ ∧ RE σ ρ ∧ C9 ρ := by
  intro t
  induction t with
  | zero =>
    intro n x τ n0 n1 r c
    refine ⟨x, τ, ?_, ?_, r, c⟩
    · rw [bX8_worked_63, w32_id (a := b) (by omega) (by omega), w32_id (a := n) (by omega) (by omega), if_pos (by omega)]
    · rw [bX9_worked_54, w32_id (a := b) (by omega) (by omega), w32_id (a := n) (by omega) (by omega), if_pos (by omega)]
  | succ t ih =>
    intro n x τ n0 n1 r c
    push_cast at n1
    obtain ⟨τ1, o1, o2, o3⟩ := off9' k d h hP r c (n := n) (by omega) (by omega) p0 p1
    rw [bX8_worked_63, bX9_worked_54, w32_id (a := b) (by omega) (by omega), w32_id (a := n) (by omega) (by omega), if_neg (by omega), if_neg (by omega), hS (d + 9) n n0 (by omega), jbI_some, o1, jbI_some]
    rcases ofb_or σ p n with z | z
    · rw [z, i00, i00]
      exact ih (n + 1) (x + 1) τ1 (by omega) (by omega) o2 o3
    · rw [z, i10, i10, show x + 0 = x by omega]
      exact ih (n + 1) x τ1 (by omega) (by omega) o2 o3
theorem Qw_worked (k : Nat × (Int → Int)) (d : Nat) {σ : St} (h : HQ σ) (hP : PR σ) {p a b : Int} (h1 : I32 p) (h2 : I32 a) (h3 : I32 b) : Qw k (d + 12) mX8_worked mX9_worked [vI p, vI a, vI b] σ := by
  have b2 := h2
  have b3 := h3
  unfold I32 at b2 b3
  by_cases q : 0 ≤ p ∧ p < σ 4 4
  · have c8 : ∀ τ, (EV k (d + 12) mX8_worked [vR 0, vI p, vI a, vI b] σ = τ) ↔ ((if b < a then ansI (-1) σ else if b - a < 800 then (if 0 ≤ a ∧ a ≤ 1500000 then (if 0 ≤ b ∧ b ≤ 1500000 then jbV (EV k (d + 11) mX5_lookAt [vR 4, vI p, vI a, vI b] σ) (fun τ4 => out (WV k) (EV k (d + 11)) MX8_worked 63 [vR 0, vI p, vI a, vI b, vI 0, vI a] [] τ4) else ansI (-3) σ) else ansI (-3) σ) else ansI (-1) σ) = τ) := by
      intro τ
      rw [eX8_worked, bX8_worked_0, X5_has_ok k (d + 10) h1 hP.1, jbI_some, ib, if_pos q, w32_id (a := a) b2.1 b2.2, w32_id (a := b) b3.1 b3.2, jlcp_lt (by omega) (by omega) (by omega) (by omega), X8_isDay_ok k (d + 10) σ b2.1 b2.2, jbI_some, ib, X8_isDay_ok k (d + 10) σ b3.1 b3.2, jbI_some, ib]
      by_cases l : b - a < 800
      · rw [if_pos l, if_pos (show w32 (if 800 < b - a then 1 else if b - a = 800 then 0 else -1) < 0 by rw [if_neg (by omega), if_neg (by omega)]; decide)]
      · rw [if_neg l]
        have nl : ¬ w32 (if 800 < b - a then 1 else if b - a = 800 then 0 else -1) < 0 := by
          by_cases e : 800 < b - a
          · rw [if_pos e]; decide
          · rw [if_neg e, if_pos (by omega)]; decide
        rw [if_neg nl]
    have c9 : ∀ ρ : St, PR ρ → ρ 4 4 = σ 4 4 → EV k (d + 12) mX9_worked [vR 33, vI p, vI a, vI b] ρ = if b < a then ansI (-1) ρ else if b - a < 800 then (if 0 ≤ a ∧ a ≤ 1500000 then (if 0 ≤ b ∧ b ≤ 1500000 then out (WV k) (EV k (d + 11)) MX9_worked 54 [vR 33, vI p, vI a, vI b, vI 0, vI a] [] ρ else ansI (-3) ρ) else ansI (-3) ρ) else ansI (-1) ρ := by
      intro ρ Pρ e4
      rw [eX9_worked, bX9_worked_0, X9_isParish_ok k (d + 9) Pρ h1, jbI_some, ib, if_pos (by omega), w32_id (a := a) b2.1 b2.2, w32_id (a := b) b3.1 b3.2, jlcp_lt (by omega) (by omega) (by omega) (by omega), X9_isDay_ok k (d + 10) ρ (by omega) (by omega), jbI_some, ib, X9_isDay_ok k (d + 10) ρ (by omega) (by omega), jbI_some, ib]
      by_cases l : b - a < 800
      · have nl : ¬ 0 < w32 (if 800 < b - a + 1 then 1 else if b - a + 1 = 800 then 0 else -1) := by
          rw [if_neg (by omega)]
          by_cases e : b - a + 1 = 800
          · rw [if_pos e]; decide
          · rw [if_neg e]; decide
        rw [if_pos l, if_neg nl]
      · rw [if_neg l, if_pos (show 0 < w32 (if 800 < b - a + 1 then 1 else if b - a + 1 = 800 then 0 else -1) by rw [if_pos (by omega)]; decide)]
    by_cases l1 : b < a
    · exact Qw.same (a := -1) h ((c8 _).2 (by rw [if_pos l1])) (by rw [c9 σ hP rfl, if_pos l1])
    · by_cases l2 : b - a < 800
      · by_cases z1 : 0 ≤ a ∧ a ≤ 1500000
        · by_cases z2 : 0 ≤ b ∧ b ≤ 1500000
          · obtain ⟨σ1, m1, m2, m3, m4, _⟩ := look_rests k (d + 4) h hP q.1 q.2 z1.1 (show a ≤ b by omega) z2.2 (by omega)
            have H1 := h.ce m2 m3
            have P1 := m2.pr hP
            have e4 : σ1 4 4 = σ 4 4 := m2.2.2 4 (by decide)
            obtain ⟨v, ρ, w1, w2, w3, w4⟩ := worked_loop k d H1 P1 q.1 (show p < σ1 4 4 by omega) z1.1 z2.2 m4 (b + 1 - a).toNat a 0 σ1 (by omega) (by omega) (RE.refl σ1) H1.2.2.2.2.2.2
            exact ⟨v, σ1, ρ, (c8 _).2 (by rw [if_neg l1, if_pos l2, if_pos z1, if_pos z2, m1, jbV_some]; exact w1), by rw [c9 σ1 P1 e4, if_neg l1, if_pos l2, if_pos z1, if_pos z2]; exact w2, m2, m3, w3, w4⟩
          · exact Qw.same (a := -3) h ((c8 _).2 (by rw [if_neg l1, if_pos l2, if_pos z1, if_neg z2])) (by rw [c9 σ hP rfl, if_neg l1, if_pos l2, if_pos z1, if_neg z2])
        · exact Qw.same (a := -3) h ((c8 _).2 (by rw [if_neg l1, if_pos l2, if_neg z1])) (by rw [c9 σ hP rfl, if_neg l1, if_pos l2, if_neg z1])
      · exact Qw.same (a := -1) h ((c8 _).2 (by rw [if_neg l1, if_neg l2])) (by rw [c9 σ hP rfl, if_neg l1, if_neg l2])
  · refine Qw.same (a := -1) h ?_ ?_
    · rw [eX8_worked, bX8_worked_0, X5_has_ok k (d + 10) h1 hP.1, jbI_some, ib, if_neg q]
    · rw [eX9_worked, bX9_worked_0, X9_isParish_ok k (d + 9) hP h1, jbI_some, ib, if_neg q]
theorem nextOff_loop (k : Nat × (Int → Int)) (d : Nat) {σ : St} (h : HQ σ) (hP : PR σ) {p n b : Int} (p0 : 0 ≤ p) (p1 : p < σ 4 4) (a0 : 0 ≤ n) (n1 : n ≤ 1500000) (b0 : n ≤ b) (b1 : b ≤ 1500000 ∧ b ≤ n + 400 ∧ (b = 1500000 ∨ b = n + 400)) (hS : RST k σ p n b) : ∀ (t : Nat) (m : Int) (τ : St), n ≤ m → m + t = b + 1 → RE σ τ → C9 τ → ∃ v ρ, out (WV k) (EV k (d + 11)) MX8_nextOff 49 [vR 0, vI p, vI n, vI b, vI m] [] σ = ansI v σ ∧ out (WV k) (EV k (d + 11)) MX9_nextOff 25 [vR 33, vI p, vI n, vI m] [] τ = ansI v ρ ∧ RE σ ρ ∧ C9 ρ := by
  intro t
  induction t with
  | zero =>
    intro m τ m0 m1 r c
    refine ⟨-2, τ, ?_, ?_, r, c⟩
    · rw [bX8_nextOff_49, w32_id (a := b) (by omega) (by omega), w32_id (a := m) (by omega) (by omega), if_pos (by omega)]
    · rw [bX9_nextOff_25, w32_id (a := n + 400) (by omega) (by omega), w32_id (a := m) (by omega) (by omega), show w32 1500000 = 1500000 by decide]
      by_cases z : n + 400 < m
      · rw [if_pos z]
      · rw [if_neg z, if_pos (by omega)]
  | succ t ih =>
    intro m τ m0 m1 r c
    push_cast at m1
    obtain ⟨τ1, o1, o2, o3⟩ := off9' k d h hP r c (n := m) (by omega) (by omega) p0 p1
    rw [bX8_nextOff_49, bX9_nextOff_25, w32_id (a := b) (by omega) (by omega), w32_id (a := m) (by omega) (by omega), w32_id (a := n + 400) (by omega) (by omega), show w32 1500000 = 1500000 by decide, if_neg (show ¬ b < m by omega), if_neg (show ¬ n + 400 < m by omega), if_neg (show ¬ 1500000 < m by omega), hS (d + 9) m m0 (by omega), jbI_some, o1, jbI_some]
    rcases ofb_or σ p m with z | z
    · rw [z, i00, i00]
      exact ih (m + 1) τ1 (by omega) (by omega) o2 o3
    · rw [z, i10, i10]
      exact ⟨m, τ1, rfl, rfl, o2, o3⟩
theorem Qw_nextOff (k : Nat × (Int → Int)) (d : Nat) {σ : St} (h : HQ σ) (hP : PR σ) {p n : Int} (h1 : I32 p) (h2 : I32 n) : Qw k (d + 12) mX8_nextOff mX9_nextOff [vI p, vI n] σ := by
  have b2 := h2
  unfold I32 at b2
  by_cases q : 0 ≤ p ∧ p < σ 4 4
  · by_cases z : 0 ≤ n ∧ n ≤ 1500000
    · obtain ⟨b, hb⟩ : ∃ b, b = if 1500000 ≤ n + 400 then 1500000 else n + 400 := ⟨_, rfl⟩
      have bb : b ≤ 1500000 ∧ b ≤ n + 400 ∧ (b = 1500000 ∨ b = n + 400) := by rw [hb]; split <;> omega
      obtain ⟨σ1, l1, l2, l3, l4, _⟩ := look_rests k (d + 4) h hP q.1 q.2 z.1 (show n ≤ b by omega) bb.1 (by omega)
      have H1 := h.ce l2 l3
      have P1 := l2.pr hP
      have e4 : σ1 4 4 = σ 4 4 := l2.2.2 4 (by decide)
      obtain ⟨v, ρ, w1, w2, w3, w4⟩ := nextOff_loop k d H1 P1 q.1 (show p < σ1 4 4 by omega) z.1 z.2 (by omega) bb l4 (b + 1 - (n + 1)).toNat (n + 1) σ1 (by omega) (by omega) (RE.refl σ1) H1.2.2.2.2.2.2
      refine ⟨v, σ1, ρ, ?_, ?_, l2, l3, w3, w4⟩
      · rw [eX8_nextOff, bX8_nextOff_0, X5_has_ok k (d + 10) h1 hP.1, jbI_some, ib, if_pos q, X8_isDay_ok k (d + 10) σ b2.1 b2.2, jbI_some, ib, if_pos z, J9_min_ok k (d + 10) σ (by omega) (by omega) (by omega) (by omega), jbI_some, ← hb, l1, jbV_some]
        exact w1
      · rw [eX9_nextOff, bX9_nextOff_0, X9_isParish_ok k (d + 9) P1 h1, jbI_some, ib, if_pos (by omega), w32_id (a := n) b2.1 b2.2, X9_isDay_ok k (d + 10) σ1 (by omega) (by omega), jbI_some, ib, if_pos z]
        exact w2
    · refine Qw.same (a := -3) h ?_ ?_
      · rw [eX8_nextOff, bX8_nextOff_0, X5_has_ok k (d + 10) h1 hP.1, jbI_some, ib, if_pos q, X8_isDay_ok k (d + 10) σ b2.1 b2.2, jbI_some, ib, if_neg z]
      · rw [eX9_nextOff, bX9_nextOff_0, X9_isParish_ok k (d + 9) hP h1, jbI_some, ib, if_pos q, w32_id (a := n) b2.1 b2.2, X9_isDay_ok k (d + 10) σ (by omega) (by omega), jbI_some, ib, if_neg z]
  · refine Qw.same (a := -1) h ?_ ?_
    · rw [eX8_nextOff, bX8_nextOff_0, X5_has_ok k (d + 10) h1 hP.1, jbI_some, ib, if_neg q]
    · rw [eX9_nextOff, bX9_nextOff_0, X9_isParish_ok k (d + 9) hP h1, jbI_some, ib, if_neg q]
theorem inRow_down (k : Nat × (Int → Int)) (d : Nat) {σ : St} (h : HQ σ) (hP : PR σ) {p n a b : Int} (p0 : 0 ≤ p) (p1 : p < σ 4 4) (n0 : 0 ≤ n) (n1 : n ≤ 1500000) (a1 : 0 ≤ a ∧ n - 50 ≤ a ∧ (a = 0 ∨ a = n - 50)) (nb : n ≤ b) (hS : RST k σ p a b) : ∀ (t : Nat) (f : Int) (τ : St), f = a + t → f ≤ n → RE σ τ → C9 τ → ∃ f2 ρ, a ≤ f2 ∧ f2 ≤ n ∧ out (WV k) (EV k (d + 11)) MX8_inRow 70 [vR 0, vI p, vI n, vI a, vI b, vI f, vU] [] σ = out (WV k) (EV k (d + 11)) MX8_inRow 99 [vR 0, vI p, vI n, vI a, vI b, vI f2, vI n] [] σ ∧ out (WV k) (EV k (d + 11)) MX9_inRow 39 [vR 33, vI p, vI n, vI (1 + (n - f)), vI (f - 1)] [] τ = out (WV k) (EV k (d + 11)) MX9_inRow 77 [vR 33, vI p, vI n, vI (1 + (n - f2)), vI (n + 1)] [] ρ ∧ RE σ ρ ∧ C9 ρ := by
  intro t
  induction t with
  | zero =>
    intro f τ ft fn r c
    refine ⟨f, τ, by omega, fn, ?_, ?_, r, c⟩
    · rw [bX8_inRow_70, w32_id (a := a) (by omega) (by omega), w32_id (a := f) (by omega) (by omega), if_neg (by omega)]
    · rw [bX9_inRow_39, w32_id (a := f - 1) (by omega) (by omega), w32_id (a := n - 50) (by omega) (by omega)]
      by_cases z : f - 1 < n - 50
      · rw [if_pos z]
      · rw [if_neg z, if_pos (by omega)]
  | succ t ih =>
    intro f τ ft fn r c
    push_cast at ft
    obtain ⟨τ1, o1, o2, o3⟩ := off9' k d h hP r c (n := f - 1) (by omega) (by omega) p0 p1
    rw [bX8_inRow_70, bX9_inRow_39, w32_id (a := a) (by omega) (by omega), w32_id (a := f) (by omega) (by omega), w32_id (a := f - 1) (by omega) (by omega), w32_id (a := n - 50) (by omega) (by omega), if_pos (show a < f by omega), if_neg (show ¬ f - 1 < n - 50 by omega), if_neg (show ¬ f - 1 < 0 by omega), hS (d + 9) (f - 1) (by omega) (by omega), jbI_some, o1, jbI_some]
    rcases ofb_or σ p (f - 1) with z | z
    · rw [z, i00, i00]
      exact ⟨f, τ1, by omega, fn, rfl, rfl, o2, o3⟩
    · rw [z, i10, i10, show f + -1 = f - 1 by omega, show 1 + (n - f) + 1 = 1 + (n - (f - 1)) by omega, show f - 1 + -1 = f - 1 - 1 by omega]
      exact ih (f - 1) τ1 (by omega) (by omega) o2 o3
theorem inRow_up (k : Nat × (Int → Int)) (d : Nat) {σ : St} (h : HQ σ) (hP : PR σ) {p n a b f : Int} (p0 : 0 ≤ p) (p1 : p < σ 4 4) (n0 : 0 ≤ n) (n1 : n ≤ 1500000) (an : a ≤ n) (b1 : b ≤ 1500000 ∧ b ≤ n + 50 ∧ (b = 1500000 ∨ b = n + 50)) (hS : RST k σ p a b) : ∀ (t : Nat) (m : Int) (τ : St), m + t = b → n ≤ m → RE σ τ → C9 τ → ∃ v ρ, out (WV k) (EV k (d + 11)) MX8_inRow 99 [vR 0, vI p, vI n, vI a, vI b, vI f, vI m] [] σ = ansI v σ ∧ out (WV k) (EV k (d + 11)) MX9_inRow 77 [vR 33, vI p, vI n, vI (1 + (m - f)), vI (m + 1)] [] τ = ansI v ρ ∧ RE σ ρ ∧ C9 ρ := by
  intro t
  induction t with
  | zero =>
    intro m τ mt nm r c
    refine ⟨m - f + 1, τ, ?_, ?_, r, c⟩
    · rw [bX8_inRow_99, w32_id (a := m) (by omega) (by omega), w32_id (a := b) (by omega) (by omega), if_neg (by omega)]
    · rw [bX9_inRow_77, w32_id (a := n + 50) (by omega) (by omega), w32_id (a := m + 1) (by omega) (by omega), show w32 1500000 = 1500000 by decide, show 1 + (m - f) = m - f + 1 by omega]
      by_cases z : n + 50 < m + 1
      · rw [if_pos z]
      · rw [if_neg z, if_pos (by omega)]
  | succ t ih =>
    intro m τ mt nm r c
    push_cast at mt
    obtain ⟨τ1, o1, o2, o3⟩ := off9' k d h hP r c (n := m + 1) (by omega) (by omega) p0 p1
    rw [bX8_inRow_99, bX9_inRow_77, w32_id (a := m) (by omega) (by omega), w32_id (a := b) (by omega) (by omega), w32_id (a := n + 50) (by omega) (by omega), w32_id (a := m + 1) (by omega) (by omega), show w32 1500000 = 1500000 by decide, if_pos (show m < b by omega), if_neg (show ¬ n + 50 < m + 1 by omega), if_neg (show ¬ 1500000 < m + 1 by omega), hS (d + 9) (m + 1) (by omega) (by omega), jbI_some, o1, jbI_some]
    rcases ofb_or σ p (m + 1) with z | z
    · rw [z, i00, i00]
      exact ⟨m - f + 1, τ1, rfl, by rw [show 1 + (m - f) = m - f + 1 by omega], o2, o3⟩
    · rw [z, i10, i10, show 1 + (m - f) + 1 = 1 + (m + 1 - f) by omega]
      exact ih (m + 1) τ1 (by omega) (by omega) o2 o3
theorem Qw_inRow (k : Nat × (Int → Int)) (d : Nat) {σ : St} (h : HQ σ) (hP : PR σ) {p n : Int} (h1 : I32 p) (h2 : I32 n) : Qw k (d + 12) mX8_inRow mX9_inRow [vI p, vI n] σ := by
  have b2 := h2
  unfold I32 at b2
  by_cases q : 0 ≤ p ∧ p < σ 4 4
  · by_cases z : 0 ≤ n ∧ n ≤ 1500000
    · obtain ⟨a, ha⟩ : ∃ a, a = if n - 50 ≤ 0 then 0 else n - 50 := ⟨_, rfl⟩
      have ab : 0 ≤ a ∧ n - 50 ≤ a ∧ (a = 0 ∨ a = n - 50) := by rw [ha]; split <;> omega
      obtain ⟨b, hb⟩ : ∃ b, b = if 1500000 ≤ n + 50 then 1500000 else n + 50 := ⟨_, rfl⟩
      have bb : b ≤ 1500000 ∧ b ≤ n + 50 ∧ (b = 1500000 ∨ b = n + 50) := by rw [hb]; split <;> omega
      obtain ⟨σ1, l1, l2, l3, l4, _⟩ := look_rests k (d + 4) h hP q.1 q.2 ab.1 (show a ≤ b by omega) bb.1 (by omega)
      have H1 := h.ce l2 l3
      have P1 := l2.pr hP
      have e4 : σ1 4 4 = σ 4 4 := l2.2.2 4 (by decide)
      have p1 : p < σ1 4 4 := by omega
      obtain ⟨ρ0, o1, o2, o3⟩ := off9 k d H1 P1 z.1 z.2 q.1 p1
      have s8 : EV k (d + 12) mX8_inRow [vR 0, vI p, vI n] σ = if w32 (ofb σ1 p n) = 0 then ansI 0 σ1 else out (WV k) (EV k (d + 11)) MX8_inRow 70 [vR 0, vI p, vI n, vI a, vI b, vI n, vU] [] σ1 := by
        rw [eX8_inRow, bX8_inRow_0, X5_has_ok k (d + 10) h1 hP.1, jbI_some, ib, if_pos q, X8_isDay_ok k (d + 10) σ b2.1 b2.2, jbI_some, ib, if_pos z, J9_max_ok k (d + 10) σ (by omega) (by omega) (by omega) (by omega), jbI_some, ← ha, J9_min_ok k (d + 10) σ (by omega) (by omega) (by omega) (by omega), jbI_some, ← hb, l1, jbV_some, l4 (d + 9) n (by omega) (by omega), jbI_some]
      have s9 : EV k (d + 12) mX9_inRow [vR 33, vI p, vI n] σ1 = if w32 (ofb σ1 p n) = 0 then ansI 0 ρ0 else out (WV k) (EV k (d + 11)) MX9_inRow 39 [vR 33, vI p, vI n, vI 1, vI (n - 1)] [] ρ0 := by
        rw [eX9_inRow, bX9_inRow_0, X9_isParish_ok k (d + 9) P1 h1, jbI_some, ib, if_pos (by omega), w32_id (a := n) b2.1 b2.2, X9_isDay_ok k (d + 10) σ1 (by omega) (by omega), jbI_some, ib, if_pos z, o1, jbI_some]
      rcases ofb_or σ1 p n with y | y
      · exact ⟨0, σ1, ρ0, by rw [s8, y, i00], by rw [s9, y, i00], l2, l3, o2, o3⟩
      · obtain ⟨f2, ρ1, f0, f1, u1, u2, u3, u4⟩ := inRow_down k d H1 P1 (b := b) q.1 p1 z.1 z.2 ab (by omega) l4 (n - a).toNat n ρ0 (by omega) (by omega) o2 o3
        obtain ⟨v, ρ, w1, w2, w3, w4⟩ := inRow_up k d H1 P1 (a := a) (f := f2) q.1 p1 z.1 z.2 (by omega) bb l4 (b - n).toNat n ρ1 (by omega) (by omega) u3 u4
        rw [show 1 + (n - n) = 1 by omega] at u2
        exact ⟨v, σ1, ρ, by rw [s8, y, i10, u1]; exact w1, by rw [s9, y, i10, u2]; exact w2, l2, l3, w3, w4⟩
    · refine Qw.same (a := -3) h ?_ ?_
      · rw [eX8_inRow, bX8_inRow_0, X5_has_ok k (d + 10) h1 hP.1, jbI_some, ib, if_pos q, X8_isDay_ok k (d + 10) σ b2.1 b2.2, jbI_some, ib, if_neg z]
      · rw [eX9_inRow, bX9_inRow_0, X9_isParish_ok k (d + 9) hP h1, jbI_some, ib, if_pos q, w32_id (a := n) b2.1 b2.2, X9_isDay_ok k (d + 10) σ (by omega) (by omega), jbI_some, ib, if_neg z]
  · refine Qw.same (a := -1) h ?_ ?_
    · rw [eX8_inRow, bX8_inRow_0, X5_has_ok k (d + 10) h1 hP.1, jbI_some, ib, if_neg q]
    · rw [eX9_inRow, bX9_inRow_0, X9_isParish_ok k (d + 9) hP h1, jbI_some, ib, if_neg q]
