/-! what the reference keeps of years; frames -/
def RE (σ ρ : St) : Prop := (∀ q, q ∉ [33, 45, 46, 47] → ρ q = σ q) ∧ ∀ a : Int, a ∉ ([3, 4, 5, 21, 22] : List Int) → ρ 33 a = σ 33 a
theorem RE.refl (σ : St) : RE σ σ := ⟨fun _ _ => rfl, fun _ _ => rfl⟩
theorem RE.trans {σ τ ρ : St} (h : RE σ τ) (g : RE τ ρ) : RE σ ρ := ⟨fun q hq => (g.1 q hq).trans (h.1 q hq), fun a ha => (g.2 a ha).trans (h.2 a ha)⟩
def CE (σ ρ : St) : Prop := (∀ q, q ∉ [3, 4, 19, 20, 21, 22, 29] → ρ q = σ q) ∧ (∀ a : Int, a ∉ ([11, 13] : List Int) → ρ 3 a = σ 3 a) ∧ ∀ a : Int, a ∉ ([11, 12, 13] : List Int) → ρ 4 a = σ 4 a
theorem CE.refl (σ : St) : CE σ σ := ⟨fun _ _ => rfl, fun _ _ => rfl, fun _ _ => rfl⟩
theorem CE.trans {σ τ ρ : St} (h : CE σ τ) (g : CE τ ρ) : CE σ ρ := ⟨fun q hq => (g.1 q hq).trans (h.1 q hq), fun a ha => (g.2.1 a ha).trans (h.2.1 a ha), fun a ha => (g.2.2 a ha).trans (h.2.2 a ha)⟩
/-- the cells that say what a feast's day is -/
def FSa (σ ρ : St) : Prop := ρ 1 = σ 1 ∧ ρ 8 = σ 8 ∧ ρ 9 = σ 9 ∧ ρ 13 = σ 13 ∧ ρ 14 = σ 14 ∧ ρ 15 = σ 15 ∧ ρ 16 = σ 16 ∧ ρ 17 = σ 17 ∧ ρ 18 = σ 18 ∧ ρ 3 6 = σ 3 6
theorem RE.fs {σ ρ : St} (h : RE σ ρ) : FSa σ ρ := ⟨h.1 1 (by decide), h.1 8 (by decide), h.1 9 (by decide), h.1 13 (by decide), h.1 14 (by decide), h.1 15 (by decide), h.1 16 (by decide), h.1 17 (by decide), h.1 18 (by decide), by rw [h.1 3 (by decide)]⟩
theorem CE.fs {σ ρ : St} (h : CE σ ρ) : FSa σ ρ := ⟨h.1 1 (by decide), h.1 8 (by decide), h.1 9 (by decide), h.1 13 (by decide), h.1 14 (by decide), h.1 15 (by decide), h.1 16 (by decide), h.1 17 (by decide), h.1 18 (by decide), h.2.1 6 (by decide)⟩
theorem FSa.um {σ ρ : St} (h : FSa σ ρ) (y : Int) : um ρ y = um σ y := by
  obtain ⟨a1, a8, a9, a13, a14, a15, a16, a17, a18, a6⟩ := h
  exact um_same (by rw [a1]) a9 a13 a14 a15 a16 y
theorem FSa.cf {σ ρ : St} (h : FSa σ ρ) (g : CF σ) : CF ρ := CF_same h.1 h.2.1 h.2.2.1 g
theorem FSa.fv {σ ρ : St} (h : FSa σ ρ) (g : FV σ) : FV ρ := by
  obtain ⟨a1, a8, a9, a13, a14, a15, a16, a17, a18, a6⟩ := h
  exact FV_same a6 a13 a14 a15 a16 a17 g
theorem FSa.ord {σ ρ : St} (h : FSa σ ρ) (g : ORD σ) : ORD ρ := by
  obtain ⟨a1, a8, a9, a13, a14, a15, a16, a17, a18, a6⟩ := h
  exact ORD_same a6 a17 a18 g
theorem FSa.pls {σ ρ : St} (h : FSa σ ρ) {y : Int} {p : Int → Int} (g : PLs σ y p) : PLs ρ y p := by
  have hu := h.um y
  obtain ⟨a1, a8, a9, a13, a14, a15, a16, a17, a18, a6⟩ := h
  exact PLs_same hu a17 a6 g
theorem FSa.symm {σ ρ : St} (h : FSa σ ρ) : FSa ρ σ := by
  obtain ⟨a1, a8, a9, a13, a14, a15, a16, a17, a18, a6⟩ := h
  exact ⟨a1.symm, a8.symm, a9.symm, a13.symm, a14.symm, a15.symm, a16.symm, a17.symm, a18.symm, a6.symm⟩
theorem RE.mr {σ ρ : St} (h : RE σ ρ) (g : MR σ) : MR ρ := MR_same (h.1 1 (by decide)) (h.1 9 (by decide)) (h.2 0 (by decide)) (h.1 34 (by decide)) (h.1 35 (by decide)) g
theorem CE.mr {σ ρ : St} (h : CE σ ρ) (g : MR σ) : MR ρ := MR_same (h.1 1 (by decide)) (h.1 9 (by decide)) (by rw [h.1 33 (by decide)]) (h.1 34 (by decide)) (h.1 35 (by decide)) g
theorem FR_same {σ ρ : St} (f : FSa σ ρ) (h12 : ρ 33 12 = σ 33 12) (h40 : ρ 40 = σ 40) (h41 : ρ 41 = σ 41) (h42 : ρ 42 = σ 42) (h43 : ρ 43 = σ 43) (h44 : ρ 44 = σ 44) (g : FR σ σ) : FR ρ ρ := by
  obtain ⟨a1, a8, a9, a13, a14, a15, a16, a17, a18, a6⟩ := f
  unfold FR
  rw [h12, h40, h41, h42, h43, h44, a13, a14, a15, a16, a17, a6]
  exact g
theorem RE.fr {σ ρ : St} (h : RE σ ρ) (g : FR σ σ) : FR ρ ρ := FR_same h.fs (h.2 12 (by decide)) (h.1 40 (by decide)) (h.1 41 (by decide)) (h.1 42 (by decide)) (h.1 43 (by decide)) (h.1 44 (by decide)) g
theorem CE.fr {σ ρ : St} (h : CE σ ρ) (g : FR σ σ) : FR ρ ρ := FR_same h.fs (by rw [h.1 33 (by decide)]) (h.1 40 (by decide)) (h.1 41 (by decide)) (h.1 42 (by decide)) (h.1 43 (by decide)) (h.1 44 (by decide)) g
def KP (σ : St) (s y : Int) : Prop := (∀ j, 0 ≤ j → j < σ 3 6 → σ 46 (s + j) = um σ y j) ∧ PLs σ y (fun g => σ 47 (s + g))
def C9 (σ : St) : Prop := (0 ≤ σ 33 21 ∧ σ 33 21 ≤ 3) ∧ (σ 33 22 = 0 ∨ σ 33 22 = 1) ∧ (σ 33 22 = 1 → ∀ s, 0 ≤ s → s < 4 → I32 (σ 45 s) ∧ (0 ≤ σ 45 s → σ 45 s ≤ 5000 → KP σ (60 * s) (σ 45 s)))
theorem KP_f {σ ρ : St} (h : FSa σ ρ) (n60 : σ 3 6 ≤ 60) {s y : Int} (e : ∀ j, 0 ≤ j → j < 60 → ρ 46 (s + j) = σ 46 (s + j) ∧ ρ 47 (s + j) = σ 47 (s + j)) (g : KP σ s y) : KP ρ s y := by
  have hu := h.um y
  have h6 : ρ 3 6 = σ 3 6 := h.2.2.2.2.2.2.2.2.2
  refine ⟨fun j j0 j1 => ?_, h.pls (PLs_p (fun j j0 j1 => (e j j0 (by omega)).2) g.2)⟩
  rw [hu, (e j j0 (by omega)).1]
  exact g.1 j j0 (by omega)
theorem CE.c9 {σ ρ : St} (h : CE σ ρ) (n60 : σ 3 6 ≤ 60) (g : C9 σ) : C9 ρ := by
  have e33 := h.1 33 (by decide)
  have e45 := h.1 45 (by decide)
  have e46 := h.1 46 (by decide)
  have e47 := h.1 47 (by decide)
  refine ⟨by rw [e33]; exact g.1, by rw [e33]; exact g.2.1, fun z s s0 s1 => ?_⟩
  rw [e33] at z
  obtain ⟨g1, g2⟩ := g.2.2 z s s0 s1
  rw [e45]
  exact ⟨g1, fun a b => KP_f h.fs n60 (fun j _ _ => by rw [e46, e47]; exact ⟨rfl, rfl⟩) (g2 a b)⟩
theorem RE.cv {σ ρ : St} (h : RE σ ρ) (g : CV σ) : CV ρ := by
  have e3 := h.1 3 (by decide)
  have e19 := h.1 19 (by decide)
  have e20 := h.1 20 (by decide)
  have e21 := h.1 21 (by decide)
  intro s s0 s1
  rw [e3, e19, e20, e21]
  obtain ⟨g1, g2⟩ := g s s0 s1
  refine ⟨g1, fun a b => ?_⟩
  rw [h.fs.um]
  obtain ⟨c1, c2⟩ := g2 a b
  exact ⟨c1, h.fs.pls c2⟩
theorem kept_reset (k : Nat × (Int → Int)) (d : Nat) {σ : St} (y : Int) : ∀ (t : Nat) (i : Int) (τ : St), 0 ≤ i → i + t = 4 → (∀ j, 0 ≤ j → j < i → τ 45 j = -1) → (∀ q, q ≠ 45 → τ q = σ q) → ∃ ρ, (∀ j, 0 ≤ j → j < 4 → ρ 45 j = -1) ∧ (∀ q, q ≠ 45 → ρ q = σ q) ∧ out (WV k) (EV k d) MX9_kept 9 [vR 33, vI y, vI i] [] τ = out (WV k) (EV k d) MX9_kept 34 [vR 33, vI y, vI 0] [] (st2 ρ 33 22 1) := by
  intro t
  induction t with
  | zero =>
    intro i τ i0 i1 h1 h2
    have e : i = 4 := by omega
    subst e
    exact ⟨τ, h1, h2, by rw [bX9_kept_9]; rfl⟩
  | succ t ih =>
    intro i τ i0 i1 h1 h2
    push_cast at i1
    rw [bX9_kept_9, w32_id (a := i) (by omega) (by omega), show w32 4 = 4 by decide, if_pos (by omega), if_pos (by omega)]
    refine ih (i + 1) _ (by omega) (by omega) (fun j j0 j1 => ?_) (fun q hq => by rw [st2_ne hq]; exact h2 q hq)
    by_cases z : j = i
    · rw [z, st2_eq]
    · rw [st2_idx z]; exact h1 j j0 (by omega)
theorem kept_find (k : Nat × (Int → Int)) (d : Nat) {σ : St} {y : Int} (y1 : 0 ≤ y) (y2 : y ≤ 5000) (h : ∀ j, 0 ≤ j → j < 4 → I32 (σ 45 j)) : ∀ (t : Nat) (i : Int), 0 ≤ i → i + t = 4 → (∀ j, 0 ≤ j → j < i → σ 45 j ≠ y) → (∃ j, 0 ≤ j ∧ j < 4 ∧ σ 45 j = y ∧ out (WV k) (EV k d) MX9_kept 34 [vR 33, vI y, vI i] [] σ = ansI (60 * j) σ) ∨ ((∀ j, 0 ≤ j → j < 4 → σ 45 j ≠ y) ∧ out (WV k) (EV k d) MX9_kept 34 [vR 33, vI y, vI i] [] σ = out (WV k) (EV k d) MX9_kept 34 [vR 33, vI y, vI 4] [] σ) := by
  intro t
  induction t with
  | zero =>
    intro i i0 i1 h1
    have e : i = 4 := by omega
    subst e
    exact Or.inr ⟨h1, rfl⟩
  | succ t ih =>
    intro i i0 i1 h1
    push_cast at i1
    have hi := h i i0 (by omega)
    unfold I32 at hi
    have eq : out (WV k) (EV k d) MX9_kept 34 [vR 33, vI y, vI i] [] σ = if σ 45 i = y then ansI (60 * i) σ else out (WV k) (EV k d) MX9_kept 34 [vR 33, vI y, vI (i + 1)] [] σ := by
      rw [bX9_kept_34, w32_id (a := i) (by omega) (by omega), show w32 4 = 4 by decide, if_pos (show i < 4 by omega), if_pos (show 0 ≤ i ∧ i < 4 by omega), w32_id (a := σ 45 i) hi.1 hi.2, w32_id (a := y) (by omega) (by omega)]
    by_cases z : σ 45 i = y
    · exact Or.inl ⟨i, i0, by omega, z, by rw [eq, if_pos z]⟩
    · rw [eq, if_neg z]
      refine ih (i + 1) (by omega) (by omega) (fun j j0 j1 => ?_)
      by_cases w : j = i
      · rw [w]; exact z
      · exact h1 j j0 (by omega)
theorem X9_kept_ok (k : Nat × (Int → Int)) (d : Nat) {σ : St} (hC : CF σ) (hM : MR σ) (hF : FV σ) (hR : FR σ σ) (h9 : C9 σ) {y : Int} (y1 : 0 ≤ y) (y2 : y ≤ 5000) : ∃ ρ j, EV k (d + 9) mX9_kept [vR 33, vI y] σ = ansI (60 * j) ρ ∧ 0 ≤ j ∧ j < 4 ∧ RE σ ρ ∧ C9 ρ ∧ ρ 33 22 = 1 ∧ KP ρ (60 * j) y := by
  have n60 := hF.1.2
  obtain ⟨σ1, r1, c1, f1, o1⟩ : ∃ σ1, RE σ σ1 ∧ C9 σ1 ∧ σ1 33 22 = 1 ∧ EV k (d + 9) mX9_kept [vR 33, vI y] σ = out (WV k) (EV k (d + 8)) MX9_kept 34 [vR 33, vI y, vI 0] [] σ1 := by
    rw [eX9_kept, bX9_kept_0]
    rcases h9.2.1 with z | z
    · obtain ⟨ρ, p1, p2, p3⟩ := kept_reset k (d + 8) (σ := σ) y 4 0 σ (by omega) rfl (fun j _ _ => by omega) (fun _ _ => rfl)
      refine ⟨st2 ρ 33 22 1, ⟨fun q hq => ?_, fun a ha => ?_⟩, ⟨?_, Or.inr (st2_eq _ _ _ _), fun _ s s0 s1 => ?_⟩, st2_eq _ _ _ _, ?_⟩
      · rw [st2_ne (by rintro rfl; exact hq (by decide)), p2 q (by rintro rfl; exact hq (by decide))]
      · rw [st2_idx (by rintro rfl; exact ha (by decide)), p2 33 (by decide)]
      · rw [st2_idx (by decide), p2 33 (by decide)]; exact h9.1
      · rw [st2_cell (by decide), p1 s s0 s1]
        exact ⟨by unfold I32; omega, fun w => by omega⟩
      · rw [z, i00]; exact p3
    · exact ⟨σ, RE.refl σ, h9, z, by rw [z, i10]⟩
  obtain ⟨g1, g2, g3⟩ := c1
  have g4 := g3 f1
  rw [o1]
  rcases kept_find k (d + 8) y1 y2 (fun j a b => (g4 j a b).1) 4 0 (by omega) rfl (fun j _ _ => by omega) with ⟨j, j0, j1, j2, j3⟩ | ⟨nf, e⟩
  · have kp := (g4 j j0 j1).2 (by omega) (by omega)
    rw [j2] at kp
    exact ⟨σ1, j, j3, j0, j1, r1, ⟨g1, g2, g3⟩, f1, kp⟩
  · rw [e, bX9_kept_34, if_neg (by decide), st2_eq]
    obtain ⟨n', hn⟩ : ∃ n', n' = jr (σ1 33 21 + 1) 4 := ⟨_, rfl⟩
    have nn : n' = (σ1 33 21 + 1) % 4 := by rw [hn, jr_pos (by omega) (by omega) (by omega) (by omega)]
    rw [← hn]
    have nb : 0 ≤ n' ∧ n' < 4 := by omega
    rw [w32_id (a := n') (by omega) (by omega), if_pos nb]
    obtain ⟨σ2, e2⟩ : ∃ σ2, σ2 = st2 (st2 σ1 33 21 n') 45 n' y := ⟨_, rfl⟩
    rw [← e2]
    have v21 : σ2 33 21 = n' := by rw [e2, st2_cell (by decide), st2_eq]
    have v22 : σ2 33 22 = 1 := by rw [e2, st2_cell (by decide), st2_idx (by decide)]; exact f1
    have r2 : RE σ1 σ2 := by
      refine ⟨fun q hq => ?_, fun a ha => ?_⟩
      · rw [e2, st2_ne (by rintro rfl; exact hq (by decide)), st2_ne (by rintro rfl; exact hq (by decide))]
      · rw [e2, st2_cell (by decide), st2_idx (by rintro rfl; exact ha (by decide))]
    have r12 := r1.trans r2
    obtain ⟨ρ, m1, m2, m3, m4, m5⟩ := X9_place_ok k d (r12.fs.cf hC) (r12.mr hM) (r12.fs.fv hF) (r12.fr hR) (s := 60 * n') (y := y) y1 y2 (by omega) (by omega)
    rw [v21, m1, jbV_some]
    have r3 : RE σ2 ρ := ⟨fun q hq => m2 q (by rintro rfl; exact hq (by decide)) (by rintro rfl; exact hq (by decide)), fun a _ => by rw [m2 33 (by decide) (by decide)]⟩
    have u21 : ρ 33 21 = n' := by rw [m2 33 (by decide) (by decide), v21]
    have u22 : ρ 33 22 = 1 := by rw [m2 33 (by decide) (by decide), v22]
    have n60' : σ2 3 6 ≤ 60 := by rw [r12.fs.2.2.2.2.2.2.2.2.2]; exact n60
    have n61 : σ1 3 6 ≤ 60 := by rw [r1.fs.2.2.2.2.2.2.2.2.2]; exact n60
    have kp : KP ρ (60 * n') y := by
      refine ⟨fun j j0 j1 => ?_, r3.fs.pls m5⟩
      rw [r3.fs.um]
      exact m4 j j0 (by rw [← r3.fs.2.2.2.2.2.2.2.2.2]; exact j1)
    refine ⟨ρ, n', by rw [u21], nb.1, nb.2, r12.trans r3, ⟨by rw [u21]; omega, Or.inr u22, fun _ s s0 s1 => ?_⟩, u22, kp⟩
    rw [m2 45 (by decide) (by decide)]
    by_cases z : s = n'
    · rw [z, e2, st2_eq]
      exact ⟨by unfold I32; omega, fun _ _ => kp⟩
    · rw [e2, st2_idx z, st2_cell (by decide)]
      obtain ⟨b1, b2⟩ := g4 s s0 s1
      refine ⟨b1, fun w1 w2 => KP_f (r2.trans r3).fs n61 (fun j j0 j1 => ?_) (b2 w1 w2)⟩
      have o := m3 (60 * s + j) (by omega)
      rw [e2] at o
      exact o
