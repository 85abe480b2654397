/-! the placed day of a feast as a function; what holds of calendars and feasts and of what is kept of them -/
noncomputable def PD (σ : St) (y : Int) : Int → Int := @dite _ (∃ p, PLs σ y p) (Classical.propDecidable _) (fun h => Classical.choose h) (fun _ => fun _ => -2)
theorem PD_pls {σ : St} {y : Int} {p : Int → Int} (h : PLs σ y p) : PLs σ y (PD σ y) := by
  have hx : ∃ p, PLs σ y p := ⟨p, h⟩
  unfold PD
  rw [dif_pos hx]
  exact Classical.choose_spec hx
theorem PD_eq {σ : St} (hF : FV σ) {y : Int} {p : Int → Int} (h : PLs σ y p) : ∀ g, 0 ≤ g → g < σ 3 6 → p g = PD σ y g := PLs_one hF h (PD_pls h)
theorem FSa.pd {σ ρ : St} (h : FSa σ ρ) (y : Int) : PD ρ y = PD σ y := by
  have e : PLs ρ y = PLs σ y := funext fun p => propext ⟨fun g => h.symm.pls g, fun g => h.pls g⟩
  unfold PD
  rw [e]
def HQ (σ : St) : Prop := CF σ ∧ MR σ ∧ FV σ ∧ FR σ σ ∧ ORD σ ∧ CV σ ∧ C9 σ
theorem HQ.ce {σ ρ : St} (h : HQ σ) (c : CE σ ρ) (v : CV ρ) : HQ ρ := by
  obtain ⟨h1, h2, h3, h4, h5, h6, h7⟩ := h
  exact ⟨c.fs.cf h1, c.mr h2, c.fs.fv h3, c.fr h4, c.fs.ord h5, v, c.c9 h3.1.2 h7⟩
theorem HQ.re {σ ρ : St} (h : HQ σ) (c : RE σ ρ) (v : C9 ρ) : HQ ρ := by
  obtain ⟨h1, h2, h3, h4, h5, h6, h7⟩ := h
  exact ⟨c.fs.cf h1, c.mr h2, c.fs.fv h3, c.fr h4, c.fs.ord h5, c.cv h6, v⟩
/-- the component's tables stand at a year -/
def PT (σ : St) (y : Int) : Prop := (0 ≤ σ 3 11 ∧ σ 3 11 ≤ 420) ∧ ∀ j, 0 ≤ j → j < σ 3 6 → σ 20 (σ 3 11 + j) = um σ y j ∧ σ 21 (σ 3 11 + j) = PD σ y j
def KT (σ : St) (s y : Int) : Prop := ∀ j, 0 ≤ j → j < σ 3 6 → σ 46 (s + j) = um σ y j ∧ σ 47 (s + j) = PD σ y j
theorem place2 (k : Nat × (Int → Int)) (d : Nat) {σ : St} (h : HQ σ) {y : Int} (y1 : 0 ≤ y) (y2 : y ≤ 5000) : ∃ ρ, EV k (d + 6) mX2_place [vR 3, vI y] σ = some (none, ρ) ∧ CE σ ρ ∧ CV ρ ∧ PT ρ y ∧ ∀ q, q ∉ [3, 19, 20, 21, 22] → ρ q = σ q := by
  obtain ⟨h1, h2, h3, h4, h5, h6, h7⟩ := h
  obtain ⟨ρ, p1, p2, p3, p4, p5, p6, p7⟩ := X2_place_ok k d h1 h3 h5 h6 y1 y2
  have c : CE σ ρ := by
    refine ⟨fun q hq => p6 q (by rintro rfl; exact hq (by decide)) (by rintro rfl; exact hq (by decide)) (by rintro rfl; exact hq (by decide)) (by rintro rfl; exact hq (by decide)) (by rintro rfl; exact hq (by decide)), fun a ha => p7 a (by rintro rfl; exact ha (by decide)) (by rintro rfl; exact ha (by decide)), fun a _ => by rw [p6 4 (by decide) (by decide) (by decide) (by decide) (by decide)]⟩
  have e6 : ρ 3 6 = σ 3 6 := c.fs.2.2.2.2.2.2.2.2.2
  refine ⟨ρ, p1, c, p2, ⟨by rw [p3]; omega, fun j j0 j1 => ?_⟩, fun q hq => p6 q (by rintro rfl; exact hq (by decide)) (by rintro rfl; exact hq (by decide)) (by rintro rfl; exact hq (by decide)) (by rintro rfl; exact hq (by decide)) (by rintro rfl; exact hq (by decide))⟩
  rw [e6] at j1
  rw [p3, c.fs.um, c.fs.pd]
  exact ⟨p4 j j0 j1, PD_eq h3 p5 j j0 j1⟩
theorem kept9 (k : Nat × (Int → Int)) (d : Nat) {σ : St} (h : HQ σ) {y : Int} (y1 : 0 ≤ y) (y2 : y ≤ 5000) : ∃ ρ j, EV k (d + 9) mX9_kept [vR 33, vI y] σ = ansI (60 * j) ρ ∧ 0 ≤ j ∧ j < 4 ∧ RE σ ρ ∧ C9 ρ ∧ KT ρ (60 * j) y := by
  obtain ⟨h1, h2, h3, h4, h5, h6, h7⟩ := h
  obtain ⟨ρ, j, p1, p2, p3, p4, p5, p6, p7⟩ := X9_kept_ok k d h1 h2 h3 h4 h7 y1 y2
  exact ⟨ρ, j, p1, p2, p3, p4, p5, fun g g0 g1 => ⟨p7.1 g g0 g1, PD_eq (p4.fs.fv h3) p7.2 g g0 g1⟩⟩
theorem PD_cls {σ : St} (h : HQ σ) {y : Int} (y1 : 0 ≤ y) (y2 : y ≤ 5000) {g : Int} (g0 : 0 ≤ g) (g1 : g < σ 3 6) : cls σ y (PD σ y) g := by
  obtain ⟨h1, h2, h3, h4, h5, h6, h7⟩ := h
  obtain ⟨ρ, p1, p2, p3, p4, p5, p6, p7⟩ := X2_place_ok (0, fun _ => 0) 0 h1 h3 h5 h6 y1 y2
  exact PD_pls p5 g g0 g1
theorem PD_b {σ : St} (h : HQ σ) {y : Int} (y1 : 0 ≤ y) (y2 : y ≤ 5000) {g : Int} (g0 : 0 ≤ g) (g1 : g < σ 3 6) : -2 ≤ PD σ y g ∧ PD σ y g ≤ 1500000 ∧ (PD σ y g = -2 ∨ 0 ≤ PD σ y g) := by
  have c := PD_cls h y1 y2 g0 g1
  obtain ⟨fo, rk⟩ := h.2.2.1.2 g g0 g1
  have b := cls_b rk.1 c
  refine ⟨b.1, b.2, ?_⟩
  have uo := um_or y g0 fo
  by_cases q : um σ y g = -2
  · exact Or.inl (c.1 q)
  · by_cases r : σ 17 g = 0
    · rw [c.2.1 q r]; exact uo
    · obtain ⟨v, _, e⟩ := c.2.2 q (by omega)
      rw [e]
      exact dyn_or v
theorem X2_placedDay_ok (k : Nat × (Int → Int)) (d : Nat) {σ : St} (hF : FV σ) {y i : Int} (h : PT σ y) (i0 : 0 ≤ i) (i1 : i < σ 3 6) : EV k (d + 2) mX2_placedDay [vR 3, vI i] σ = ansI (PD σ y i) σ := by
  have f1 := hF.1
  have s := h.1
  rw [eX2_placedDay, bX2_placedDay_0, X2_has_ok k d (by unfold I32; omega) hF.1, jbI_some, ib, if_pos ⟨i0, i1⟩, w32_id (a := σ 3 11 + i) (by omega) (by omega), if_pos (by omega), (h.2 i i0 i1).2]
theorem X2_unmovedDay_ok (k : Nat × (Int → Int)) (d : Nat) {σ : St} (hF : FV σ) {y i : Int} (h : PT σ y) (i0 : 0 ≤ i) (i1 : i < σ 3 6) : EV k (d + 2) mX2_unmovedDay [vR 3, vI i] σ = ansI (um σ y i) σ := by
  have f1 := hF.1
  have s := h.1
  rw [eX2_unmovedDay, bX2_unmovedDay_0, X2_has_ok k d (by unfold I32; omega) hF.1, jbI_some, ib, if_pos ⟨i0, i1⟩, w32_id (a := σ 3 11 + i) (by omega) (by omega), if_pos (by omega), (h.2 i i0 i1).1]
theorem X2_inOrder_ok (k : Nat × (Int → Int)) (d : Nat) {σ : St} (hF : FV σ) {i : Int} (i0 : 0 ≤ i) (i1 : i < σ 3 6) : EV k (d + 2) mX2_inOrder [vR 3, vI i] σ = ansI (σ 18 i) σ := by
  have f1 := hF.1
  rw [eX2_inOrder, bX2_inOrder_0, X2_has_ok k d (by unfold I32; omega) hF.1, jbI_some, ib, if_pos ⟨i0, i1⟩, w32_id (a := i) (by omega) (by omega), if_pos (by omega)]
theorem X2_rankOf_ok (k : Nat × (Int → Int)) (d : Nat) {σ : St} (hF : FV σ) {i : Int} (i0 : 0 ≤ i) (i1 : i < σ 3 6) : EV k (d + 2) mX2_rankOf [vR 3, vI i] σ = ansI (σ 17 i) σ := by
  have f1 := hF.1
  rw [eX2_rankOf, bX2_rankOf_0, X2_has_ok k d (by unfold I32; omega) hF.1, jbI_some, ib, if_pos ⟨i0, i1⟩, w32_id (a := i) (by omega) (by omega), if_pos (by omega)]
theorem X9_isFeast_ok (k : Nat × (Int → Int)) (d : Nat) {σ : St} (hF : FV σ) (hR : FR σ σ) {i : Int} (h1 : I32 i) : EV k (d + 2) mX9_isFeast [vR 33, vI i] σ = ansI (if 0 ≤ i ∧ i < σ 3 6 then 1 else 0) σ := by
  have f1 := hF.1
  unfold I32 at h1
  rw [eX9_isFeast, bX9_isFeast_0, hR.1, X9_in_ok k d σ h1.1 h1.2 (by omega) (by omega) (by omega) (by omega), jbI_some]
  by_cases q : 0 ≤ i ∧ i < σ 3 6
  · rw [if_pos (show 0 ≤ i ∧ i ≤ σ 3 6 - 1 by omega), if_pos q]; rfl
  · rw [if_neg (show ¬ (0 ≤ i ∧ i ≤ σ 3 6 - 1) by omega), if_neg q]; rfl
def Qw (k : Nat × (Int → Int)) (D : Nat) (m8 m9 : Nat) (as : List PV) (σ : St) : Prop := ∃ a σ1 ρ, EV k D m8 (vR 0 :: as) σ = ansI a σ1 ∧ EV k D m9 (vR 33 :: as) σ1 = ansI a ρ ∧ CE σ σ1 ∧ CV σ1 ∧ RE σ1 ρ ∧ C9 ρ
theorem Qw.same {k : Nat × (Int → Int)} {D : Nat} {m8 m9 : Nat} {as : List PV} {σ : St} {a : Int} (h : HQ σ) (h8 : EV k D m8 (vR 0 :: as) σ = ansI a σ) (h9 : EV k D m9 (vR 33 :: as) σ = ansI a σ) : Qw k D m8 m9 as σ := ⟨a, σ, σ, h8, h9, CE.refl σ, h.2.2.2.2.2.1, RE.refl σ, h.2.2.2.2.2.2⟩
theorem yl0 (n : Int) : ylst n 0 = 5000 := rfl
theorem Qw_feastDay (k : Nat × (Int → Int)) (d : Nat) {σ : St} (h : HQ σ) {i y : Int} (h1 : I32 i) (h2 : I32 y) : Qw k (d + 12) mX8_feastDay mX9_feastDay [vI i, vI y] σ := by
  obtain ⟨g1, g2, g3, g4, g5, g6, g7⟩ := id h
  have f1 := g3.1
  have b1 := h1
  have b2 := h2
  unfold I32 at b1 b2
  by_cases q : 0 ≤ i ∧ i < σ 3 6
  · by_cases qy : 0 ≤ y ∧ y ≤ 5000
    · obtain ⟨σ1, p1, p2, p3, p4, _⟩ := place2 k (d + 5) h qy.1 qy.2
      have H1 := h.ce p2 p3
      have e6 : σ1 3 6 = σ 3 6 := p2.fs.2.2.2.2.2.2.2.2.2
      obtain ⟨ρ, j, r1, r2, r3, r4, r5, r6⟩ := kept9 k (d + 2) H1 qy.1 qy.2
      have e6' : ρ 3 6 = σ1 3 6 := r4.fs.2.2.2.2.2.2.2.2.2
      refine ⟨PD σ1 y i, σ1, ρ, ?_, ?_, p2, p3, r4, r5⟩
      · rw [eX8_feastDay, bX8_feastDay_0, X2_has_ok k (d + 10) h1 f1, jbI_some, ib, if_pos q, X0_hasYear_ok k (d + 9) g1 (by omega) (by omega) b2.1 b2.2, jbI_some, ib, if_pos (show yfst 0 ≤ y ∧ y ≤ ylst (σ 1 2) 0 from qy), p1, jbV_some, X2_placedDay_ok k (d + 9) H1.2.2.1 p4 q.1 (by omega), jbI_some]
      · rw [eX9_feastDay, bX9_feastDay_0, X9_isFeast_ok k (d + 9) H1.2.2.1 H1.2.2.2.1 h1, jbI_some, ib, if_pos (by omega), X9_isYear_ok k (d + 9) H1.1 H1.2.1 (by omega) (by omega) b2.1 b2.2, jbI_some, ib, if_pos (show yfst 0 ≤ y ∧ y ≤ ylst (σ1 1 2) 0 from qy), r1, jbI_some, w32_id (a := 60 * j + i) (by omega) (by omega), if_pos (by omega), (r6 i q.1 (by omega)).2, r4.fs.pd]
    · refine Qw.same (a := -2) h ?_ ?_
      · rw [eX8_feastDay, bX8_feastDay_0, X2_has_ok k (d + 10) h1 f1, jbI_some, ib, if_pos q, X0_hasYear_ok k (d + 9) g1 (by omega) (by omega) b2.1 b2.2, jbI_some, ib, if_neg (show ¬ (yfst 0 ≤ y ∧ y ≤ ylst (σ 1 2) 0) from qy)]
      · rw [eX9_feastDay, bX9_feastDay_0, X9_isFeast_ok k (d + 9) g3 g4 h1, jbI_some, ib, if_pos q, X9_isYear_ok k (d + 9) g1 g2 (by omega) (by omega) b2.1 b2.2, jbI_some, ib, if_neg (show ¬ (yfst 0 ≤ y ∧ y ≤ ylst (σ 1 2) 0) from qy)]
  · refine Qw.same (a := -1) h ?_ ?_
    · rw [eX8_feastDay, bX8_feastDay_0, X2_has_ok k (d + 10) h1 f1, jbI_some, ib, if_neg q]
    · rw [eX9_feastDay, bX9_feastDay_0, X9_isFeast_ok k (d + 9) g3 g4 h1, jbI_some, ib, if_neg q]
theorem Qw_moved (k : Nat × (Int → Int)) (d : Nat) {σ : St} (h : HQ σ) {i y : Int} (h1 : I32 i) (h2 : I32 y) : Qw k (d + 12) mX8_moved mX9_moved [vI i, vI y] σ := by
  obtain ⟨g1, g2, g3, g4, g5, g6, g7⟩ := id h
  have f1 := g3.1
  have b1 := h1
  have b2 := h2
  unfold I32 at b1 b2
  by_cases q : 0 ≤ i ∧ i < σ 3 6
  · by_cases qy : 0 ≤ y ∧ y ≤ 5000
    · obtain ⟨σ1, p1, p2, p3, p4, _⟩ := place2 k (d + 5) h qy.1 qy.2
      have H1 := h.ce p2 p3
      have e6 : σ1 3 6 = σ 3 6 := p2.fs.2.2.2.2.2.2.2.2.2
      obtain ⟨ρ, j, r1, r2, r3, r4, r5, r6⟩ := kept9 k (d + 2) H1 qy.1 qy.2
      have e6' : ρ 3 6 = σ1 3 6 := r4.fs.2.2.2.2.2.2.2.2.2
      have pb := PD_b H1 qy.1 qy.2 q.1 (show i < σ1 3 6 by omega)
      refine ⟨if PD σ1 y i = -2 then -2 else PD σ1 y i - um σ1 y i, σ1, ρ, ?_, ?_, p2, p3, r4, r5⟩
      · rw [eX8_moved, bX8_moved_0, X2_has_ok k (d + 10) h1 f1, jbI_some, ib, if_pos q, X0_hasYear_ok k (d + 9) g1 (by omega) (by omega) b2.1 b2.2, jbI_some, ib, if_pos (show yfst 0 ≤ y ∧ y ≤ ylst (σ 1 2) 0 from qy), p1, jbV_some, X2_placedDay_ok k (d + 9) H1.2.2.1 p4 q.1 (by omega), jbI_some, w32_id (a := PD σ1 y i) (by omega) (by omega), show w32 (-2) = -2 by decide]
        by_cases z : PD σ1 y i = -2
        · rw [if_pos z, if_pos z]
        · rw [if_neg z, if_neg z, X2_unmovedDay_ok k (d + 9) H1.2.2.1 p4 q.1 (by omega), jbI_some]
      · rw [eX9_moved, bX9_moved_0, X9_isFeast_ok k (d + 9) H1.2.2.1 H1.2.2.2.1 h1, jbI_some, ib, if_pos (by omega), X9_isYear_ok k (d + 9) H1.1 H1.2.1 (by omega) (by omega) b2.1 b2.2, jbI_some, ib, if_pos (show yfst 0 ≤ y ∧ y ≤ ylst (σ1 1 2) 0 from qy), r1, jbI_some, w32_id (a := 60 * j + i) (by omega) (by omega), if_pos (by omega), (r6 i q.1 (by omega)).2, (r6 i q.1 (by omega)).1, r4.fs.pd, r4.fs.um, w32_id (a := PD σ1 y i) (by omega) (by omega), show w32 (-2) = -2 by decide]
        by_cases z : PD σ1 y i = -2
        · rw [if_pos z, if_pos z]
        · rw [if_neg z, if_neg z, if_pos (by omega), if_pos (by omega)]
    · refine Qw.same (a := -2) h ?_ ?_
      · rw [eX8_moved, bX8_moved_0, X2_has_ok k (d + 10) h1 f1, jbI_some, ib, if_pos q, X0_hasYear_ok k (d + 9) g1 (by omega) (by omega) b2.1 b2.2, jbI_some, ib, if_neg (show ¬ (yfst 0 ≤ y ∧ y ≤ ylst (σ 1 2) 0) from qy)]
      · rw [eX9_moved, bX9_moved_0, X9_isFeast_ok k (d + 9) g3 g4 h1, jbI_some, ib, if_pos q, X9_isYear_ok k (d + 9) g1 g2 (by omega) (by omega) b2.1 b2.2, jbI_some, ib, if_neg (show ¬ (yfst 0 ≤ y ∧ y ≤ ylst (σ 1 2) 0) from qy)]
  · refine Qw.same (a := -1) h ?_ ?_
    · rw [eX8_moved, bX8_moved_0, X2_has_ok k (d + 10) h1 f1, jbI_some, ib, if_neg q]
    · rw [eX9_moved, bX9_moved_0, X9_isFeast_ok k (d + 9) g3 g4 h1, jbI_some, ib, if_neg q]
