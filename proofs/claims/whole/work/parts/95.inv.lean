/-! the invariant of a run; what a frame keeps of it -/
def OKc (a b : Int → Int) (r w f p u : Int) : Prop := 0 ≤ r ∧ 0 ≤ w ∧ 0 ≤ f ∧ 0 ≤ p ∧ 0 ≤ u ∧ ∀ i, 0 ≤ i → i < u → a i < p ∧ b i < f
def UV (a b : Int → Int) : Nat → Int → Int → Int → Int → Int → (Int → Int) → Prop
  | 0, r, w, f, p, u, _ => OKc a b r w f p u
  | n + 1, r, w, f, p, u, bk => OKc a b r w f p u ∧ UV a b n (r - if bk 0 = 0 then 1 else 0) (w - if bk 0 = 1 then 1 else 0) (f - if bk 0 = 2 then 1 else 0) (p - if bk 0 = 3 then 1 else 0) (u - if bk 0 = 4 then 1 else 0) (fun j => bk (j + 1))
theorem UV_s (a b : Int → Int) (n : Nat) (r w f p u : Int) (bk : Int → Int) : UV a b (n + 1) r w f p u bk = (OKc a b r w f p u ∧ UV a b n (r - if bk 0 = 0 then 1 else 0) (w - if bk 0 = 1 then 1 else 0) (f - if bk 0 = 2 then 1 else 0) (p - if bk 0 = 3 then 1 else 0) (u - if bk 0 = 4 then 1 else 0) (fun j => bk (j + 1))) := rfl
theorem UV_ok {a b : Int → Int} {n : Nat} {r w f p u : Int} {bk : Int → Int} (h : UV a b n r w f p u bk) : OKc a b r w f p u := by
  cases n with
  | zero => exact h
  | succ n => exact h.1
theorem UV_drop {a b : Int → Int} : ∀ (n : Nat) (r w f p u : Int) (bk : Int → Int), UV a b (n + 1) r w f p u bk → UV a b n r w f p u bk := by
  intro n
  induction n with
  | zero => intro r w f p u bk h; exact h.1
  | succ n ih => intro r w f p u bk h; exact ⟨h.1, ih _ _ _ _ _ _ h.2⟩
theorem UV_c {a b a' b' : Int → Int} : ∀ (n : Nat) (r w f p u : Int) (bk bk' : Int → Int), (∀ j, 0 ≤ j → j < (n : Int) → bk' j = bk j) → (∀ i, 0 ≤ i → i < u → a' i = a i ∧ b' i = b i) → UV a b n r w f p u bk → UV a' b' n r w f p u bk' := by
  have ok : ∀ r w f p u, (∀ i, 0 ≤ i → i < u → a' i = a i ∧ b' i = b i) → OKc a b r w f p u → OKc a' b' r w f p u := by
    intro r w f p u h g
    obtain ⟨g1, g2, g3, g4, g5, g6⟩ := g
    refine ⟨g1, g2, g3, g4, g5, fun i i0 i1 => ?_⟩
    rw [(h i i0 i1).1, (h i i0 i1).2]
    exact g6 i i0 i1
  intro n
  induction n with
  | zero => intro r w f p u bk bk' _ h2 h; exact ok _ _ _ _ _ h2 h
  | succ n ih =>
    intro r w f p u bk bk' h1 h2 h
    push_cast at h1
    refine ⟨ok _ _ _ _ _ h2 h.1, ?_⟩
    rw [h1 0 (by omega) (by omega)]
    refine ih _ _ _ _ _ _ _ (fun j j0 j1 => h1 (j + 1) (by omega) (by omega)) (fun i i0 i1 => h2 i i0 ?_) h.2
    split at i1 <;> omega
def UU (σ : St) : Prop := UV (σ 25) (σ 26) (σ 7 2).toNat (σ 1 2) (σ 2 3) (σ 3 6) (σ 4 4) (σ 4 9) (fun j => σ 32 ((σ 7 1 - 1 - j) % 100))
theorem UU_k {σ ρ : St} (e25 : ρ 25 = σ 25) (e26 : ρ 26 = σ 26) (e7 : ρ 7 = σ 7) (e1 : ρ 1 2 = σ 1 2) (e2 : ρ 2 3 = σ 2 3) (e3 : ρ 3 6 = σ 3 6) (e4 : ρ 4 4 = σ 4 4) (e49 : ρ 4 9 = σ 4 9) (e32 : ρ 32 = σ 32) (h : UU σ) : UU ρ := by
  unfold UU
  rw [e25, e26, e7, e1, e2, e3, e4, e49, e32]
  exact h
theorem UU_push {σ ρ : St} {x : Int} (hR : DR σ σ) (h7 : ρ 7 = nt σ x 7) (h32 : ρ 32 = nt σ x 32) (h : UU σ) (ok : OKc (ρ 25) (ρ 26) (ρ 1 2) (ρ 2 3) (ρ 3 6) (ρ 4 4) (ρ 4 9)) (c1 : ρ 1 2 = σ 1 2 + if x = 0 then 1 else 0) (c2 : ρ 2 3 = σ 2 3 + if x = 1 then 1 else 0) (c3 : ρ 3 6 = σ 3 6 + if x = 2 then 1 else 0) (c4 : ρ 4 4 = σ 4 4 + if x = 3 then 1 else 0) (c5 : ρ 4 9 = σ 4 9 + if x = 4 then 1 else 0) (ea : ∀ i, 0 ≤ i → i < σ 4 9 → ρ 25 i = σ 25 i ∧ ρ 26 i = σ 26 i) : UU ρ := by
  obtain ⟨r1, r2, r3, r4⟩ := hR
  have p1 : ρ 7 1 = (σ 7 1 + 1) % 100 := by rw [h7]; rfl
  have p2 : ρ 7 2 = if 100 ≤ σ 7 2 + 1 then 100 else σ 7 2 + 1 := by rw [h7]; rfl
  have q0 : ρ 32 (σ 7 1) = x := by rw [h32]; exact st2_eq _ _ _ _
  have q1 : ∀ j, j ≠ σ 7 1 → ρ 32 j = σ 32 j := fun j hj => by rw [h32]; exact st2_idx hj
  have b0 : ρ 32 ((ρ 7 1 - 1 - 0) % 100) = x := by
    rw [p1, show ((σ 7 1 + 1) % 100 - 1 - 0) % 100 = σ 7 1 by omega, q0]
  obtain ⟨m, hm⟩ : ∃ m : Nat, (ρ 7 2).toNat = m + 1 ∧ (m : Int) ≤ 99 ∧ (m = (σ 7 2).toNat ∨ m + 1 = (σ 7 2).toNat) := by
    refine ⟨(ρ 7 2).toNat - 1, ?_⟩
    rw [p2]
    split <;> omega
  have old : UV (σ 25) (σ 26) m (σ 1 2) (σ 2 3) (σ 3 6) (σ 4 4) (σ 4 9) (fun j => σ 32 ((σ 7 1 - 1 - j) % 100)) := by
    rcases hm.2.2 with z | z
    · rw [z]; exact h
    · unfold UU at h
      rw [← z] at h
      exact UV_drop m _ _ _ _ _ _ h
  unfold UU
  rw [hm.1, UV_s, b0]
  refine ⟨ok, ?_⟩
  rw [c1, c2, c3, c4, c5]
  have sub : ∀ (a : Int) (P : Prop) [Decidable P], (a + if P then 1 else 0) - (if P then 1 else 0) = a := fun a P _ => by split <;> omega
  rw [sub, sub, sub, sub, sub]
  refine UV_c m _ _ _ _ _ _ _ (fun j j0 j1 => ?_) ea old
  show ρ 32 ((ρ 7 1 - 1 - (j + 1)) % 100) = σ 32 ((σ 7 1 - 1 - j) % 100)
  rw [p1, show ((σ 7 1 + 1) % 100 - 1 - (j + 1)) % 100 = (σ 7 1 - 1 - j) % 100 by omega, q1 _ (by omega)]
def INV (σ : St) : Prop := HQ σ ∧ (WR σ σ ∧ ∀ c m, wcn σ c m (σ 2 3).toNat ≤ 3) ∧ DR σ σ ∧ PR σ ∧ PG σ ∧ TR σ σ ∧ UU σ
theorem WR_k {σ ρ : St} (e2 : ρ 2 3 = σ 2 3) (e8 : ρ 33 8 = σ 33 8) (e10 : ρ 10 = σ 10) (e11 : ρ 11 = σ 11) (e12 : ρ 12 = σ 12) (e37 : ρ 37 = σ 37) (e38 : ρ 38 = σ 38) (e39 : ρ 39 = σ 39) (h : WR σ σ ∧ ∀ c m, wcn σ c m (σ 2 3).toNat ≤ 3) : WR ρ ρ ∧ ∀ c m, wcn ρ c m (ρ 2 3).toNat ≤ 3 := by
  refine ⟨?_, fun c m => ?_⟩
  · unfold WR
    rw [e2, e8, e10, e11, e12, e37, e38, e39]
    exact h.1
  · rw [e2, wcn_c (σ := σ) c m _ (fun j _ => by rw [e11, e12]; exact ⟨rfl, rfl⟩)]
    exact h.2 c m
theorem DR_k {σ ρ : St} (e7 : ρ 7 = σ 7) (e32 : ρ 32 = σ 32) (e6 : ρ 33 6 = σ 33 6) (e36 : ρ 36 = σ 36) (h : DR σ σ) : DR ρ ρ := by
  unfold DR
  rw [e7, e32, e6, e36]
  exact h
theorem PG_k {σ ρ : St} (e32 : ρ 33 32 = σ 33 32) (e30 : ρ 30 = σ 30) (e54 : ρ 54 = σ 54) (h : PG σ) : PG ρ := by
  unfold PG
  rw [e32, e30, e54]
  exact h
theorem TR_k {σ ρ : St} (e6 : ρ 6 = σ 6) (e31 : ρ 31 = σ 31) (e34 : ρ 33 34 = σ 33 34) (e55 : ρ 55 = σ 55) (h : TR σ σ) : TR ρ ρ := by
  unfold TR
  rw [e6, e31, e34, e55]
  exact h
theorem PR_k {σ ρ : St} (e44 : ρ 4 4 = σ 4 4) (e49 : ρ 4 9 = σ 4 9) (e3 : σ 3 6 ≤ ρ 3 6) (a23 : ρ 33 23 = σ 33 23) (a26 : ρ 33 26 = σ 33 26) (q : ∀ q, q ∈ [23, 24, 25, 26, 27, 28, 48, 49, 50, 51, 52, 53] → ρ q = σ q) (h : PR σ) : PR ρ := by
  obtain ⟨h1, h2, h3, h4, h5, h6⟩ := h
  unfold PR
  rw [e44, e49, a23, a26, q 23 (by decide), q 24 (by decide), q 25 (by decide), q 26 (by decide), q 27 (by decide), q 28 (by decide), q 48 (by decide), q 49 (by decide), q 50 (by decide), q 51 (by decide), q 52 (by decide), q 53 (by decide)]
  refine ⟨h1, h2, h3, h4, h5, fun i i0 i1 => ?_⟩
  obtain ⟨t1, t2, t3⟩ := h6 i i0 i1
  exact ⟨t1, by omega, t3⟩
theorem HQ_k {σ ρ : St} (f : FSa σ ρ) (m0 : ρ 33 0 = σ 33 0) (m12 : ρ 33 12 = σ 33 12) (m21 : ρ 33 21 = σ 33 21) (m22 : ρ 33 22 = σ 33 22) (q : ∀ q, q ∈ [19, 20, 21, 34, 35, 40, 41, 42, 43, 44, 45, 46, 47] → ρ q = σ q) (h : HQ σ) : HQ ρ := by
  obtain ⟨h1, h2, h3, h4, h5, h6, h7⟩ := h
  exact ⟨f.cf h1, MR_same f.1 f.2.2.1 m0 (q 34 (by decide)) (q 35 (by decide)) h2, f.fv h3, FR_same f m12 (q 40 (by decide)) (q 41 (by decide)) (q 42 (by decide)) (q 43 (by decide)) (q 44 (by decide)) h4, f.ord h5, CV_fs f (q 19 (by decide)) (q 20 (by decide)) (q 21 (by decide)) h6, C9_k f h3.1.2 m21 m22 (q 45 (by decide)) (q 46 (by decide)) (q 47 (by decide)) h7⟩
theorem GE.fs {σ ρ : St} (h : GE σ ρ) : FSa σ ρ := ⟨h.1 1 (by decide), h.1 8 (by decide), h.1 9 (by decide), h.1 13 (by decide), h.1 14 (by decide), h.1 15 (by decide), h.1 16 (by decide), h.1 17 (by decide), h.1 18 (by decide), h.2.1 6 (by decide)⟩
theorem INV.ge {σ ρ : St} (h : INV σ) (g : GE σ ρ) (hT : TR ρ ρ) (hG : PG ρ) : INV ρ := by
  obtain ⟨⟨h1, h2, h3, h4, h5, h6, h7⟩, i2, i3, i4, i5, i6, i7⟩ := h
  obtain ⟨gq, g3, g4, g6, g33, gv, g9⟩ := id g
  have f := g.fs
  refine ⟨⟨f.cf h1, MR_same f.1 f.2.2.1 (g33 0 (by decide)) (gq 34 (by decide)) (gq 35 (by decide)) h2, f.fv h3, FR_same f (g33 12 (by decide)) (gq 40 (by decide)) (gq 41 (by decide)) (gq 42 (by decide)) (gq 43 (by decide)) (gq 44 (by decide)) h4, f.ord h5, gv, g9⟩, WR_k (by rw [gq 2 (by decide)]) (g33 8 (by decide)) (gq 10 (by decide)) (gq 11 (by decide)) (gq 12 (by decide)) (gq 37 (by decide)) (gq 38 (by decide)) (gq 39 (by decide)) i2, DR_k (gq 7 (by decide)) (gq 32 (by decide)) (g33 6 (by decide)) (gq 36 (by decide)) i3, PR_k (g4 4 (by decide)) (g4 9 (by decide)) (by rw [g3 6 (by decide)]; omega) (g33 23 (by decide)) (g33 26 (by decide)) (fun q hq => gq q (by revert q; decide)) i4, hG, hT, UU_k (gq 25 (by decide)) (gq 26 (by decide)) (gq 7 (by decide)) (by rw [gq 1 (by decide)]) (by rw [gq 2 (by decide)]) (g3 6 (by decide)) (g4 4 (by decide)) (g4 9 (by decide)) (gq 32 (by decide)) i7⟩
theorem INV.qw {σ σ1 ρ : St} (h : INV σ) (c : CE σ σ1) (v : CV σ1) (r : RE σ1 ρ) (n : C9 ρ) : INV ρ := by
  have q : ∀ q, q ∉ [3, 4, 19, 20, 21, 22, 29, 33, 45, 46, 47] → ρ q = σ q := fun q hq => by
    simp only [List.mem_cons, not_or] at hq
    rw [r.1 q (by simp [hq]), c.1 q (by simp [hq])]
  have q33 : ∀ a : Int, a ∉ ([3, 4, 5, 21, 22] : List Int) → ρ 33 a = σ 33 a := fun a ha => by rw [r.2 a ha, c.1 33 (by decide)]
  refine h.ge ⟨fun x hx => q x ?_, fun a ha => ?_, fun a ha => ?_, fun a _ => by rw [q 6 (by decide)], fun a ha => q33 a ?_, (r.cv v), n⟩ (TR_k (q 6 (by decide)) (q 31 (by decide)) (q33 34 (by decide)) (q 55 (by decide)) h.2.2.2.2.2.1) (PG_k (q33 32 (by decide)) (q 30 (by decide)) (q 54 (by decide)) h.2.2.2.2.1)
  · simp only [List.mem_cons, not_or] at hx ⊢
    simp [hx]
  · rw [r.1 3 (by decide), c.2.1 a ha]
  · rw [r.1 4 (by decide), c.2.2 a ha]
  · simp only [List.mem_cons, not_or] at ha ⊢
    simp [ha]
theorem INV.sc {σ ρ : St} (h : INV σ) (s : Sc σ ρ) : INV ρ := by
  rcases s with z | ⟨y, m, dd, z⟩
  · rw [z]; exact h
  · have r : RE σ ρ := by
      rw [z]
      refine ⟨fun q hq => fd_ne σ y m dd (by rintro rfl; exact hq (by decide)), fun a ha => ?_⟩
      simp only [List.mem_cons, not_or] at ha
      show st2 (st2 (st2 σ 33 3 y) 33 4 m) 33 5 dd 33 a = σ 33 a
      rw [st2_idx ha.2.2.1, st2_idx ha.2.1, st2_idx ha.1]
    have n : C9 ρ := C9_k r.fs h.1.2.2.1.1.2 (by rw [z]; rfl) (by rw [z]; rfl) (by rw [z]; rfl) (by rw [z]; rfl) (by rw [z]; rfl) h.1.2.2.2.2.2.2
    exact h.qw (CE.refl σ) h.1.2.2.2.2.2.1 r n
theorem INV.tp {σ ρ : St} (h : INV σ) (g : TpE σ ρ) : INV ρ := by
  obtain ⟨g1, g2, g3, g4⟩ := g
  have n : C9 ρ := C9_k ⟨g2 1 (by decide), g2 8 (by decide), g2 9 (by decide), g2 13 (by decide), g2 14 (by decide), g2 15 (by decide), g2 16 (by decide), g2 17 (by decide), g2 18 (by decide), by rw [g2 3 (by decide)]⟩ h.1.2.2.1.1.2 (g4 21 (by decide)) (g4 22 (by decide)) (g2 45 (by decide)) (g2 46 (by decide)) (g2 47 (by decide)) h.1.2.2.2.2.2.2
  refine h.ge ⟨fun x hx => g2 x ?_, fun a _ => by rw [g2 3 (by decide)], fun a _ => by rw [g2 4 (by decide)], g3, fun a ha => g4 a ?_, CV_fs ⟨g2 1 (by decide), g2 8 (by decide), g2 9 (by decide), g2 13 (by decide), g2 14 (by decide), g2 15 (by decide), g2 16 (by decide), g2 17 (by decide), g2 18 (by decide), by rw [g2 3 (by decide)]⟩ (g2 19 (by decide)) (g2 20 (by decide)) (g2 21 (by decide)) h.1.2.2.2.2.2.1, n⟩ g1 (PG_k (g4 32 (by decide)) (g2 30 (by decide)) (g2 54 (by decide)) h.2.2.2.2.1)
  · simp only [List.mem_cons, not_or] at hx ⊢
    simp [hx]
  · simp only [List.mem_cons, not_or] at ha
    simp [ha]
