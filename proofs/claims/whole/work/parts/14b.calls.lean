/-! what the tables say, of each row of the small machine's tables -/
theorem jin_ws : ∀ (ci : Nat) (q : vw_C), vwCl[ci]? = some q → ∀ w ∈ u_ws q.1 q.2.1 q.2.2, w ∈ lw_tbl := by
  intro ci q h
  match ci, h with
  | 0, h => cases h; decide +kernel
  | 1, h => cases h; decide +kernel
  | 2, h => cases h; decide +kernel
  | 3, h => cases h; decide +kernel
  | 4, h => cases h; decide +kernel
  | 5, h => cases h; decide +kernel
  | 6, h => cases h; decide +kernel
  | 7, h => cases h; decide +kernel
  | 8, h => cases h; decide +kernel
  | n + 9, h => simp [vwCl] at h
theorem jty_ok : ∀ (ci : Nat) (q : vw_C), vwCl[ci]? = some q → (∃ ty : Nat → FieldType, ∀ k, k < q.2.2 → parseFieldDescriptor (q.2.1 k).2.2.1 = some (ty k)) ∧ ∀ a, a < q.2.2 → ∀ b, b < q.2.2 → a ≠ b → (q.2.1 a).2.1 ≠ (q.2.1 b).2.1 := by
  intro ci q h
  match ci, h with
  | 0, h => cases h; exact ⟨⟨_, tyX0_ok⟩, nmX0⟩
  | 1, h => cases h; exact ⟨⟨_, tyX1_ok⟩, nmX1⟩
  | 2, h => cases h; exact ⟨⟨_, tyX2_ok⟩, nmX2⟩
  | 3, h => cases h; exact ⟨⟨_, tyX4_ok⟩, nmX4⟩
  | 4, h => cases h; exact ⟨⟨_, tyX5_ok⟩, nmX5⟩
  | 5, h => cases h; exact ⟨⟨_, tyX6_ok⟩, nmX6⟩
  | 6, h => cases h; exact ⟨⟨_, tyX7_ok⟩, nmX7⟩
  | 7, h => cases h; exact ⟨⟨_, tyX8_ok⟩, nmX8⟩
  | 8, h => cases h; exact ⟨⟨_, tyX9_ok⟩, nmX9⟩
  | n + 9, h => simp [vwCl] at h
theorem jlookup {α : Type} {l : List (Nat × α)} {k : Nat} {v : α} (h : List.lookup k l = some v) : (k, v) ∈ l := by
  induction l with
  | nil => cases h
  | cons x t ih =>
    obtain ⟨a, b⟩ := x
    rw [List.lookup_cons] at h
    by_cases hk : (k == a) = true
    · rw [hk] at h
      have : k = a := by simpa using hk
      subst this
      cases h
      exact List.mem_cons_self
    · rw [Bool.not_eq_true] at hk
      rw [hk] at h
      exact List.mem_cons_of_mem _ (ih h)
/-- a row of the fields -/
def jfchk (e : Nat × Nat × Nat × Nat × Nat) : Bool := match vwCl[e.2.1]? with
  | some q => decide (e.2.2.1 < q.2.2) && decide (lw_tbl[e.2.2.2.2]? = some (.fieldLink (jon (e.1 / 4096)) (e.1 % 4096) (q.2.1 e.2.2.1).1 (q.2.1 e.2.2.1).2.1 (q.2.1 e.2.2.1).2.2.1)) && (decide (e.2.2.2.1 ≠ 1) || (decide ((q.2.1 e.2.2.1).2.2.2 = false) && decide (parseFieldDescriptor (q.2.1 e.2.2.1).2.2.1 = some .int))) && (decide (e.2.2.2.1 ≠ 2) || (decide ((q.2.1 e.2.2.1).2.2.2 = false) && decide (parseFieldDescriptor (q.2.1 e.2.2.1).2.2.1 = some .boolean)))
  | none => false
theorem jf_all : jfT.all jfchk = true := by decide +kernel
theorem jkey_split {own idx : Nat} (h : idx < 4096) : (own * 4096 + idx) / 4096 = own ∧ (own * 4096 + idx) % 4096 = idx := by omega
theorem jf_ok {own idx ci k kd pos : Nat} (hi : idx < 4096) (h : jfOf own idx = some (ci, k, kd, pos)) : ∃ q : vw_C, vwCl[ci]? = some q ∧ k < q.2.2 ∧ Cond.fieldLink (jon own) idx (q.2.1 k).1 (q.2.1 k).2.1 (q.2.1 k).2.2.1 ∈ lw_tbl ∧ (kd = 1 → (q.2.1 k).2.2.2 = false ∧ parseFieldDescriptor (q.2.1 k).2.2.1 = some .int) ∧ (kd = 2 → (q.2.1 k).2.2.2 = false ∧ parseFieldDescriptor (q.2.1 k).2.2.1 = some .boolean) := by
  rw [jfOf, if_pos hi] at h
  have h1 := List.all_eq_true.mp jf_all _ (jlookup h)
  unfold jfchk at h1
  cases hq : vwCl[ci]? with
  | none => simp only [hq] at h1; cases h1
  | some q =>
    simp only [hq, (jkey_split hi).1, (jkey_split hi).2, Bool.and_eq_true, Bool.or_eq_true, decide_eq_true_eq] at h1
    obtain ⟨⟨⟨a, b⟩, c⟩, d⟩ := h1
    exact ⟨q, rfl, a, List.mem_of_getElem? b, fun e => c.resolve_left (fun n => n e), fun e => d.resolve_left (fun n => n e)⟩
/-- a row of the calls -/
def jcchk (e : (Nat × Nat × Nat × Nat × Nat × Nat) × (Nat × Nat × Nat × Nat × Nat)) : Bool := match jmT[e.1.2.1]? with
  | some (y, M, ml, ret) => decide (e.1.1 = e.2.1) && decide ((parseMethodDescriptor y.desc).map (fun d => d.parameters.length) = some e.1.2.2.1) && decide (lw_tbl[e.2.2.2.2.2]? = some (.initialized y.cls)) && decide (e.1.2.2.2.1 = (if M.2.2 = 4 ∨ M.2.2 = 5 then 1 else M.2.2)) &&
    (if e.1.2.2.2.2.1 = 1 then decide (lw_tbl[e.2.2.1]? = some (.methodLink (jon (e.1.1 / 4096)) (e.1.1 % 4096) y)) && decide (lw_tbl[e.2.2.2.1]? = some (.instanceMethod y)) && decide (lw_tbl[e.2.2.2.2.1]? = some (.selects y.cls y y)) && decide ((vwCl[e.1.2.2.2.2.2]?).map (fun q => q.1) = some y.cls)
    else if e.1.2.2.2.2.1 = 3 then decide (lw_tbl[e.2.2.1]? = some (.methodLink (jon (e.1.1 / 4096)) (e.1.1 % 4096) y)) && decide (lw_tbl[e.2.2.2.1]? = some (.instanceMethod y)) && decide (lw_tbl[e.2.2.2.2.1]? = some (.selects y.cls y y)) && decide (y.cls = "java/lang/String")
    else if e.1.2.2.2.2.1 = 0 then decide (lw_tbl[e.2.2.1]? = some (.methodLink (jon (e.1.1 / 4096)) (e.1.1 % 4096) y)) && decide (lw_tbl[e.2.2.2.1]? = some (.static y))
    else decide (lw_tbl[e.2.2.1]? = some (.methodLinkNest (jon (e.1.1 / 4096)) (e.1.1 % 4096) y "AlmanacHouse")) && decide (lw_tbl[e.2.2.2.1]? = some (.static y)))
  | none => false
theorem all_cut {α : Type} {p : α → Bool} {l : List α} (n : Nat) (h1 : (l.take n).all p = true) (h2 : (l.drop n).all p = true) : l.all p = true := by
  rw [← List.take_append_drop n l, List.all_append, h1, h2]; rfl
theorem jc_a0 : ((jcT.zip jcP).take 25).all jcchk = true := by decide +kernel
theorem jc_a1 : (((jcT.zip jcP).drop 25).take 25).all jcchk = true := by decide +kernel
theorem jc_a2 : ((((jcT.zip jcP).drop 25).drop 25).take 25).all jcchk = true := by decide +kernel
theorem jc_a3 : (((((jcT.zip jcP).drop 25).drop 25).drop 25).take 25).all jcchk = true := by decide +kernel
theorem jc_a4 : ((((((jcT.zip jcP).drop 25).drop 25).drop 25).drop 25).take 25).all jcchk = true := by decide +kernel
theorem jc_a5 : (((((((jcT.zip jcP).drop 25).drop 25).drop 25).drop 25).drop 25).take 25).all jcchk = true := by decide +kernel
theorem jc_a6 : ((((((((jcT.zip jcP).drop 25).drop 25).drop 25).drop 25).drop 25).drop 25).take 25).all jcchk = true := by decide +kernel
theorem jc_a7 : (((((((((jcT.zip jcP).drop 25).drop 25).drop 25).drop 25).drop 25).drop 25).drop 25).take 25).all jcchk = true := by decide +kernel
theorem jc_a8 : ((((((((((jcT.zip jcP).drop 25).drop 25).drop 25).drop 25).drop 25).drop 25).drop 25).drop 25).take 25).all jcchk = true := by decide +kernel
theorem jc_a9 : (((((((((((jcT.zip jcP).drop 25).drop 25).drop 25).drop 25).drop 25).drop 25).drop 25).drop 25).drop 25).take 25).all jcchk = true := by decide +kernel
theorem jc_a10 : (((((((((((jcT.zip jcP).drop 25).drop 25).drop 25).drop 25).drop 25).drop 25).drop 25).drop 25).drop 25).drop 25).all jcchk = true := by decide +kernel
theorem jc_all : (jcT.zip jcP).all jcchk = true ∧ jcT.length = jcP.length := ⟨(all_cut 25 jc_a0 (all_cut 25 jc_a1 (all_cut 25 jc_a2 (all_cut 25 jc_a3 (all_cut 25 jc_a4 (all_cut 25 jc_a5 (all_cut 25 jc_a6 (all_cut 25 jc_a7 (all_cut 25 jc_a8 (all_cut 25 jc_a9 jc_a10)))))))))), by decide +kernel⟩
theorem zip_mem {α β : Type} : ∀ {l : List α} {k : List β} {a : α}, l.length = k.length → a ∈ l → ∃ b, (a, b) ∈ l.zip k
  | [], _, _, _, h => by cases h
  | x :: l, [], a, hl, h => by simp at hl
  | x :: l, y :: k, a, hl, h => by
    rcases List.mem_cons.mp h with rfl | h
    · exact ⟨y, List.mem_cons_self⟩
    · obtain ⟨b, hb⟩ := zip_mem (by simpa using hl) h
      exact ⟨b, List.mem_cons_of_mem _ hb⟩
theorem jc_ok {own idx mm np rk kd ci : Nat} (hi : idx < 4096) (h : jcOf own idx = some (mm, np, rk, kd, ci)) : ∃ (y : MethodName) (M : MT) (ml : Nat) (ret : Option FieldType), jmT[mm]? = some (y, M, ml, ret) ∧ (parseMethodDescriptor y.desc).map (fun d => d.parameters.length) = some np ∧ Cond.initialized y.cls ∈ lw_tbl ∧ rk = (if M.2.2 = 4 ∨ M.2.2 = 5 then 1 else M.2.2) ∧
    (kd = 1 → Cond.methodLink (jon own) idx y ∈ lw_tbl ∧ Cond.instanceMethod y ∈ lw_tbl ∧ Cond.selects y.cls y y ∈ lw_tbl ∧ ∃ q : vw_C, vwCl[ci]? = some q ∧ q.1 = y.cls) ∧
    (kd = 3 → Cond.methodLink (jon own) idx y ∈ lw_tbl ∧ Cond.instanceMethod y ∈ lw_tbl ∧ Cond.selects y.cls y y ∈ lw_tbl ∧ y.cls = "java/lang/String") ∧
    (kd = 0 → Cond.methodLink (jon own) idx y ∈ lw_tbl ∧ Cond.static y ∈ lw_tbl) ∧ (kd ≠ 0 → kd ≠ 1 → kd ≠ 3 → Cond.methodLinkNest (jon own) idx y "AlmanacHouse" ∈ lw_tbl ∧ Cond.static y ∈ lw_tbl) := by
  rw [jcOf, if_pos hi] at h
  obtain ⟨b, hb⟩ := zip_mem jc_all.2 (jlookup h)
  have h1 := List.all_eq_true.mp jc_all.1 _ hb
  unfold jcchk at h1
  cases hq : jmT[mm]? with
  | none => simp only [hq] at h1; cases h1
  | some q =>
    obtain ⟨y, M, ml, ret⟩ := q
    simp only [hq, (jkey_split hi).1, (jkey_split hi).2, Bool.and_eq_true, decide_eq_true_eq] at h1
    obtain ⟨⟨⟨⟨-, a2⟩, a3⟩, a4⟩, a5⟩ := h1
    refine ⟨y, M, ml, ret, rfl, a2, List.mem_of_getElem? a3, a4, ?_, ?_, ?_, ?_⟩
    · intro e1
      rw [if_pos e1] at a5
      simp only [Bool.and_eq_true, decide_eq_true_eq] at a5
      obtain ⟨⟨⟨b1, b2⟩, b3⟩, b4⟩ := a5
      cases hv : vwCl[ci]? with
      | none => rw [hv] at b4; cases b4
      | some q => rw [hv] at b4; exact ⟨List.mem_of_getElem? b1, List.mem_of_getElem? b2, List.mem_of_getElem? b3, q, rfl, Option.some.inj b4⟩
    · intro e3
      rw [if_neg (by omega), if_pos e3] at a5
      simp only [Bool.and_eq_true, decide_eq_true_eq] at a5
      obtain ⟨⟨⟨b1, b2⟩, b3⟩, b4⟩ := a5
      exact ⟨List.mem_of_getElem? b1, List.mem_of_getElem? b2, List.mem_of_getElem? b3, b4⟩
    · intro e0
      rw [if_neg (by omega), if_neg (by omega), if_pos e0] at a5
      simp only [Bool.and_eq_true, decide_eq_true_eq] at a5
      exact ⟨List.mem_of_getElem? a5.1, List.mem_of_getElem? a5.2⟩
    · intro e0 e1 e3
      rw [if_neg e1, if_neg e3, if_neg e0] at a5
      simp only [Bool.and_eq_true, decide_eq_true_eq] at a5
      exact ⟨List.mem_of_getElem? a5.1, List.mem_of_getElem? a5.2⟩
