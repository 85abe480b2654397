/-- a row of the methods -/
def jmchk (e : MethodName × MT × Nat × Option FieldType) : Bool :=
  decide (plainFor e.1 = true) && decide (e.1.cls = jon e.2.1.2.1) && decide (e.2.2.1 ≤ 12) && decide (e.1.cls ≠ "java/lang/invoke/MethodHandle" ∧ e.1.cls ≠ "java/lang/invoke/VarHandle") &&
  (match e.2.1.2.2 with
  | 0 => decide (e.2.2.2 = none)
  | 1 => decide (e.2.2.2 = some .int)
  | 2 => decide (e.2.2.2 = some .long)
  | 3 => decide (e.2.2.2 = some .double)
  | 4 => decide (e.2.2.2 = some .boolean)
  | 5 => decide (e.2.2.2 = some .char)
  | _ => false)
theorem jm_all : jmT.all jmchk = true := by decide +kernel
def jrkOk (rk : Nat) (ret : Option FieldType) : Prop := (rk = 0 ∧ ret = none) ∨ (rk = 1 ∧ ret = some .int) ∨ (rk = 2 ∧ ret = some .long) ∨ (rk = 3 ∧ ret = some .double) ∨ (rk = 4 ∧ ret = some .boolean) ∨ (rk = 5 ∧ ret = some .char)
theorem jm_ok {mm ml : Nat} {y : MethodName} {M : MT} {ret : Option FieldType} (h : jmT[mm]? = some (y, M, ml, ret)) : Cond.code y M.1 ml ret ∈ lw_tbl ∧ plainFor y = true ∧ y.cls = jon M.2.1 ∧ ml ≤ 12 ∧ (y.cls ≠ "java/lang/invoke/MethodHandle" ∧ y.cls ≠ "java/lang/invoke/VarHandle") ∧ jrkOk M.2.2 ret := by
  have h1 := List.all_eq_true.mp jm_all _ (List.mem_of_getElem? h)
  unfold jmchk at h1
  simp only [Bool.and_eq_true, decide_eq_true_eq] at h1
  obtain ⟨⟨⟨⟨a2, a3⟩, a4⟩, a5⟩, a6⟩ := h1
  refine ⟨jmc_ok _ (List.mem_of_getElem? h), a2, a3, a4, a5, ?_⟩
  unfold jrkOk
  split at a6
  · exact Or.inl ⟨by assumption, by simpa using a6⟩
  · exact Or.inr (Or.inl ⟨by assumption, by simpa using a6⟩)
  · exact Or.inr (Or.inr (Or.inl ⟨by assumption, by simpa using a6⟩))
  · exact Or.inr (Or.inr (Or.inr (Or.inl ⟨by assumption, by simpa using a6⟩)))
  · exact Or.inr (Or.inr (Or.inr (Or.inr (Or.inl ⟨by assumption, by simpa using a6⟩))))
  · exact Or.inr (Or.inr (Or.inr (Or.inr (Or.inr ⟨by assumption, by simpa using a6⟩))))
  · cases a6
theorem ji_all : (jiT.zip jiP).all (fun e => decide (lw_tbl[e.2]? = some (.constant (jon (e.1.1 / 4096)) (e.1.1 % 4096) (Int32.ofInt e.1.2)))) = true ∧ jiT.length = jiP.length := by decide +kernel
theorem jl_all : (jlT.zip jlP).all (fun e => decide (lw_tbl[e.2]? = some (.constantLong (jon (e.1.1 / 4096)) (e.1.1 % 4096) (Int64.ofInt e.1.2)))) = true ∧ jlT.length = jlP.length := by decide +kernel
theorem jd_all : (jdT.zip jdP).all (fun e => decide (lw_tbl[e.2]? = some (.constantDouble (jon (e.1.1 / 4096)) (e.1.1 % 4096) e.1.2))) = true ∧ jdT.length = jdP.length := by decide +kernel
theorem ji_ok {own idx : Nat} {a : Int} (hi : idx < 4096) (h : List.lookup (own * 4096 + idx) jiT = some a) : Cond.constant (jon own) idx (Int32.ofInt a) ∈ lw_tbl := by
  obtain ⟨b, hb⟩ := zip_mem ji_all.2 (jlookup h)
  have h1 := List.all_eq_true.mp ji_all.1 _ hb
  simp only [(jkey_split hi).1, (jkey_split hi).2, decide_eq_true_eq] at h1
  exact List.mem_of_getElem? h1
theorem jl_ok {own idx : Nat} {a : Int} (hi : idx < 4096) (h : List.lookup (own * 4096 + idx) jlT = some a) : Cond.constantLong (jon own) idx (Int64.ofInt a) ∈ lw_tbl := by
  obtain ⟨b, hb⟩ := zip_mem jl_all.2 (jlookup h)
  have h1 := List.all_eq_true.mp jl_all.1 _ hb
  simp only [(jkey_split hi).1, (jkey_split hi).2, decide_eq_true_eq] at h1
  exact List.mem_of_getElem? h1
theorem jd_ok {own idx : Nat} {a : UInt64} (hi : idx < 4096) (h : List.lookup (own * 4096 + idx) jdT = some a) : Cond.constantDouble (jon own) idx a ∈ lw_tbl := by
  obtain ⟨b, hb⟩ := zip_mem jd_all.2 (jlookup h)
  have h1 := List.all_eq_true.mp jd_all.1 _ hb
  simp only [(jkey_split hi).1, (jkey_split hi).2, decide_eq_true_eq] at h1
  exact List.mem_of_getElem? h1
theorem jstat_link : Cond.fieldLink "AlmanacHouse$Calendars" 67 "AlmanacHouse$Calendars" "SUN_MONTHS" "[I" ∈ lw_tbl := List.mem_of_getElem? (i := 335) (by decide +kernel)
/-- the words that stay true while a run goes on -/
def lw_g : List Cond := lw_tbl.filter goodWord
theorem jgood : GoodIn lw_g lw_g := fun w h => ⟨h, good_of_word (List.mem_filter.mp h).2⟩
theorem gd {w : Cond} (h : w ∈ lw_tbl) (hg : goodWord w = true) : w ∈ lw_g := List.mem_filter.mpr ⟨h, hg⟩
theorem jin_g (ci : Nat) (q : vw_C) (h : vwCl[ci]? = some q) : ∀ w ∈ u_ws q.1 q.2.1 q.2.2, w ∈ lw_g := by
  intro w hw
  refine gd (jin_ws ci q h w hw) ?_
  obtain ⟨k, -, rfl⟩ := List.mem_map.mp hw
  unfold u_lay
  split <;> rfl
theorem jf_lt {own idx : Nat} {x : Nat × Nat × Nat × Nat} (h : jfOf own idx = some x) : idx < 4096 := by
  by_cases hi : idx < 4096
  · exact hi
  · rw [jfOf, if_neg hi] at h; cases h
theorem jc_lt {own idx : Nat} {x : Nat × Nat × Nat × Nat × Nat} (h : jcOf own idx = some x) : idx < 4096 := by
  by_cases hi : idx < 4096
  · exact hi
  · rw [jcOf, if_neg hi] at h; cases h
