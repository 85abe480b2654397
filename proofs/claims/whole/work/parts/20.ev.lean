section RET
variable {V : Vw} {E : Orc} {M : MT} {pc : Nat} {ls st : List PV} {σ : St} {r : Rt}
theorem n_nx : jnx pc ls st σ ≠ some (.inr r) := fun h => by unfold jnx at h; cases h
theorem n_jbi {f : Int → Int → Int} : jbi f pc ls st σ ≠ some (.inr r) := fun h => by unfold jbi at h; split at h; exact n_nx h; cases h
theorem n_jbl {f : Int → Int → Int} : jbl f pc ls st σ ≠ some (.inr r) := fun h => by unfold jbl at h; split at h; exact n_nx h; cases h
theorem n_jui {f : Int → PV} : jui f pc ls st σ ≠ some (.inr r) := fun h => by unfold jui at h; split at h; exact n_nx h; cases h
theorem n_jul {f : Int → PV} : jul f pc ls st σ ≠ some (.inr r) := fun h => by unfold jul at h; split at h; exact n_nx h; cases h
theorem n_jud {f : UInt64 → PV} : jud f pc ls st σ ≠ some (.inr r) := fun h => by unfold jud at h; split at h; exact n_nx h; cases h
theorem n_jbd {f : UInt64 → UInt64 → UInt64} : jbd f pc ls st σ ≠ some (.inr r) := fun h => by
  unfold jbd at h; split at h
  · split at h; exact n_nx h; cases h
  · cases h
theorem n_jbz {b : Bool} : jbz b pc ls st σ ≠ some (.inr r) := fun h => by
  unfold jbz at h; split at h
  · split at h; cases h; exact n_nx h
  · cases h
theorem n_jblz {b : Bool} : jblz b pc ls st σ ≠ some (.inr r) := fun h => by
  unfold jblz at h; split at h
  · split at h; cases h; exact n_nx h
  · cases h
theorem n_jldI {i : Nat} : jldI i pc ls st σ ≠ some (.inr r) := fun h => by unfold jldI at h; split at h; exact n_nx h; cases h
theorem n_jldL {i : Nat} : jldL i pc ls st σ ≠ some (.inr r) := fun h => by unfold jldL at h; split at h; exact n_nx h; cases h
theorem n_jldD {i : Nat} : jldD i pc ls st σ ≠ some (.inr r) := fun h => by unfold jldD at h; split at h; exact n_nx h; cases h
theorem n_jldA {i : Nat} : jldA i pc ls st σ ≠ some (.inr r) := fun h => by unfold jldA at h; split at h; exact n_nx h; cases h
theorem n_jstI {i : Nat} : jstI i pc ls st σ ≠ some (.inr r) := fun h => by
  unfold jstI at h; split at h
  · split at h; exact n_nx h; cases h
  · cases h
theorem n_jstL {i : Nat} : jstL i pc ls st σ ≠ some (.inr r) := fun h => by
  unfold jstL at h; split at h
  · split at h; exact n_nx h; cases h
  · cases h
theorem n_jstD {i : Nat} : jstD i pc ls st σ ≠ some (.inr r) := fun h => by
  unfold jstD at h; split at h
  · split at h; exact n_nx h; cases h
  · cases h
theorem n_jinc {i : Nat} {k : Int} : jinc i k pc ls st σ ≠ some (.inr r) := fun h => by
  unfold jinc at h; split at h
  · split at h; exact n_nx h; cases h
  · cases h
theorem n_jto {off : Int} : jto pc off ls st σ ≠ some (.inr r) := fun h => by unfold jto at h; split at h; exact n_nx h; cases h
theorem n_jif1 {c : Jvm.ClassFile.Cond} {off : Int} : jif1 c off pc ls st σ ≠ some (.inr r) := fun h => by
  unfold jif1 at h; split at h
  · split at h; exact n_nx h; cases h
  · cases h
theorem n_jif2 {c : Jvm.ClassFile.Cond} {off : Int} : jif2 c off pc ls st σ ≠ some (.inr r) := fun h => by
  unfold jif2 at h; split at h
  · split at h; exact n_nx h; cases h
  · cases h
theorem n_jtab {d lo hi : Int} {offs : Array Int} : jtab d lo hi offs pc ls st σ ≠ some (.inr r) := fun h => by
  unfold jtab at h; split at h
  · split at h
    · exact n_jto h
    · split at h; exact n_jto h; cases h
  · cases h
theorem n_jlks {d : Int} {ps : Array (Int × Int)} : jlks d ps pc ls st σ ≠ some (.inr r) := fun h => by
  unfold jlks at h; split at h
  · split at h; exact n_jto h; cases h
  · cases h
theorem n_jald {mk : Int → PV} {tk : Nat} : jald mk tk V pc ls st σ ≠ some (.inr r) := fun h => by
  unfold jald at h; split at h
  · split at h; exact n_nx h; cases h
  · cases h
theorem n_jbald : jbald V pc ls st σ ≠ some (.inr r) := fun h => by
  unfold jbald at h; split at h
  · split at h
    · split at h
      · split at h; exact n_nx h; cases h
      · cases h
    · cases h
  · cases h
theorem n_jiast : jiast V pc ls st σ ≠ some (.inr r) := fun h => by
  unfold jiast at h; split at h
  · split at h
    · split at h
      · split at h; exact n_nx h; cases h
      · cases h
    · cases h
  · cases h
theorem n_jlast : jlast V pc ls st σ ≠ some (.inr r) := fun h => by
  unfold jlast at h; split at h
  · split at h
    · split at h
      · split at h; exact n_nx h; cases h
      · cases h
    · cases h
  · cases h
theorem n_jbast : jbast V pc ls st σ ≠ some (.inr r) := fun h => by
  unfold jbast at h; split at h
  · split at h
    · split at h
      · split at h; exact n_nx h; cases h
      · split at h
        · split at h
          · split at h; exact n_nx h; cases h
          · cases h
        · cases h
    · cases h
  · cases h
theorem n_jlen : jlen V pc ls st σ ≠ some (.inr r) := fun h => by
  unfold jlen at h; split at h
  · split at h; exact n_nx h; cases h
  · cases h
theorem n_jget {f : Option (Nat × Nat × Nat × Nat)} : jget V f pc ls st σ ≠ some (.inr r) := fun h => by
  unfold jget at h; split at h
  · split at h
    · split at h
      · split at h
        · exact n_nx h
        · exact n_nx h
        · cases h
      · cases h
    · cases h
  · cases h
theorem n_jput {f : Option (Nat × Nat × Nat × Nat)} : jput V f pc ls st σ ≠ some (.inr r) := fun h => by
  unfold jput at h; split at h
  · split at h
    · split at h
      · split at h
        · split at h
          · exact n_nx h
          · split at h
            · split at h; exact n_nx h; cases h
            · cases h
        · cases h
      · cases h
    · cases h
  · cases h
theorem n_jback {rk : Nat} {o : Option Rt} : jback pc ls rk st o ≠ some (.inr r) := fun h => by
  unfold jback at h; split at h
  · split at h
    · exact n_nx h
    · exact n_nx h
    · exact n_nx h
    · exact n_nx h
    · cases h
  · cases h
theorem n_jcal {vt : Bool} {c : Option (Nat × Nat × Nat × Nat × Nat)} : jcal V E vt c pc ls st σ ≠ some (.inr r) := fun h => by
  unfold jcal at h; split at h
  · cases h
  · split at h
    · cases h
    · split at h
      · split at h
        · split at h
          · split at h
            · split at h; exact n_jback h; cases h
            · cases h
          · cases h
        · split at h
          · split at h
            · split at h; exact n_jback h; cases h
            · cases h
          · cases h
      · split at h; cases h; exact n_jback h
theorem n_jpush {o : Option PV} : jpush o pc ls st σ ≠ some (.inr r) := fun h => by unfold jpush at h; split at h; exact n_nx h; cases h
theorem n_jgst {o : Option Nat} : jgst V o pc ls st σ ≠ some (.inr r) := fun h => by
  unfold jgst at h; split at h
  · split at h; exact n_nx h; cases h
  · cases h
theorem n_jdup : jdup pc ls st σ ≠ some (.inr r) := fun h => by
  unfold jdup at h; split at h
  · split at h; exact n_nx h; cases h
  · cases h
theorem n_jdup2 : jdup2 pc ls st σ ≠ some (.inr r) := fun h => by
  unfold jdup2 at h; split at h
  · split at h; exact n_nx h; cases h
  · cases h
theorem n_jpp : jpp pc ls st σ ≠ some (.inr r) := fun h => by
  unfold jpp at h; split at h
  · split at h; exact n_nx h; cases h
  · cases h
theorem n_jshl64 : jshl64 pc ls st σ ≠ some (.inr r) := fun h => by unfold jshl64 at h; split at h; exact n_nx h; cases h
theorem n_jlcmp : jlcmp pc ls st σ ≠ some (.inr r) := fun h => by unfold jlcmp at h; split at h; exact n_nx h; cases h
theorem n_jdcmp {op : CmpOp} : jdcmp op pc ls st σ ≠ some (.inr r) := fun h => by unfold jdcmp at h; split at h; exact n_nx h; cases h
/-- where and how a method ends -/
def jRetAt (M : MT) (v : Option PV) (pc : Nat) : Prop := match v with
  | none => decode M.1 pc = .ok (.return_, 1) ∧ M.2.2 = 0
  | some (.inl a) => decode M.1 pc = .ok (.ireturn, 1) ∧ (M.2.2 = 1 ∨ (M.2.2 = 4 ∧ (w32 a = 0 ∨ w32 a = 1)))
  | some (.inr (.inl _)) => decode M.1 pc = .ok (.lreturn, 1) ∧ M.2.2 = 2
  | some (.inr (.inr (.inl _))) => decode M.1 pc = .ok (.dreturn, 1) ∧ M.2.2 = 3
  | _ => False
theorem stp_ret (hs : stp V E M pc ls st σ = some (.inr r)) : jRetAt M r.1 pc ∧ st = r.1.toList ∧ σ = r.2 := by
  unfold stp at hs
  split at hs
  · rename_i i n hd
    split at hs
    · rename_i hn
      cases i
      case tableswitch d lo hi offs => exact absurd hs n_jtab
      case lookupswitch d ps => exact absurd hs n_jlks
      all_goals (replace hn := hn.resolve_left (by simp [jlenOf]))
      all_goals (subst hn)
      case ireturn =>
        simp only [stpI, jret, jrt] at hs
        split at hs
        · rename_i a
          split at hs
          · rename_i hk
            cases hs
            exact ⟨⟨hd, Or.inl hk⟩, rfl, rfl⟩
          · split at hs
            · rename_i hk
              split at hs
              · rename_i hz
                cases hs
                exact ⟨⟨hd, Or.inr ⟨hk, hz⟩⟩, rfl, rfl⟩
              · cases hs
            · cases hs
        · cases hs
      case lreturn =>
        simp only [stpI, jretL, jrt] at hs
        split at hs
        · rename_i a
          split at hs
          · rename_i hk
            cases hs
            exact ⟨⟨hd, hk⟩, rfl, rfl⟩
          · cases hs
        · cases hs
      case dreturn =>
        simp only [stpI, jretD, jrt] at hs
        split at hs
        · rename_i a
          split at hs
          · rename_i hk
            cases hs
            exact ⟨⟨hd, hk⟩, rfl, rfl⟩
          · cases hs
        · cases hs
      case return_ =>
        simp only [stpI, jretV, jrt] at hs
        split at hs
        · split at hs
          · rename_i hk
            cases hs
            exact ⟨⟨hd, hk⟩, rfl, rfl⟩
          · cases hs
        · cases hs
      case bipush k => simp only [stpI] at hs; split at hs; exact absurd hs n_nx; cases hs
      case sipush k => simp only [stpI] at hs; split at hs; exact absurd hs n_nx; cases hs
      case ldc k =>
        simp only [stpI] at hs
        split at hs
        · split at hs; exact absurd hs n_nx; cases hs
        · exact absurd hs n_jpush
      all_goals (first
        | exact absurd hs n_nx | exact absurd hs n_jbi | exact absurd hs n_jbl | exact absurd hs n_jui | exact absurd hs n_jul | exact absurd hs n_jud | exact absurd hs n_jbd | exact absurd hs n_jbz | exact absurd hs n_jblz
        | exact absurd hs n_jldI | exact absurd hs n_jldL | exact absurd hs n_jldD | exact absurd hs n_jldA | exact absurd hs n_jstI | exact absurd hs n_jstL | exact absurd hs n_jstD | exact absurd hs n_jinc | exact absurd hs n_jto | exact absurd hs n_jif1 | exact absurd hs n_jif2
        | exact absurd hs n_jald | exact absurd hs n_jbald | exact absurd hs n_jiast | exact absurd hs n_jlast | exact absurd hs n_jbast | exact absurd hs n_jlen | exact absurd hs n_jget | exact absurd hs n_jput | exact absurd hs n_jcal | exact absurd hs n_jpush | exact absurd hs n_jgst | exact absurd hs n_jdup | exact absurd hs n_jdup2 | exact absurd hs n_jpp
        | exact absurd hs n_jshl64 | exact absurd hs n_jlcmp | exact absurd hs n_jdcmp | exact absurd hs (by simp [stpI]))
    · cases hs
  · cases hs
end RET
section SND6
variable {p : Program} {l : Launch} {e : Env} {R : Room} {s : State} {m : MethodId} {args : Array Value} {below : List Frame} {meth : Method} {c : Code} {cells slots : Nat} {Q : State → Prop}
variable {D : va_G} {ad : Nat → Nat} {cA : Nat → ClassId} {V : Vw} {A : Nat → Prop} {nL : Nat} {M : MT}
/-- A RUN: the machine comes where the small machine comes -/
theorem run_go {E : Orc} {rm : Room} {r : Rt} (C : CX p s m args c D ad cA V A nL M) (hk4 : ∀ (q t n : Nat), V.1[q]? = some (.inr (t, n)) → t < 4) (hE : EOK l D ad cA V rm E) (hrm : RMK E rm R cells slots)
    (hret : ∀ (pc : Nat) (ls : List PV), jRetAt M r.1 pc → GO p l e R s m args below meth c cells slots Q D ad cA V A nL pc ls r.1.toList r.2) :
    ∀ (n pc : Nat) (ls st : List PV) (σ : St), runF V E M n pc ls st σ = some r → GO p l e R s m args below meth c cells slots Q D ad cA V A nL pc ls st σ := by
  intro n
  induction n with
  | zero => intro pc ls st σ h; simp [runF] at h
  | succ n ih =>
    intro pc ls st σ h
    unfold runF at h
    split at h
    · cases h
    · rename_i pc' ls' st' σ' hs
      exact stp_go (c' := (pc', ls', st', σ')) C hk4 hE hrm hs (ih pc' ls' st' σ' h)
    · rename_i r' hs
      cases h
      obtain ⟨h1, rfl, rfl⟩ := stp_ret hs
      exact hret pc ls h1
end SND6
/-- a method's contract out of its walk, also where only the method isn't run by an entry (java.lang.Math) -/
theorem ofWF {l : Launch} {y : MethodName} {ws ws' : List Cond} {rm : Room} {Pc : Array Value → State → Prop} {Qc : Array Value → State → Outcome → State → Prop} {mc ms : Nat} {free : Addr → Prop} {cc : ByteArray} {maxL : Nat} {ret : Option FieldType}
    (hy : plainFor y = true) (hw : ws = Cond.code y cc maxL ret :: ws')
    (body : ∀ p e s m args below meth c s₁, BodyLoose p l y (headSpec ws rm) cc maxL ret e s m args below meth c s₁ → c.maxLocals = maxL → Pc args s →
      W p l e (headSpec ws rm).room s m args below meth c s.heap [] 0 0 (MQ below Qc args s mc ms free) (entryFrame m args maxL)) : Met l y ws rm Pc Qc mc ms free := by
  refine MetFree.of_bodySF (code := cc) (maxLocals := maxL) (ret := ret) hy ?_ ?_
  · intro args s m h hn
    obtain ⟨meth, c, h1, h2, h3, h4, h5, h6, -, -⟩ := Cond.code_spec hn (atoms_spec (ws := ws) h _ (by rw [hw]; exact List.mem_cons_self))
    exact ⟨meth, c, h1, h2, h3, h4, h5, h6⟩
  · intro p e s m args below meth c s₁ B hml hP _
    have hh0 : s₁.heap = s.heap := by rw [B.state]; rfl
    obtain ⟨t, a1, o, b1, b2, b3⟩ := body p e s m args below meth c s₁ B hml hP s₁ hh0 (Stand.of_body B)
    exact ⟨t, o, a1, b1, b2, ⟨b3.1, b3.2⟩⟩
def jrm (d : Nat) : Room := { frames := d, cells := 0, slots := 0, locals := 31 * d }
theorem jent1_len (ad : Nat → Nat) (as : List PV) : (jent1 as).length = (lg_sl (as.map (mv ad))).length := by
  induction as with
  | nil => rfl
  | cons v vs ih =>
    have e : lg_sl ((v :: vs).map (mv ad)) = lg_sl [mv ad v] ++ lg_sl (vs.map (mv ad)) := by simp [lg_sl]
    rw [e, List.length_append, ← ih]
    rw [show jent1 (v :: vs) = if jcat v = 2 then v :: vU :: jent1 vs else v :: jent1 vs from rfl]
    by_cases h : jcat v = 2
    · rw [if_pos h]
      have : (mv ad v).category = 2 := by rw [mv_cat]; exact h
      simp [lg_sl, this]; omega
    · rw [if_neg h]
      have : ¬ (mv ad v).category = 2 := by rw [mv_cat]; exact h
      simp [lg_sl, this]; omega
theorem jent_args (ad : Nat → Nat) (T : List PV) : ∀ (as P : List PV) (i : Nat) (v : PV), (P ++ jent1 as ++ T)[i]? = some v → P.length ≤ i → i < (P ++ jent1 as).length → v ≠ vU → (i, mv ad v) ∈ lv_args P.length (as.map (mv ad)) := by
  intro as
  induction as with
  | nil =>
    intro P i v h h1 h2
    simp [jent1] at h2
    omega
  | cons x xs ih =>
    intro P i v h h1 h2 hv
    simp only [List.map_cons, lv_args]
    by_cases hi : i = P.length
    · subst hi
      have hx : v = x := by
        unfold jent1 at h
        by_cases hc : jcat x = 2
        · rw [if_pos hc] at h; simpa using h.symm
        · rw [if_neg hc] at h; simpa using h.symm
      subst hx
      exact List.mem_cons_self
    · refine List.mem_cons_of_mem _ ?_
      rw [mv_cat]
      unfold jent1 at h h2
      by_cases hc : jcat x = 2
      · rw [if_pos hc] at h h2 ⊢
        by_cases hi2 : i = P.length + 1
        · subst hi2
          simp at h
          exact absurd h.symm hv
        · have := ih (P ++ [x, vU]) i v (by simpa using h) (by simp; omega) (by simpa using h2) hv
          simpa using this
      · rw [if_neg hc] at h h2 ⊢
        have := ih (P ++ [x]) i v (by simpa using h) (by simp; omega) (by simpa using h2) hv
        simpa using this
theorem jent_LH (ad : Nat → Nat) {as : List PV} {n : Nat} (h : (jent1 as).length ≤ n) {lsA : Array Slot} (hl : lv_has lsA n (lv_args 0 (as.map (mv ad)))) : LH ad lsA n (jent as n) := by
  refine ⟨by simp [jent]; omega, hl.1, hl.2.1, ?_⟩
  rintro ⟨i, u⟩ hi
  obtain ⟨v, h1, h2, rfl⟩ := jal_mem.mp hi
  refine hl.2.2 _ ?_
  have hv : v ≠ vU := by
    rintro rfl
    simp [jvalid] at h2
  by_cases hlt : i < (jent1 as).length
  · exact jent_args ad _ as [] i v (by simpa [jent] using h1) (Nat.zero_le _) (by simpa using hlt) hv
  · unfold jent at h1
    rw [List.getElem?_append_right (by omega)] at h1
    exact absurd (List.eq_of_mem_replicate (List.mem_of_getElem? h1)) hv
/-- A METHOD: what the small machine answers, the machine answers -/
theorem ev_ok {l : Launch} {D : va_G} {ad : Nat → Nat} {cA : Nat → ClassId} {V : Vw} {prim : Nat → Orc} (hk4 : ∀ (q t n : Nat), V.1[q]? = some (.inr (t, n)) → t < 4) (hprim : ∀ d, EOK l D ad cA V (jrm d) (prim d)) : ∀ d, EOK l D ad cA V (jrm d) (ev V prim (d + 1)) := by
  have step : ∀ (d : Nat) (rm : Room), RMK (ev V prim d) rm (jrm d) 0 0 → EOK l D ad cA V rm (ev V prim d) → EOK l D ad cA V (jrm d) (ev V prim (d + 1)) := by
    intro d rm hrm hE mm as σ r h y M ml ret ht
    unfold ev at h
    split at h
    · rename_i r' hp
      cases h
      exact hprim d mm as σ r hp y M ml ret ht
    · rw [ht] at h
      simp only at h
      split at h
      · rename_i hlen
        obtain ⟨n, hn⟩ := out_run h
        obtain ⟨u1, u2, u3, u4, u5, u6⟩ := jm_ok ht
        refine ofWF (cc := M.1) (maxL := ml) (ret := ret) u2 rfl ?_
        intro p e s m args below meth c s₁ B hml hv
        obtain ⟨rfl, hP, hK, hF, hA⟩ := hv
        have hts : ∀ w ∈ lw_g, w.before (as.map (mv ad)).toArray s = true := fun w hw => atoms_spec (ws := .code y M.1 ml ret :: lw_g) B.pre w (List.mem_cons_of_mem _ hw)
        have hown : s.vm.findClass (jon M.2.1) = some m.cls := by rw [← u3]; exact findClass_of_methodNamed B.named
        have hlocks := B.notSynchronized
        have C : CX p s m (as.map (mv ad)).toArray c D ad cA V (AW ad V.1.length) ml M := ⟨B.exec, B.bytes, hml, hown, hts, hK, hF, hA⟩
        have hret : ∀ (pc : Nat) (ls : List PV), jRetAt M r.1 pc → GO p l e (jrm d) s m (as.map (mv ad)).toArray below meth c 0 0 (MQ below (QR D ad cA V r) (as.map (mv ad)).toArray s 0 0 (AW ad V.1.length)) D ad cA V (AW ad V.1.length) ml pc ls r.1.toList r.2 := by
          intro pc ls hat H locs lsA hP hS hl
          have hq : ∀ t : State, t.heap = H → s.WarmedH t.vm → QR D ad cA V r (as.map (mv ad)).toArray s (.returned (r.1.map (mv ad))) t := fun t ht _ => ⟨rfl, by rw [ht]; exact hP, hS.F ht⟩
          have hr := B.returns
          obtain ⟨v, σ'⟩ := r
          match v, hat, hq with
          | none, hat, hq =>
            have : ret = none := by rcases u6 with h | h | h | h | h | h <;> first | exact h.2 | (have := hat.2; omega)
            rw [this] at hr
            exact W.vret B.exec B.bytes hr hq hS.2.2 hat.1
          | some (.inl a), hat, hq =>
            rcases hat.2 with hk | ⟨hk, hz⟩
            · have : ret = some .int := by rcases u6 with h | h | h | h | h | h <;> first | exact h.2 | omega
              rw [this] at hr
              exact W.iret B.exec B.bytes hr hq hS.2.2 hat.1
            · have : ret = some .boolean := by rcases u6 with h | h | h | h | h | h <;> first | exact h.2 | omega
              rw [this] at hr
              exact W.zret B.exec B.bytes hr (nar_z (w32_bit hz)).1 hq hS.2.2 hat.1
          | some (.inr (.inl a)), hat, hq =>
            have : ret = some .long := by rcases u6 with h | h | h | h | h | h <;> first | exact h.2 | (have := hat.2; omega)
            rw [this] at hr
            exact W.lret B.exec B.bytes hr hq hS.2.2 hat.1
          | some (.inr (.inr (.inl a))), hat, hq =>
            have : ret = some .double := by rcases u6 with h | h | h | h | h | h <;> first | exact h.2 | (have := hat.2; omega)
            rw [this] at hr
            exact W.dret B.exec B.bytes hr hq hS.2.2 hat.1
        have hgo : GO p l e (jrm d) s m (as.map (mv ad)).toArray below meth c 0 0 (MQ below (QR D ad cA V r) (as.map (mv ad)).toArray s 0 0 (AW ad V.1.length)) D ad cA V (AW ad V.1.length) ml 0 (jent as ml) [] σ := by
          exact run_go (rm := rm) C hk4 hE hrm hret n 0 (jent as ml) [] σ hn
        have hl := lv_entry (as.map (mv ad)) (n := ml) (by rw [← jent1_len]; exact hlen)
        rw [lg_entry_eq]
        exact hgo s.heap [] _ hP va_S.rf (jent_LH ad hlen hl)
      · cases h
  intro d
  induction d with
  | zero => exact step 0 (jrm 0) ⟨Nat.le_refl 0, Nat.le_refl 0, fun m as σ r h => by simp [ev] at h⟩ (fun m as σ r h => by simp [ev] at h)
  | succ d ih => exact step (d + 1) (jrm d) ⟨Nat.le_refl 0, Nat.le_refl 0, fun m as σ r h => ⟨rfl, rfl, Nat.le_refl _, by show 31 + 31 * d ≤ 31 * (d + 1); omega⟩⟩ ih
