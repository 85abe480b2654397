def jlenOf (i : Instr) : Nat := match i with
  | .iconst _ => 1 | .bipush _ => 2 | .sipush _ => 3 | .lconst _ => 1 | .dconst _ => 1 | .ldc _ => 2 | .ldc_w _ => 3 | .ldc2_w _ => 3
  | .iload_n _ => 1 | .iload _ => 2 | .lload_n _ => 1 | .lload _ => 2 | .dload_n _ => 1 | .dload _ => 2 | .aload_n _ => 1 | .aload _ => 2
  | .istore_n _ => 1 | .istore _ => 2 | .lstore_n _ => 1 | .lstore _ => 2 | .dstore_n _ => 1 | .dstore _ => 2 | .iinc _ _ => 3
  | .ifCond _ _ => 3 | .if_icmp _ _ => 3 | .goto _ => 3 | .getfield _ => 3 | .putfield _ => 3 | .getstatic _ => 3 | .invokevirtual _ => 3 | .invokestatic _ => 3
  | .tableswitch _ _ _ _ => 0 | .lookupswitch _ _ => 0
  | _ => 1
def stpI (V : Vw) (E : Orc) (M : MT) (pc : Nat) (ls st : List PV) (σ : St) (i : Instr) : Sp := match i with
  | .iconst k => jnx (pc + 1) ls (vI k :: st) σ
  | .bipush k => if -128 ≤ k ∧ k ≤ 127 then jnx (pc + 2) ls (vI k :: st) σ else none
  | .sipush k => if -32768 ≤ k ∧ k ≤ 32767 then jnx (pc + 3) ls (vI k :: st) σ else none
  | .lconst k => jnx (pc + 1) ls (vL ((k : Nat) : Int) :: st) σ
  | .dconst k => jnx (pc + 1) ls (vD (if k = 0 then FP.dconst0 else FP.dconst1) :: st) σ
  | .ldc i => if M.2.1 = 4 ∧ i = 23 then (if (V.2 1001).isSome = true then jnx (pc + 2) ls (vR 1002 :: st) σ else none) else jpush (jiOf M.2.1 i) (pc + 2) ls st σ
  | .ldc_w i => jpush (jiOf M.2.1 i) (pc + 3) ls st σ
  | .ldc2_w i => jpush (jkOf M.2.1 i) (pc + 3) ls st σ
  | .iload_n k => jldI (k : Nat) (pc + 1) ls st σ
  | .iload k => jldI k (pc + 2) ls st σ
  | .lload_n k => jldL (k : Nat) (pc + 1) ls st σ
  | .lload k => jldL k (pc + 2) ls st σ
  | .dload_n k => jldD (k : Nat) (pc + 1) ls st σ
  | .dload k => jldD k (pc + 2) ls st σ
  | .aload_n k => jldA (k : Nat) (pc + 1) ls st σ
  | .aload k => jldA k (pc + 2) ls st σ
  | .istore_n k => jstI (k : Nat) (pc + 1) ls st σ
  | .istore k => jstI k (pc + 2) ls st σ
  | .lstore_n k => jstL (k : Nat) (pc + 1) ls st σ
  | .lstore k => jstL k (pc + 2) ls st σ
  | .dstore_n k => jstD (k : Nat) (pc + 1) ls st σ
  | .dstore k => jstD k (pc + 2) ls st σ
  | .iinc k n => jinc k n (pc + 3) ls st σ
  | .iadd => jbi (fun a b => a + b) (pc + 1) ls st σ
  | .isub => jbi (fun a b => a - b) (pc + 1) ls st σ
  | .imul => jbi (fun a b => a * b) (pc + 1) ls st σ
  | .idiv => jbz false (pc + 1) ls st σ
  | .irem => jbz true (pc + 1) ls st σ
  | .ineg => jui (fun a => vI (-a)) (pc + 1) ls st σ
  | .ishl => jbi (jsi fun x y => x <<< (y &&& 31)) (pc + 1) ls st σ
  | .ishr => jbi (jsi fun x y => x >>> (y &&& 31)) (pc + 1) ls st σ
  | .iushr => jbi (jsi fun x y => (x.toUInt32 >>> (y.toUInt32 &&& Int32.toUInt32 31)).toInt32) (pc + 1) ls st σ
  | .iand => jbi (jsi fun x y => x &&& y) (pc + 1) ls st σ
  | .ior => jbi (jsi fun x y => x ||| y) (pc + 1) ls st σ
  | .ixor => jbi (jsi fun x y => x ^^^ y) (pc + 1) ls st σ
  | .ladd => jbl (fun a b => a + b) (pc + 1) ls st σ
  | .lsub => jbl (fun a b => a - b) (pc + 1) ls st σ
  | .lmul => jbl (fun a b => a * b) (pc + 1) ls st σ
  | .ldiv => jblz false (pc + 1) ls st σ
  | .lrem => jblz true (pc + 1) ls st σ
  | .land => jbl (jsl fun x y => x &&& y) (pc + 1) ls st σ
  | .lor => jbl (jsl fun x y => x ||| y) (pc + 1) ls st σ
  | .lxor => jbl (jsl fun x y => x ^^^ y) (pc + 1) ls st σ
  | .lshl => jshl64 (pc + 1) ls st σ
  | .dadd => jbd FP.dadd (pc + 1) ls st σ
  | .dsub => jbd FP.dsub (pc + 1) ls st σ
  | .dmul => jbd FP.dmul (pc + 1) ls st σ
  | .ddiv => jbd FP.ddiv (pc + 1) ls st σ
  | .i2l => jui (fun a => vL (w32 a)) (pc + 1) ls st σ
  | .i2d => jui (fun a => vD (FP.i2d (Int32.ofInt a))) (pc + 1) ls st σ
  | .i2b => jui (fun a => vI (b8 a)) (pc + 1) ls st σ
  | .l2i => jul (fun a => vI a) (pc + 1) ls st σ
  | .l2d => jul (fun a => vD (FP.l2d (Int64.ofInt a))) (pc + 1) ls st σ
  | .d2i => jud (fun a => vI ((FP.d2i a).toInt)) (pc + 1) ls st σ
  | .d2l => jud (fun a => vL ((FP.d2l a).toInt)) (pc + 1) ls st σ
  | .lcmp => jlcmp (pc + 1) ls st σ
  | .dcmp op => jdcmp op (pc + 1) ls st σ
  | .ifCond c off => jif1 c off pc ls st σ
  | .if_icmp c off => jif2 c off pc ls st σ
  | .goto off => jto pc off ls st σ
  | .tableswitch d lo hi offs => jtab d lo hi offs pc ls st σ
  | .lookupswitch d ps => jlks d ps pc ls st σ
  | .ireturn => jret M.2.2 st σ
  | .lreturn => jretL M.2.2 st σ
  | .dreturn => jretD M.2.2 st σ
  | .return_ => jretV M.2.2 st σ
  | .getfield i => jget V (jfOf M.2.1 i) (pc + 3) ls st σ
  | .putfield i => jput V (jfOf M.2.1 i) (pc + 3) ls st σ
  | .getstatic i => jgst V (jsOf M.2.1 i) (pc + 3) ls st σ
  | .iaload => jald vI 0 V (pc + 1) ls st σ
  | .laload => jald vL 3 V (pc + 1) ls st σ
  | .baload => jbald V (pc + 1) ls st σ
  | .iastore => jiast V (pc + 1) ls st σ
  | .lastore => jlast V (pc + 1) ls st σ
  | .bastore => jbast V (pc + 1) ls st σ
  | .arraylength => jlen V (pc + 1) ls st σ
  | .invokevirtual i => jcal V E true (jcOf M.2.1 i) (pc + 3) ls st σ
  | .invokestatic i => jcal V E false (jcOf M.2.1 i) (pc + 3) ls st σ
  | .dup => jdup (pc + 1) ls st σ
  | .dup2 => jdup2 (pc + 1) ls st σ
  | .pop => jpp (pc + 1) ls st σ
  | _ => none
def stp (V : Vw) (E : Orc) (M : MT) (pc : Nat) (ls st : List PV) (σ : St) : Sp := match decode M.1 pc with
  | .ok (i, n) => if jlenOf i = 0 ∨ n = jlenOf i then stpI V E M pc ls st σ i else none
  | .error _ => none
def runF (V : Vw) (E : Orc) (M : MT) : Nat → Nat → List PV → List PV → St → Option Rt
  | 0, _, _, _, _ => none
  | n + 1, pc, ls, st, σ => match stp V E M pc ls st σ with
    | none => none
    | some (.inl (pc', ls', st', σ')) => runF V E M n pc' ls' st' σ'
    | some (.inr r) => some r
theorem runF_more {V : Vw} {E : Orc} {M : MT} : ∀ (n k pc : Nat) (ls st : List PV) (σ : St) (r : Rt), runF V E M n pc ls st σ = some r → runF V E M (n + k) pc ls st σ = some r := by
  intro n
  induction n with
  | zero => intro k pc ls st σ r h; simp [runF] at h
  | succ n ih =>
    intro k pc ls st σ r h
    rw [show n + 1 + k = (n + k) + 1 by omega]
    unfold runF at h ⊢
    cases hs : stp V E M pc ls st σ with
    | none => rw [hs] at h; simp at h
    | some x =>
      rw [hs] at h
      match x, h with
      | .inl (pc', ls', st', σ'), h => exact ih k pc' ls' st' σ' r h
      | .inr r', h => exact h
theorem runF_one {V : Vw} {E : Orc} {M : MT} {n k pc : Nat} {ls st : List PV} {σ : St} {r r' : Rt} (h : runF V E M n pc ls st σ = some r) (h' : runF V E M k pc ls st σ = some r') : r = r' := by
  have h1 := runF_more n k pc ls st σ r h
  have h2 := runF_more k n pc ls st σ r' h'
  rw [Nat.add_comm] at h2
  exact Option.some.inj (h1.symm.trans h2)
/-- what the code answers from here on, if it ends -/
noncomputable def out (V : Vw) (E : Orc) (M : MT) (pc : Nat) (ls st : List PV) (σ : St) : Option Rt :=
  @dite (Option Rt) (∃ r, ∃ n, runF V E M n pc ls st σ = some r) (Classical.propDecidable _) (fun h => some (Classical.choose h)) (fun _ => none)
theorem out_of {V : Vw} {E : Orc} {M : MT} {n pc : Nat} {ls st : List PV} {σ : St} {r : Rt} (h : runF V E M n pc ls st σ = some r) : out V E M pc ls st σ = some r := by
  unfold out
  have hx : ∃ r, ∃ n, runF V E M n pc ls st σ = some r := ⟨r, n, h⟩
  rw [dif_pos hx]
  obtain ⟨k, hk⟩ := Classical.choose_spec hx
  rw [runF_one hk h]
theorem out_run {V : Vw} {E : Orc} {M : MT} {pc : Nat} {ls st : List PV} {σ : St} {r : Rt} (h : out V E M pc ls st σ = some r) : ∃ n, runF V E M n pc ls st σ = some r := by
  unfold out at h
  by_cases hx : ∃ r, ∃ n, runF V E M n pc ls st σ = some r
  · rw [dif_pos hx] at h
    obtain ⟨k, hk⟩ := Classical.choose_spec hx
    exact ⟨k, by rw [hk]; exact h⟩
  · rw [dif_neg hx] at h; cases h
theorem out_nx {V : Vw} {E : Orc} {M : MT} {pc pc' : Nat} {ls st ls' st' : List PV} {σ σ' : St} (h : stp V E M pc ls st σ = jnx pc' ls' st' σ') : out V E M pc ls st σ = out V E M pc' ls' st' σ' := by
  have key : ∀ n, runF V E M (n + 1) pc ls st σ = runF V E M n pc' ls' st' σ' := fun n => by rw [runF, h]; rfl
  cases hq : out V E M pc' ls' st' σ' with
  | some r =>
    obtain ⟨n, hn⟩ := out_run hq
    exact out_of (n := n + 1) (by rw [key]; exact hn)
  | none =>
    cases hp : out V E M pc ls st σ with
    | none => rfl
    | some r =>
      obtain ⟨n, hn⟩ := out_run hp
      cases n with
      | zero => simp [runF] at hn
      | succ n =>
        rw [key] at hn
        rw [out_of hn] at hq
        cases hq
theorem out_rt {V : Vw} {E : Orc} {M : MT} {pc : Nat} {ls st : List PV} {σ σ' : St} {v : Option PV} (h : stp V E M pc ls st σ = jrt v σ') : out V E M pc ls st σ = some (v, σ') := out_of (n := 1) (by rw [runF, h]; rfl)
theorem out_no {V : Vw} {E : Orc} {M : MT} {pc : Nat} {ls st : List PV} {σ : St} (h : stp V E M pc ls st σ = none) : out V E M pc ls st σ = none := by
  cases hp : out V E M pc ls st σ with
  | none => rfl
  | some r =>
    obtain ⟨n, hn⟩ := out_run hp
    cases n with
    | zero => simp [runF] at hn
    | succ n => rw [runF, h] at hn; cases hn
/-- the locals with which a method begins -/
def jent1 : List PV → List PV
  | [] => []
  | v :: vs => if jcat v = 2 then v :: vU :: jent1 vs else v :: jent1 vs
def jent (as : List PV) (n : Nat) : List PV := jent1 as ++ List.replicate (n - (jent1 as).length) vU
/-- what a method answers, at most d calls deep -/
noncomputable def ev (V : Vw) (prim : Nat → Orc) : Nat → Orc
  | 0, _, _, _ => none
  | d + 1, m, as, σ => match prim d m as σ with
    | some r => some r
    | none => match jmT[m]? with
      | some (_, M, ml, _) => if (jent1 as).length ≤ ml then out V (ev V prim d) M 0 (jent as ml) [] σ else none
      | none => none
