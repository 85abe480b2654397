/-! the small machine's instructions, as equations of 'out' -/
def jshl (a b : Int) : Int := jsi (fun x y => x <<< (y &&& 31)) a b
def jshr (a b : Int) : Int := jsi (fun x y => x >>> (y &&& 31)) a b
def jushr (a b : Int) : Int := jsi (fun x y => (x.toUInt32 >>> (y.toUInt32 &&& Int32.toUInt32 31)).toInt32) a b
def jand (a b : Int) : Int := jsi (fun x y => x &&& y) a b
def jor (a b : Int) : Int := jsi (fun x y => x ||| y) a b
def jxor (a b : Int) : Int := jsi (fun x y => x ^^^ y) a b
def jland (a b : Int) : Int := jsl (fun x y => x &&& y) a b
def jlor (a b : Int) : Int := jsl (fun x y => x ||| y) a b
def jlxor (a b : Int) : Int := jsl (fun x y => x ^^^ y) a b
def jlshl (a b : Int) : Int := (Int64.ofInt a <<< ((Int32.ofInt b).toInt64 &&& 63)).toInt
def jlcp (a b : Int) : Int := if w64 b < w64 a then 1 else if w64 a = w64 b then 0 else -1
def fpN (x : UInt64) : Prop := x &&& 0x7fffffffffffffff ≤ 0x7ff0000000000000
def jq (a b : Int) : Int := (w32 a).tdiv (w32 b)
def jr (a b : Int) : Int := (w32 a).tmod (w32 b)
def jlq (a b : Int) : Int := (w64 a).tdiv (w64 b)
def jlr (a b : Int) : Int := (w64 a).tmod (w64 b)
def jfi (x : UInt64) : Int := (FP.d2i x).toInt
def jfl (x : UInt64) : Int := (FP.d2l x).toInt
def jif (a : Int) : UInt64 := FP.i2d (Int32.ofInt a)
def jlf (a : Int) : UInt64 := FP.l2d (Int64.ofInt a)
def jcp (op : CmpOp) (a b : UInt64) : Int := (Op.cmpValue (FP.dcmp a b) op).toInt
/-- behind a call -/
def jbI (o : Option Rt) (k : Int → St → Option Rt) : Option Rt := match o with
  | some (some (.inl a), σ) => k a σ
  | _ => none
def jbL (o : Option Rt) (k : Int → St → Option Rt) : Option Rt := match o with
  | some (some (.inr (.inl a)), σ) => k a σ
  | _ => none
def jbD (o : Option Rt) (k : UInt64 → St → Option Rt) : Option Rt := match o with
  | some (some (.inr (.inr (.inl a))), σ) => k a σ
  | _ => none
def jbV (o : Option Rt) (k : St → Option Rt) : Option Rt := match o with
  | some (none, σ) => k σ
  | _ => none
theorem jbI_some (a : Int) (σ : St) (k : Int → St → Option Rt) : jbI (some (some (vI a), σ)) k = k a σ := rfl
theorem jbL_some (a : Int) (σ : St) (k : Int → St → Option Rt) : jbL (some (some (vL a), σ)) k = k a σ := rfl
theorem jbD_some (a : UInt64) (σ : St) (k : UInt64 → St → Option Rt) : jbD (some (some (vD a), σ)) k = k a σ := rfl
theorem jbV_some (σ : St) (k : St → Option Rt) : jbV (some (none, σ)) k = k σ := rfl
theorem jbI_c {o : Option Rt} {k k' : Int → St → Option Rt} (h : ∀ a σ, k a σ = k' a σ) : jbI o k = jbI o k' := by rw [show k = k' from funext fun a => funext fun σ => h a σ]
theorem jbL_c {o : Option Rt} {k k' : Int → St → Option Rt} (h : ∀ a σ, k a σ = k' a σ) : jbL o k = jbL o k' := by rw [show k = k' from funext fun a => funext fun σ => h a σ]
theorem jbD_c {o : Option Rt} {k k' : UInt64 → St → Option Rt} (h : ∀ a σ, k a σ = k' a σ) : jbD o k = jbD o k' := by rw [show k = k' from funext fun a => funext fun σ => h a σ]
theorem jbV_c {o : Option Rt} {k k' : St → Option Rt} (h : ∀ σ, k σ = k' σ) : jbV o k = jbV o k' := by rw [show k = k' from funext fun σ => h σ]
theorem ite_c {α : Type} {c : Prop} [Decidable c] {a b a' b' : α} (h1 : a = a') (h2 : b = b') : (if c then a else b) = (if c then a' else b') := by rw [h1, h2]
section OUT
variable {V : Vw} {E : Orc} {M : MT} {pc : Nat} {ls r : List PV} {σ : St}
theorem stp_i {n : Nat} {i : Instr} (h : decode M.1 pc = .ok (i, n)) (hn : jlenOf i = 0 ∨ n = jlenOf i) {st : List PV} : stp V E M pc ls st σ = stpI V E M pc ls st σ i := by
  unfold stp
  rw [h]
  simp only
  rw [if_pos hn]
theorem o_nx {n : Nat} {i : Instr} (h : decode M.1 pc = .ok (i, n)) (hn : n = jlenOf i) {st : List PV} {pc' : Nat} {ls' st' : List PV} {σ' : St} (hs : stpI V E M pc ls st σ i = jnx pc' ls' st' σ') : out V E M pc ls st σ = out V E M pc' ls' st' σ' := out_nx ((stp_i h (Or.inr hn)).trans hs)
theorem o_no {n : Nat} {i : Instr} (h : decode M.1 pc = .ok (i, n)) (hn : n = jlenOf i) {st : List PV} (hs : stpI V E M pc ls st σ i = none) : out V E M pc ls st σ = none := out_no ((stp_i h (Or.inr hn)).trans hs)
theorem o_iconst {k : Int} (h : decode M.1 pc = .ok (.iconst k, 1)) : out V E M pc ls (r) σ = out V E M (pc + 1) ls (vI k :: r) σ := o_nx h rfl rfl
theorem o_bipush {k : Int} (h : decode M.1 pc = .ok (.bipush k, 2)) (hk : -128 ≤ k ∧ k ≤ 127) : out V E M pc ls r σ = out V E M (pc + 2) ls (vI k :: r) σ := o_nx h rfl (if_pos hk)
theorem o_sipush {k : Int} (h : decode M.1 pc = .ok (.sipush k, 3)) (hk : -32768 ≤ k ∧ k ≤ 32767) : out V E M pc ls r σ = out V E M (pc + 3) ls (vI k :: r) σ := o_nx h rfl (if_pos hk)
theorem o_lconst0 (h : decode M.1 pc = .ok (.lconst 0, 1)) : out V E M pc ls (r) σ = out V E M (pc + 1) ls (vL 0 :: r) σ := o_nx h rfl rfl
theorem o_lconst1 (h : decode M.1 pc = .ok (.lconst 1, 1)) : out V E M pc ls (r) σ = out V E M (pc + 1) ls (vL 1 :: r) σ := o_nx h rfl rfl
theorem o_dconst0 (h : decode M.1 pc = .ok (.dconst 0, 1)) : out V E M pc ls (r) σ = out V E M (pc + 1) ls (vD FP.dconst0 :: r) σ := o_nx h rfl rfl
theorem o_dconst1 (h : decode M.1 pc = .ok (.dconst 1, 1)) : out V E M pc ls (r) σ = out V E M (pc + 1) ls (vD FP.dconst1 :: r) σ := o_nx h rfl rfl
theorem o_ldc {i : Nat} {a : Int} (h : decode M.1 pc = .ok (.ldc i, 2)) (hs : ¬ (M.2.1 = 4 ∧ i = 23)) (hv : jiOf M.2.1 i = some (vI a)) : out V E M pc ls r σ = out V E M (pc + 2) ls (vI a :: r) σ := o_nx h rfl (by show (if _ then _ else _) = _; rw [if_neg hs, hv]; rfl)
theorem o_ldcs {i : Nat} (h : decode M.1 pc = .ok (.ldc i, 2)) (hs : M.2.1 = 4 ∧ i = 23) (hv : (V.2 1001).isSome = true) : out V E M pc ls r σ = out V E M (pc + 2) ls (vR 1002 :: r) σ := o_nx h rfl (by show (if _ then _ else _) = _; rw [if_pos hs, if_pos hv])
theorem o_ldcw {i : Nat} {a : Int} (h : decode M.1 pc = .ok (.ldc_w i, 3)) (hv : jiOf M.2.1 i = some (vI a)) : out V E M pc ls r σ = out V E M (pc + 3) ls (vI a :: r) σ := o_nx h rfl (by show jpush _ _ _ _ _ = _; rw [hv]; rfl)
theorem o_ldc2 {i : Nat} {v : PV} (h : decode M.1 pc = .ok (.ldc2_w i, 3)) (hv : jkOf M.2.1 i = some v) : out V E M pc ls r σ = out V E M (pc + 3) ls (v :: r) σ := o_nx h rfl (by show jpush _ _ _ _ _ = _; rw [hv]; rfl)
theorem o_iload_n {k : Fin 4} {a : Int} (h : decode M.1 pc = .ok (.iload_n k, 1)) (hl : ls[(k : Nat)]? = some (vI a)) : out V E M pc ls r σ = out V E M (pc + 1) ls (vI a :: r) σ := o_nx h rfl (by show jldI _ _ _ _ _ = _; unfold jldI; rw [hl])
theorem o_iload {k : Nat} {a : Int} (h : decode M.1 pc = .ok (.iload k, 2)) (hl : ls[k]? = some (vI a)) : out V E M pc ls r σ = out V E M (pc + 2) ls (vI a :: r) σ := o_nx h rfl (by show jldI _ _ _ _ _ = _; unfold jldI; rw [hl])
theorem o_aload_n {k : Fin 4} {a : Nat} (h : decode M.1 pc = .ok (.aload_n k, 1)) (hl : ls[(k : Nat)]? = some (vR a)) : out V E M pc ls r σ = out V E M (pc + 1) ls (vR a :: r) σ := o_nx h rfl (by show jldA _ _ _ _ _ = _; unfold jldA; rw [hl])
theorem o_aload {k : Nat} {a : Nat} (h : decode M.1 pc = .ok (.aload k, 2)) (hl : ls[k]? = some (vR a)) : out V E M pc ls r σ = out V E M (pc + 2) ls (vR a :: r) σ := o_nx h rfl (by show jldA _ _ _ _ _ = _; unfold jldA; rw [hl])
theorem o_lload_n {k : Fin 4} {a : Int} (h : decode M.1 pc = .ok (.lload_n k, 1)) (hl : ls[(k : Nat)]? = some (vL a)) (hl2 : ls[(k : Nat) + 1]? = some vU) : out V E M pc ls r σ = out V E M (pc + 1) ls (vL a :: r) σ := o_nx h rfl (by show jldL _ _ _ _ _ = _; unfold jldL; rw [hl, hl2])
theorem o_lload {k : Nat} {a : Int} (h : decode M.1 pc = .ok (.lload k, 2)) (hl : ls[k]? = some (vL a)) (hl2 : ls[k + 1]? = some vU) : out V E M pc ls r σ = out V E M (pc + 2) ls (vL a :: r) σ := o_nx h rfl (by show jldL _ _ _ _ _ = _; unfold jldL; rw [hl, hl2])
theorem o_dload_n {k : Fin 4} {a : UInt64} (h : decode M.1 pc = .ok (.dload_n k, 1)) (hl : ls[(k : Nat)]? = some (vD a)) (hl2 : ls[(k : Nat) + 1]? = some vU) : out V E M pc ls r σ = out V E M (pc + 1) ls (vD a :: r) σ := o_nx h rfl (by show jldD _ _ _ _ _ = _; unfold jldD; rw [hl, hl2])
theorem o_dload {k : Nat} {a : UInt64} (h : decode M.1 pc = .ok (.dload k, 2)) (hl : ls[k]? = some (vD a)) (hl2 : ls[k + 1]? = some vU) : out V E M pc ls r σ = out V E M (pc + 2) ls (vD a :: r) σ := o_nx h rfl (by show jldD _ _ _ _ _ = _; unfold jldD; rw [hl, hl2])
theorem o_istore_n {k : Fin 4} {a : Int} {ls1 : List PV} (h : decode M.1 pc = .ok (.istore_n k, 1)) (hi : (k : Nat) < ls.length) (he : ls.set (k : Nat) (vI a) = ls1) : out V E M pc ls (vI a :: r) σ = out V E M (pc + 1) ls1 r σ := o_nx h rfl (by subst he; exact if_pos hi)
theorem o_istore {k : Nat} {a : Int} {ls1 : List PV} (h : decode M.1 pc = .ok (.istore k, 2)) (hi : k < ls.length) (he : ls.set k (vI a) = ls1) : out V E M pc ls (vI a :: r) σ = out V E M (pc + 2) ls1 r σ := o_nx h rfl (by subst he; exact if_pos hi)
theorem o_lstore_n {k : Fin 4} {a : Int} {ls1 : List PV} (h : decode M.1 pc = .ok (.lstore_n k, 1)) (hi : (k : Nat) + 1 < ls.length) (he : (ls.set (k : Nat) (vL a)).set ((k : Nat) + 1) vU = ls1) : out V E M pc ls (vL a :: r) σ = out V E M (pc + 1) ls1 r σ := o_nx h rfl (by subst he; exact if_pos hi)
theorem o_lstore {k : Nat} {a : Int} {ls1 : List PV} (h : decode M.1 pc = .ok (.lstore k, 2)) (hi : k + 1 < ls.length) (he : (ls.set k (vL a)).set (k + 1) vU = ls1) : out V E M pc ls (vL a :: r) σ = out V E M (pc + 2) ls1 r σ := o_nx h rfl (by subst he; exact if_pos hi)
theorem o_dstore_n {k : Fin 4} {a : UInt64} {ls1 : List PV} (h : decode M.1 pc = .ok (.dstore_n k, 1)) (hi : (k : Nat) + 1 < ls.length) (he : (ls.set (k : Nat) (vD a)).set ((k : Nat) + 1) vU = ls1) : out V E M pc ls (vD a :: r) σ = out V E M (pc + 1) ls1 r σ := o_nx h rfl (by subst he; exact if_pos hi)
theorem o_dstore {k : Nat} {a : UInt64} {ls1 : List PV} (h : decode M.1 pc = .ok (.dstore k, 2)) (hi : k + 1 < ls.length) (he : (ls.set k (vD a)).set (k + 1) vU = ls1) : out V E M pc ls (vD a :: r) σ = out V E M (pc + 2) ls1 r σ := o_nx h rfl (by subst he; exact if_pos hi)
theorem o_iinc {k : Nat} {n a : Int} {ls1 : List PV} (h : decode M.1 pc = .ok (.iinc k n, 3)) (hl : ls[k]? = some (vI a)) (hi : k < ls.length) (he : ls.set k (vI (a + n)) = ls1) : out V E M pc ls r σ = out V E M (pc + 3) ls1 r σ := o_nx h rfl (by subst he; show jinc _ _ _ _ _ _ = _; unfold jinc; rw [hl]; exact if_pos hi)
theorem o_iadd {a b : Int} (h : decode M.1 pc = .ok (.iadd, 1)) : out V E M pc ls (vI b :: vI a :: r) σ = out V E M (pc + 1) ls (vI (a + b) :: r) σ := o_nx h rfl rfl
theorem o_isub {a b : Int} (h : decode M.1 pc = .ok (.isub, 1)) : out V E M pc ls (vI b :: vI a :: r) σ = out V E M (pc + 1) ls (vI (a - b) :: r) σ := o_nx h rfl rfl
theorem o_imul {a b : Int} (h : decode M.1 pc = .ok (.imul, 1)) : out V E M pc ls (vI b :: vI a :: r) σ = out V E M (pc + 1) ls (vI (a * b) :: r) σ := o_nx h rfl rfl
theorem o_ishl {a b : Int} (h : decode M.1 pc = .ok (.ishl, 1)) : out V E M pc ls (vI b :: vI a :: r) σ = out V E M (pc + 1) ls (vI (jshl a b) :: r) σ := o_nx h rfl rfl
theorem o_ishr {a b : Int} (h : decode M.1 pc = .ok (.ishr, 1)) : out V E M pc ls (vI b :: vI a :: r) σ = out V E M (pc + 1) ls (vI (jshr a b) :: r) σ := o_nx h rfl rfl
theorem o_iushr {a b : Int} (h : decode M.1 pc = .ok (.iushr, 1)) : out V E M pc ls (vI b :: vI a :: r) σ = out V E M (pc + 1) ls (vI (jushr a b) :: r) σ := o_nx h rfl rfl
theorem o_iand {a b : Int} (h : decode M.1 pc = .ok (.iand, 1)) : out V E M pc ls (vI b :: vI a :: r) σ = out V E M (pc + 1) ls (vI (jand a b) :: r) σ := o_nx h rfl rfl
theorem o_ior {a b : Int} (h : decode M.1 pc = .ok (.ior, 1)) : out V E M pc ls (vI b :: vI a :: r) σ = out V E M (pc + 1) ls (vI (jor a b) :: r) σ := o_nx h rfl rfl
theorem o_ixor {a b : Int} (h : decode M.1 pc = .ok (.ixor, 1)) : out V E M pc ls (vI b :: vI a :: r) σ = out V E M (pc + 1) ls (vI (jxor a b) :: r) σ := o_nx h rfl rfl
theorem o_ladd {a b : Int} (h : decode M.1 pc = .ok (.ladd, 1)) : out V E M pc ls (vL b :: vL a :: r) σ = out V E M (pc + 1) ls (vL (a + b) :: r) σ := o_nx h rfl rfl
theorem o_lsub {a b : Int} (h : decode M.1 pc = .ok (.lsub, 1)) : out V E M pc ls (vL b :: vL a :: r) σ = out V E M (pc + 1) ls (vL (a - b) :: r) σ := o_nx h rfl rfl
theorem o_lmul {a b : Int} (h : decode M.1 pc = .ok (.lmul, 1)) : out V E M pc ls (vL b :: vL a :: r) σ = out V E M (pc + 1) ls (vL (a * b) :: r) σ := o_nx h rfl rfl
theorem o_land {a b : Int} (h : decode M.1 pc = .ok (.land, 1)) : out V E M pc ls (vL b :: vL a :: r) σ = out V E M (pc + 1) ls (vL (jland a b) :: r) σ := o_nx h rfl rfl
theorem o_lor {a b : Int} (h : decode M.1 pc = .ok (.lor, 1)) : out V E M pc ls (vL b :: vL a :: r) σ = out V E M (pc + 1) ls (vL (jlor a b) :: r) σ := o_nx h rfl rfl
theorem o_lxor {a b : Int} (h : decode M.1 pc = .ok (.lxor, 1)) : out V E M pc ls (vL b :: vL a :: r) σ = out V E M (pc + 1) ls (vL (jlxor a b) :: r) σ := o_nx h rfl rfl
theorem o_lshl {a b : Int} (h : decode M.1 pc = .ok (.lshl, 1)) : out V E M pc ls (vI b :: vL a :: r) σ = out V E M (pc + 1) ls (vL (jlshl a b) :: r) σ := o_nx h rfl rfl
theorem o_lcmp {a b : Int} (h : decode M.1 pc = .ok (.lcmp, 1)) : out V E M pc ls (vL b :: vL a :: r) σ = out V E M (pc + 1) ls (vI (jlcp a b) :: r) σ := o_nx h rfl rfl
theorem o_ineg {a : Int} (h : decode M.1 pc = .ok (.ineg, 1)) : out V E M pc ls (vI a :: r) σ = out V E M (pc + 1) ls (vI (-a) :: r) σ := o_nx h rfl rfl
theorem o_idiv {a b : Int} (h : decode M.1 pc = .ok (.idiv, 1)) : out V E M pc ls (vI b :: vI a :: r) σ = if w32 b = 0 then none else out V E M (pc + 1) ls (vI (jq a b) :: r) σ := by
  by_cases hb : w32 b = 0
  · rw [if_pos hb]; exact o_no h rfl (if_pos hb)
  · rw [if_neg hb]; exact o_nx h rfl (if_neg hb)
theorem o_idivk {a b : Int} (h : decode M.1 pc = .ok (.idiv, 1)) (hb : ¬ w32 b = 0) : out V E M pc ls (vI b :: vI a :: r) σ = out V E M (pc + 1) ls (vI (jq a b) :: r) σ := o_nx h rfl (if_neg hb)
theorem o_irem {a b : Int} (h : decode M.1 pc = .ok (.irem, 1)) : out V E M pc ls (vI b :: vI a :: r) σ = if w32 b = 0 then none else out V E M (pc + 1) ls (vI (jr a b) :: r) σ := by
  by_cases hb : w32 b = 0
  · rw [if_pos hb]; exact o_no h rfl (if_pos hb)
  · rw [if_neg hb]; exact o_nx h rfl (if_neg hb)
theorem o_iremk {a b : Int} (h : decode M.1 pc = .ok (.irem, 1)) (hb : ¬ w32 b = 0) : out V E M pc ls (vI b :: vI a :: r) σ = out V E M (pc + 1) ls (vI (jr a b) :: r) σ := o_nx h rfl (if_neg hb)
theorem o_ldiv {a b : Int} (h : decode M.1 pc = .ok (.ldiv, 1)) : out V E M pc ls (vL b :: vL a :: r) σ = if w64 b = 0 then none else out V E M (pc + 1) ls (vL (jlq a b) :: r) σ := by
  by_cases hb : w64 b = 0
  · rw [if_pos hb]; exact o_no h rfl (if_pos hb)
  · rw [if_neg hb]; exact o_nx h rfl (if_neg hb)
theorem o_ldivk {a b : Int} (h : decode M.1 pc = .ok (.ldiv, 1)) (hb : ¬ w64 b = 0) : out V E M pc ls (vL b :: vL a :: r) σ = out V E M (pc + 1) ls (vL (jlq a b) :: r) σ := o_nx h rfl (if_neg hb)
theorem o_lrem {a b : Int} (h : decode M.1 pc = .ok (.lrem, 1)) : out V E M pc ls (vL b :: vL a :: r) σ = if w64 b = 0 then none else out V E M (pc + 1) ls (vL (jlr a b) :: r) σ := by
  by_cases hb : w64 b = 0
  · rw [if_pos hb]; exact o_no h rfl (if_pos hb)
  · rw [if_neg hb]; exact o_nx h rfl (if_neg hb)
theorem o_lremk {a b : Int} (h : decode M.1 pc = .ok (.lrem, 1)) (hb : ¬ w64 b = 0) : out V E M pc ls (vL b :: vL a :: r) σ = out V E M (pc + 1) ls (vL (jlr a b) :: r) σ := o_nx h rfl (if_neg hb)
theorem o_dadd {a b : UInt64} (h : decode M.1 pc = .ok (.dadd, 1)) (hn : fpN (FP.dadd a b)) : out V E M pc ls (vD b :: vD a :: r) σ = out V E M (pc + 1) ls (vD (FP.dadd a b) :: r) σ := o_nx h rfl (if_pos hn)
theorem o_dsub {a b : UInt64} (h : decode M.1 pc = .ok (.dsub, 1)) (hn : fpN (FP.dsub a b)) : out V E M pc ls (vD b :: vD a :: r) σ = out V E M (pc + 1) ls (vD (FP.dsub a b) :: r) σ := o_nx h rfl (if_pos hn)
theorem o_dmul {a b : UInt64} (h : decode M.1 pc = .ok (.dmul, 1)) (hn : fpN (FP.dmul a b)) : out V E M pc ls (vD b :: vD a :: r) σ = out V E M (pc + 1) ls (vD (FP.dmul a b) :: r) σ := o_nx h rfl (if_pos hn)
theorem o_ddiv {a b : UInt64} (h : decode M.1 pc = .ok (.ddiv, 1)) (hn : fpN (FP.ddiv a b)) : out V E M pc ls (vD b :: vD a :: r) σ = out V E M (pc + 1) ls (vD (FP.ddiv a b) :: r) σ := o_nx h rfl (if_pos hn)
theorem o_i2l {a : Int} (h : decode M.1 pc = .ok (.i2l, 1)) : out V E M pc ls (vI a :: r) σ = out V E M (pc + 1) ls (vL (w32 a) :: r) σ := o_nx h rfl rfl
theorem o_i2d {a : Int} (h : decode M.1 pc = .ok (.i2d, 1)) : out V E M pc ls (vI a :: r) σ = out V E M (pc + 1) ls (vD (jif a) :: r) σ := o_nx h rfl rfl
theorem o_i2b {a : Int} (h : decode M.1 pc = .ok (.i2b, 1)) : out V E M pc ls (vI a :: r) σ = out V E M (pc + 1) ls (vI (b8 a) :: r) σ := o_nx h rfl rfl
theorem o_l2i {a : Int} (h : decode M.1 pc = .ok (.l2i, 1)) : out V E M pc ls (vL a :: r) σ = out V E M (pc + 1) ls (vI a :: r) σ := o_nx h rfl rfl
theorem o_l2d {a : Int} (h : decode M.1 pc = .ok (.l2d, 1)) : out V E M pc ls (vL a :: r) σ = out V E M (pc + 1) ls (vD (jlf a) :: r) σ := o_nx h rfl rfl
theorem o_d2i {a : UInt64} (h : decode M.1 pc = .ok (.d2i, 1)) : out V E M pc ls (vD a :: r) σ = out V E M (pc + 1) ls (vI (jfi a) :: r) σ := o_nx h rfl rfl
theorem o_d2l {a : UInt64} (h : decode M.1 pc = .ok (.d2l, 1)) : out V E M pc ls (vD a :: r) σ = out V E M (pc + 1) ls (vL (jfl a) :: r) σ := o_nx h rfl rfl
theorem o_dcmp {a b : UInt64} {op : CmpOp} (h : decode M.1 pc = .ok (.dcmp op, 1)) : out V E M pc ls (vD b :: vD a :: r) σ = out V E M (pc + 1) ls (vI (jcp op a b) :: r) σ := o_nx h rfl rfl
theorem o_if_eq {a : Int} {off : Int} {t : Nat} (h : decode M.1 pc = .ok (.ifCond .eq off, 3)) (ht : (pc : Int) + off = (t : Int)) : out V E M pc ls (vI a :: r) σ = if w32 a = 0 then out V E M t ls r σ else out V E M (pc + 3) ls r σ := by
  have h0 : 0 ≤ (pc : Int) + off := by omega
  have ht2 : ((pc : Int) + off).toNat = t := by omega
  by_cases hc : w32 a = 0
  · rw [if_pos hc]
    exact o_nx h rfl (by show (if _ then _ else _) = _; rw [if_pos h0, ht2]; simp [jcnd, hc])
  · rw [if_neg hc]
    exact o_nx h rfl (by show (if _ then _ else _) = _; rw [if_pos h0, ht2]; simp [jcnd, hc])
theorem o_icmp_eq {a b : Int} {off : Int} {t : Nat} (h : decode M.1 pc = .ok (.if_icmp .eq off, 3)) (ht : (pc : Int) + off = (t : Int)) : out V E M pc ls (vI b :: vI a :: r) σ = if w32 a = w32 b then out V E M t ls r σ else out V E M (pc + 3) ls r σ := by
  have h0 : 0 ≤ (pc : Int) + off := by omega
  have ht2 : ((pc : Int) + off).toNat = t := by omega
  by_cases hc : w32 a = w32 b
  · rw [if_pos hc]
    exact o_nx h rfl (by show (if _ then _ else _) = _; rw [if_pos h0, ht2]; simp [jcnd, hc])
  · rw [if_neg hc]
    exact o_nx h rfl (by show (if _ then _ else _) = _; rw [if_pos h0, ht2]; simp [jcnd, hc])
theorem o_if_ne {a : Int} {off : Int} {t : Nat} (h : decode M.1 pc = .ok (.ifCond .ne off, 3)) (ht : (pc : Int) + off = (t : Int)) : out V E M pc ls (vI a :: r) σ = if w32 a = 0 then out V E M (pc + 3) ls r σ else out V E M t ls r σ := by
  have h0 : 0 ≤ (pc : Int) + off := by omega
  have ht2 : ((pc : Int) + off).toNat = t := by omega
  by_cases hc : w32 a = 0
  · rw [if_pos hc]
    exact o_nx h rfl (by show (if _ then _ else _) = _; rw [if_pos h0, ht2]; simp [jcnd, hc])
  · rw [if_neg hc]
    exact o_nx h rfl (by show (if _ then _ else _) = _; rw [if_pos h0, ht2]; simp [jcnd, hc])
theorem o_icmp_ne {a b : Int} {off : Int} {t : Nat} (h : decode M.1 pc = .ok (.if_icmp .ne off, 3)) (ht : (pc : Int) + off = (t : Int)) : out V E M pc ls (vI b :: vI a :: r) σ = if w32 a = w32 b then out V E M (pc + 3) ls r σ else out V E M t ls r σ := by
  have h0 : 0 ≤ (pc : Int) + off := by omega
  have ht2 : ((pc : Int) + off).toNat = t := by omega
  by_cases hc : w32 a = w32 b
  · rw [if_pos hc]
    exact o_nx h rfl (by show (if _ then _ else _) = _; rw [if_pos h0, ht2]; simp [jcnd, hc])
  · rw [if_neg hc]
    exact o_nx h rfl (by show (if _ then _ else _) = _; rw [if_pos h0, ht2]; simp [jcnd, hc])
theorem o_if_lt {a : Int} {off : Int} {t : Nat} (h : decode M.1 pc = .ok (.ifCond .lt off, 3)) (ht : (pc : Int) + off = (t : Int)) : out V E M pc ls (vI a :: r) σ = if w32 a < 0 then out V E M t ls r σ else out V E M (pc + 3) ls r σ := by
  have h0 : 0 ≤ (pc : Int) + off := by omega
  have ht2 : ((pc : Int) + off).toNat = t := by omega
  by_cases hc : w32 a < 0
  · rw [if_pos hc]
    exact o_nx h rfl (by show (if _ then _ else _) = _; rw [if_pos h0, ht2]; simp [jcnd, hc])
  · rw [if_neg hc]
    exact o_nx h rfl (by show (if _ then _ else _) = _; rw [if_pos h0, ht2]; simp [jcnd, hc])
theorem o_icmp_lt {a b : Int} {off : Int} {t : Nat} (h : decode M.1 pc = .ok (.if_icmp .lt off, 3)) (ht : (pc : Int) + off = (t : Int)) : out V E M pc ls (vI b :: vI a :: r) σ = if w32 a < w32 b then out V E M t ls r σ else out V E M (pc + 3) ls r σ := by
  have h0 : 0 ≤ (pc : Int) + off := by omega
  have ht2 : ((pc : Int) + off).toNat = t := by omega
  by_cases hc : w32 a < w32 b
  · rw [if_pos hc]
    exact o_nx h rfl (by show (if _ then _ else _) = _; rw [if_pos h0, ht2]; simp [jcnd, hc])
  · rw [if_neg hc]
    exact o_nx h rfl (by show (if _ then _ else _) = _; rw [if_pos h0, ht2]; simp [jcnd, hc])
theorem o_if_ge {a : Int} {off : Int} {t : Nat} (h : decode M.1 pc = .ok (.ifCond .ge off, 3)) (ht : (pc : Int) + off = (t : Int)) : out V E M pc ls (vI a :: r) σ = if w32 a < 0 then out V E M (pc + 3) ls r σ else out V E M t ls r σ := by
  have h0 : 0 ≤ (pc : Int) + off := by omega
  have ht2 : ((pc : Int) + off).toNat = t := by omega
  by_cases hc : w32 a < 0
  · rw [if_pos hc]
    have hc' : ¬ 0 ≤ w32 a := by omega
    exact o_nx h rfl (by show (if _ then _ else _) = _; rw [if_pos h0, ht2]; simp [jcnd, hc'])
  · rw [if_neg hc]
    have hc' : 0 ≤ w32 a := by omega
    exact o_nx h rfl (by show (if _ then _ else _) = _; rw [if_pos h0, ht2]; simp [jcnd, hc'])
theorem o_icmp_ge {a b : Int} {off : Int} {t : Nat} (h : decode M.1 pc = .ok (.if_icmp .ge off, 3)) (ht : (pc : Int) + off = (t : Int)) : out V E M pc ls (vI b :: vI a :: r) σ = if w32 a < w32 b then out V E M (pc + 3) ls r σ else out V E M t ls r σ := by
  have h0 : 0 ≤ (pc : Int) + off := by omega
  have ht2 : ((pc : Int) + off).toNat = t := by omega
  by_cases hc : w32 a < w32 b
  · rw [if_pos hc]
    have hc' : ¬ w32 b ≤ w32 a := by omega
    exact o_nx h rfl (by show (if _ then _ else _) = _; rw [if_pos h0, ht2]; simp [jcnd, hc'])
  · rw [if_neg hc]
    have hc' : w32 b ≤ w32 a := by omega
    exact o_nx h rfl (by show (if _ then _ else _) = _; rw [if_pos h0, ht2]; simp [jcnd, hc'])
theorem o_if_gt {a : Int} {off : Int} {t : Nat} (h : decode M.1 pc = .ok (.ifCond .gt off, 3)) (ht : (pc : Int) + off = (t : Int)) : out V E M pc ls (vI a :: r) σ = if 0 < w32 a then out V E M t ls r σ else out V E M (pc + 3) ls r σ := by
  have h0 : 0 ≤ (pc : Int) + off := by omega
  have ht2 : ((pc : Int) + off).toNat = t := by omega
  by_cases hc : 0 < w32 a
  · rw [if_pos hc]
    exact o_nx h rfl (by show (if _ then _ else _) = _; rw [if_pos h0, ht2]; simp [jcnd, hc])
  · rw [if_neg hc]
    exact o_nx h rfl (by show (if _ then _ else _) = _; rw [if_pos h0, ht2]; simp [jcnd, hc])
theorem o_icmp_gt {a b : Int} {off : Int} {t : Nat} (h : decode M.1 pc = .ok (.if_icmp .gt off, 3)) (ht : (pc : Int) + off = (t : Int)) : out V E M pc ls (vI b :: vI a :: r) σ = if w32 b < w32 a then out V E M t ls r σ else out V E M (pc + 3) ls r σ := by
  have h0 : 0 ≤ (pc : Int) + off := by omega
  have ht2 : ((pc : Int) + off).toNat = t := by omega
  by_cases hc : w32 b < w32 a
  · rw [if_pos hc]
    exact o_nx h rfl (by show (if _ then _ else _) = _; rw [if_pos h0, ht2]; simp [jcnd, hc])
  · rw [if_neg hc]
    exact o_nx h rfl (by show (if _ then _ else _) = _; rw [if_pos h0, ht2]; simp [jcnd, hc])
theorem o_if_le {a : Int} {off : Int} {t : Nat} (h : decode M.1 pc = .ok (.ifCond .le off, 3)) (ht : (pc : Int) + off = (t : Int)) : out V E M pc ls (vI a :: r) σ = if 0 < w32 a then out V E M (pc + 3) ls r σ else out V E M t ls r σ := by
  have h0 : 0 ≤ (pc : Int) + off := by omega
  have ht2 : ((pc : Int) + off).toNat = t := by omega
  by_cases hc : 0 < w32 a
  · rw [if_pos hc]
    have hc' : ¬ w32 a ≤ 0 := by omega
    exact o_nx h rfl (by show (if _ then _ else _) = _; rw [if_pos h0, ht2]; simp [jcnd, hc'])
  · rw [if_neg hc]
    have hc' : w32 a ≤ 0 := by omega
    exact o_nx h rfl (by show (if _ then _ else _) = _; rw [if_pos h0, ht2]; simp [jcnd, hc'])
theorem o_icmp_le {a b : Int} {off : Int} {t : Nat} (h : decode M.1 pc = .ok (.if_icmp .le off, 3)) (ht : (pc : Int) + off = (t : Int)) : out V E M pc ls (vI b :: vI a :: r) σ = if w32 b < w32 a then out V E M (pc + 3) ls r σ else out V E M t ls r σ := by
  have h0 : 0 ≤ (pc : Int) + off := by omega
  have ht2 : ((pc : Int) + off).toNat = t := by omega
  by_cases hc : w32 b < w32 a
  · rw [if_pos hc]
    have hc' : ¬ w32 a ≤ w32 b := by omega
    exact o_nx h rfl (by show (if _ then _ else _) = _; rw [if_pos h0, ht2]; simp [jcnd, hc'])
  · rw [if_neg hc]
    have hc' : w32 a ≤ w32 b := by omega
    exact o_nx h rfl (by show (if _ then _ else _) = _; rw [if_pos h0, ht2]; simp [jcnd, hc'])
theorem o_goto {off : Int} {t : Nat} (h : decode M.1 pc = .ok (.goto off, 3)) (ht : (pc : Int) + off = (t : Int)) : out V E M pc ls r σ = out V E M t ls r σ := o_nx h rfl (by show jto _ _ _ _ _ = _; unfold jto; rw [if_pos (by omega), show ((pc : Int) + off).toNat = t by omega])
theorem o_ireturn {a : Int} (h : decode M.1 pc = .ok (.ireturn, 1)) (hk : M.2.2 = 1) : out V E M pc ls [vI a] σ = some (some (vI a), σ) := out_rt ((stp_i h (Or.inr rfl)).trans (if_pos hk))
theorem o_zreturn {a : Int} (h : decode M.1 pc = .ok (.ireturn, 1)) (hk : M.2.2 = 4) : out V E M pc ls [vI a] σ = if w32 a = 0 ∨ w32 a = 1 then some (some (vI a), σ) else none := by
  have e : stpI V E M pc ls [vI a] σ .ireturn = if w32 a = 0 ∨ w32 a = 1 then jrt (some (vI a)) σ else none := by
    show (if _ then _ else if _ then _ else _) = _
    rw [if_neg (by omega), if_pos hk]
  by_cases hz : w32 a = 0 ∨ w32 a = 1
  · rw [if_pos hz] at e ⊢; exact out_rt ((stp_i h (Or.inr rfl)).trans e)
  · rw [if_neg hz] at e ⊢; exact out_no ((stp_i h (Or.inr rfl)).trans e)
theorem o_zreturnk {a : Int} (h : decode M.1 pc = .ok (.ireturn, 1)) (hk : M.2.2 = 4) (hz : w32 a = 0 ∨ w32 a = 1) : out V E M pc ls [vI a] σ = some (some (vI a), σ) := (o_zreturn h hk).trans (if_pos hz)
theorem o_lreturn {a : Int} (h : decode M.1 pc = .ok (.lreturn, 1)) (hk : M.2.2 = 2) : out V E M pc ls [vL a] σ = some (some (vL a), σ) := out_rt ((stp_i h (Or.inr rfl)).trans (if_pos hk))
theorem o_dreturn {a : UInt64} (h : decode M.1 pc = .ok (.dreturn, 1)) (hk : M.2.2 = 3) : out V E M pc ls [vD a] σ = some (some (vD a), σ) := out_rt ((stp_i h (Or.inr rfl)).trans (if_pos hk))
theorem o_return (h : decode M.1 pc = .ok (.return_, 1)) (hk : M.2.2 = 0) : out V E M pc ls [] σ = some (none, σ) := out_rt ((stp_i h (Or.inr rfl)).trans (if_pos hk))
theorem o_getI {i q ci k kd po : Nat} {kk : Int} {fs : List (Option Nat)} (h : decode M.1 pc = .ok (.getfield i, 3)) (hf : jfOf M.2.1 i = some (ci, k, kd, po)) (hq : V.1[q]? = some (.inl (ci, fs))) (hk : fs[k]? = some none) (hkk : ((k : Nat) : Int) = kk) : out V E M pc ls (vR q :: r) σ = out V E M (pc + 3) ls (vI (σ q kk) :: r) σ := o_nx h rfl (by
  subst hkk
  show jget _ _ _ _ _ _ = _
  rw [hf]; unfold jget; simp only; rw [hq]; simp only; rw [if_pos trivial, hk])
theorem o_getR {i q ci k kd po t : Nat} {fs : List (Option Nat)} (h : decode M.1 pc = .ok (.getfield i, 3)) (hf : jfOf M.2.1 i = some (ci, k, kd, po)) (hq : V.1[q]? = some (.inl (ci, fs))) (hk : fs[k]? = some (some t)) : out V E M pc ls (vR q :: r) σ = out V E M (pc + 3) ls (vR t :: r) σ := o_nx h rfl (by
  show jget _ _ _ _ _ _ = _
  rw [hf]; unfold jget; simp only; rw [hq]; simp only; rw [if_pos trivial, hk])
theorem o_put1 {i q ci k po : Nat} {a kk : Int} {fs : List (Option Nat)} (h : decode M.1 pc = .ok (.putfield i, 3)) (hf : jfOf M.2.1 i = some (ci, k, 1, po)) (hq : V.1[q]? = some (.inl (ci, fs))) (hk : fs[k]? = some none) (hkk : ((k : Nat) : Int) = kk) : out V E M pc ls (vI a :: vR q :: r) σ = out V E M (pc + 3) ls r (st2 σ q kk a) := o_nx h rfl (by
  subst hkk
  show jput _ _ _ _ _ _ = _
  rw [hf]; unfold jput; simp only; rw [hq]; simp only; rw [if_pos trivial, hk]; simp only; rw [if_pos trivial])
theorem o_put2 {i q ci k po : Nat} {a kk : Int} {fs : List (Option Nat)} (h : decode M.1 pc = .ok (.putfield i, 3)) (hf : jfOf M.2.1 i = some (ci, k, 2, po)) (hq : V.1[q]? = some (.inl (ci, fs))) (hk : fs[k]? = some none) (hkk : ((k : Nat) : Int) = kk) : out V E M pc ls (vI a :: vR q :: r) σ = if w32 a = 0 ∨ w32 a = 1 then out V E M (pc + 3) ls r (st2 σ q kk a) else none := by
  subst hkk
  have e : stpI V E M pc ls (vI a :: vR q :: r) σ (.putfield i) = if w32 a = 0 ∨ w32 a = 1 then jnx (pc + 3) ls r (st2 σ q k a) else none := by
    show jput _ _ _ _ _ _ = _
    rw [hf]; unfold jput; simp only; rw [hq]; simp only; rw [if_pos trivial, hk]; simp only; rw [if_neg (by decide), if_pos trivial]
  by_cases hz : w32 a = 0 ∨ w32 a = 1
  · rw [if_pos hz] at e ⊢; exact o_nx h rfl e
  · rw [if_neg hz] at e ⊢; exact o_no h rfl e
theorem o_iald {q n : Nat} {i nn : Int} (h : decode M.1 pc = .ok (.iaload, 1)) (hq : V.1[q]? = some (.inr (0, n))) (hn : ((n : Nat) : Int) = nn) : out V E M pc ls (vI i :: vR q :: r) σ = if 0 ≤ w32 i ∧ w32 i < nn then out V E M (pc + 1) ls (vI (σ q (w32 i)) :: r) σ else none := by
  subst hn
  have e : stpI V E M pc ls (vI i :: vR q :: r) σ .iaload = match (if 0 ≤ w32 i ∧ w32 i < (n : Int) then some (σ q (w32 i)) else none) with
      | some a => jnx (pc + 1) ls (vI a :: r) σ
      | none => none := by
    simp only [stpI]
    unfold jald jrd; simp only; rw [hq]; simp only; rw [if_pos trivial]; rfl
  by_cases hz : 0 ≤ w32 i ∧ w32 i < (n : Int)
  · rw [if_pos hz] at e ⊢; exact o_nx h rfl e
  · rw [if_neg hz] at e ⊢; exact o_no h rfl e
theorem o_ialdK {q n : Nat} {f : Int → Int} {i nn : Int} (h : decode M.1 pc = .ok (.iaload, 1)) (hq : V.1[q]? = none) (hf : V.2 q = some (n, f)) (hn : ((n : Nat) : Int) = nn) : out V E M pc ls (vI i :: vR q :: r) σ = if 0 ≤ w32 i ∧ w32 i < nn then out V E M (pc + 1) ls (vI (f (w32 i)) :: r) σ else none := by
  subst hn
  have e : stpI V E M pc ls (vI i :: vR q :: r) σ .iaload = match (if 0 ≤ w32 i ∧ w32 i < (n : Int) then some (f (w32 i)) else none) with
      | some a => jnx (pc + 1) ls (vI a :: r) σ
      | none => none := by
    simp only [stpI]
    unfold jald jrd; simp only; rw [hq]; simp only; rw [if_pos trivial, hf]; rfl
  by_cases hz : 0 ≤ w32 i ∧ w32 i < (n : Int)
  · rw [if_pos hz] at e ⊢; exact o_nx h rfl e
  · rw [if_neg hz] at e ⊢; exact o_no h rfl e
theorem o_lald {q n : Nat} {i nn : Int} (h : decode M.1 pc = .ok (.laload, 1)) (hq : V.1[q]? = some (.inr (3, n))) (hn : ((n : Nat) : Int) = nn) : out V E M pc ls (vI i :: vR q :: r) σ = if 0 ≤ w32 i ∧ w32 i < nn then out V E M (pc + 1) ls (vL (σ q (w32 i)) :: r) σ else none := by
  subst hn
  have e : stpI V E M pc ls (vI i :: vR q :: r) σ .laload = match (if 0 ≤ w32 i ∧ w32 i < (n : Int) then some (σ q (w32 i)) else none) with
      | some a => jnx (pc + 1) ls (vL a :: r) σ
      | none => none := by
    simp only [stpI]
    unfold jald jrd; simp only; rw [hq]; simp only; rw [if_pos trivial]; rfl
  by_cases hz : 0 ≤ w32 i ∧ w32 i < (n : Int)
  · rw [if_pos hz] at e ⊢; exact o_nx h rfl e
  · rw [if_neg hz] at e ⊢; exact o_no h rfl e
theorem o_bald {q t n : Nat} {i nn : Int} (h : decode M.1 pc = .ok (.baload, 1)) (hq : V.1[q]? = some (.inr (t, n))) (ht : t = 1 ∨ t = 2) (hn : ((n : Nat) : Int) = nn) : out V E M pc ls (vI i :: vR q :: r) σ = if 0 ≤ w32 i ∧ w32 i < nn then out V E M (pc + 1) ls (vI (σ q (w32 i)) :: r) σ else none := by
  subst hn
  have e : stpI V E M pc ls (vI i :: vR q :: r) σ .baload = if 0 ≤ w32 i ∧ w32 i < (n : Int) then jnx (pc + 1) ls (vI (σ q (w32 i)) :: r) σ else none := by
    simp only [stpI]
    unfold jbald; simp only; rw [hq]; simp only; rw [if_pos ht]
  by_cases hz : 0 ≤ w32 i ∧ w32 i < (n : Int)
  · rw [if_pos hz] at e ⊢; exact o_nx h rfl e
  · rw [if_neg hz] at e ⊢; exact o_no h rfl e
theorem o_iast {q n : Nat} {i x nn : Int} (h : decode M.1 pc = .ok (.iastore, 1)) (hq : V.1[q]? = some (.inr (0, n))) (hn : ((n : Nat) : Int) = nn) : out V E M pc ls (vI x :: vI i :: vR q :: r) σ = if 0 ≤ w32 i ∧ w32 i < nn then out V E M (pc + 1) ls r (st2 σ q (w32 i) x) else none := by
  subst hn
  have e : stpI V E M pc ls (vI x :: vI i :: vR q :: r) σ .iastore = if 0 ≤ w32 i ∧ w32 i < (n : Int) then jnx (pc + 1) ls r (st2 σ q (w32 i) x) else none := by
    simp only [stpI]
    unfold jiast; simp only; rw [hq]; simp only; rw [if_pos trivial]
  by_cases hz : 0 ≤ w32 i ∧ w32 i < (n : Int)
  · rw [if_pos hz] at e ⊢; exact o_nx h rfl e
  · rw [if_neg hz] at e ⊢; exact o_no h rfl e
theorem o_last {q n : Nat} {i x nn : Int} (h : decode M.1 pc = .ok (.lastore, 1)) (hq : V.1[q]? = some (.inr (3, n))) (hn : ((n : Nat) : Int) = nn) : out V E M pc ls (vL x :: vI i :: vR q :: r) σ = if 0 ≤ w32 i ∧ w32 i < nn then out V E M (pc + 1) ls r (st2 σ q (w32 i) x) else none := by
  subst hn
  have e : stpI V E M pc ls (vL x :: vI i :: vR q :: r) σ .lastore = if 0 ≤ w32 i ∧ w32 i < (n : Int) then jnx (pc + 1) ls r (st2 σ q (w32 i) x) else none := by
    simp only [stpI]
    unfold jlast; simp only; rw [hq]; simp only; rw [if_pos trivial]
  by_cases hz : 0 ≤ w32 i ∧ w32 i < (n : Int)
  · rw [if_pos hz] at e ⊢; exact o_nx h rfl e
  · rw [if_neg hz] at e ⊢; exact o_no h rfl e
theorem o_bastB {q n : Nat} {i x nn : Int} (h : decode M.1 pc = .ok (.bastore, 1)) (hq : V.1[q]? = some (.inr (1, n))) (hn : ((n : Nat) : Int) = nn) : out V E M pc ls (vI x :: vI i :: vR q :: r) σ = if 0 ≤ w32 i ∧ w32 i < nn then out V E M (pc + 1) ls r (st2 σ q (w32 i) (b8 x)) else none := by
  subst hn
  have e : stpI V E M pc ls (vI x :: vI i :: vR q :: r) σ .bastore = if 0 ≤ w32 i ∧ w32 i < (n : Int) then jnx (pc + 1) ls r (st2 σ q (w32 i) (b8 x)) else none := by
    simp only [stpI]
    unfold jbast; simp only; rw [hq]; simp only; rw [if_pos trivial]
  by_cases hz : 0 ≤ w32 i ∧ w32 i < (n : Int)
  · rw [if_pos hz] at e ⊢; exact o_nx h rfl e
  · rw [if_neg hz] at e ⊢; exact o_no h rfl e
theorem o_bastZ {q n : Nat} {i x nn : Int} (h : decode M.1 pc = .ok (.bastore, 1)) (hq : V.1[q]? = some (.inr (2, n))) (hn : ((n : Nat) : Int) = nn) : out V E M pc ls (vI x :: vI i :: vR q :: r) σ = if 0 ≤ w32 i ∧ w32 i < nn then (if w32 x = 0 ∨ w32 x = 1 then out V E M (pc + 1) ls r (st2 σ q (w32 i) x) else none) else none := by
  subst hn
  have e : stpI V E M pc ls (vI x :: vI i :: vR q :: r) σ .bastore = if 0 ≤ w32 i ∧ w32 i < (n : Int) then (if w32 x = 0 ∨ w32 x = 1 then jnx (pc + 1) ls r (st2 σ q (w32 i) x) else none) else none := by
    simp only [stpI]
    unfold jbast; simp only; rw [hq]; simp only; rw [if_neg (by decide), if_pos trivial]
  by_cases hz : 0 ≤ w32 i ∧ w32 i < (n : Int)
  · rw [if_pos hz] at e ⊢
    by_cases hy : w32 x = 0 ∨ w32 x = 1
    · rw [if_pos hy] at e ⊢; exact o_nx h rfl e
    · rw [if_neg hy] at e ⊢; exact o_no h rfl e
  · rw [if_neg hz] at e ⊢; exact o_no h rfl e
theorem o_alen {q n : Nat} {nn : Int} (h : decode M.1 pc = .ok (.arraylength, 1)) (hq : jalen V q = some n) (hn : ((n : Nat) : Int) = nn) : out V E M pc ls (vR q :: r) σ = out V E M (pc + 1) ls (vI nn :: r) σ := o_nx h rfl (by
  subst hn
  simp only [stpI]
  unfold jlen; simp only; rw [hq])
theorem o_gst {i q : Nat} (h : decode M.1 pc = .ok (.getstatic i, 3)) (hq : jsOf M.2.1 i = some q) (hv : (V.2 q).isSome = true) : out V E M pc ls r σ = out V E M (pc + 3) ls (vR q :: r) σ := o_nx h rfl (by
  show jgst _ _ _ _ _ _ = _
  unfold jgst; rw [hq]; simp only
  cases hz : V.2 q with
  | none => rw [hz] at hv; cases hv
  | some x => rfl)
theorem o_dup {v : PV} (h : decode M.1 pc = .ok (.dup, 1)) (hv : jcat v = 1) : out V E M pc ls (v :: r) σ = out V E M (pc + 1) ls (v :: v :: r) σ := o_nx h rfl (if_pos hv)
theorem o_dup2 {v u : PV} (h : decode M.1 pc = .ok (.dup2, 1)) (hv : jcat v = 1 ∧ jcat u = 1) : out V E M pc ls (v :: u :: r) σ = out V E M (pc + 1) ls (v :: u :: v :: u :: r) σ := o_nx h rfl (if_pos hv)
theorem o_pop {v : PV} (h : decode M.1 pc = .ok (.pop, 1)) (hv : jcat v = 1) : out V E M pc ls (v :: r) σ = out V E M (pc + 1) ls r σ := o_nx h rfl (if_pos hv)
/-! calls -/
theorem jb_I {o : Option Rt} (h8 : (r.map jcat).sum ≤ 8) {st : List PV} (hs : stp V E M pc ls st σ = jback (pc + 3) ls 1 r o) : out V E M pc ls st σ = jbI o (fun a τ => out V E M (pc + 3) ls (vI a :: r) τ) := by
  unfold jback at hs
  rw [if_pos h8] at hs
  match o, hs with
  | some (some (.inl a), τ), hs => exact out_nx hs
  | none, hs => exact out_no hs
  | some (none, τ), hs => exact out_no hs
  | some (some (.inr _), τ), hs => exact out_no hs
theorem jb_L {o : Option Rt} (h8 : (r.map jcat).sum ≤ 8) {st : List PV} (hs : stp V E M pc ls st σ = jback (pc + 3) ls 2 r o) : out V E M pc ls st σ = jbL o (fun a τ => out V E M (pc + 3) ls (vL a :: r) τ) := by
  unfold jback at hs
  rw [if_pos h8] at hs
  match o, hs with
  | some (some (.inr (.inl a)), τ), hs => exact out_nx hs
  | none, hs => exact out_no hs
  | some (none, τ), hs => exact out_no hs
  | some (some (.inl _), τ), hs => exact out_no hs
  | some (some (.inr (.inr _)), τ), hs => exact out_no hs
theorem jb_D {o : Option Rt} (h8 : (r.map jcat).sum ≤ 8) {st : List PV} (hs : stp V E M pc ls st σ = jback (pc + 3) ls 3 r o) : out V E M pc ls st σ = jbD o (fun a τ => out V E M (pc + 3) ls (vD a :: r) τ) := by
  unfold jback at hs
  rw [if_pos h8] at hs
  match o, hs with
  | some (some (.inr (.inr (.inl a))), τ), hs => exact out_nx hs
  | none, hs => exact out_no hs
  | some (none, τ), hs => exact out_no hs
  | some (some (.inl _), τ), hs => exact out_no hs
  | some (some (.inr (.inl _)), τ), hs => exact out_no hs
  | some (some (.inr (.inr (.inr _))), τ), hs => exact out_no hs
theorem jb_V {o : Option Rt} (h8 : (r.map jcat).sum ≤ 8) {st : List PV} (hs : stp V E M pc ls st σ = jback (pc + 3) ls 0 r o) : out V E M pc ls st σ = jbV o (fun τ => out V E M (pc + 3) ls r τ) := by
  unfold jback at hs
  rw [if_pos h8] at hs
  match o, hs with
  | some (none, τ), hs => exact out_nx hs
  | none, hs => exact out_no hs
  | some (some _, τ), hs => exact out_no hs
theorem c_S {i m np rk kd ci : Nat} {st as : List PV} (h : decode M.1 pc = .ok (.invokestatic i, 3)) (hc : jcOf M.2.1 i = some (m, np, rk, kd, ci)) (hk : ¬ (kd = 1 ∨ kd = 3)) (hp : jpop np [] st = some (as, r)) : stp V E M pc ls st σ = jback (pc + 3) ls rk r (E m as σ) := (stp_i h (Or.inr rfl)).trans (by
  show jcal _ _ _ _ _ _ _ _ = _
  rw [hc]; unfold jcal; simp only; rw [hp]; simp only; rw [if_neg (by decide), if_neg hk])
theorem c_V {i m np rk ci q : Nat} {st as : List PV} {fs : List (Option Nat)} (h : decode M.1 pc = .ok (.invokevirtual i, 3)) (hc : jcOf M.2.1 i = some (m, np, rk, 1, ci)) (hp : jpop np [] st = some (as, vR q :: r)) (hq : V.1[q]? = some (.inl (ci, fs))) : stp V E M pc ls st σ = jback (pc + 3) ls rk r (E m (vR q :: as) σ) := (stp_i h (Or.inr rfl)).trans (by
  show jcal _ _ _ _ _ _ _ _ = _
  rw [hc]; unfold jcal; simp only; rw [hp]; simp only; rw [if_pos trivial, if_pos trivial, hq]; simp only; rw [if_pos trivial])
theorem c_T {i m np rk ci : Nat} {st as : List PV} (h : decode M.1 pc = .ok (.invokevirtual i, 3)) (hc : jcOf M.2.1 i = some (m, np, rk, 3, ci)) (hp : jpop np [] st = some (as, vR 1002 :: r)) (hq : (V.2 1001).isSome = true) : stp V E M pc ls st σ = jback (pc + 3) ls rk r (E m (vR 1002 :: as) σ) := (stp_i h (Or.inr rfl)).trans (by
  show jcal _ _ _ _ _ _ _ _ = _
  rw [hc]; unfold jcal; simp only; rw [hp]; simp only; rw [if_pos trivial, if_neg (by decide), if_pos trivial, if_pos ⟨trivial, hq⟩])
/-! switches -/
def jsel (x : Int) : List (Int × Nat) → Nat → Nat
  | [], d => d
  | (k, t) :: l, d => if x = k then t else jsel x l d
theorem o_sel {x k : Int} {t d : Nat} {l : List (Int × Nat)} : out V E M (jsel x ((k, t) :: l) d) ls r σ = if x = k then out V E M t ls r σ else out V E M (jsel x l d) ls r σ := by
  show out V E M (if x = k then t else jsel x l d) ls r σ = _
  split <;> rfl
theorem o_sel0 {x : Int} {d : Nat} : out V E M (jsel x [] d) ls r σ = out V E M d ls r σ := rfl
def jtl (pc : Nat) (lo : Int) : List Int → List (Int × Nat)
  | [] => []
  | o :: os => (lo, ((pc : Int) + o).toNat) :: jtl pc (lo + 1) os
theorem jtl_sel (pc : Nat) (d : Nat) : ∀ (os : List Int) (lo x : Int), lo ≤ x → x < lo + os.length → ∃ o, os[(x - lo).toNat]? = some o ∧ jsel x (jtl pc lo os) d = ((pc : Int) + o).toNat
  | [], lo, x, h1, h2 => by simp at h2; omega
  | o :: os, lo, x, h1, h2 => by
    by_cases hx : x = lo
    · subst hx
      exact ⟨o, by simp, by simp [jtl, jsel]⟩
    · obtain ⟨o', e1, e2⟩ := jtl_sel pc d os (lo + 1) x (by omega) (by simp at h2; omega)
      refine ⟨o', ?_, ?_⟩
      · rw [show (x - lo).toNat = (x - (lo + 1)).toNat + 1 by omega, List.getElem?_cons_succ]; exact e1
      · simp only [jtl, jsel]; rw [if_neg hx]; exact e2
theorem jtl_no (pc : Nat) (d : Nat) : ∀ (os : List Int) (lo x : Int), x < lo ∨ lo + os.length ≤ x → jsel x (jtl pc lo os) d = d
  | [], lo, x, _ => rfl
  | o :: os, lo, x, h => by
    simp only [jtl, jsel]
    rw [if_neg (by simp at h; omega)]
    exact jtl_no pc d os (lo + 1) x (by simp at h; omega)
theorem o_table {dflt lo hi a : Int} {offs : Array Int} {n td : Nat} {l : List (Int × Nat)} (h : decode M.1 pc = .ok (.tableswitch dflt lo hi offs, n)) (hd : (pc : Int) + dflt = (td : Int)) (hl : jtl pc lo offs.toList = l) (hn : hi - lo + 1 = (offs.toList.length : Int)) (hp : offs.toList.all (fun o => decide (0 ≤ (pc : Int) + o)) = true) : out V E M pc ls (vI a :: r) σ = out V E M (jsel (w32 a) l td) ls r σ := by
  subst hl
  have e : stp V E M pc ls (vI a :: r) σ = jtab dflt lo hi offs pc ls (vI a :: r) σ := stp_i h (Or.inl rfl)
  refine out_nx (e.trans ?_)
  unfold jtab
  simp only
  by_cases hx : w32 a < lo ∨ hi < w32 a
  · rw [if_pos hx, jtl_no pc td _ lo _ (by omega)]
    unfold jto
    rw [if_pos (by omega), show ((pc : Int) + dflt).toNat = td by omega]
  · rw [if_neg hx]
    obtain ⟨o, e1, e2⟩ := jtl_sel pc td offs.toList lo (w32 a) (by omega) (by omega)
    rw [← Array.getElem?_toList, e1, e2]
    simp only
    unfold jto
    have := List.all_eq_true.mp hp o (List.mem_of_getElem? e1)
    rw [if_pos (by simpa using this)]
def jll (pc : Nat) (ps : List (Int × Int)) : List (Int × Nat) := ps.map (fun q => (q.1, ((pc : Int) + q.2).toNat))
theorem jll_sel (pc : Nat) (d : Int) (td : Nat) (x : Int) : ∀ (ps : List (Int × Int)), ps.all (fun q => decide (0 ≤ (pc : Int) + q.2)) = true → (pc : Int) + d = (td : Int) → 0 ≤ (pc : Int) + Op.lookupswitch.offset ps d x ∧ jsel x (jll pc ps) td = ((pc : Int) + Op.lookupswitch.offset ps d x).toNat
  | [], _, hd => by
    refine ⟨?_, ?_⟩
    · show 0 ≤ (pc : Int) + d; omega
    · show td = ((pc : Int) + d).toNat; omega
  | (k, o) :: ps, hp, hd => by
    rw [List.all_cons, Bool.and_eq_true] at hp
    have ih := jll_sel pc d td x ps hp.2 hd
    rw [Op.lookupswitch.offset_cons]
    simp only [jll, List.map_cons, jsel]
    by_cases hx : x = k
    · rw [if_pos hx, if_pos hx.symm]
      exact ⟨by simpa using hp.1, rfl⟩
    · rw [if_neg hx, if_neg (fun e => hx e.symm)]
      exact ih
theorem o_lookup {dflt a : Int} {ps : Array (Int × Int)} {n td : Nat} {l : List (Int × Nat)} (h : decode M.1 pc = .ok (.lookupswitch dflt ps, n)) (hd : (pc : Int) + dflt = (td : Int)) (hl : jll pc ps.toList = l) (hs : (ps.toList.zip (ps.toList.drop 1)).all (fun (a, next) => a.1 < next.1) = true) (hp : ps.toList.all (fun q => decide (0 ≤ (pc : Int) + q.2)) = true) : out V E M pc ls (vI a :: r) σ = out V E M (jsel (w32 a) l td) ls r σ := by
  subst hl
  have e : stp V E M pc ls (vI a :: r) σ = jlks dflt ps pc ls (vI a :: r) σ := stp_i h (Or.inl rfl)
  refine out_nx (e.trans ?_)
  unfold jlks
  simp only
  rw [if_pos hs]
  obtain ⟨e1, e2⟩ := jll_sel pc dflt td (w32 a) ps.toList hp hd
  unfold jto
  rw [if_pos e1, e2]
end OUT
/-! ints that are in range -/
theorem fb_bmod' {z : Int} (h1 : -2147483648 ≤ z) (h2 : z ≤ 2147483647) : z.bmod Int32.size = z := by
  rw [show Int32.size = 4294967296 from rfl, Int.bmod_def]
  split <;> omega
theorem w32_id {a : Int} (h1 : -2147483648 ≤ a) (h2 : a ≤ 2147483647) : w32 a = a := by
  unfold w32
  rw [Int32.toInt_ofInt]
  exact fb_bmod' h1 h2
