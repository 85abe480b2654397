/-! A small machine of whole numbers: what a method's code answers, as a partial function of its arguments and of the contents of the cells.
Values: int (any whole number, read modulo 2^32), long (modulo 2^64), double (bits), a cell by its number, nothing. -/
abbrev PV : Type := Int ⊕ Int ⊕ UInt64 ⊕ Nat ⊕ Unit
abbrev vI (a : Int) : PV := Sum.inl a
abbrev vL (a : Int) : PV := Sum.inr (Sum.inl a)
abbrev vD (a : UInt64) : PV := Sum.inr (Sum.inr (Sum.inl a))
abbrev vR (q : Nat) : PV := Sum.inr (Sum.inr (Sum.inr (Sum.inl q)))
abbrev vU : PV := Sum.inr (Sum.inr (Sum.inr (Sum.inr ())))
abbrev St : Type := Nat → Int → Int
abbrev Rt : Type := Option PV × St
/-- a cell's shape: an object of a class with its fields (a cell's number, or a whole number), or an array by its kind (0 int, 1 byte, 2 boolean, 3 long) and length -/
abbrev Cs : Type := (Nat × List (Option Nat)) ⊕ (Nat × Nat)
/-- the cells' shapes; int arrays that never change -/
abbrev Vw : Type := List Cs × (Nat → Option (Nat × (Int → Int)))
/-- code, number of the own class, kind of the answer -/
abbrev MT : Type := ByteArray × Nat × Nat
abbrev Orc : Type := Nat → List PV → St → Option Rt
abbrev Sp : Type := Option ((Nat × List PV × List PV × St) ⊕ Rt)
def st2 (σ : St) (q : Nat) (k v : Int) : St := fun a b => if a = q ∧ b = k then v else σ a b
def w32 (a : Int) : Int := (Int32.ofInt a).toInt
def w64 (a : Int) : Int := (Int64.ofInt a).toInt
def b8 (a : Int) : Int := (Int32.ofInt a).toInt8.toInt32.toInt
def jnx (pc : Nat) (ls st : List PV) (σ : St) : Sp := some (.inl (pc, ls, st, σ))
def jrt (v : Option PV) (σ : St) : Sp := some (.inr (v, σ))
def jcat (v : PV) : Nat := match v with
  | .inr (.inl _) => 2
  | .inr (.inr (.inl _)) => 2
  | _ => 1
def jpop : Nat → List PV → List PV → Option (List PV × List PV)
  | 0, acc, st => some (acc, st)
  | n + 1, acc, v :: st => jpop n (v :: acc) st
  | _ + 1, _, [] => none
/-- two ints on the stack -/
def jbi (f : Int → Int → Int) (pc : Nat) (ls st : List PV) (σ : St) : Sp := match st with
  | .inl b :: .inl a :: r => jnx pc ls (vI (f a b) :: r) σ
  | _ => none
def jbl (f : Int → Int → Int) (pc : Nat) (ls st : List PV) (σ : St) : Sp := match st with
  | .inr (.inl b) :: .inr (.inl a) :: r => jnx pc ls (vL (f a b) :: r) σ
  | _ => none
def jui (f : Int → PV) (pc : Nat) (ls st : List PV) (σ : St) : Sp := match st with
  | .inl a :: r => jnx pc ls (f a :: r) σ
  | _ => none
def jul (f : Int → PV) (pc : Nat) (ls st : List PV) (σ : St) : Sp := match st with
  | .inr (.inl a) :: r => jnx pc ls (f a :: r) σ
  | _ => none
def jud (f : UInt64 → PV) (pc : Nat) (ls st : List PV) (σ : St) : Sp := match st with
  | .inr (.inr (.inl a)) :: r => jnx pc ls (f a :: r) σ
  | _ => none
/-- two doubles; an answer that is no number stops -/
def jbd (f : UInt64 → UInt64 → UInt64) (pc : Nat) (ls st : List PV) (σ : St) : Sp := match st with
  | .inr (.inr (.inl b)) :: .inr (.inr (.inl a)) :: r => if (f a b) &&& 0x7fffffffffffffff ≤ 0x7ff0000000000000 then jnx pc ls (vD (f a b) :: r) σ else none
  | _ => none
def jdiv (rem : Bool) (w : Int → Int) (a b : Int) : Int := if rem then (w a).tmod (w b) else (w a).tdiv (w b)
def jbz (rem : Bool) (pc : Nat) (ls st : List PV) (σ : St) : Sp := match st with
  | .inl b :: .inl a :: r => if w32 b = 0 then none else jnx pc ls (vI (jdiv rem w32 a b) :: r) σ
  | _ => none
def jblz (rem : Bool) (pc : Nat) (ls st : List PV) (σ : St) : Sp := match st with
  | .inr (.inl b) :: .inr (.inl a) :: r => if w64 b = 0 then none else jnx pc ls (vL (jdiv rem w64 a b) :: r) σ
  | _ => none
def jldI (i pc : Nat) (ls st : List PV) (σ : St) : Sp := match ls[i]? with
  | some (.inl a) => jnx pc ls (vI a :: st) σ
  | _ => none
def jldL (i pc : Nat) (ls st : List PV) (σ : St) : Sp := match ls[i]?, ls[i + 1]? with
  | some (.inr (.inl a)), some (.inr (.inr (.inr (.inr _)))) => jnx pc ls (vL a :: st) σ
  | _, _ => none
def jldD (i pc : Nat) (ls st : List PV) (σ : St) : Sp := match ls[i]?, ls[i + 1]? with
  | some (.inr (.inr (.inl a))), some (.inr (.inr (.inr (.inr _)))) => jnx pc ls (vD a :: st) σ
  | _, _ => none
def jldA (i pc : Nat) (ls st : List PV) (σ : St) : Sp := match ls[i]? with
  | some (.inr (.inr (.inr (.inl q)))) => jnx pc ls (vR q :: st) σ
  | _ => none
def jstI (i pc : Nat) (ls st : List PV) (σ : St) : Sp := match st with
  | .inl a :: r => if i < ls.length then jnx pc (ls.set i (vI a)) r σ else none
  | _ => none
def jstL (i pc : Nat) (ls st : List PV) (σ : St) : Sp := match st with
  | .inr (.inl a) :: r => if i + 1 < ls.length then jnx pc ((ls.set i (vL a)).set (i + 1) vU) r σ else none
  | _ => none
def jstD (i pc : Nat) (ls st : List PV) (σ : St) : Sp := match st with
  | .inr (.inr (.inl a)) :: r => if i + 1 < ls.length then jnx pc ((ls.set i (vD a)).set (i + 1) vU) r σ else none
  | _ => none
def jinc (i : Nat) (k : Int) (pc : Nat) (ls st : List PV) (σ : St) : Sp := match ls[i]? with
  | some (.inl a) => if i < ls.length then jnx pc (ls.set i (vI (a + k))) st σ else none
  | _ => none
def jcnd (c : Jvm.ClassFile.Cond) (a b : Int) : Bool := match c with
  | .eq => decide (a = b)
  | .ne => decide (a ≠ b)
  | .lt => decide (a < b)
  | .ge => decide (b ≤ a)
  | .gt => decide (b < a)
  | .le => decide (a ≤ b)
def jto (pc : Nat) (off : Int) (ls st : List PV) (σ : St) : Sp := if 0 ≤ (pc : Int) + off then jnx ((pc : Int) + off).toNat ls st σ else none
def jif1 (c : Jvm.ClassFile.Cond) (off : Int) (pc : Nat) (ls st : List PV) (σ : St) : Sp := match st with
  | .inl a :: r => if 0 ≤ (pc : Int) + off then jnx (if jcnd c (w32 a) 0 then ((pc : Int) + off).toNat else pc + 3) ls r σ else none
  | _ => none
def jif2 (c : Jvm.ClassFile.Cond) (off : Int) (pc : Nat) (ls st : List PV) (σ : St) : Sp := match st with
  | .inl b :: .inl a :: r => if 0 ≤ (pc : Int) + off then jnx (if jcnd c (w32 a) (w32 b) then ((pc : Int) + off).toNat else pc + 3) ls r σ else none
  | _ => none
def jtab (dflt lo hi : Int) (offs : Array Int) (pc : Nat) (ls st : List PV) (σ : St) : Sp := match st with
  | .inl a :: r => if w32 a < lo ∨ hi < w32 a then jto pc dflt ls r σ else match offs[(w32 a - lo).toNat]? with
    | some off => jto pc off ls r σ
    | none => none
  | _ => none
def jlks (dflt : Int) (ps : Array (Int × Int)) (pc : Nat) (ls st : List PV) (σ : St) : Sp := match st with
  | .inl a :: r => if (ps.toList.zip (ps.toList.drop 1)).all (fun (a, next) => a.1 < next.1) = true then jto pc (Op.lookupswitch.offset ps.toList dflt (w32 a)) ls r σ else none
  | _ => none
/-- an array's length -/
def jalen (V : Vw) (q : Nat) : Option Nat := match V.1[q]? with
  | some (.inr (_, n)) => some n
  | some (.inl _) => none
  | none => match V.2 q with
    | some (n, _) => some n
    | none => none
def jrd (V : Vw) (σ : St) (tk q : Nat) (i : Int) : Option Int := match V.1[q]? with
  | some (.inr (t, n)) => if t = tk then (if 0 ≤ i ∧ i < (n : Int) then some (σ q i) else none) else none
  | some (.inl _) => none
  | none => if tk = 0 then (match V.2 q with
    | some (n, f) => if 0 ≤ i ∧ i < (n : Int) then some (f i) else none
    | none => none) else none
def jald (mk : Int → PV) (tk : Nat) (V : Vw) (pc : Nat) (ls st : List PV) (σ : St) : Sp := match st with
  | .inl i :: .inr (.inr (.inr (.inl q))) :: r => match jrd V σ tk q (w32 i) with
    | some a => jnx pc ls (mk a :: r) σ
    | none => none
  | _ => none
def jbald (V : Vw) (pc : Nat) (ls st : List PV) (σ : St) : Sp := match st with
  | .inl i :: .inr (.inr (.inr (.inl q))) :: r => match V.1[q]? with
    | some (.inr (t, n)) => if t = 1 ∨ t = 2 then (if 0 ≤ w32 i ∧ w32 i < (n : Int) then jnx pc ls (vI (σ q (w32 i)) :: r) σ else none) else none
    | _ => none
  | _ => none
def jiast (V : Vw) (pc : Nat) (ls st : List PV) (σ : St) : Sp := match st with
  | .inl x :: .inl i :: .inr (.inr (.inr (.inl q))) :: r => match V.1[q]? with
    | some (.inr (t, n)) => if t = 0 then (if 0 ≤ w32 i ∧ w32 i < (n : Int) then jnx pc ls r (st2 σ q (w32 i) x) else none) else none
    | _ => none
  | _ => none
def jlast (V : Vw) (pc : Nat) (ls st : List PV) (σ : St) : Sp := match st with
  | .inr (.inl x) :: .inl i :: .inr (.inr (.inr (.inl q))) :: r => match V.1[q]? with
    | some (.inr (t, n)) => if t = 3 then (if 0 ≤ w32 i ∧ w32 i < (n : Int) then jnx pc ls r (st2 σ q (w32 i) x) else none) else none
    | _ => none
  | _ => none
def jbast (V : Vw) (pc : Nat) (ls st : List PV) (σ : St) : Sp := match st with
  | .inl x :: .inl i :: .inr (.inr (.inr (.inl q))) :: r => match V.1[q]? with
    | some (.inr (t, n)) => if t = 1 then (if 0 ≤ w32 i ∧ w32 i < (n : Int) then jnx pc ls r (st2 σ q (w32 i) (b8 x)) else none)
      else if t = 2 then (if 0 ≤ w32 i ∧ w32 i < (n : Int) then (if w32 x = 0 ∨ w32 x = 1 then jnx pc ls r (st2 σ q (w32 i) x) else none) else none) else none
    | _ => none
  | _ => none
def jlen (V : Vw) (pc : Nat) (ls st : List PV) (σ : St) : Sp := match st with
  | .inr (.inr (.inr (.inl q))) :: r => match jalen V q with
    | some n => jnx pc ls (vI n :: r) σ
    | none => none
  | _ => none
/-- fields: (class, place, kind): kind 0 a cell, 1 int, 2 boolean; 3 a cell or int that is final -/
def jget (V : Vw) (f : Option (Nat × Nat × Nat × Nat)) (pc : Nat) (ls st : List PV) (σ : St) : Sp := match f, st with
  | some (ci, k, _), .inr (.inr (.inr (.inl q))) :: r => match V.1[q]? with
    | some (.inl (cj, fs)) => if ci = cj then (match fs[k]? with
      | some (some t) => jnx pc ls (vR t :: r) σ
      | some none => jnx pc ls (vI (σ q k) :: r) σ
      | none => none) else none
    | _ => none
  | _, _ => none
def jput (V : Vw) (f : Option (Nat × Nat × Nat × Nat)) (pc : Nat) (ls st : List PV) (σ : St) : Sp := match f, st with
  | some (ci, k, kd, _), .inl a :: .inr (.inr (.inr (.inl q))) :: r => match V.1[q]? with
    | some (.inl (cj, fs)) => if ci = cj then (match fs[k]? with
      | some none => if kd = 1 then jnx pc ls r (st2 σ q k a) else if kd = 2 then (if w32 a = 0 ∨ w32 a = 1 then jnx pc ls r (st2 σ q k a) else none) else none
      | _ => none) else none
    | _ => none
  | _, _ => none
/-- behind a call: kind of its answer 0 none, 1 int, 2 long, 3 double -/
def jback (pc : Nat) (ls : List PV) (rk : Nat) (rest : List PV) (o : Option Rt) : Sp := if (rest.map jcat).sum ≤ 8 then (match rk, o with
  | 0, some (none, σ) => jnx pc ls rest σ
  | 1, some (some (.inl a), σ) => jnx pc ls (vI a :: rest) σ
  | 2, some (some (.inr (.inl a)), σ) => jnx pc ls (vL a :: rest) σ
  | 3, some (some (.inr (.inr (.inl a))), σ) => jnx pc ls (vD a :: rest) σ
  | _, _ => none) else none
/-- calls: (method, how many arguments, kind of the answer, static 0 | virtual 1 | of a nest mate 2, class) -/
def jcal (V : Vw) (E : Orc) (vt : Bool) (c : Option (Nat × Nat × Nat × Nat × Nat)) (pc : Nat) (ls st : List PV) (σ : St) : Sp := match c with
  | none => none
  | some (m, np, rk, kd, ci) => match jpop np [] st with
    | none => none
    | some (as, rest) => if vt then (if kd = 1 then (match rest with
        | .inr (.inr (.inr (.inl q))) :: rest2 => match V.1[q]? with
          | some (.inl (cj, _)) => if ci = cj then jback pc ls rk rest2 (E m (vR q :: as) σ) else none
          | _ => none
        | _ => none) else if kd = 3 then (match rest with
        | .inr (.inr (.inr (.inl q))) :: rest2 => if q = 1002 ∧ (V.2 1001).isSome = true then jback pc ls rk rest2 (E m (vR 1002 :: as) σ) else none
        | _ => none) else none)
      else if kd = 1 ∨ kd = 3 then none else jback pc ls rk rest (E m as σ)
def jret (rk : Nat) (st : List PV) (σ : St) : Sp := match st with
  | [.inl a] => if rk = 1 then jrt (some (vI a)) σ else if rk = 4 then (if w32 a = 0 ∨ w32 a = 1 then jrt (some (vI a)) σ else none) else none
  | _ => none
def jretL (rk : Nat) (st : List PV) (σ : St) : Sp := match st with
  | [.inr (.inl a)] => if rk = 2 then jrt (some (vL a)) σ else none
  | _ => none
def jretD (rk : Nat) (st : List PV) (σ : St) : Sp := match st with
  | [.inr (.inr (.inl a))] => if rk = 3 then jrt (some (vD a)) σ else none
  | _ => none
def jretV (rk : Nat) (st : List PV) (σ : St) : Sp := match st with
  | [] => if rk = 0 then jrt none σ else none
  | _ => none
/-- what is read out of the classes' constants -/
def jkey (own idx : Nat) : Nat := own * 4096 + idx
def jsi (f : Int32 → Int32 → Int32) (a b : Int) : Int := (f (Int32.ofInt a) (Int32.ofInt b)).toInt
def jsl (f : Int64 → Int64 → Int64) (a b : Int) : Int := (f (Int64.ofInt a) (Int64.ofInt b)).toInt
def jdup (pc : Nat) (ls st : List PV) (σ : St) : Sp := match st with
  | v :: r => if jcat v = 1 then jnx pc ls (v :: v :: r) σ else none
  | _ => none
def jdup2 (pc : Nat) (ls st : List PV) (σ : St) : Sp := match st with
  | v :: u :: r => if jcat v = 1 ∧ jcat u = 1 then jnx pc ls (v :: u :: v :: u :: r) σ else none
  | _ => none
def jpp (pc : Nat) (ls st : List PV) (σ : St) : Sp := match st with
  | v :: r => if jcat v = 1 then jnx pc ls r σ else none
  | _ => none
def jshl64 (pc : Nat) (ls st : List PV) (σ : St) : Sp := match st with
  | .inl b :: .inr (.inl a) :: r => jnx pc ls (vL ((Int64.ofInt a <<< ((Int32.ofInt b).toInt64 &&& 63)).toInt) :: r) σ
  | _ => none
def jlcmp (pc : Nat) (ls st : List PV) (σ : St) : Sp := match st with
  | .inr (.inl b) :: .inr (.inl a) :: r => jnx pc ls (vI (if w64 b < w64 a then 1 else if w64 a = w64 b then 0 else -1) :: r) σ
  | _ => none
def jdcmp (op : CmpOp) (pc : Nat) (ls st : List PV) (σ : St) : Sp := match st with
  | .inr (.inr (.inl b)) :: .inr (.inr (.inl a)) :: r => jnx pc ls (vI ((Op.cmpValue (FP.dcmp a b) op).toInt) :: r) σ
  | _ => none
def jpush (o : Option PV) (pc : Nat) (ls st : List PV) (σ : St) : Sp := match o with
  | some v => jnx pc ls (v :: st) σ
  | none => none
def jgst (V : Vw) (o : Option Nat) (pc : Nat) (ls st : List PV) (σ : St) : Sp := match o with
  | some q => match V.2 q with
    | some _ => jnx pc ls (vR q :: st) σ
    | none => none
  | none => none
