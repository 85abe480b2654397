/-! the small machine's steps are the machine's -/
/-- the week's letters: a String that never changes -/
def wkB (j : Nat) : Int32 := ([77, 84, 87, 84, 70, 83, 83] : List Int32).getD j 0
def FS (ad : Nat → Nat) (A : Nat → Prop) (U : State) (H : Heap) : Prop :=
  va_Z "AlmanacHouse$Calendars" "SUN_MONTHS" "[I" (.ref (ad 1001)) A U H ∧ vk_R "AlmanacHouse$Page" 23 "MTWTFSS" (ad 1002) U ∧ va_O "java/lang/String" (ad 1002) A U H ∧ va_OF "java/lang/String" "coder" "B" (.int 0) (ad 1002) A U H ∧ va_OF "java/lang/String" "value" "[B" (.ref (ad 1003)) (ad 1002) A U H ∧ va_T .byte (ad 1003) 7 (fun j => .int (wkB j)) A U H ∧ va_Z "java/lang/String" "COMPACT_STRINGS" "Z" (.int 1) A U H ∧ va_Zq "jdk/internal/util/Preconditions" "SIOOBE_FORMATTER" "Ljava/util/function/BiFunction;" A U H
def FX (ad : Nat → Nat) (V : Vw) (A : Nat → Prop) (U : State) (H : Heap) : Prop :=
  (∀ q n f, V.2 q = some (n, f) → va_T .int (ad q) n (fun j => .int (Int32.ofInt (f (j : Int)))) A U H) ∧ ((V.2 1001).isSome = true → FS ad A U H) ∧
  ∀ own idx y, Cond.methodLinkNest own idx y "AlmanacHouse" ∈ lw_tbl → va_Nw (.methodLinkNest own idx y "AlmanacHouse") U
def GO (p : Program) (l : Launch) (e : Env) (R : Room) (s : State) (m : MethodId) (args : Array Value) (below : List Frame) (meth : Method) (c : Code) (cells slots : Nat) (Q : State → Prop) (D : va_G) (ad : Nat → Nat) (cA : Nat → ClassId) (V : Vw) (A : Nat → Prop) (nL : Nat) (pc : Nat) (ls st : List PV) (σ : St) : Prop :=
  ∀ (H : Heap) (locs : List Loc) (lsA : Array Slot), va_P D vwCl (wsO ad cA V.1 σ) H → va_S A s.heap H locs → LH ad lsA nL ls → W p l e R s m args below meth c H locs cells slots Q (F0 m pc lsA (st.map (mv ad)))
def CX (p : Program) (s : State) (m : MethodId) (args : Array Value) (c : Code) (D : va_G) (ad : Nat → Nat) (cA : Nat → ClassId) (V : Vw) (A : Nat → Prop) (nL : Nat) (M : MT) : Prop :=
  p.tables.exec = Jvm.exec ∧ c.code = M.1 ∧ c.maxLocals = nL ∧ s.vm.findClass (jon M.2.1) = some m.cls ∧ (∀ w ∈ lw_g, w.before args s = true) ∧ va_K D vwCl (jtys cA) s ∧ FX ad V A s s.heap ∧ AI ad V.1.length A
section SND
variable {p : Program} {l : Launch} {e : Env} {R : Room} {s : State} {m : MethodId} {args : Array Value} {below : List Frame} {meth : Method} {c : Code} {cells slots : Nat} {Q : State → Prop}
variable {D : va_G} {ad : Nat → Nat} {cA : Nat → ClassId} {V : Vw} {A : Nat → Prop} {nL : Nat} {M : MT} {pc pc1 : Nat} {ls st : List PV} {σ : St} {c' : Nat × List PV × List PV × St}
theorem jnx_inj {a b : Nat × List PV × List PV × St} (h : jnx a.1 a.2.1 a.2.2.1 a.2.2.2 = some (.inl b)) : b = a := by
  unfold jnx at h
  exact (Sum.inl.inj (Option.some.inj h)).symm
theorem g_jbi {f : Int → Int → Int} {g : Int32 → Int32 → Int32} (hf : ∀ a b, Int32.ofInt (f a b) = g (Int32.ofInt a) (Int32.ofInt b)) (hs : jbi f pc1 ls st σ = some (.inl c'))
    (hrow : ∀ (H : Heap) (locs : List Loc) (lsA : Array Slot) (x y : Int32) (r : List Value), W p l e R s m args below meth c H locs cells slots Q (F0 m pc1 lsA (.int (g x y) :: r)) → W p l e R s m args below meth c H locs cells slots Q (F0 m pc lsA (.int y :: .int x :: r)))
    (K : GO p l e R s m args below meth c cells slots Q D ad cA V A nL c'.1 c'.2.1 c'.2.2.1 c'.2.2.2) : GO p l e R s m args below meth c cells slots Q D ad cA V A nL pc ls st σ := by
  unfold jbi at hs
  split at hs
  · rename_i b a r
    obtain rfl := jnx_inj (a := (_, _, _, _)) hs
    intro H locs lsA hP hS hl
    refine hrow H locs lsA _ _ _ ?_
    rw [← hf]
    exact K H locs lsA hP hS hl
  · cases hs
theorem g_jbl {f : Int → Int → Int} {g : Int64 → Int64 → Int64} (hf : ∀ a b, Int64.ofInt (f a b) = g (Int64.ofInt a) (Int64.ofInt b)) (hs : jbl f pc1 ls st σ = some (.inl c'))
    (hrow : ∀ (H : Heap) (locs : List Loc) (lsA : Array Slot) (x y : Int64) (r : List Value), W p l e R s m args below meth c H locs cells slots Q (F0 m pc1 lsA (.long (g x y) :: r)) → W p l e R s m args below meth c H locs cells slots Q (F0 m pc lsA (.long y :: .long x :: r)))
    (K : GO p l e R s m args below meth c cells slots Q D ad cA V A nL c'.1 c'.2.1 c'.2.2.1 c'.2.2.2) : GO p l e R s m args below meth c cells slots Q D ad cA V A nL pc ls st σ := by
  unfold jbl at hs
  split at hs
  · rename_i b a r
    obtain rfl := jnx_inj (a := (_, _, _, _)) hs
    intro H locs lsA hP hS hl
    refine hrow H locs lsA _ _ _ ?_
    rw [← hf]
    exact K H locs lsA hP hS hl
  · cases hs
theorem g_jbd {f : UInt64 → UInt64 → UInt64} (hs : jbd f pc1 ls st σ = some (.inl c'))
    (hrow : ∀ (H : Heap) (locs : List Loc) (lsA : Array Slot) (x y : UInt64) (r : List Value), vf_n64 (f x y) → W p l e R s m args below meth c H locs cells slots Q (F0 m pc1 lsA (.double (f x y) :: r)) → W p l e R s m args below meth c H locs cells slots Q (F0 m pc lsA (.double y :: .double x :: r)))
    (K : GO p l e R s m args below meth c cells slots Q D ad cA V A nL c'.1 c'.2.1 c'.2.2.1 c'.2.2.2) : GO p l e R s m args below meth c cells slots Q D ad cA V A nL pc ls st σ := by
  unfold jbd at hs
  split at hs
  · rename_i b a r
    split at hs
    · rename_i hn
      obtain rfl := jnx_inj (a := (_, _, _, _)) hs
      intro H locs lsA hP hS hl
      exact hrow H locs lsA _ _ _ hn (K H locs lsA hP hS hl)
    · cases hs
  · cases hs
theorem g_jui {f : Int → PV} {g : Int32 → Value} (hf : ∀ a, mv ad (f a) = g (Int32.ofInt a)) (hs : jui f pc1 ls st σ = some (.inl c'))
    (hrow : ∀ (H : Heap) (locs : List Loc) (lsA : Array Slot) (x : Int32) (r : List Value), W p l e R s m args below meth c H locs cells slots Q (F0 m pc1 lsA (g x :: r)) → W p l e R s m args below meth c H locs cells slots Q (F0 m pc lsA (.int x :: r)))
    (K : GO p l e R s m args below meth c cells slots Q D ad cA V A nL c'.1 c'.2.1 c'.2.2.1 c'.2.2.2) : GO p l e R s m args below meth c cells slots Q D ad cA V A nL pc ls st σ := by
  unfold jui at hs
  split at hs
  · rename_i a r
    obtain rfl := jnx_inj (a := (_, _, _, _)) hs
    intro H locs lsA hP hS hl
    refine hrow H locs lsA _ _ ?_
    rw [← hf]
    exact K H locs lsA hP hS hl
  · cases hs
theorem g_jul {f : Int → PV} {g : Int64 → Value} (hf : ∀ a, mv ad (f a) = g (Int64.ofInt a)) (hs : jul f pc1 ls st σ = some (.inl c'))
    (hrow : ∀ (H : Heap) (locs : List Loc) (lsA : Array Slot) (x : Int64) (r : List Value), W p l e R s m args below meth c H locs cells slots Q (F0 m pc1 lsA (g x :: r)) → W p l e R s m args below meth c H locs cells slots Q (F0 m pc lsA (.long x :: r)))
    (K : GO p l e R s m args below meth c cells slots Q D ad cA V A nL c'.1 c'.2.1 c'.2.2.1 c'.2.2.2) : GO p l e R s m args below meth c cells slots Q D ad cA V A nL pc ls st σ := by
  unfold jul at hs
  split at hs
  · rename_i a r
    obtain rfl := jnx_inj (a := (_, _, _, _)) hs
    intro H locs lsA hP hS hl
    refine hrow H locs lsA _ _ ?_
    rw [← hf]
    exact K H locs lsA hP hS hl
  · cases hs
theorem g_jud {f : UInt64 → PV} {g : UInt64 → Value} (hf : ∀ a, mv ad (f a) = g a) (hs : jud f pc1 ls st σ = some (.inl c'))
    (hrow : ∀ (H : Heap) (locs : List Loc) (lsA : Array Slot) (x : UInt64) (r : List Value), W p l e R s m args below meth c H locs cells slots Q (F0 m pc1 lsA (g x :: r)) → W p l e R s m args below meth c H locs cells slots Q (F0 m pc lsA (.double x :: r)))
    (K : GO p l e R s m args below meth c cells slots Q D ad cA V A nL c'.1 c'.2.1 c'.2.2.1 c'.2.2.2) : GO p l e R s m args below meth c cells slots Q D ad cA V A nL pc ls st σ := by
  unfold jud at hs
  split at hs
  · rename_i a r
    obtain rfl := jnx_inj (a := (_, _, _, _)) hs
    intro H locs lsA hP hS hl
    refine hrow H locs lsA _ _ ?_
    rw [← hf]
    exact K H locs lsA hP hS hl
  · cases hs
theorem w32_eq {a b : Int} : w32 a = w32 b ↔ Int32.ofInt a = Int32.ofInt b := Int32.toInt_inj
theorem ofInt_w32 (a : Int) : Int32.ofInt (w32 a) = Int32.ofInt a := Int32.ofInt_toInt _
theorem ofInt_w64 (a : Int) : Int64.ofInt (w64 a) = Int64.ofInt a := Int64.ofInt_toInt _
theorem w32_0 : w32 0 = 0 := by decide
theorem w32_lo (a : Int) : -2147483648 ≤ w32 a ∧ w32 a ≤ 2147483647 := by
  have h1 := Int32.le_toInt (Int32.ofInt a)
  have h2 := Int32.toInt_lt (Int32.ofInt a)
  unfold w32
  omega
theorem w64_lo (a : Int) : -9223372036854775808 ≤ w64 a ∧ w64 a ≤ 9223372036854775807 := by
  have h1 := Int64.le_toInt (Int64.ofInt a)
  have h2 := Int64.toInt_lt (Int64.ofInt a)
  unfold w64
  omega
theorem jdiv_i (a b : Int) : Int32.ofInt (jdiv false w32 a b) = Int32.ofInt a / Int32.ofInt b := by
  apply Int32.toInt_inj.mp
  rw [Int32.toInt_div, Int32.toInt_ofInt]
  rfl
theorem jrem_i (a b : Int) : Int32.ofInt (jdiv true w32 a b) = Int32.ofInt a - Int32.ofInt a / Int32.ofInt b * Int32.ofInt b := by
  rw [← jdiv_i, ← ofInt_w32 a, ← ofInt_w32 b, ← Int32.ofInt_mul, ← Int32.ofInt_sub]
  congr 1
  show (w32 a).tmod (w32 b) = w32 a - (w32 a).tdiv (w32 b) * w32 b
  have := Int.tmod_add_mul_tdiv (w32 a) (w32 b)
  rw [Int.mul_comm] at this
  omega
theorem jdiv_l (a b : Int) : Int64.ofInt (jdiv false w64 a b) = Int64.ofInt a / Int64.ofInt b := by
  apply Int64.toInt_inj.mp
  rw [Int64.toInt_div, Int64.toInt_ofInt]
  rfl
theorem jrem_l (a b : Int) : Int64.ofInt (jdiv true w64 a b) = Int64.ofInt a - Int64.ofInt a / Int64.ofInt b * Int64.ofInt b := by
  rw [← jdiv_l, ← ofInt_w64 a, ← ofInt_w64 b, ← Int64.ofInt_mul, ← Int64.ofInt_sub]
  congr 1
  show (w64 a).tmod (w64 b) = w64 a - (w64 a).tdiv (w64 b) * w64 b
  have := Int.tmod_add_mul_tdiv (w64 a) (w64 b)
  rw [Int.mul_comm] at this
  omega
theorem g_jbz {rem : Bool} {g : Int32 → Int32 → Int32} (hf : ∀ a b, Int32.ofInt (jdiv rem w32 a b) = g (Int32.ofInt a) (Int32.ofInt b)) (hs : jbz rem pc1 ls st σ = some (.inl c'))
    (hrow : ∀ (H : Heap) (locs : List Loc) (lsA : Array Slot) (x y : Int32) (r : List Value), ¬ y = 0 → W p l e R s m args below meth c H locs cells slots Q (F0 m pc1 lsA (.int (g x y) :: r)) → W p l e R s m args below meth c H locs cells slots Q (F0 m pc lsA (.int y :: .int x :: r)))
    (K : GO p l e R s m args below meth c cells slots Q D ad cA V A nL c'.1 c'.2.1 c'.2.2.1 c'.2.2.2) : GO p l e R s m args below meth c cells slots Q D ad cA V A nL pc ls st σ := by
  unfold jbz at hs
  split at hs
  · rename_i b a r
    split at hs
    · cases hs
    · rename_i hn
      obtain rfl := jnx_inj (a := (_, _, _, _)) hs
      intro H locs lsA hP hS hl
      refine hrow H locs lsA _ _ _ (fun h => hn (by show (Int32.ofInt b).toInt = 0; rw [h]; rfl)) ?_
      rw [← hf]
      exact K H locs lsA hP hS hl
  · cases hs
theorem g_jblz {rem : Bool} {g : Int64 → Int64 → Int64} (hf : ∀ a b, Int64.ofInt (jdiv rem w64 a b) = g (Int64.ofInt a) (Int64.ofInt b)) (hs : jblz rem pc1 ls st σ = some (.inl c'))
    (hrow : ∀ (H : Heap) (locs : List Loc) (lsA : Array Slot) (x y : Int64) (r : List Value), ¬ y = 0 → W p l e R s m args below meth c H locs cells slots Q (F0 m pc1 lsA (.long (g x y) :: r)) → W p l e R s m args below meth c H locs cells slots Q (F0 m pc lsA (.long y :: .long x :: r)))
    (K : GO p l e R s m args below meth c cells slots Q D ad cA V A nL c'.1 c'.2.1 c'.2.2.1 c'.2.2.2) : GO p l e R s m args below meth c cells slots Q D ad cA V A nL pc ls st σ := by
  unfold jblz at hs
  split at hs
  · rename_i b a r
    split at hs
    · cases hs
    · rename_i hn
      obtain rfl := jnx_inj (a := (_, _, _, _)) hs
      intro H locs lsA hP hS hl
      refine hrow H locs lsA _ _ _ (fun h => hn (by show (Int64.ofInt b).toInt = 0; rw [h]; rfl)) ?_
      rw [← hf]
      exact K H locs lsA hP hS hl
  · cases hs
/-! loads and stores -/
theorem g_jldI {i : Nat} (hs : jldI i pc1 ls st σ = some (.inl c'))
    (hrow : ∀ (H : Heap) (locs : List Loc) (lsA : Array Slot) (x : Int32) (r : List Value), lsA[i]? = some (.val (.int x)) → W p l e R s m args below meth c H locs cells slots Q (F0 m pc1 lsA (.int x :: r)) → W p l e R s m args below meth c H locs cells slots Q (F0 m pc lsA r))
    (K : GO p l e R s m args below meth c cells slots Q D ad cA V A nL c'.1 c'.2.1 c'.2.2.1 c'.2.2.2) : GO p l e R s m args below meth c cells slots Q D ad cA V A nL pc ls st σ := by
  unfold jldI at hs
  split at hs
  · rename_i a he
    obtain rfl := jnx_inj (a := (_, _, _, _)) hs
    intro H locs lsA hP hS hl
    exact hrow H locs lsA _ _ (hl.get he rfl) (K H locs lsA hP hS hl)
  · cases hs
theorem g_jldA {i : Nat} (hs : jldA i pc1 ls st σ = some (.inl c'))
    (hrow : ∀ (H : Heap) (locs : List Loc) (lsA : Array Slot) (x : Nat) (r : List Value), lsA[i]? = some (.val (.ref x)) → W p l e R s m args below meth c H locs cells slots Q (F0 m pc1 lsA (.ref x :: r)) → W p l e R s m args below meth c H locs cells slots Q (F0 m pc lsA r))
    (K : GO p l e R s m args below meth c cells slots Q D ad cA V A nL c'.1 c'.2.1 c'.2.2.1 c'.2.2.2) : GO p l e R s m args below meth c cells slots Q D ad cA V A nL pc ls st σ := by
  unfold jldA at hs
  split at hs
  · rename_i a he
    obtain rfl := jnx_inj (a := (_, _, _, _)) hs
    intro H locs lsA hP hS hl
    exact hrow H locs lsA _ _ (hl.get he rfl) (K H locs lsA hP hS hl)
  · cases hs
theorem g_jldL {i : Nat} (hs : jldL i pc1 ls st σ = some (.inl c'))
    (hrow : ∀ (H : Heap) (locs : List Loc) (lsA : Array Slot) (x : Int64) (r : List Value), lsA[i]? = some (.val (.long x)) → W p l e R s m args below meth c H locs cells slots Q (F0 m pc1 lsA (.long x :: r)) → W p l e R s m args below meth c H locs cells slots Q (F0 m pc lsA r))
    (K : GO p l e R s m args below meth c cells slots Q D ad cA V A nL c'.1 c'.2.1 c'.2.2.1 c'.2.2.2) : GO p l e R s m args below meth c cells slots Q D ad cA V A nL pc ls st σ := by
  unfold jldL at hs
  split at hs
  · rename_i a _ he he2
    obtain rfl := jnx_inj (a := (_, _, _, _)) hs
    intro H locs lsA hP hS hl
    exact hrow H locs lsA _ _ (hl.get he (by simp [jvalid, jcat, he2])) (K H locs lsA hP hS hl)
  · cases hs
theorem g_jldD {i : Nat} (hs : jldD i pc1 ls st σ = some (.inl c'))
    (hrow : ∀ (H : Heap) (locs : List Loc) (lsA : Array Slot) (x : UInt64) (r : List Value), lsA[i]? = some (.val (.double x)) → W p l e R s m args below meth c H locs cells slots Q (F0 m pc1 lsA (.double x :: r)) → W p l e R s m args below meth c H locs cells slots Q (F0 m pc lsA r))
    (K : GO p l e R s m args below meth c cells slots Q D ad cA V A nL c'.1 c'.2.1 c'.2.2.1 c'.2.2.2) : GO p l e R s m args below meth c cells slots Q D ad cA V A nL pc ls st σ := by
  unfold jldD at hs
  split at hs
  · rename_i a _ he he2
    obtain rfl := jnx_inj (a := (_, _, _, _)) hs
    intro H locs lsA hP hS hl
    exact hrow H locs lsA _ _ (hl.get he (by simp [jvalid, jcat, he2])) (K H locs lsA hP hS hl)
  · cases hs
theorem g_jstI {i : Nat} (hs : jstI i pc1 ls st σ = some (.inl c'))
    (hrow : ∀ (H : Heap) (locs : List Loc) (lsA : Array Slot) (x : Int32) (r : List Value) (lv : List (Nat × Value)), lv_has lsA nL lv → i < nL → (∀ lsB : Array Slot, lv_has lsB nL ((i, Value.int x) :: lv.filter (fun q => !(q.1 == i) && !(q.1 + 1 == i && q.2.category == 2))) → W p l e R s m args below meth c H locs cells slots Q (F0 m pc1 lsB r)) → W p l e R s m args below meth c H locs cells slots Q (F0 m pc lsA (.int x :: r)))
    (K : GO p l e R s m args below meth c cells slots Q D ad cA V A nL c'.1 c'.2.1 c'.2.2.1 c'.2.2.2) : GO p l e R s m args below meth c cells slots Q D ad cA V A nL pc ls st σ := by
  unfold jstI at hs
  split at hs
  · rename_i a r
    split at hs
    · rename_i hi
      obtain rfl := jnx_inj (a := (_, _, _, _)) hs
      intro H locs lsA hP hS hl
      have hi' : i < nL := by rw [← hl.1]; exact hi
      exact hrow H locs lsA _ _ (jal ad ls) hl.2 hi' (fun lsB hB => K H locs lsB hP hS (LH.set1 (v := vI a) hl hi' rfl rfl hB))
    · cases hs
  · cases hs
theorem g_jinc {i : Nat} {n : Int} (hs : jinc i n pc1 ls st σ = some (.inl c'))
    (hrow : ∀ (H : Heap) (locs : List Loc) (lsA : Array Slot) (x : Int32) (r : List Value) (k : Nat) (lv : List (Nat × Value)), lv_has lsA nL lv → lv[k]? = some (i, .int x) → i < nL → (∀ lsB : Array Slot, lv_has lsB nL ((i, Value.int (x + Int32.ofInt n)) :: lv.filter (fun q => !(q.1 == i) && !(q.1 + 1 == i && q.2.category == 2))) → W p l e R s m args below meth c H locs cells slots Q (F0 m pc1 lsB r)) → W p l e R s m args below meth c H locs cells slots Q (F0 m pc lsA r))
    (K : GO p l e R s m args below meth c cells slots Q D ad cA V A nL c'.1 c'.2.1 c'.2.2.1 c'.2.2.2) : GO p l e R s m args below meth c cells slots Q D ad cA V A nL pc ls st σ := by
  unfold jinc at hs
  split at hs
  · rename_i a he
    split at hs
    · rename_i hi
      obtain rfl := jnx_inj (a := (_, _, _, _)) hs
      intro H locs lsA hP hS hl
      have hi' : i < nL := by rw [← hl.1]; exact hi
      obtain ⟨k, hk⟩ := List.mem_iff_getElem?.mp (jal_mem.mpr ⟨_, he, rfl, rfl⟩ : (i, mv ad (vI a)) ∈ jal ad ls)
      exact hrow H locs lsA _ _ k (jal ad ls) hl.2 hk hi' (fun lsB hB => K H locs lsB hP hS (LH.set1 (v := vI (a + n)) hl hi' rfl rfl (by
        show lv_has lsB nL ((i, Value.int (Int32.ofInt (a + n))) :: _)
        rw [Int32.ofInt_add]; exact hB)))
    · cases hs
  · cases hs
theorem g_jstL {i : Nat} (hs : jstL i pc1 ls st σ = some (.inl c'))
    (hrow : ∀ (H : Heap) (locs : List Loc) (lsA : Array Slot) (x : Int64) (r : List Value) (lv : List (Nat × Value)), lv_has lsA nL lv → i + 1 < nL → (∀ lsB : Array Slot, lv_has lsB nL ((i, Value.long x) :: lv.filter (fun q => !(q.1 == i) && (!(q.1 == i + 1) && !(q.1 + 1 == i && q.2.category == 2)))) → W p l e R s m args below meth c H locs cells slots Q (F0 m pc1 lsB r)) → W p l e R s m args below meth c H locs cells slots Q (F0 m pc lsA (.long x :: r)))
    (K : GO p l e R s m args below meth c cells slots Q D ad cA V A nL c'.1 c'.2.1 c'.2.2.1 c'.2.2.2) : GO p l e R s m args below meth c cells slots Q D ad cA V A nL pc ls st σ := by
  unfold jstL at hs
  split at hs
  · rename_i a r
    split at hs
    · rename_i hi
      obtain rfl := jnx_inj (a := (_, _, _, _)) hs
      intro H locs lsA hP hS hl
      have hi' : i + 1 < nL := by rw [← hl.1]; exact hi
      exact hrow H locs lsA _ _ (jal ad ls) hl.2 hi' (fun lsB hB => K H locs lsB hP hS (LH.set2 (v := vL a) hl hi' rfl hB))
    · cases hs
  · cases hs
theorem g_jstD {i : Nat} (hs : jstD i pc1 ls st σ = some (.inl c'))
    (hrow : ∀ (H : Heap) (locs : List Loc) (lsA : Array Slot) (x : UInt64) (r : List Value) (lv : List (Nat × Value)), lv_has lsA nL lv → i + 1 < nL → (∀ lsB : Array Slot, lv_has lsB nL ((i, Value.double x) :: lv.filter (fun q => !(q.1 == i) && (!(q.1 == i + 1) && !(q.1 + 1 == i && q.2.category == 2)))) → W p l e R s m args below meth c H locs cells slots Q (F0 m pc1 lsB r)) → W p l e R s m args below meth c H locs cells slots Q (F0 m pc lsA (.double x :: r)))
    (K : GO p l e R s m args below meth c cells slots Q D ad cA V A nL c'.1 c'.2.1 c'.2.2.1 c'.2.2.2) : GO p l e R s m args below meth c cells slots Q D ad cA V A nL pc ls st σ := by
  unfold jstD at hs
  split at hs
  · rename_i a r
    split at hs
    · rename_i hi
      obtain rfl := jnx_inj (a := (_, _, _, _)) hs
      intro H locs lsA hP hS hl
      have hi' : i + 1 < nL := by rw [← hl.1]; exact hi
      exact hrow H locs lsA _ _ (jal ad ls) hl.2 hi' (fun lsB hB => K H locs lsB hP hS (LH.set2 (v := vD a) hl hi' rfl hB))
    · cases hs
  · cases hs
/-! branches -/
theorem jto_inj {off : Int} (hs : jto pc off ls st σ = some (.inl c')) : ∃ t : Nat, (pc : Int) + off = (t : Int) ∧ c' = (t, ls, st, σ) := by
  unfold jto at hs
  split at hs
  · rename_i h
    exact ⟨((pc : Int) + off).toNat, by omega, jnx_inj (a := (_, _, _, _)) hs⟩
  · cases hs
theorem g_jto {off : Int} (hs : jto pc off ls st σ = some (.inl c'))
    (hrow : ∀ (H : Heap) (locs : List Loc) (lsA : Array Slot) (t : Nat) (r : List Value), (pc : Int) + off = (t : Int) → W p l e R s m args below meth c H locs cells slots Q (F0 m t lsA r) → W p l e R s m args below meth c H locs cells slots Q (F0 m pc lsA r))
    (K : GO p l e R s m args below meth c cells slots Q D ad cA V A nL c'.1 c'.2.1 c'.2.2.1 c'.2.2.2) : GO p l e R s m args below meth c cells slots Q D ad cA V A nL pc ls st σ := by
  obtain ⟨t, h1, rfl⟩ := jto_inj hs
  intro H locs lsA hP hS hl
  exact hrow H locs lsA t _ h1 (K H locs lsA hP hS hl)
theorem g_jif1 {cd : Jvm.ClassFile.Cond} {off : Int} (hs : jif1 cd off pc ls st σ = some (.inl c'))
    (hrow : ∀ (H : Heap) (locs : List Loc) (lsA : Array Slot) (a : Int) (r : List Value) (t : Nat), (pc : Int) + off = (t : Int) → W p l e R s m args below meth c H locs cells slots Q (F0 m (if jcnd cd (w32 a) 0 then t else pc + 3) lsA r) → W p l e R s m args below meth c H locs cells slots Q (F0 m pc lsA (.int (Int32.ofInt a) :: r)))
    (K : GO p l e R s m args below meth c cells slots Q D ad cA V A nL c'.1 c'.2.1 c'.2.2.1 c'.2.2.2) : GO p l e R s m args below meth c cells slots Q D ad cA V A nL pc ls st σ := by
  unfold jif1 at hs
  split at hs
  · rename_i a r
    split at hs
    · rename_i h0
      obtain rfl := jnx_inj (a := (_, _, _, _)) hs
      intro H locs lsA hP hS hl
      exact hrow H locs lsA a _ ((pc : Int) + off).toNat (by omega) (K H locs lsA hP hS hl)
    · cases hs
  · cases hs
theorem g_jif2 {cd : Jvm.ClassFile.Cond} {off : Int} (hs : jif2 cd off pc ls st σ = some (.inl c'))
    (hrow : ∀ (H : Heap) (locs : List Loc) (lsA : Array Slot) (a b : Int) (r : List Value) (t : Nat), (pc : Int) + off = (t : Int) → W p l e R s m args below meth c H locs cells slots Q (F0 m (if jcnd cd (w32 a) (w32 b) then t else pc + 3) lsA r) → W p l e R s m args below meth c H locs cells slots Q (F0 m pc lsA (.int (Int32.ofInt b) :: .int (Int32.ofInt a) :: r)))
    (K : GO p l e R s m args below meth c cells slots Q D ad cA V A nL c'.1 c'.2.1 c'.2.2.1 c'.2.2.2) : GO p l e R s m args below meth c cells slots Q D ad cA V A nL pc ls st σ := by
  unfold jif2 at hs
  split at hs
  · rename_i b a r
    split at hs
    · rename_i h0
      obtain rfl := jnx_inj (a := (_, _, _, _)) hs
      intro H locs lsA hP hS hl
      exact hrow H locs lsA a b _ ((pc : Int) + off).toNat (by omega) (K H locs lsA hP hS hl)
    · cases hs
  · cases hs
end SND
