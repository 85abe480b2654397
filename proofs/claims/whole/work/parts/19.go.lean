section SND5
variable {p : Program} {l : Launch} {e : Env} {R : Room} {s : State} {m : MethodId} {args : Array Value} {below : List Frame} {meth : Method} {c : Code} {cells slots : Nat} {Q : State → Prop}
variable {D : va_G} {ad : Nat → Nat} {cA : Nat → ClassId} {V : Vw} {A : Nat → Prop} {nL : Nat} {M : MT} {pc pc1 : Nat} {ls st : List PV} {σ : St} {c' : Nat × List PV × List PV × St}
theorem g_jtab {dflt lo hi : Int} {offs : Array Int} {len : Nat} (C : CX p s m args c D ad cA V A nL M) (hd : decode M.1 pc = .ok (.tableswitch dflt lo hi offs, len)) (hs : jtab dflt lo hi offs pc ls st σ = some (.inl c'))
    (K : GO p l e R s m args below meth c cells slots Q D ad cA V A nL c'.1 c'.2.1 c'.2.2.1 c'.2.2.2) : GO p l e R s m args below meth c cells slots Q D ad cA V A nL pc ls st σ := by
  obtain ⟨hx, hb, -⟩ := C
  unfold jtab at hs
  split at hs
  · rename_i a r
    split at hs
    · rename_i h
      obtain ⟨t, h1, rfl⟩ := jto_inj hs
      intro H locs lsA hP hS hl
      exact lv_tableOut hx hb hd h h1 (K H locs lsA hP hS hl)
    · rename_i h
      split at hs
      · rename_i off ho
        obtain ⟨t, h1, rfl⟩ := jto_inj hs
        intro H locs lsA hP hS hl
        exact lv_tableIn hx hb hd (fun z => h (Or.inl z)) (fun z => h (Or.inr z)) ho h1 (K H locs lsA hP hS hl)
      · cases hs
  · cases hs
theorem g_jlks {dflt : Int} {ps : Array (Int × Int)} {len : Nat} (C : CX p s m args c D ad cA V A nL M) (hd : decode M.1 pc = .ok (.lookupswitch dflt ps, len)) (hs : jlks dflt ps pc ls st σ = some (.inl c'))
    (K : GO p l e R s m args below meth c cells slots Q D ad cA V A nL c'.1 c'.2.1 c'.2.2.1 c'.2.2.2) : GO p l e R s m args below meth c cells slots Q D ad cA V A nL pc ls st σ := by
  obtain ⟨hx, hb, -⟩ := C
  unfold jlks at hs
  split at hs
  · rename_i a r
    split at hs
    · rename_i h
      obtain ⟨t, h1, rfl⟩ := jto_inj hs
      intro H locs lsA hP hS hl
      exact lv_lookup hx hb hd h rfl h1 (K H locs lsA hP hS hl)
    · cases hs
  · cases hs
theorem g_jpushI {idx : Nat} (hs : jpush (jiOf M.2.1 idx) pc1 ls st σ = some (.inl c')) (hts : ∀ w ∈ lw_g, w.before args s = true)
    (hrow : ∀ (H : Heap) (locs : List Loc) (lsA : Array Slot) (r : List Value) (v : Int32), (Jvm.Cond.constant (jon M.2.1) idx v).before args s = true → W p l e R s m args below meth c H locs cells slots Q (F0 m pc1 lsA (.int v :: r)) → W p l e R s m args below meth c H locs cells slots Q (F0 m pc lsA r))
    (K : GO p l e R s m args below meth c cells slots Q D ad cA V A nL c'.1 c'.2.1 c'.2.2.1 c'.2.2.2) : GO p l e R s m args below meth c cells slots Q D ad cA V A nL pc ls st σ := by
  unfold jpush jiOf at hs
  split at hs
  · rename_i v hv
    split at hv
    · rename_i hi
      split at hv
      · rename_i a ha
        cases hv
        obtain rfl := jnx_inj (a := (_, _, _, _)) hs
        intro H locs lsA hP hS hl
        exact hrow H locs lsA _ _ (hts _ (gd (ji_ok hi ha) rfl)) (K H locs lsA hP hS hl)
      · cases hv
    · cases hv
  · cases hs
theorem g_jpushK {idx : Nat} (C : CX p s m args c D ad cA V A nL M) (hd : decode M.1 pc = .ok (.ldc2_w idx, 3)) (hs : jpush (jkOf M.2.1 idx) (pc + 3) ls st σ = some (.inl c'))
    (K : GO p l e R s m args below meth c cells slots Q D ad cA V A nL c'.1 c'.2.1 c'.2.2.1 c'.2.2.2) : GO p l e R s m args below meth c cells slots Q D ad cA V A nL pc ls st σ := by
  obtain ⟨hx, hb, hml, hown, hts, -⟩ := C
  unfold jpush jkOf at hs
  split at hs
  · rename_i v hv
    split at hv
    · rename_i hi
      split at hv
      · rename_i a ha
        cases hv
        obtain rfl := jnx_inj (a := (_, _, _, _)) hs
        intro H locs lsA hP hS hl
        exact lv_ldc2 hx hb hown (hts _ (gd (jl_ok hi ha) rfl)) hd (K H locs lsA hP hS hl)
      · split at hv
        · rename_i a ha
          cases hv
          obtain rfl := jnx_inj (a := (_, _, _, _)) hs
          intro H locs lsA hP hS hl
          exact lv_ldc2d hx hb hown (hts _ (gd (jd_ok hi ha) rfl)) hd (K H locs lsA hP hS hl)
        · cases hv
    · cases hv
  · cases hs
theorem jsi_of (f : Int32 → Int32 → Int32) (a b : Int) : Int32.ofInt (jsi f a b) = f (Int32.ofInt a) (Int32.ofInt b) := Int32.ofInt_toInt _
theorem jsl_of (f : Int64 → Int64 → Int64) (a b : Int) : Int64.ofInt (jsl f a b) = f (Int64.ofInt a) (Int64.ofInt b) := Int64.ofInt_toInt _
theorem w32_64 (a : Int) : Int64.ofInt (w32 a) = (Int32.ofInt a).toInt64 := rfl
theorem lg_cmp_of (a b : Int) : Int32.ofInt (if w64 b < w64 a then 1 else if w64 a = w64 b then 0 else -1) = lg_cmp (Int64.ofInt a) (Int64.ofInt b) := by
  unfold lg_cmp w64
  simp only [gt_iff_lt, Int64.lt_iff_toInt_lt, ← Int64.toInt_inj]
  split
  · rfl
  · split <;> rfl
theorem jb_8 {k : Int} (h : -128 ≤ k ∧ k ≤ 127) : (Int8.ofInt k).toInt32 = Int32.ofInt k := by
  have h1 : Int8.minValue.toInt = -128 := by decide
  have h2 : Int8.maxValue.toInt = 127 := by decide
  exact Int8.toInt32_ofInt (by omega) (by omega)
theorem jb_16 {k : Int} (h : -32768 ≤ k ∧ k ≤ 32767) : (Int16.ofInt k).toInt32 = Int32.ofInt k := by
  have h1 : Int16.minValue.toInt = -32768 := by decide
  have h2 : Int16.maxValue.toInt = 32767 := by decide
  exact Int16.toInt32_ofInt (by omega) (by omega)
/-- ONE STEP: the machine does what the small machine does -/
theorem stp_go {E : Orc} {rm : Room} (C : CX p s m args c D ad cA V A nL M) (hk4 : ∀ (q t n : Nat), V.1[q]? = some (.inr (t, n)) → t < 4) (hE : EOK l D ad cA V rm E) (hrm : RMK E rm R cells slots)
    (hs : stp V E M pc ls st σ = some (.inl c')) (K : GO p l e R s m args below meth c cells slots Q D ad cA V A nL c'.1 c'.2.1 c'.2.2.1 c'.2.2.2) : GO p l e R s m args below meth c cells slots Q D ad cA V A nL pc ls st σ := by
  unfold stp at hs
  split at hs
  · rename_i i n hd
    split at hs
    · rename_i hn
      have hx := C.1
      have hb := C.2.1
      have hts := C.2.2.2.2.1
      have hown := C.2.2.2.1
      cases i
      case tableswitch d lo hi offs => exact g_jtab C hd hs K
      case lookupswitch d ps => exact g_jlks C hd hs K
      all_goals (replace hn := hn.resolve_left (by simp [jlenOf]))
      all_goals (subst hn)
      case iconst k => exact g_push (w := .int (Int32.ofInt k)) rfl hs (fun H locs lsA r kk => lv_iconst hx hb hd rfl kk) K
      case bipush k =>
        simp only [stpI] at hs
        split at hs
        · rename_i hk
          exact g_push (w := .int (Int32.ofInt k)) rfl hs (fun H locs lsA r kk => lv_bipush hx hb hd (jb_8 hk) kk) K
        · cases hs
      case sipush k =>
        simp only [stpI] at hs
        split at hs
        · rename_i hk
          exact g_push (w := .int (Int32.ofInt k)) rfl hs (fun H locs lsA r kk => lv_sipush hx hb hd (jb_16 hk) kk) K
        · cases hs
      case lconst k => exact g_push (w := .long (Int64.ofNat (k : Nat))) (by show Value.long (Int64.ofInt ((k : Nat) : Int)) = _; rw [Int64.ofInt_eq_ofNat]) hs (fun H locs lsA r kk => lv_lconst hx hb hd rfl kk) K
      case dconst k =>
        match k, hd, hs with
        | 0, hd, hs => exact g_push (w := .double FP.dconst0) rfl hs (fun H locs lsA r kk => lv_dconst0 hx hb hd kk) K
        | 1, hd, hs => exact g_push (w := .double FP.dconst1) rfl hs (fun H locs lsA r kk => lv_dconst1 hx hb hd kk) K
      case ldc k =>
        simp only [stpI] at hs
        split at hs
        · rename_i hk
          split at hs
          · rename_i hv
            rw [hk.1] at hown
            rw [hk.2] at hd
            exact g_push (w := .ref (ad 1002)) rfl hs (fun H locs lsA r kk => va_ldcS hx hb hown (C.2.2.2.2.2.2.1.2.1 hv).2.1 hd kk) K
          · cases hs
        · exact g_jpushI hs hts (fun H locs lsA r v hc kk => lv_ldc hx hb hown hc hd kk) K
      case ldc_w k => exact g_jpushI hs hts (fun H locs lsA r v hc kk => lv_ldcw hx hb hown hc hd kk) K
      case ldc2_w k => exact g_jpushK C hd hs K
      case iload_n k => exact g_jldI hs (fun H locs lsA x r hl kk => lv_iload_n hx hb hd rfl hl kk) K
      case iload k => exact g_jldI hs (fun H locs lsA x r hl kk => lv_iload hx hb hd hl kk) K
      case lload_n k => exact g_jldL hs (fun H locs lsA x r hl kk => lv_lload_n hx hb hd rfl hl kk) K
      case lload k => exact g_jldL hs (fun H locs lsA x r hl kk => lv_lload hx hb hd hl kk) K
      case dload_n k => exact g_jldD hs (fun H locs lsA x r hl kk => lv_dload_n hx hb hd rfl hl kk) K
      case dload k => exact g_jldD hs (fun H locs lsA x r hl kk => lv_dload hx hb hd hl kk) K
      case aload_n k => exact g_jldA hs (fun H locs lsA x r hl kk => lv_aload_n hx hb hd rfl hl kk) K
      case aload k => exact g_jldA hs (fun H locs lsA x r hl kk => lv_aload hx hb hd hl kk) K
      case istore_n k => exact g_jstI hs (fun H locs lsA x r lv h1 h2 kk => lv_istore_n hx hb hd rfl h1 h2 rfl kk) K
      case istore k => exact g_jstI hs (fun H locs lsA x r lv h1 h2 kk => lv_istore hx hb hd h1 h2 rfl kk) K
      case lstore_n k => exact g_jstL hs (fun H locs lsA x r lv h1 h2 kk => lv_lstore_n hx hb hd rfl h1 h2 rfl kk) K
      case lstore k => exact g_jstL hs (fun H locs lsA x r lv h1 h2 kk => lv_lstore hx hb hd h1 h2 rfl kk) K
      case dstore_n k => exact g_jstD hs (fun H locs lsA x r lv h1 h2 kk => lv_dstore_n hx hb hd rfl h1 h2 rfl kk) K
      case dstore k => exact g_jstD hs (fun H locs lsA x r lv h1 h2 kk => lv_dstore hx hb hd h1 h2 rfl kk) K
      case iinc k n => exact g_jinc hs (fun H locs lsA x r j lv h1 h2 h3 kk => lv_iinc hx hb hd h1 h2 rfl h3 rfl kk) K
      case iadd => exact g_jbi Int32.ofInt_add hs (fun H locs lsA x y r kk => lv_iadd hx hb hd kk) K
      case isub => exact g_jbi Int32.ofInt_sub hs (fun H locs lsA x y r kk => lv_isub hx hb hd kk) K
      case imul => exact g_jbi Int32.ofInt_mul hs (fun H locs lsA x y r kk => lv_imul hx hb hd kk) K
      case idiv => exact g_jbz jdiv_i hs (fun H locs lsA x y r h0 kk => lv_idiv hx hb hd h0 kk) K
      case irem => exact g_jbz jrem_i hs (fun H locs lsA x y r h0 kk => lv_irem hx hb hd h0 kk) K
      case ineg => exact g_jui (f := fun a => vI (-a)) (g := fun x => .int (-x)) (fun a => congrArg Value.int (Int32.ofInt_neg a)) hs (fun H locs lsA x r kk => lv_ineg hx hb hd kk) K
      case ishl => exact g_jbi (jsi_of _) hs (fun H locs lsA x y r kk => lv_ishl hx hb hd kk) K
      case ishr => exact g_jbi (jsi_of _) hs (fun H locs lsA x y r kk => lv_ishr hx hb hd kk) K
      case iushr => exact g_jbi (jsi_of _) hs (fun H locs lsA x y r kk => lv_iushr hx hb hd rfl kk) K
      case iand => exact g_jbi (jsi_of _) hs (fun H locs lsA x y r kk => lv_iand hx hb hd kk) K
      case ior => exact g_jbi (jsi_of _) hs (fun H locs lsA x y r kk => lv_ior hx hb hd kk) K
      case ixor => exact g_jbi (jsi_of _) hs (fun H locs lsA x y r kk => lv_ixor hx hb hd kk) K
      case ladd => exact g_jbl Int64.ofInt_add hs (fun H locs lsA x y r kk => lv_ladd hx hb hd kk) K
      case lsub => exact g_jbl Int64.ofInt_sub hs (fun H locs lsA x y r kk => lv_lsub hx hb hd kk) K
      case lmul => exact g_jbl Int64.ofInt_mul hs (fun H locs lsA x y r kk => lv_lmul hx hb hd kk) K
      case ldiv => exact g_jblz jdiv_l hs (fun H locs lsA x y r h0 kk => lv_ldiv hx hb hd h0 kk) K
      case lrem => exact g_jblz jrem_l hs (fun H locs lsA x y r h0 kk => lv_lrem hx hb hd h0 kk) K
      case land => exact g_jbl (jsl_of _) hs (fun H locs lsA x y r kk => lv_land hx hb hd kk) K
      case lor => exact g_jbl (jsl_of _) hs (fun H locs lsA x y r kk => lv_lor hx hb hd kk) K
      case lxor => exact g_jbl (jsl_of _) hs (fun H locs lsA x y r kk => lv_lxor hx hb hd kk) K
      case lshl =>
        simp only [stpI, jshl64] at hs
        split at hs
        · obtain rfl := jnx_inj (a := (_, _, _, _)) hs
          intro H locs lsA hP hS hl
          exact lv_lshl hx hb hd (Int64.ofInt_toInt _).symm (K H locs lsA hP hS hl)
        · cases hs
      case dadd => exact g_jbd hs (fun H locs lsA x y r hn kk => lv_dadd hx hb hd hn kk) K
      case dsub => exact g_jbd hs (fun H locs lsA x y r hn kk => lv_dsub hx hb hd hn kk) K
      case dmul => exact g_jbd hs (fun H locs lsA x y r hn kk => lv_dmul hx hb hd hn kk) K
      case ddiv => exact g_jbd hs (fun H locs lsA x y r hn kk => lv_ddiv hx hb hd hn kk) K
      case i2l => exact g_jui (g := fun x => .long x.toInt64) (fun a => rfl) hs (fun H locs lsA x r kk => lv_i2l hx hb hd rfl kk) K
      case i2d => exact g_jui (g := fun x => .double (FP.i2d x)) (fun a => rfl) hs (fun H locs lsA x r kk => lv_i2d hx hb hd kk) K
      case i2b => exact g_jui (f := fun a => vI (b8 a)) (g := fun x => .int x.toInt8.toInt32) (fun a => congrArg Value.int (Int32.ofInt_toInt _)) hs (fun H locs lsA x r kk => lv_i2b hx hb hd rfl kk) K
      case l2i => exact g_jul (f := fun a => vI a) (g := fun x => .int x.toInt32) (fun a => congrArg Value.int Int64.toInt32_ofInt.symm) hs (fun H locs lsA x r kk => lv_l2i hx hb hd rfl kk) K
      case l2d => exact g_jul (g := fun x => .double (FP.l2d x)) (fun a => rfl) hs (fun H locs lsA x r kk => lv_l2d hx hb hd kk) K
      case d2i => exact g_jud (f := fun a => vI ((FP.d2i a).toInt)) (g := fun x => .int (FP.d2i x)) (fun a => congrArg Value.int (Int32.ofInt_toInt _)) hs (fun H locs lsA x r kk => lv_d2i hx hb hd kk) K
      case d2l => exact g_jud (f := fun a => vL ((FP.d2l a).toInt)) (g := fun x => .long (FP.d2l x)) (fun a => congrArg Value.long (Int64.ofInt_toInt _)) hs (fun H locs lsA x r kk => lv_d2l hx hb hd kk) K
      case lcmp =>
        simp only [stpI, jlcmp] at hs
        split at hs
        · rename_i b a r
          obtain rfl := jnx_inj (a := (_, _, _, _)) hs
          intro H locs lsA hP hS hl
          refine W.lcmp hx hb hd ?_
          rw [← lg_cmp_of]
          exact K H locs lsA hP hS hl
        · cases hs
      case dcmp op =>
        simp only [stpI, jdcmp] at hs
        split at hs
        · rename_i b a r
          obtain rfl := jnx_inj (a := (_, _, _, _)) hs
          intro H locs lsA hP hS hl
          refine lv_dcmp hx hb hd ?_
          rw [← Int32.ofInt_toInt (Op.cmpValue (FP.dcmp a b) op)]
          exact K H locs lsA hP hS hl
        · cases hs
      case ifCond cd off => exact g_jif1 hs (fun H locs lsA a r t ht kk => jcnd_1 hx hb hd H locs lsA a r t ht kk) K
      case if_icmp cd off => exact g_jif2 hs (fun H locs lsA a b r t ht kk => jcnd_2 hx hb hd H locs lsA a b r t ht kk) K
      case goto off => exact g_jto hs (fun H locs lsA t r ht kk => lv_goto hx hb hd ht kk) K
      case getfield k => exact g_jget C hd hs K
      case putfield k => exact g_jput C hd hs K
      case getstatic k => exact g_jgst C hd hs K
      case iaload => exact g_iald C hd hs K
      case laload => exact g_lald C hd hs K
      case baload => exact g_bald C hd hs K
      case iastore => exact g_iast C hd hs K
      case lastore => exact g_last C hd hs K
      case bastore => exact g_bast C hd hs K
      case arraylength => exact g_jlen C hk4 hd hs K
      case invokevirtual k => exact g_jcal (vt := true) C hE hrm hd hs K
      case invokestatic k => exact g_jcal (vt := false) C hE hrm hd hs K
      case dup =>
        simp only [stpI, jdup] at hs
        split at hs
        · rename_i v r
          split at hs
          · rename_i hv
            obtain rfl := jnx_inj (a := (_, _, _, _)) hs
            intro H locs lsA hP hS hl
            exact lv_dup hx hb hd (by rw [mv_cat]; exact hv) (K H locs lsA hP hS hl)
          · cases hs
        · cases hs
      case dup2 =>
        simp only [stpI, jdup2] at hs
        split at hs
        · rename_i v u r
          split at hs
          · rename_i hv
            obtain rfl := jnx_inj (a := (_, _, _, _)) hs
            intro H locs lsA hP hS hl
            exact lv_dup2_11 hx hb hd (by rw [mv_cat]; exact hv.1) (by rw [mv_cat]; exact hv.2) (K H locs lsA hP hS hl)
          · cases hs
        · cases hs
      case pop =>
        simp only [stpI, jpp] at hs
        split at hs
        · rename_i v r
          split at hs
          · rename_i hv
            obtain rfl := jnx_inj (a := (_, _, _, _)) hs
            intro H locs lsA hP hS hl
            exact lv_pop hx hb hd (by rw [mv_cat]; exact hv) (K H locs lsA hP hS hl)
          · cases hs
        · cases hs
      case ireturn =>
        simp only [stpI, jret, jrt] at hs
        repeat (first | (split at hs) | cases hs)
      case lreturn =>
        simp only [stpI, jretL, jrt] at hs
        repeat (first | (split at hs) | cases hs)
      case dreturn =>
        simp only [stpI, jretD, jrt] at hs
        repeat (first | (split at hs) | cases hs)
      case return_ =>
        simp only [stpI, jretV, jrt] at hs
        repeat (first | (split at hs) | cases hs)
      all_goals (exact absurd hs (by simp [stpI]))
    · cases hs
  · cases hs
end SND5
