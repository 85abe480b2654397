/-! java.lang.String: length and charAt of the week's letters -/
def PcG (D : va_G) (ad : Nat → Nat) (cA : Nat → ClassId) (V : Vw) (as : List Value) (σ : St) : Array Value → State → Prop :=
  va_Pc as (fun U => va_P D vwCl (wsO ad cA V.1 σ) U.heap ∧ va_K D vwCl (jtys cA) U ∧ FX ad V (AW ad V.1.length) U U.heap ∧ AI ad V.1.length (AW ad V.1.length))
theorem PcG_blind {D : va_G} {ad : Nat → Nat} {cA : Nat → ClassId} {V : Vw} {as : List Value} {σ : St} : FrameBlind (PcG D ad cA V as σ) := by
  intro a U g mk q
  obtain ⟨q0, qP, qK, qF, qA⟩ := q
  exact ⟨q0, qP, va_K.moved (u := U) (U := U.calling g mk a) (Vm.Alike.refl U.vm) qK, FX.alike (u := U) (U := U.calling g mk a) rfl qF, qA⟩
/-- a contract of a method of the JDK in the small machine's world -/
abbrev MG (l : Launch) (D : va_G) (ad : Nat → Nat) (cA : Nat → ClassId) (V : Vw) (y : MethodName) (cc : ByteArray) (ml : Nat) (ret : Option FieldType) (d : Nat) (as : List Value) (σ : St) (r : Rt) : Prop :=
  Met l y (.code y cc ml ret :: lw_g) (jrm d) (PcG D ad cA V as σ) (QR D ad cA V r) 0 0 (AW ad V.1.length)
def CXG (p : Program) (s : State) (m : MethodId) (args : Array Value) (c : Code) (D : va_G) (ad : Nat → Nat) (cA : Nat → ClassId) (V : Vw) (nL : Nat) (cc : ByteArray) (own : String) : Prop :=
  p.tables.exec = Jvm.exec ∧ c.code = cc ∧ c.maxLocals = nL ∧ s.vm.findClass own = some m.cls ∧ (∀ w ∈ lw_g, w.before args s = true) ∧ va_K D vwCl (jtys cA) s ∧ FX ad V (AW ad V.1.length) s s.heap ∧ AI ad V.1.length (AW ad V.1.length)
section JDK
variable {p : Program} {l : Launch} {e : Env} {R : Room} {s : State} {m : MethodId} {args : Array Value} {below : List Frame} {meth : Method} {c : Code} {H : Heap} {locs : List Loc} {Q : State → Prop}
variable {D : va_G} {ad : Nat → Nat} {cA : Nat → ClassId} {V : Vw} {nL pc : Nat} {cc : ByteArray} {own : String} {lsA : Array Slot} {σ : St}
theorem metG {y : MethodName} {ml d : Nat} {ret : Option FieldType} {as : List Value} {r : Rt} (hy : plainFor y = true) (hlen : (lg_sl as).length ≤ ml)
    (body : ∀ (p : Program) (e : Env) (s : State) (m : MethodId) (below : List Frame) (meth : Method) (c : Code) (ls : Array Slot), CXG p s m as.toArray c D ad cA V ml cc y.cls → meth.sig.returnType = ret → meth.locks = false → va_P D vwCl (wsO ad cA V.1 σ) s.heap → lv_has ls ml (lv_args 0 as) →
      W p l e (jrm d) s m as.toArray below meth c s.heap [] 0 0 (MQ below (QR D ad cA V r) as.toArray s 0 0 (AW ad V.1.length)) (F0 m 0 ls [])) : MG l D ad cA V y cc ml ret d as σ r := by
  refine ofWF (cc := cc) (maxL := ml) (ret := ret) hy rfl ?_
  intro p e s m args below meth c s₁ B hml hv
  obtain ⟨rfl, hP, hK, hF, hA⟩ := hv
  have hts : ∀ w ∈ lw_g, w.before as.toArray s = true := fun w hw => atoms_spec (ws := .code y cc ml ret :: lw_g) B.pre w (List.mem_cons_of_mem _ hw)
  rw [lg_entry_eq]
  exact body p e s m below meth c _ ⟨B.exec, B.bytes, hml, findClass_of_methodNamed B.named, hts, hK, hF, hA⟩ B.returns B.notSynchronized hP (lv_entry as hlen)
theorem preG {as : List Value} (hK : va_K D vwCl (jtys cA) s) (hF : FX ad V (AW ad V.1.length) s s.heap) (hA : AI ad V.1.length (AW ad V.1.length)) (hP : va_P D vwCl (wsO ad cA V.1 σ) H) (hS : va_S (AW ad V.1.length) s.heap H locs) (U : State) (hU : U.heap = H) (hW : s.WarmedH U.vm) : PcG D ad cA V as σ as.toArray U := by
  refine ⟨rfl, by rw [hU]; exact hP, va_K.moved hW.alike hK, ?_, hA⟩
  rw [hU]
  exact (hF.kept hS.2.1).warm hW
theorem goodG {y : MethodName} {bytes : ByteArray} {ml : Nat} {ret : Option FieldType} (w1 : Cond.code y bytes ml ret ∈ lw_tbl) : GoodIn lw_g (.code y bytes ml ret :: lw_g) := fun w hw => by
  rcases List.mem_cons.mp hw with rfl | hw
  · exact ⟨gd w1 rfl, Or.inl rfl⟩
  · exact jgood w hw
theorem callSG {d0 d : Nat} {y : MethodName} {bytes : ByteArray} {ml n idx : Nat} {ret : Option FieldType} {As rest st0 : List Value} {r : Rt} (C : CXG p s m args c D ad cA V nL cc own) (hM : MG l D ad cA V y bytes ml ret d0 As σ r) (hdd : d0 + 1 ≤ d) (hml : ml ≤ 12)
    (w1 : Cond.code y bytes ml ret ∈ lw_tbl) (w2 : Cond.initialized y.cls ∈ lw_tbl) (w3 : Cond.methodLink own idx y ∈ lw_tbl) (w4 : Cond.static y ∈ lw_tbl) (hy : y.cls ≠ "java/lang/invoke/MethodHandle" ∧ y.cls ≠ "java/lang/invoke/VarHandle" ∧ (parseMethodDescriptor y.desc).map (fun d => d.parameters.length) = some n)
    (hP : va_P D vwCl (wsO ad cA V.1 σ) H) (hS : va_S (AW ad V.1.length) s.heap H locs) (hl : lsA.size = nL) (hn : As.length = n) (hst : st0 = As.reverse ++ rest) (h8 : (rest.map fun v => v.category).sum ≤ 8) (hdg : decode cc pc = .ok (.invokestatic idx, 3))
    (kk : ∀ (H1 : Heap) (locs1 : List Loc), va_P D vwCl (wsO ad cA V.1 r.2) H1 → va_S (AW ad V.1.length) s.heap H1 locs1 → W p l e (jrm d) s m args below meth c H1 locs1 0 0 Q (F0 m (pc + 3) lsA ((r.1.map (mv ad)).toList ++ rest))) : W p l e (jrm d) s m args below meth c H locs 0 0 Q (F0 m pc lsA st0) := by
  obtain ⟨hx, hb, hmx, hown, hts, hK, hF, hA⟩ := C
  have hR : (jrm d0).frames + 1 ≤ (jrm d).frames ∧ 8 + (ml + 11) + (jrm d0).locals ≤ (jrm d).locals := ⟨hdd, by show 8 + (ml + 11) + 31 * d0 ≤ 31 * d; omega⟩
  have hrun : va_Run p l e (jrm d) s m args below meth c H locs 0 0 0 0 (F0 m pc lsA st0) rest (QR D ad cA V r As.toArray) (AW ad V.1.length) :=
    va_runS (As := As) ⟨hx, hb, hmx, hown, hts⟩ hM ⟨callB_of (Ts := lw_g) n hts (goodG w1) rfl rfl rfl (hts _ (gd w2 rfl)) (hts _ (gd w3 rfl)) hy hR, hts _ (gd w4 rfl)⟩ ⟨PcG_blind, fun U hU hW => preG hK hF hA hP hS U hU hW⟩ rfl hn hl hst (lv_room h8) hdg ⟨Nat.le_refl 0, Nat.le_refl 0⟩
  exact qr_call hrun hS (fun q h => h) kk
theorem callVG {d0 d b : Nat} {y : MethodName} {bytes : ByteArray} {ml n idx : Nat} {ret : Option FieldType} {As rest st0 : List Value} {r : Rt} (C : CXG p s m args c D ad cA V nL cc own) (hM : MG l D ad cA V y bytes ml ret d0 (.ref b :: As) σ r) (hdd : d0 + 1 ≤ d) (hml : ml ≤ 12)
    (w1 : Cond.code y bytes ml ret ∈ lw_tbl) (w2 : Cond.initialized y.cls ∈ lw_tbl) (w3 : Cond.methodLink own idx y ∈ lw_tbl) (w4 : Cond.instanceMethod y ∈ lw_tbl) (w5 : Cond.selects y.cls y y ∈ lw_tbl) (hy : y.cls ≠ "java/lang/invoke/MethodHandle" ∧ y.cls ≠ "java/lang/invoke/VarHandle" ∧ (parseMethodDescriptor y.desc).map (fun d => d.parameters.length) = some n)
    (hrec : ∃ cell : Cell, H[b]? = some cell ∧ cell.vm.isStatics = false ∧ s.vm.findClass y.cls = some cell.cls)
    (hP : va_P D vwCl (wsO ad cA V.1 σ) H) (hS : va_S (AW ad V.1.length) s.heap H locs) (hl : lsA.size = nL) (hn : As.length = n) (hst : st0 = As.reverse ++ .ref b :: rest) (h8 : (rest.map fun v => v.category).sum ≤ 8) (hdg : decode cc pc = .ok (.invokevirtual idx, 3))
    (kk : ∀ (H1 : Heap) (locs1 : List Loc), va_P D vwCl (wsO ad cA V.1 r.2) H1 → va_S (AW ad V.1.length) s.heap H1 locs1 → W p l e (jrm d) s m args below meth c H1 locs1 0 0 Q (F0 m (pc + 3) lsA ((r.1.map (mv ad)).toList ++ rest))) : W p l e (jrm d) s m args below meth c H locs 0 0 Q (F0 m pc lsA st0) := by
  obtain ⟨hx, hb, hmx, hown, hts, hK, hF, hA⟩ := C
  have hR : (jrm d0).frames + 1 ≤ (jrm d).frames ∧ 8 + (ml + 11) + (jrm d0).locals ≤ (jrm d).locals := ⟨hdd, by show 8 + (ml + 11) + 31 * d0 ≤ 31 * d; omega⟩
  have cw : CallW (jrm d) s args own y.cls idx y bytes ml ret (.code y bytes ml ret :: lw_g) (jrm d0) 0 0 n := ⟨callB_of (Ts := lw_g) n hts (goodG w1) rfl rfl rfl (hts _ (gd w2 rfl)) (hts _ (gd w3 rfl)) hy hR, hts _ (gd w4 rfl), hts _ (gd w5 rfl)⟩
  have hrun := va_runV (H := H) (locs := locs) (e := e) (below := below) (meth := meth) (cells := 0) (slots := 0) (g := F0 m pc lsA st0) (As := As) (rest := rest) (b := b) ⟨hx, hb, hmx, hown, hts⟩ hM cw ⟨PcG_blind, hrec, fun U hU hW => preG hK hF hA hP hS U hU hW⟩ rfl hn hl hst (lv_room h8) hdg ⟨Nat.le_refl 0, Nat.le_refl 0⟩
  exact qr_call hrun hS (fun q h => h) kk
theorem retG {d : Nat} {ty : FieldType} {v : Int32} {a : Int} (hx : p.tables.exec = Jvm.exec) (hb : c.code = cc) (hr : meth.sig.returnType = some ty) (hn : narrow ty (.int v) = .int v) (hv : Int32.ofInt a = v) (hP : va_P D vwCl (wsO ad cA V.1 σ) H) (hS : va_S (AW ad V.1.length) s.heap H locs) (hlocks : meth.locks = false) (hdg : decode cc pc = .ok (.ireturn, 1)) :
    W p l e (jrm d) s m args below meth c H locs 0 0 (MQ below (QR D ad cA V (some (vI a), σ)) args s 0 0 (AW ad V.1.length)) (F0 m pc lsA [.int v]) := by
  subst hv
  exact W.zret hx hb hr hn (fun t ht _ => ⟨rfl, by rw [ht]; exact hP, hS.F ht⟩) hS.2.2 hdg hlocks
theorem gCoder (hq : (V.2 1001).isSome = true) (d : Nat) (σ : St) : MG l D ad cA V yJ0_coder_7d493 cJ0_coder_7d493 1 (some .byte) d [.ref (ad 1002)] σ (some (vI 0), σ) := by
  refine metG (by decide +kernel) (Nat.le_of_ble_eq_true rfl) ?_
  intro p e s m below meth c ls C hr hlocks hP hl
  obtain ⟨hx, hb, hml, hown, hts, hK, hF, hA⟩ := id C
  have hS : va_S (AW ad V.1.length) s.heap s.heap [] := va_S.rf
  obtain ⟨-, -, hO, hco, hva, hT, hcm, hfm⟩ := hF.2.1 hq
  have hl : lv_has ls 1 [(0, .ref (ad 1002))] := hl
  refine va_gets (own := RJ0) hx hb hcm hS hown (hts _ (gd (w := .fieldLink RJ0 38 "java/lang/String" "COMPACT_STRINGS" "Z") (by decide +kernel) rfl)) (fun _ h => h) dJ0_coder_7d493_0 ?_
  refine lv_if_eq (tgt := 13) hx hb dJ0_coder_7d493_3 (by decide) (fun h => absurd h (by decide)) (fun _ => ?_)
  refine lv_aload_n hx hb dJ0_coder_7d493_6 rfl (lv_at hl 0 rfl) ?_
  refine vk_getf (own := RJ0) hx hb hco hS hown (hts _ (gd (w := .fieldLink RJ0 15 "java/lang/String" "coder" "B") (by decide +kernel) rfl)) (fun _ h => h) dJ0_coder_7d493_7 ?_
  refine lv_goto (tgt := 14) hx hb dJ0_coder_7d493_10 (by decide) ?_
  exact retG (a := 0) hx hb hr (by decide) (by decide) hP hS hlocks dJ0_coder_7d493_14
theorem gLatin (hq : (V.2 1001).isSome = true) (d : Nat) (σ : St) : MG l D ad cA V yJ0_isLatin1_aae02 cJ0_isLatin1_aae02 1 (some .boolean) d [.ref (ad 1002)] σ (some (vI 1), σ) := by
  refine metG (by decide +kernel) (Nat.le_of_ble_eq_true rfl) ?_
  intro p e s m below meth c ls C hr hlocks hP hl
  obtain ⟨hx, hb, hml, hown, hts, hK, hF, hA⟩ := id C
  have hS : va_S (AW ad V.1.length) s.heap s.heap [] := va_S.rf
  obtain ⟨-, -, hO, hco, hva, hT, hcm, hfm⟩ := hF.2.1 hq
  have hl : lv_has ls 1 [(0, .ref (ad 1002))] := hl
  refine va_gets (own := RJ0) hx hb hcm hS hown (hts _ (gd (w := .fieldLink RJ0 38 "java/lang/String" "COMPACT_STRINGS" "Z") (by decide +kernel) rfl)) (fun _ h => h) dJ0_isLatin1_aae02_0 ?_
  refine lv_if_eq (tgt := 17) hx hb dJ0_isLatin1_aae02_3 (by decide) (fun h => absurd h (by decide)) (fun _ => ?_)
  refine lv_aload_n hx hb dJ0_isLatin1_aae02_6 rfl (lv_at hl 0 rfl) ?_
  refine vk_getf (own := RJ0) hx hb hco hS hown (hts _ (gd (w := .fieldLink RJ0 15 "java/lang/String" "coder" "B") (by decide +kernel) rfl)) (fun _ h => h) dJ0_isLatin1_aae02_7 ?_
  refine lv_if_ne (tgt := 17) hx hb dJ0_isLatin1_aae02_10 (by decide) (fun h => absurd rfl h) (fun _ => ?_)
  refine lv_iconst (v := 1) hx hb dJ0_isLatin1_aae02_13 (by decide) ?_
  refine lv_goto (tgt := 18) hx hb dJ0_isLatin1_aae02_14 (by decide) ?_
  exact retG (a := 1) hx hb hr (by decide) (by decide) hP hS hlocks dJ0_isLatin1_aae02_18
theorem gJ3 (d : Nat) (σ : St) {a : Int} {v : Value} (hv : v = .null ∨ ∃ t, v = .ref t) (h0 : 0 ≤ w32 a) (h7 : w32 a < 7) : MG l D ad cA V yJ3_checkIndex_8e157 cJ3_checkIndex_8e157 3 (some .int) d [.int (Int32.ofInt a), .int 7, v] σ (some (vI a), σ) := by
  have hlen : (lg_sl [.int (Int32.ofInt a), .int 7, v]).length ≤ 3 := by rcases hv with rfl | ⟨t, rfl⟩ <;> exact Nat.le_of_ble_eq_true rfl
  refine metG (by decide +kernel) hlen ?_
  intro p e s m below meth c ls C hr hlocks hP hl
  obtain ⟨hx, hb, hml, hown, hts, hK, hF, hA⟩ := id C
  have hS : va_S (AW ad V.1.length) s.heap s.heap [] := va_S.rf
  have hl : lv_has ls 3 [(0, .int (Int32.ofInt a)), (1, .int 7), (2, v)] := hl
  have n0 : ¬ Int32.ofInt a < 0 := fun h => by
    have h1 : (Int32.ofInt a).toInt < (0 : Int32).toInt := Int32.lt_iff_toInt_lt.mp h
    rw [w32_def, show (0 : Int32).toInt = 0 by decide] at h1
    omega
  have n7 : Int32.ofInt a < 7 := Int32.lt_iff_toInt_lt.mpr (by rw [w32_def, show (7 : Int32).toInt = 7 by decide]; exact h7)
  refine lv_iload_n hx hb dJ3_checkIndex_8e157_0 rfl (lv_at hl 0 rfl) ?_
  refine lv_if_lt (tgt := 9) hx hb dJ3_checkIndex_8e157_1 (by decide) (fun h => absurd h n0) (fun _ => ?_)
  refine lv_iload_n hx hb dJ3_checkIndex_8e157_4 rfl (lv_at hl 0 rfl) ?_
  refine lv_iload_n hx hb dJ3_checkIndex_8e157_5 rfl (lv_at hl 1 rfl) ?_
  refine lv_icmp_lt (tgt := 16) hx hb dJ3_checkIndex_8e157_6 (by decide) (fun _ => ?_) (fun h => absurd n7 h)
  refine lv_iload_n hx hb dJ3_checkIndex_8e157_16 rfl (lv_at hl 0 rfl) ?_
  exact retG (a := a) hx hb hr rfl rfl hP hS hlocks dJ3_checkIndex_8e157_17
theorem gJ0c (hq : (V.2 1001).isSome = true) {d : Nat} (hd : 1 ≤ d) (σ : St) {a : Int} (h0 : 0 ≤ w32 a) (h7 : w32 a < 7) : MG l D ad cA V yJ0_checkIndex_df160 cJ0_checkIndex_df160 2 none d [.int (Int32.ofInt a), .int 7] σ (none, σ) := by
  refine metG (by decide +kernel) (Nat.le_of_ble_eq_true rfl) ?_
  intro p e s m below meth c ls C hr hlocks hP hl
  obtain ⟨hx, hb, hml, hown, hts, hK, hF, hA⟩ := id C
  have hS : va_S (AW ad V.1.length) s.heap s.heap [] := va_S.rf
  obtain ⟨-, -, hO, hco, hva, hT, hcm, hfm⟩ := hF.2.1 hq
  have hl : lv_has ls 2 [(0, .int (Int32.ofInt a)), (1, .int 7)] := hl
  refine lv_iload_n hx hb dJ0_checkIndex_df160_0 rfl (lv_at hl 0 rfl) ?_
  refine lv_iload_n hx hb dJ0_checkIndex_df160_1 rfl (lv_at hl 1 rfl) ?_
  obtain ⟨v, hv, hz⟩ : ∃ v : Value, (v = .null ∨ ∃ t, v = .ref t) ∧ va_Z "jdk/internal/util/Preconditions" "SIOOBE_FORMATTER" "Ljava/util/function/BiFunction;" v (AW ad V.1.length) s s.heap := by
    rcases hfm with hz | ⟨t, hz⟩
    · exact ⟨_, Or.inl rfl, hz⟩
    · exact ⟨_, Or.inr ⟨t, rfl⟩, hz⟩
  refine va_gets (own := RJ0) hx hb hz hS hown (hts _ (gd (w := .fieldLink RJ0 1053 "jdk/internal/util/Preconditions" "SIOOBE_FORMATTER" "Ljava/util/function/BiFunction;") (by decide +kernel) rfl)) (fun _ h => h) dJ0_checkIndex_df160_2 ?_
  refine callSG (n := 3) C (gJ3 0 σ hv h0 h7) hd (by decide) (by decide +kernel) (by decide +kernel) (by decide +kernel) (by decide +kernel) ⟨by decide +kernel, by decide +kernel, by decide +kernel⟩ hP hS hl.1 rfl rfl (by decide) dJ0_checkIndex_df160_5 (fun H1 locs1 hP1 hS1 => ?_)
  refine W.eq (g2 := F0 m 8 ls [.int (Int32.ofInt a)]) rfl ?_
  refine lv_pop hx hb dJ0_checkIndex_df160_8 rfl ?_
  exact W.vret hx hb hr (fun t ht _ => ⟨rfl, by rw [ht]; exact hP1, hS1.F ht⟩) hS1.2.2 dJ0_checkIndex_df160_9 hlocks
theorem wkC : ∀ j, j < 7 → ((wkB j &&& 255).toUInt32 % 65536).toInt32 = Int32.ofInt (([77, 84, 87, 84, 70, 83, 83] : List Int).getD j 0) ∧ narrow .char (.int (Int32.ofInt (([77, 84, 87, 84, 70, 83, 83] : List Int).getD j 0))) = .int (Int32.ofInt (([77, 84, 87, 84, 70, 83, 83] : List Int).getD j 0)) :=
  el7 ⟨by decide, by decide⟩ ⟨by decide, by decide⟩ ⟨by decide, by decide⟩ ⟨by decide, by decide⟩ ⟨by decide, by decide⟩ ⟨by decide, by decide⟩ ⟨by decide, by decide⟩
theorem gJ1 (hq : (V.2 1001).isSome = true) {d : Nat} (hd : 2 ≤ d) (σ : St) {a : Int} (h0 : 0 ≤ w32 a) (h7 : w32 a < 7) : MG l D ad cA V yJ1_charAt_3b067 cJ1_charAt_3b067 2 (some .char) d [.ref (ad 1003), .int (Int32.ofInt a)] σ (some (vI (([77, 84, 87, 84, 70, 83, 83] : List Int).getD (w32 a).toNat 0)), σ) := by
  refine metG (by decide +kernel) (Nat.le_of_ble_eq_true rfl) ?_
  intro p e s m below meth c ls C hr hlocks hP hl
  obtain ⟨hx, hb, hml, hown, hts, hK, hF, hA⟩ := id C
  have hS : va_S (AW ad V.1.length) s.heap s.heap [] := va_S.rf
  obtain ⟨-, -, hO, hco, hva, hT, hcm, hfm⟩ := hF.2.1 hq
  have hl : lv_has ls 2 [(0, .ref (ad 1003)), (1, .int (Int32.ofInt a))] := hl
  obtain ⟨k1, k2⟩ := wkC (w32 a).toNat (by omega)
  refine lv_iload_n hx hb dJ1_charAt_3b067_0 rfl (lv_at hl 1 rfl) ?_
  refine lv_aload_n hx hb dJ1_charAt_3b067_1 rfl (lv_at hl 0 rfl) ?_
  refine va_tlen (v := 7) hx hb hT hS (by decide) dJ1_charAt_3b067_2 ?_
  refine callSG (n := 2) C (gJ0c hq (d := 1) (Nat.le_refl 1) σ h0 h7) hd (by decide) (by decide +kernel) (by decide +kernel) (by decide +kernel) (by decide +kernel) ⟨by decide +kernel, by decide +kernel, by decide +kernel⟩ hP hS hl.1 rfl rfl (by decide) dJ1_charAt_3b067_3 (fun H1 locs1 hP1 hS1 => ?_)
  refine W.eq (g2 := F0 m 6 ls []) rfl ?_
  refine lv_aload_n hx hb dJ1_charAt_3b067_6 rfl (lv_at hl 0 rfl) ?_
  refine lv_iload_n hx hb dJ1_charAt_3b067_7 rfl (lv_at hl 1 rfl) ?_
  refine va_tb (v := .int (wkB (w32 a).toNat)) hx hb hT hS1 (w32_in (n := 7) ⟨h0, by omega⟩) rfl dJ1_charAt_3b067_8 ?_
  refine lv_sipush (v := 255) hx hb dJ1_charAt_3b067_9 (by decide) ?_
  refine lv_iand hx hb dJ1_charAt_3b067_12 ?_
  refine lv_i2c hx hb dJ1_charAt_3b067_13 k1 ?_
  exact retG hx hb hr k2 rfl hP1 hS1 hlocks dJ1_charAt_3b067_14
theorem gLen (hq : (V.2 1001).isSome = true) {d : Nat} (hd : 1 ≤ d) (σ : St) : MG l D ad cA V yJ0_length_8abf5 cJ0_length_8abf5 1 (some .int) d [.ref (ad 1002)] σ (some (vI 7), σ) := by
  refine metG (by decide +kernel) (Nat.le_of_ble_eq_true rfl) ?_
  intro p e s m below meth c ls C hr hlocks hP hl
  obtain ⟨hx, hb, hml, hown, hts, hK, hF, hA⟩ := id C
  have hS : va_S (AW ad V.1.length) s.heap s.heap [] := va_S.rf
  obtain ⟨-, -, hO, hco, hva, hT, hcm, hfm⟩ := hF.2.1 hq
  have hl : lv_has ls 1 [(0, .ref (ad 1002))] := hl
  refine lv_aload_n hx hb dJ0_length_8abf5_0 rfl (lv_at hl 0 rfl) ?_
  refine vk_getf (own := RJ0) hx hb hva hS hown (hts _ (gd (w := .fieldLink RJ0 9 "java/lang/String" "value" "[B") (by decide +kernel) rfl)) (fun _ h => h) dJ0_length_8abf5_1 ?_
  refine va_tlen (v := 7) hx hb hT hS (by decide) dJ0_length_8abf5_4 ?_
  refine lv_aload_n hx hb dJ0_length_8abf5_5 rfl (lv_at hl 0 rfl) ?_
  refine callVG (n := 0) (As := []) (rest := [.int 7]) C (gCoder hq 0 σ) hd (by decide) (by decide +kernel) (by decide +kernel) (by decide +kernel) (by decide +kernel) (by decide +kernel) ⟨by decide +kernel, by decide +kernel, by decide +kernel⟩ (va_Orecv hO hS) hP hS hl.1 rfl rfl (by decide) dJ0_length_8abf5_6 (fun H1 locs1 hP1 hS1 => ?_)
  refine W.eq (g2 := F0 m 9 ls [.int (Int32.ofInt 0), .int 7]) rfl ?_
  refine lv_ishr hx hb dJ0_length_8abf5_9 ?_
  exact retG (a := 7) hx hb hr rfl (by decide) hP1 hS1 hlocks dJ0_length_8abf5_10
theorem gChar (hq : (V.2 1001).isSome = true) {d : Nat} (hd : 3 ≤ d) (σ : St) {a : Int} (h0 : 0 ≤ w32 a) (h7 : w32 a < 7) : MG l D ad cA V yJ0_charAt_5068e cJ0_charAt_5068e 2 (some .char) d [.ref (ad 1002), .int (Int32.ofInt a)] σ (some (vI (([77, 84, 87, 84, 70, 83, 83] : List Int).getD (w32 a).toNat 0)), σ) := by
  refine metG (by decide +kernel) (Nat.le_of_ble_eq_true rfl) ?_
  intro p e s m below meth c ls C hr hlocks hP hl
  obtain ⟨hx, hb, hml, hown, hts, hK, hF, hA⟩ := id C
  have hS : va_S (AW ad V.1.length) s.heap s.heap [] := va_S.rf
  obtain ⟨-, -, hO, hco, hva, hT, hcm, hfm⟩ := hF.2.1 hq
  have hl : lv_has ls 2 [(0, .ref (ad 1002)), (1, .int (Int32.ofInt a))] := hl
  obtain ⟨k1, k2⟩ := wkC (w32 a).toNat (by omega)
  refine lv_aload_n hx hb dJ0_charAt_5068e_0 rfl (lv_at hl 0 rfl) ?_
  refine callVG (n := 0) (As := []) (rest := []) C (gLatin hq 0 σ) (by omega) (by decide) (by decide +kernel) (by decide +kernel) (by decide +kernel) (by decide +kernel) (by decide +kernel) ⟨by decide +kernel, by decide +kernel, by decide +kernel⟩ (va_Orecv hO hS) hP hS hl.1 rfl rfl (by decide) dJ0_charAt_5068e_1 (fun H1 locs1 hP1 hS1 => ?_)
  refine W.eq (g2 := F0 m 4 ls [.int (Int32.ofInt 1)]) rfl ?_
  refine lv_if_eq (tgt := 16) hx hb dJ0_charAt_5068e_4 (by decide) (fun h => absurd h (by decide)) (fun _ => ?_)
  refine lv_aload_n hx hb dJ0_charAt_5068e_7 rfl (lv_at hl 0 rfl) ?_
  refine vk_getf (own := RJ0) hx hb hva hS1 hown (hts _ (gd (w := .fieldLink RJ0 9 "java/lang/String" "value" "[B") (by decide +kernel) rfl)) (fun _ h => h) dJ0_charAt_5068e_8 ?_
  refine lv_iload_n hx hb dJ0_charAt_5068e_11 rfl (lv_at hl 1 rfl) ?_
  refine callSG (n := 2) C (gJ1 hq (d := 2) (Nat.le_refl 2) σ h0 h7) hd (by decide) (by decide +kernel) (by decide +kernel) (by decide +kernel) (by decide +kernel) ⟨by decide +kernel, by decide +kernel, by decide +kernel⟩ hP1 hS1 hl.1 rfl rfl (by decide) dJ0_charAt_5068e_12 (fun H2 locs2 hP2 hS2 => ?_)
  refine W.eq (g2 := F0 m 15 ls [.int (Int32.ofInt (([77, 84, 87, 84, 70, 83, 83] : List Int).getD (w32 a).toNat 0))]) rfl ?_
  exact retG hx hb hr k2 rfl hP2 hS2 hlocks dJ0_charAt_5068e_15
end JDK
/-- the two methods of java.lang.String that the house calls answer as the small machine says -/
theorem hprim_ok (l : Launch) (D : va_G) (ad : Nat → Nat) (cA : Nat → ClassId) (k : Nat × (Int → Int)) (d : Nat) : EOK l D ad cA (WV k) (jrm d) (jprim d) := by
  intro mm as σ r h y M ml ret ht
  unfold jprim at h
  by_cases z : mm = mJ0_length_8abf5
  · rw [if_pos z] at h
    have e : jmT[mJ0_length_8abf5]? = some (yJ0_length_8abf5, MJ0_length_8abf5, 1, some .int) := rfl
    rw [z, e] at ht
    cases ht
    split at h
    · rename_i q
      split at h
      · rename_i hc
        obtain ⟨rfl, h2⟩ := hc
        cases h
        exact gLen rfl (by omega) σ
      · cases h
    · cases h
  · rw [if_neg z] at h
    by_cases z2 : mm = mJ0_charAt_5068e
    · rw [if_pos z2] at h
      have e : jmT[mJ0_charAt_5068e]? = some (yJ0_charAt_5068e, MJ0_charAt_5068e, 2, some .char) := rfl
      rw [z2, e] at ht
      cases ht
      split at h
      · rename_i q i
        split at h
        · rename_i hc
          obtain ⟨rfl, h2, h3, h4⟩ := hc
          cases h
          exact gChar rfl h2 σ h3 h4
        · cases h
      · cases h
    · rw [if_neg z2] at h
      cases h
