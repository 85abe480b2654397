/-! calls -/
def PcW (D : va_G) (ad : Nat → Nat) (cA : Nat → ClassId) (V : Vw) (as : List PV) (σ : St) : Array Value → State → Prop :=
  va_Pc (as.map (mv ad)) (fun U => va_P D vwCl (wsO ad cA V.1 σ) U.heap ∧ va_K D vwCl (jtys cA) U ∧ FX ad V (AW ad V.1.length) U U.heap ∧ AI ad V.1.length (AW ad V.1.length))
def QR (D : va_G) (ad : Nat → Nat) (cA : Nat → ClassId) (V : Vw) (r : Rt) : Array Value → State → Outcome → State → Prop := fun _ st oc t =>
  oc = .returned (r.1.map (mv ad)) ∧ va_P D vwCl (wsO ad cA V.1 r.2) t.heap ∧ va_F (AW ad V.1.length) st t
/-- what a method's answer in the small machine says of the machine -/
def EOK (l : Launch) (D : va_G) (ad : Nat → Nat) (cA : Nat → ClassId) (V : Vw) (rm : Room) (E : Orc) : Prop :=
  ∀ (mm : Nat) (as : List PV) (σ : St) (r : Rt), E mm as σ = some r → ∀ (y : MethodName) (M : MT) (ml : Nat) (ret : Option FieldType), jmT[mm]? = some (y, M, ml, ret) →
    Met l y (.code y M.1 ml ret :: lw_g) rm (PcW D ad cA V as σ) (QR D ad cA V r) 0 0 (AW ad V.1.length)
def RMK (E : Orc) (rm R : Room) (cells slots : Nat) : Prop := cells ≤ R.cells ∧ slots ≤ R.slots ∧ ∀ m as σ r, E m as σ = some r → rm.cells = 0 ∧ rm.slots = 0 ∧ rm.frames + 1 ≤ R.frames ∧ 31 + rm.locals ≤ R.locals
theorem FS.moved {ad : Nat → Nat} {A : Nat → Prop} {u U : State} {H : Heap} (hvm : u.vm.Alike U.vm) (hR : vk_R "AlmanacHouse$Page" 23 "MTWTFSS" (ad 1002) U) (h : FS ad A u H) : FS ad A U H := by
  obtain ⟨h1, h2, h3, h4, h5, h6, h7, h8⟩ := h
  exact ⟨h1.moved hvm, hR, h3.moved hvm, h4.moved hvm, h5.moved hvm, h6.moved hvm, h7.moved hvm, h8.moved hvm⟩
theorem FX.alike {ad : Nat → Nat} {V : Vw} {A : Nat → Prop} {u U : State} {H : Heap} (hvm : u.vm = U.vm) (h : FX ad V A u H) : FX ad V A U H := by
  have hal : u.vm.Alike U.vm := by rw [hvm]; exact Vm.Alike.refl _
  exact ⟨fun q n f hq => (h.1 q n f hq).moved hal, fun e => FS.moved hal ((h.2.1 e).2.1.same hvm.symm) (h.2.1 e), fun own idx y hw => (h.2.2 own idx y hw).same rfl hvm⟩
theorem FX.warm {ad : Nat → Nat} {V : Vw} {A : Nat → Prop} {s U : State} {H : Heap} (hW : s.WarmedH U.vm) (h : FX ad V A s H) : FX ad V A U H :=
  ⟨fun q n f hq => (h.1 q n f hq).moved hW.alike, fun e => FS.moved hW.alike ((h.2.1 e).2.1.warm hW) (h.2.1 e), fun own idx y hw => va_Nw.warmM hW (h.2.2 own idx y hw)⟩
theorem FS.kept {ad : Nat → Nat} {A : Nat → Prop} {U : State} {H H1 : Heap} (h : FS ad A U H) (hq : ∀ a : Nat, a < H.size → ¬ A a → H1[a]? = H[a]?) : FS ad A U H1 := by
  obtain ⟨h1, h2, h3, h4, h5, h6, h7, h8⟩ := h
  exact ⟨h1.kept hq, h2, h3.kept hq, h4.kept hq, h5.kept hq, h6.kept hq, h7.kept hq, h8.kept hq⟩
theorem FS.narrow {ad : Nat → Nat} {A B : Nat → Prop} {U : State} {H : Heap} (h : FS ad A U H) (hAB : ∀ q, B q → A q) : FS ad B U H := by
  obtain ⟨h1, h2, h3, h4, h5, h6, h7, h8⟩ := h
  exact ⟨h1.narrow hAB, h2, h3.narrow hAB, h4.narrow hAB, h5.narrow hAB, h6.narrow hAB, h7.narrow hAB, h8.narrow hAB⟩
theorem FX.kept {ad : Nat → Nat} {V : Vw} {A : Nat → Prop} {U : State} {H H1 : Heap} (h : FX ad V A U H) (hq : ∀ a : Nat, a < H.size → ¬ A a → H1[a]? = H[a]?) : FX ad V A U H1 :=
  ⟨fun q n f hv => (h.1 q n f hv).kept hq, fun e => (h.2.1 e).kept hq, h.2.2⟩
theorem FX.narrow {ad : Nat → Nat} {V : Vw} {A B : Nat → Prop} {U : State} {H : Heap} (h : FX ad V A U H) (hAB : ∀ q, B q → A q) : FX ad V B U H :=
  ⟨fun q n f hv => (h.1 q n f hv).narrow hAB, fun e => (h.2.1 e).narrow hAB, h.2.2⟩
theorem PcW_blind {D : va_G} {ad : Nat → Nat} {cA : Nat → ClassId} {V : Vw} {as : List PV} {σ : St} : FrameBlind (PcW D ad cA V as σ) := by
  intro a U g mk q
  obtain ⟨q0, qP, qK, qF, qA⟩ := q
  exact ⟨q0, qP, va_K.moved (u := U) (U := U.calling g mk a) (Vm.Alike.refl U.vm) qK, FX.alike (u := U) (U := U.calling g mk a) rfl qF, qA⟩
theorem jpop_ok : ∀ (n : Nat) (acc st as rest : List PV), jpop n acc st = some (as, rest) → ∃ P : List PV, st = P ++ rest ∧ P.length = n ∧ as = P.reverse ++ acc
  | 0, acc, st, as, rest, h => by
    simp only [jpop, Option.some.injEq, Prod.mk.injEq] at h
    exact ⟨[], by rw [h.2]; rfl, rfl, by rw [← h.1]; rfl⟩
  | n + 1, acc, v :: st, as, rest, h => by
    obtain ⟨P, h1, h2, h3⟩ := jpop_ok n (v :: acc) st as rest (by simpa [jpop] using h)
    exact ⟨v :: P, by rw [h1]; rfl, by rw [← h2]; rfl, by rw [h3]; simp⟩
  | n + 1, acc, [], as, rest, h => by simp [jpop] at h
theorem jback_ok {pc rk : Nat} {ls rest : List PV} {o : Option Rt} {c' : Nat × List PV × List PV × St} (h : jback pc ls rk rest o = some (.inl c')) : ∃ r : Rt, o = some r ∧ (rest.map jcat).sum ≤ 8 ∧ c' = (pc, ls, r.1.toList ++ rest, r.2) := by
  unfold jback at h
  split at h
  · rename_i h8
    split at h
    · exact ⟨_, rfl, h8, jnx_inj (a := (_, _, _, _)) h⟩
    · exact ⟨_, rfl, h8, jnx_inj (a := (_, _, _, _)) h⟩
    · exact ⟨_, rfl, h8, jnx_inj (a := (_, _, _, _)) h⟩
    · exact ⟨_, rfl, h8, jnx_inj (a := (_, _, _, _)) h⟩
    · cases h
  · cases h
section SND3
variable {p : Program} {l : Launch} {e : Env} {R : Room} {s : State} {m : MethodId} {args : Array Value} {below : List Frame} {meth : Method} {c : Code} {cells slots : Nat} {Q : State → Prop}
variable {D : va_G} {ad : Nat → Nat} {cA : Nat → ClassId} {V : Vw} {A : Nat → Prop} {nL : Nat} {M : MT} {pc pc1 : Nat} {ls st : List PV} {σ : St} {c' : Nat × List PV × List PV × St} {H : Heap} {locs : List Loc} {lsA : Array Slot}
theorem qr_call {st0 rest : List Value} {r : Rt} {a : Array Value} (hr : va_Run p l e R s m args below meth c H locs cells slots 0 0 (F0 m pc lsA st0) rest (QR D ad cA V r a) (AW ad V.1.length)) (hS : va_S A s.heap H locs) (hA : ∀ q, AW ad V.1.length q → A q)
    (kk : ∀ (H1 : Heap) (locs1 : List Loc), va_P D vwCl (wsO ad cA V.1 r.2) H1 → va_S A s.heap H1 locs1 → W p l e R s m args below meth c H1 locs1 cells slots Q (F0 m (pc + 3) lsA ((r.1.map (mv ad)).toList ++ rest))) : W p l e R s m args below meth c H locs cells slots Q (F0 m pc lsA st0) := by
  intro T hT X
  obtain ⟨v, st₀, t, T', L, h0, X', hL, e1, e2, ⟨hv, hp, hz, hk⟩, stp⟩ := hr T hT X
  cases hv
  rw [h0] at hz hk
  obtain ⟨t2, a1, b1⟩ := kk T'.heap (locs ++ L) (by rw [e1]; exact hp)
    ⟨Nat.le_trans hS.1 (by rw [e1]; exact hz), fun q h1 h2 => by rw [e1, hk q (Nat.lt_of_lt_of_le h1 hS.1) (fun z => h2 (hA q z))]; exact hS.2.1 q h1 h2, fun q hq => by
      rcases List.mem_append.mp hq with h | h
      · exact hS.2.2 q h
      · exact hA _ (hL q h)⟩ T' rfl X'
  exact ⟨t2, stp t2 a1, b1⟩
theorem cat_sum (ad : Nat → Nat) (rest : List PV) : ((rest.map (mv ad)).map fun v => v.category).sum = (rest.map jcat).sum := by
  rw [List.map_map]
  congr 1
  apply List.map_congr_left
  intro v _
  exact mv_cat ad v
theorem pre_of {as : List PV} (hx : va_K D vwCl (jtys cA) s) (hF : FX ad V A s s.heap) (hA : AI ad V.1.length A) (hP : va_P D vwCl (wsO ad cA V.1 σ) H) (hS : va_S A s.heap H locs) (U : State) (hU : U.heap = H) (hW : s.WarmedH U.vm) : PcW D ad cA V as σ (as.map (mv ad)).toArray U := by
  refine ⟨rfl, by rw [hU]; exact hP, va_K.moved hW.alike hx, ?_, hA.self⟩
  rw [hU]
  exact ((hF.kept hS.2.1).narrow hA.sub).warm hW
theorem g_jcal {E : Orc} {rm : Room} {vt : Bool} {idx : Nat} (C : CX p s m args c D ad cA V A nL M) (hE : EOK l D ad cA V rm E) (hrm : RMK E rm R cells slots)
    (hd : decode M.1 pc = .ok (if vt then .invokevirtual idx else .invokestatic idx, 3)) (hs : jcal V E vt (jcOf M.2.1 idx) (pc + 3) ls st σ = some (.inl c'))
    (K : GO p l e R s m args below meth c cells slots Q D ad cA V A nL c'.1 c'.2.1 c'.2.2.1 c'.2.2.2) : GO p l e R s m args below meth c cells slots Q D ad cA V A nL pc ls st σ := by
  obtain ⟨hx, hb, hml, hown, hts, hK, hF, hA⟩ := C
  obtain ⟨r5, r6, hrm⟩ := hrm
  unfold jcal at hs
  split at hs
  · cases hs
  · rename_i mm np rk kd ci hc
    obtain ⟨y, M', ml, ret, t1, t2, t3, t4, t5, t5s, t6, t7⟩ := jc_ok (jc_lt hc) hc
    obtain ⟨u1, u2, u3, u4, u5, u6⟩ := jm_ok t1
    have hG : GoodIn lw_g (.code y M'.1 ml ret :: lw_g) := fun w hw => by
      rcases List.mem_cons.mp hw with rfl | hw
      · exact ⟨gd u1 rfl, Or.inl rfl⟩
      · exact jgood w hw
    split at hs
    · cases hs
    · rename_i as rest hpop
      obtain ⟨P, e1, e2, e3⟩ := jpop_ok _ _ _ _ _ hpop
      rw [List.append_nil] at e3
      have erev : (as.map (mv ad)).reverse = P.map (mv ad) := by rw [e3, ← List.map_reverse, List.reverse_reverse]
      have elen : (as.map (mv ad)).length = np := by rw [e3]; simpa using e2
      split at hs
      · rename_i hvt
        subst hvt
        split at hs
        · rename_i hkd
          obtain ⟨w1, w2, w3, q, w4, w5⟩ := t5 hkd
          split at hs
          · rename_i b rest2
            split at hs
            · rename_i cj fs hq
              split at hs
              · rename_i hcj
                subst hcj
                obtain ⟨r, hr, h8, rfl⟩ := jback_ok hs
                obtain ⟨r1, r2, r3, r4⟩ := hrm _ _ _ _ hr
                have hR : rm.frames + 1 ≤ R.frames ∧ 8 + (ml + 11) + rm.locals ≤ R.locals := ⟨r3, by omega⟩
                intro H locs lsA hP hS hl
                have hw := wsO_get (ad := ad) (cA := cA) σ hq
                rw [cellE_fs] at hw
                have hM := hE mm _ σ r hr y M' ml ret t1
                have cw : CallW R s args (jon M.2.1) y.cls idx y M'.1 ml ret (.code y M'.1 ml ret :: lw_g) rm 0 0 np :=
                  ⟨callB_of (Ts := lw_g) np hts hG rfl r1 r2 (hts _ (gd t3 rfl)) (hts _ (gd w1 rfl)) ⟨u5.1, u5.2, t2⟩ hR, hts _ (gd w2 rfl), hts _ (gd w3 rfl)⟩
                have hrun := va_runV (H := H) (locs := locs) (e := e) (below := below) (meth := meth) (cells := cells) (slots := slots) (g := F0 m pc lsA (st.map (mv ad))) (As := as.map (mv ad)) (rest := rest2.map (mv ad)) (b := ad b) ⟨hx, hb, hml, hown, hts⟩ hM cw ⟨PcW_blind, by
                    obtain ⟨cell, z1, z2, z3⟩ := va_recv hK hP w4 hw
                    exact ⟨cell, z1, z2, by rw [← w5]; exact z3⟩, fun U hU hW => pre_of (as := vR b :: as) hK hF hA hP hS U hU hW⟩ rfl elen (by rw [← hl.1]; exact (hl.2.1).trans hl.1.symm) (by
                    show st.map (mv ad) = _
                    rw [e1, List.map_append, erev]; rfl) (lv_room (by rw [cat_sum]; exact h8)) hd ⟨by omega, by omega⟩
                refine qr_call hrun hS hA.sub (fun H1 locs1 hP1 hS1 => ?_)
                have := K H1 locs1 lsA hP1 hS1 hl
                rw [List.map_append] at this
                obtain ⟨v, σ'⟩ := r
                cases v with
                | none => exact this
                | some v => exact this
              · cases hs
            · cases hs
          · cases hs
        · split at hs
          · rename_i hkd
            obtain ⟨w1, w2, w3, w5⟩ := t5s hkd
            split at hs
            · rename_i b rest2
              split at hs
              · rename_i hq
                obtain ⟨rfl, hq2⟩ := hq
                obtain ⟨r, hr, h8, rfl⟩ := jback_ok hs
                obtain ⟨r1, r2, r3, r4⟩ := hrm _ _ _ _ hr
                have hR : rm.frames + 1 ≤ R.frames ∧ 8 + (ml + 11) + rm.locals ≤ R.locals := ⟨r3, by omega⟩
                intro H locs lsA hP hS hl
                have hM := hE mm _ σ r hr y M' ml ret t1
                have cw : CallW R s args (jon M.2.1) y.cls idx y M'.1 ml ret (.code y M'.1 ml ret :: lw_g) rm 0 0 np :=
                  ⟨callB_of (Ts := lw_g) np hts hG rfl r1 r2 (hts _ (gd t3 rfl)) (hts _ (gd w1 rfl)) ⟨u5.1, u5.2, t2⟩ hR, hts _ (gd w2 rfl), hts _ (gd w3 rfl)⟩
                have hrun := va_runV (H := H) (locs := locs) (e := e) (below := below) (meth := meth) (cells := cells) (slots := slots) (g := F0 m pc lsA (st.map (mv ad))) (As := as.map (mv ad)) (rest := rest2.map (mv ad)) (b := ad 1002) ⟨hx, hb, hml, hown, hts⟩ hM cw ⟨PcW_blind, by
                    obtain ⟨cell, z1, z2, z3, -⟩ := ((hF.2.1 hq2).2.2.1.kept hS.2.1)
                    exact ⟨cell, z1, z2, by rw [w5]; exact z3⟩, fun U hU hW => pre_of (as := vR 1002 :: as) hK hF hA hP hS U hU hW⟩ rfl elen (by rw [← hl.1]; exact (hl.2.1).trans hl.1.symm) (by
                    show st.map (mv ad) = _
                    rw [e1, List.map_append, erev]; rfl) (lv_room (by rw [cat_sum]; exact h8)) hd ⟨by omega, by omega⟩
                refine qr_call hrun hS hA.sub (fun H1 locs1 hP1 hS1 => ?_)
                have := K H1 locs1 lsA hP1 hS1 hl
                rw [List.map_append] at this
                obtain ⟨v, σ'⟩ := r
                cases v with
                | none => exact this
                | some v => exact this
              · cases hs
            · cases hs
          · cases hs
      · rename_i hvt
        rw [Bool.not_eq_true] at hvt
        subst hvt
        split at hs
        · cases hs
        · rename_i hkd
          obtain ⟨r, hr, h8, rfl⟩ := jback_ok hs
          obtain ⟨r1, r2, r3, r4⟩ := hrm _ _ _ _ hr
          have hR : rm.frames + 1 ≤ R.frames ∧ 8 + (ml + 11) + rm.locals ≤ R.locals := ⟨r3, by omega⟩
          intro H locs lsA hP hS hl
          have hM := hE mm _ σ r hr y M' ml ret t1
          have hrun : va_Run p l e R s m args below meth c H locs cells slots 0 0 (F0 m pc lsA (st.map (mv ad))) (rest.map (mv ad)) (QR D ad cA V r (as.map (mv ad)).toArray) (AW ad V.1.length) := by
            by_cases h0 : kd = 0
            · obtain ⟨w1, w2⟩ := t6 h0
              exact va_runS (As := as.map (mv ad)) ⟨hx, hb, hml, hown, hts⟩ hM ⟨callB_of (Ts := lw_g) np hts hG rfl r1 r2 (hts _ (gd t3 rfl)) (hts _ (gd w1 rfl)) ⟨u5.1, u5.2, t2⟩ hR, hts _ (gd w2 rfl)⟩ ⟨PcW_blind, fun U hU hW => pre_of hK hF hA hP hS U hU hW⟩ rfl elen (by rw [← hl.1]; exact (hl.2.1).trans hl.1.symm) (by
                    show st.map (mv ad) = _
                    rw [e1, List.map_append, erev]) (lv_room (by rw [cat_sum]; exact h8)) hd ⟨by omega, by omega⟩
            · obtain ⟨w1, w2⟩ := t7 h0 (fun h => hkd (Or.inl h)) (fun h => hkd (Or.inr h))
              exact va_runSN (As := as.map (mv ad)) ⟨hx, hb, hml, hown, hts⟩ hM ⟨va_cnB (Ts := lw_g) np hts hG rfl r1 r2 (hF.2.2 _ _ _ w1) (hts _ (gd t3 rfl)) ⟨u5.1, u5.2, t2⟩ hR, hts _ (gd w2 rfl), trivial⟩ ⟨PcW_blind, fun U hU hW => pre_of hK hF hA hP hS U hU hW⟩ rfl elen (by rw [← hl.1]; exact (hl.2.1).trans hl.1.symm) (by
                    show st.map (mv ad) = _
                    rw [e1, List.map_append, erev]) (lv_room (by rw [cat_sum]; exact h8)) hd ⟨by omega, by omega⟩
          refine qr_call hrun hS hA.sub (fun H1 locs1 hP1 hS1 => ?_)
          have := K H1 locs1 lsA hP1 hS1 hl
          rw [List.map_append] at this
          obtain ⟨v, σ'⟩ := r
          cases v with
          | none => exact this
          | some v => exact this
end SND3
