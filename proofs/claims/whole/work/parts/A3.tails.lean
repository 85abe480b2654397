theorem arrV_ext {cI : ClassId} {N : Nat} {f g : Nat → Value} (h : ∀ j, j < N → f j = g j) : arrV cI N f = arrV cI N g := by
  unfold arrV
  congr 2
  funext j
  exact h j.val j.isLt
/-- a world whose contents agree within their bounds -/
theorem P_ext {D : va_G} {ad : Nat → Nat} {cA : Nat → ClassId} {sh : List Cs} {σ τ : St} {H : Heap} (ho : ∀ (q ci : Nat) (fs : List (Option Nat)), sh[q]? = some (.inl (ci, fs)) → ∀ j : Nat, σ q j = τ q j) (ha : ∀ q tk n : Nat, sh[q]? = some (.inr (tk, n)) → ∀ j : Nat, j < n → σ q j = τ q j) (hP : va_P D vwCl (wsO ad cA sh σ) H) : va_P D vwCl (wsO ad cA sh τ) H := by
  intro q x hx
  rw [wsO_at] at hx
  cases hs : sh[q]? with
  | none => rw [hs] at hx; cases hx
  | some c =>
    rw [hs] at hx
    cases hx
    show va_at D vwCl (ad q, cellE ad cA τ q c) H
    have h1 := hP q _ (wsO_get σ hs)
    match c, hs, h1 with
    | .inl (ci, fs), hs, h1 =>
      have e : cellE ad cA σ q (.inl (ci, fs)) = cellE ad cA τ q (.inl (ci, fs)) := by
        rw [cellE_fs, cellE_fs]
        have : (fun (k : Nat) (f : Option Nat) => fieldV ad σ q k f) = fun k f => fieldV ad τ q k f := by
          funext k f
          cases f with
          | none => show Value.int (Int32.ofInt (σ q (k : Int))) = Value.int (Int32.ofInt (τ q (k : Int))); rw [ho q ci fs hs k]
          | some t => rfl
        rw [this]
      rw [← e]
      exact h1
    | .inr (tk, n), hs, h1 =>
      by_cases h3 : tk = 3
      · subst h3
        rw [cellE_l] at h1 ⊢
        have h1 : H[ad q]? = some (arrV (cA 3) n (fun j => .long (Int64.ofInt (σ q (j : Int))))) := h1
        show H[ad q]? = some (arrV (cA 3) n (fun j => .long (Int64.ofInt (τ q (j : Int)))))
        rw [h1, arrV_ext (fun j hj => by rw [ha q 3 n hs j hj])]
      · rw [cellE_i h3] at h1 ⊢
        have h1 : H[ad q]? = some (arrV (cA tk) n (fun j => .int (Int32.ofInt (σ q (j : Int))))) := h1
        show H[ad q]? = some (arrV (cA tk) n (fun j => .int (Int32.ofInt (τ q (j : Int)))))
        rw [h1, arrV_ext (fun j hj => by rw [ha q tk n hs j hj])]
theorem AI_of {ad : Nat → Nat} {cA : Nat → ClassId} {sh : List Cs} {σ : St} {A : Nat → Prop} (h : va_D A (wsO ad cA sh σ)) : AI ad sh.length A := by
  have g : ∀ i, i < sh.length → ∃ x : va_E, (wsO ad cA sh σ)[i]? = some (ad i, x) := fun i hi => ⟨_, wsO_get σ (List.getElem?_eq_getElem hi)⟩
  refine ⟨fun i j hi hj e => ?_, fun i hi => ?_⟩
  · obtain ⟨x, hx⟩ := g i hi
    obtain ⟨y, hy⟩ := g j hj
    exact h.1 i j _ _ hx hy e
  · obtain ⟨x, hx⟩ := g i hi
    exact h.2 i _ hx
theorem tailV {p : Program} {l : Launch} {e : Env} {R : Room} {s : State} {m : MethodId} {args : Array Value} {below : List Frame} {meth : Method} {c : Code} {cells slots : Nat} {Q : State → Prop} {D : va_G} {ad : Nat → Nat} {cA : Nat → ClassId} {sh : List Cs} {A : Nat → Prop} {nL : Nat} {M : MT} {pc d : Nat} {ls : List PV} {σ ρ : St} {H : Heap} {locs : List Loc} {lsA : Array Slot}
    (hx : p.tables.exec = Jvm.exec) (hb : c.code = M.1) (hml : c.maxLocals = nL) (hown : s.vm.findClass (jon M.2.1) = some m.cls) (hts : ∀ w ∈ lw_g, w.before args s = true) (hK : va_K D vwCl (jtys cA) s) (hN : NX s) (hk4 : ∀ (q t n : Nat), sh[q]? = some (.inr (t, n)) → t < 4) (hr : cells ≤ R.cells ∧ slots ≤ R.slots ∧ d + 1 ≤ R.frames ∧ 31 + 31 * d ≤ R.locals)
    (hP : va_P D vwCl (wsO ad cA sh σ) H) (hD : va_D A (wsO ad cA sh σ)) (hS : va_S A s.heap H locs) (hl : LH ad lsA nL ls) (ho : out (sh, fun _ => none) (ev (sh, fun _ => none) noP (d + 1)) M pc ls [] σ = some (none, ρ))
    (kk : ∀ (pc : Nat) (lsA : Array Slot) (H : Heap) (locs : List Loc), decode M.1 pc = .ok (.return_, 1) → va_P D vwCl (wsO ad cA sh ρ) H → va_S A s.heap H locs → W p l e R s m args below meth c H locs cells slots Q (F0 m pc lsA [])) : W p l e R s m args below meth c H locs cells slots Q (F0 m pc lsA []) := by
  have C : CX p s m args c D ad cA (sh, fun _ => none) A nL M := ⟨hx, hb, hml, hown, hts, hK, ⟨fun q n f h => (by cases h), fun h => (by cases h), hN⟩, AI_of hD⟩
  obtain ⟨n, hn⟩ := out_run ho
  have hE : EOK l D ad cA (sh, fun _ => none) (jrm d) (ev (sh, fun _ => none) noP (d + 1)) := ev_ok hk4 noP_ok d
  exact run_go (rm := jrm d) (r := (none, ρ)) C hk4 hE ⟨hr.1, hr.2.1, fun _ _ _ _ _ => ⟨rfl, rfl, hr.2.2.1, hr.2.2.2⟩⟩ (fun pc ls hat H locs lsA hP hS _ => kk pc lsA H locs hat.1 hP hS) n pc ls [] σ hn H locs lsA hP hS hl
/-- what the tails leave -/
def arrM : vp_A := (8, .inl (fun _ => Int32.ofInt (-1)))
def arr32 : vp_A := (1120, .inl (fun _ => Int32.ofInt 32))
def arrC : vp_A := (5002, .inl (fun j => Int32.ofInt (if 1 ≤ (j : Int) ∧ (j : Int) ≤ 5001 then cys (j : Int) else 0)))
abbrev MX4_init : MT := (cX4_init, 4, 0)
abbrev MX2_init : MT := (cX2_init, 2, 0)
def V4 : List Cs := [.inl (3, [some 1]), .inr (0, 1120)]
def V2 : List Cs := [.inl (2, [some 11, some 1, some 2, some 3, some 4, some 5, none, some 6, some 7, some 8, some 9, none, some 10, none]), .inr (0, 60), .inr (0, 60), .inr (0, 60), .inr (0, 60), .inr (0, 60), .inr (0, 60), .inr (0, 8), .inr (0, 480), .inr (0, 480), .inr (0, 60)]
theorem V4_k : ∀ (q t n : Nat), V4[q]? = some (.inr (t, n)) → t < 4 := by
  intro q t n h
  match q, h with
  | 1, h => cases h; decide
theorem V2_k : ∀ (q t n : Nat), V2[q]? = some (.inr (t, n)) → t < 4 := by
  intro q t n h
  match q, h with
  | 1, h => cases h; decide
  | 2, h => cases h; decide
  | 3, h => cases h; decide
  | 4, h => cases h; decide
  | 5, h => cases h; decide
  | 6, h => cases h; decide
  | 7, h => cases h; decide
  | 8, h => cases h; decide
  | 9, h => cases h; decide
  | 10, h => cases h; decide
theorem V0_k : ∀ (q t n : Nat), V0.1[q]? = some (.inr (t, n)) → t < 4 := by
  intro q t n h
  match q, h with
  | 1, h => cases h; decide
  | 2, h => cases h; decide
set_option maxRecDepth 100000 in
theorem bP_13 (E : Orc) (σ : St) : out (V4, fun _ => none) E MX4_init 13 [vR 0] [] σ = jbV (E mJ7_fill_53178 [vR 1, vI 32] σ) (fun τ => some (none, τ)) :=
  Eq.trans (o_aload_n dX4_init_13 rfl) (Eq.trans (o_getR dX4_init_14 jf_4_9 (q := 0) rfl rfl) (Eq.trans (o_bipush dX4_init_17 (by decide)) (Eq.trans (jb_V (Nat.le_of_ble_eq_true rfl) (c_S dX4_init_19 jc_4_13 (by decide) rfl)) (jbV_c fun τ => o_return dX4_init_22 rfl))))
set_option maxRecDepth 100000 in
theorem bF_91 (E : Orc) (σ : St) : out (V2, fun _ => none) E MX2_init 91 [vR 0, vR 11] [] σ = jbV (E mJ7_fill_53178 [vR 7, vI (-1)] σ) (fun τ => some (none, τ)) :=
  Eq.trans (o_aload_n dX2_init_91 rfl) (Eq.trans (o_getR dX2_init_92 jf_2_30 (q := 0) rfl rfl) (Eq.trans (o_iconst dX2_init_95) (Eq.trans (jb_V (Nat.le_of_ble_eq_true rfl) (c_S dX2_init_96 jc_2_46 (by decide) rfl)) (jbV_c fun τ => o_return dX2_init_99 rfl))))
theorem out4 (d : Nat) : ∃ ρ, (∀ j : Int, 0 ≤ j → j < 1120 → ρ 1 j = 32) ∧ (∀ p, p ≠ 1 → ρ p = fun _ => 0) ∧ out (V4, fun _ => none) (ev (V4, fun _ => none) noP (d + 1)) MX4_init 13 [vR 0] [] (fun _ _ => 0) = some (none, ρ) := by
  obtain ⟨ρ, h1, h2, h3⟩ := fillV (V := (V4, fun _ => none)) (q := 1) (n := 1120) rfl (by decide) d (fun _ _ => 0) 32
  exact ⟨ρ, h1, h2, by rw [bP_13, h3]; rfl⟩
theorem out2 (d : Nat) : ∃ ρ, (∀ j : Int, 0 ≤ j → j < 8 → ρ 7 j = -1) ∧ (∀ p, p ≠ 7 → ρ p = fun _ => 0) ∧ out (V2, fun _ => none) (ev (V2, fun _ => none) noP (d + 1)) MX2_init 91 [vR 0, vR 11] [] (fun _ _ => 0) = some (none, ρ) := by
  obtain ⟨ρ, h1, h2, h3⟩ := fillV (V := (V2, fun _ => none)) (q := 7) (n := 8) rfl (by decide) d (fun _ _ => 0) (-1)
  exact ⟨ρ, h1, h2, by rw [bF_91, h3]; rfl⟩
theorem out0 (d : Nat) : ∃ ρ, (∀ j, 1 ≤ j → j < 5002 → ρ 1 j = cys j) ∧ (∀ p, p ≠ 1 → ∀ j, ρ p j = 0) ∧ ρ 1 0 = 0 ∧ out V0 (ev V0 noP (d + 2)) MX0_init 22 [vR 0, vU] [] (fun _ _ => 0) = some (none, ρ) := by
  obtain ⟨ρ, h1, h2, h3, h4⟩ := loopC d 5001 1 (fun _ _ => 0) (by omega) rfl (fun j _ _ => by omega) (fun _ _ _ => rfl) rfl
  refine ⟨ρ, h1, h2, h3, ?_⟩
  rw [← h4]
  exact Eq.trans (o_iconst dX0_init_22) (o_istore_n dX0_init_23 (Nat.le_of_ble_eq_true rfl) rfl)
set_option maxHeartbeats 4000000 in
set_option maxRecDepth 100000 in
theorem kX4_init (l : Launch) (D : va_G) (cA : Nat → ClassId) (h0 : Nat) (sz : Nat) : Met l yX4_init (.code yX4_init cX4_init 1 none :: lw_g) ({ frames := 1, cells := 1, slots := 1120, locals := 31 }) (va_Pc [.ref h0] (fun U => U.heap.size = sz ∧ va_P D vwCl [(h0, .inr (3, [.null]))] U.heap ∧ (va_K D vwCl (jtys cA) U ∧ NX U) ∧ va_D (fun _ => True) [(h0, .inr (3, [.null]))])) (va_Qv (fun _ : Unit => True) (fun _ t => ∃ q1 : Nat, va_P D vwCl [(h0, .inr (3, [.ref q1])), (q1, .inl (cA 0, arr32))] t.heap ∧ va_D (va_A [(h0, .inr (3, [.null]))] sz) [(h0, .inr (3, [.ref q1])), (q1, .inl (cA 0, arr32))]) (va_A [(h0, .inr (3, [.null]))] sz)) 1 1120 (va_A [(h0, .inr (3, [.null]))] sz) := by
  refine Met.ofW (cc := cX4_init) (maxL := 1) (ret := none) (by decide) rfl ?_
  intro p e s m args below meth c s₁ B hml hv
  obtain ⟨rfl, hsz, hP, ⟨hK, hN⟩, hD0⟩ := hv
  have hx := B.exec
  have hb := B.bytes
  have hr := B.returns
  have hts : ∀ w ∈ lw_g, w.before _ s = true := fun w hw => atoms_spec (ws := .code yX4_init cX4_init 1 none :: lw_g) B.pre w (List.mem_cons_of_mem _ hw)
  have hown : s.vm.findClass RX4 = some m.cls := findClass_of_methodNamed B.named
  have hlocks := B.notSynchronized
  have hin : meth.name = "<init>" := (name_of_methodNamed B.named B.method).1
  subst hsz
  have hD := hD0.self (sz := s.heap.size)
  generalize hAe : va_A [(h0, .inr (3, [.null]))] s.heap.size = A at hD ⊢
  have hA : ∀ q : Nat, s.heap.size ≤ q → A q := fun q h => by rw [← hAe]; exact Or.inr h
  have hS : va_S A s.heap s.heap [] := va_S.rf
  have hP : va_P D vwCl [(h0, .inr (3, [.null]))] s.heap := hP
  have hl := lv_entry ([.ref h0]) (n := 1) (Nat.le_of_ble_eq_true rfl)
  rw [lg_entry_eq]
  generalize (lg_sl ([.ref h0]) ++ List.replicate (1 - (lg_sl ([.ref h0])).length) Slot.unset).toArray = ls at hl ⊢
  have hl : lv_has ls 1 [(0, .ref h0)] := hl
  refine lv_aload_n hx hb dX4_init_0 rfl (lv_at hl 0 rfl) ?_
  refine W.objInit hx hb hown (hts _ (gd (w := .methodLink RX4 1 objectInit) (by decide +kernel) rfl)) (hts _ (gd (w := .instanceMethod objectInit) (by decide +kernel) rfl)) (hts _ (gd (w := .code objectInit ⟨#[0xb1]⟩ 1 none) (by decide +kernel) rfl)) rfl (by rw [hml]; exact hl.1) rfl dX4_init_1 (Nat.le_of_ble_eq_true rfl) (Nat.le_of_ble_eq_true rfl) ?_
  refine W.eq (g2 := F0 m 4 ls []) rfl ?_
  refine lv_aload_n hx hb dX4_init_4 rfl (lv_at hl 0 rfl) ?_
  refine lv_sipush (v := 1120) hx hb dX4_init_5 (by decide) ?_
  refine nw (atype := .int) (tk := 0) (by decide) hx hb (hts _ (gd (w := .arrayClass .int) (by decide +kernel) rfl)) rfl hK hP hD hS hA (N' := 1120) (by decide) (by decide) (by decide) (Nat.le_of_ble_eq_true rfl) (Nat.le_of_ble_eq_true rfl) dX4_init_8 (fun q1 H hP hD hS => ?_)
  have hP : va_P D vwCl [(h0, .inr (3, [.null])), (q1, .inl (cA 0, arr0 0 1120))] H := hP
  have hD : va_D A [(h0, .inr (3, [.null])), (q1, .inl (cA 0, arr0 0 1120))] := hD
  refine W.widen (k := 1) (n := 1120) (Nat.le_of_ble_eq_true rfl) (Nat.le_of_ble_eq_true rfl) ?_
  refine ptF (q := (RX4, TX4, 1)) (k := 0) (v := .ref q1) (ty := .array .int) hx hb hts hown hK hP hD hS 0 rfl rfl (by decide) (by decide +kernel) rfl hin rfl (by decide +kernel) rfl rfl (Nat.le_of_ble_eq_true rfl) dX4_init_10 (fun H locs hP hD hS => ?_)
  have hP : va_P D vwCl [(h0, .inr (3, [.ref q1])), (q1, .inl (cA 0, arr0 0 1120))] H := hP
  have hD : va_D A [(h0, .inr (3, [.ref q1])), (q1, .inl (cA 0, arr0 0 1120))] := hD
  obtain ⟨ρ, r1, r2, e1⟩ := out4 0
  have hPo : va_P D vwCl (wsO (fun q => ([h0, q1] : List Nat).getD q 0) cA V4 (fun _ _ => 0)) H := hP
  have hDo : va_D A (wsO (fun q => ([h0, q1] : List Nat).getD q 0) cA V4 (fun _ _ => 0)) := hD
  refine tailV (M := (cX4_init, 4, 0)) (nL := 1) (d := 0) (ls := [vR 0]) (ρ := ρ) hx hb hml hown hts hK hN V4_k ⟨Nat.le_of_ble_eq_true rfl, Nat.le_of_ble_eq_true rfl, Nat.le_of_ble_eq_true rfl, Nat.le_of_ble_eq_true rfl⟩ hPo hDo hS ⟨rfl, hl⟩ e1 (fun pc lsA H locs hdg hP hS => ?_)
  have hP := P_ext (τ := fun q _ => if q = 1 then 32 else 0) (fun q ci fs h j => by
    by_cases e : q = 1
    · subst e; cases h
    · rw [r2 q e, if_neg e]) (fun q tk n h j hj => by
    by_cases e : q = 1
    · subst e; cases h; rw [r1 j (by omega) (by omega)]; rfl
    · rw [r2 q e, if_neg e]) hP
  exact W.vret hx hb hr (fun t ht hW => ⟨⟨(), rfl, trivial, q1, by rw [ht]; exact hP, wsO_D (AI_of hDo) (fun q _ => if q = 1 then 32 else 0)⟩, hS.F ht⟩) hS.2.2 hdg
set_option maxHeartbeats 4000000 in
set_option maxRecDepth 100000 in
theorem kX2_init (l : Launch) (D : va_G) (cA : Nat → ClassId) (h0 : Nat) (a1 : Nat) (sz : Nat) : Met l yX2_init (.code yX2_init cX2_init 2 none :: lw_g) ({ frames := 1, cells := 10, slots := 1388, locals := 31 }) (va_Pc [.ref h0, .ref a1] (fun U => U.heap.size = sz ∧ va_P D vwCl [(h0, .inr (2, [.null, .null, .null, .null, .null, .null, .int (Int32.ofInt 0), .null, .null, .null, .null, .int (Int32.ofInt 0), .null, .int (Int32.ofInt 0)]))] U.heap ∧ (va_K D vwCl (jtys cA) U ∧ NX U) ∧ va_D (fun _ => True) [(h0, .inr (2, [.null, .null, .null, .null, .null, .null, .int (Int32.ofInt 0), .null, .null, .null, .null, .int (Int32.ofInt 0), .null, .int (Int32.ofInt 0)]))])) (va_Qv (fun _ : Unit => True) (fun _ t => ∃ q1 q2 q3 q4 q5 q6 q7 q8 q9 q10 : Nat, va_P D vwCl [(h0, .inr (2, [.ref a1, .ref q1, .ref q2, .ref q3, .ref q4, .ref q5, .int (Int32.ofInt 0), .ref q6, .ref q7, .ref q8, .ref q9, .int (Int32.ofInt 0), .ref q10, .int (Int32.ofInt 0)])), (q1, .inl (cA 0, arr0 0 60)), (q2, .inl (cA 0, arr0 0 60)), (q3, .inl (cA 0, arr0 0 60)), (q4, .inl (cA 0, arr0 0 60)), (q5, .inl (cA 0, arr0 0 60)), (q6, .inl (cA 0, arr0 0 60)), (q7, .inl (cA 0, arrM)), (q8, .inl (cA 0, arr0 0 480)), (q9, .inl (cA 0, arr0 0 480)), (q10, .inl (cA 0, arr0 0 60))] t.heap ∧ va_D (va_A [(h0, .inr (2, [.null, .null, .null, .null, .null, .null, .int (Int32.ofInt 0), .null, .null, .null, .null, .int (Int32.ofInt 0), .null, .int (Int32.ofInt 0)]))] sz) [(h0, .inr (2, [.ref a1, .ref q1, .ref q2, .ref q3, .ref q4, .ref q5, .int (Int32.ofInt 0), .ref q6, .ref q7, .ref q8, .ref q9, .int (Int32.ofInt 0), .ref q10, .int (Int32.ofInt 0)])), (q1, .inl (cA 0, arr0 0 60)), (q2, .inl (cA 0, arr0 0 60)), (q3, .inl (cA 0, arr0 0 60)), (q4, .inl (cA 0, arr0 0 60)), (q5, .inl (cA 0, arr0 0 60)), (q6, .inl (cA 0, arr0 0 60)), (q7, .inl (cA 0, arrM)), (q8, .inl (cA 0, arr0 0 480)), (q9, .inl (cA 0, arr0 0 480)), (q10, .inl (cA 0, arr0 0 60))]) (va_A [(h0, .inr (2, [.null, .null, .null, .null, .null, .null, .int (Int32.ofInt 0), .null, .null, .null, .null, .int (Int32.ofInt 0), .null, .int (Int32.ofInt 0)]))] sz)) 10 1388 (va_A [(h0, .inr (2, [.null, .null, .null, .null, .null, .null, .int (Int32.ofInt 0), .null, .null, .null, .null, .int (Int32.ofInt 0), .null, .int (Int32.ofInt 0)]))] sz) := by
  refine Met.ofW (cc := cX2_init) (maxL := 2) (ret := none) (by decide) rfl ?_
  intro p e s m args below meth c s₁ B hml hv
  obtain ⟨rfl, hsz, hP, ⟨hK, hN⟩, hD0⟩ := hv
  have hx := B.exec
  have hb := B.bytes
  have hr := B.returns
  have hts : ∀ w ∈ lw_g, w.before _ s = true := fun w hw => atoms_spec (ws := .code yX2_init cX2_init 2 none :: lw_g) B.pre w (List.mem_cons_of_mem _ hw)
  have hown : s.vm.findClass RX2 = some m.cls := findClass_of_methodNamed B.named
  have hlocks := B.notSynchronized
  have hin : meth.name = "<init>" := (name_of_methodNamed B.named B.method).1
  subst hsz
  have hD := hD0.self (sz := s.heap.size)
  generalize hAe : va_A [(h0, .inr (2, [.null, .null, .null, .null, .null, .null, .int (Int32.ofInt 0), .null, .null, .null, .null, .int (Int32.ofInt 0), .null, .int (Int32.ofInt 0)]))] s.heap.size = A at hD ⊢
  have hA : ∀ q : Nat, s.heap.size ≤ q → A q := fun q h => by rw [← hAe]; exact Or.inr h
  have hS : va_S A s.heap s.heap [] := va_S.rf
  have hP : va_P D vwCl [(h0, .inr (2, [.null, .null, .null, .null, .null, .null, .int (Int32.ofInt 0), .null, .null, .null, .null, .int (Int32.ofInt 0), .null, .int (Int32.ofInt 0)]))] s.heap := hP
  have hl := lv_entry ([.ref h0, .ref a1]) (n := 2) (Nat.le_of_ble_eq_true rfl)
  rw [lg_entry_eq]
  generalize (lg_sl ([.ref h0, .ref a1]) ++ List.replicate (2 - (lg_sl ([.ref h0, .ref a1])).length) Slot.unset).toArray = ls at hl ⊢
  have hl : lv_has ls 2 [(0, .ref h0), (1, .ref a1)] := hl
  refine lv_aload_n hx hb dX2_init_0 rfl (lv_at hl 0 rfl) ?_
  refine W.objInit hx hb hown (hts _ (gd (w := .methodLink RX2 3 objectInit) (by decide +kernel) rfl)) (hts _ (gd (w := .instanceMethod objectInit) (by decide +kernel) rfl)) (hts _ (gd (w := .code objectInit ⟨#[0xb1]⟩ 1 none) (by decide +kernel) rfl)) rfl (by rw [hml]; exact hl.1) rfl dX2_init_1 (Nat.le_of_ble_eq_true rfl) (Nat.le_of_ble_eq_true rfl) ?_
  refine W.eq (g2 := F0 m 4 ls []) rfl ?_
  refine lv_aload_n hx hb dX2_init_4 rfl (lv_at hl 0 rfl) ?_
  refine lv_bipush (v := 60) hx hb dX2_init_5 (by decide) ?_
  refine nw (atype := .int) (tk := 0) (by decide) hx hb (hts _ (gd (w := .arrayClass .int) (by decide +kernel) rfl)) rfl hK hP hD hS hA (N' := 60) (by decide) (by decide) (by decide) (Nat.le_of_ble_eq_true rfl) (Nat.le_of_ble_eq_true rfl) dX2_init_7 (fun q1 H hP hD hS => ?_)
  have hP : va_P D vwCl [(h0, .inr (2, [.null, .null, .null, .null, .null, .null, .int (Int32.ofInt 0), .null, .null, .null, .null, .int (Int32.ofInt 0), .null, .int (Int32.ofInt 0)])), (q1, .inl (cA 0, arr0 0 60))] H := hP
  have hD : va_D A [(h0, .inr (2, [.null, .null, .null, .null, .null, .null, .int (Int32.ofInt 0), .null, .null, .null, .null, .int (Int32.ofInt 0), .null, .int (Int32.ofInt 0)])), (q1, .inl (cA 0, arr0 0 60))] := hD
  refine W.widen (k := 1) (n := 60) (Nat.le_of_ble_eq_true rfl) (Nat.le_of_ble_eq_true rfl) ?_
  refine ptF (q := (RX2, TX2, 14)) (k := 1) (v := .ref q1) (ty := .array .int) hx hb hts hown hK hP hD hS 0 rfl rfl (by decide) (by decide +kernel) rfl hin rfl (by decide +kernel) rfl rfl (Nat.le_of_ble_eq_true rfl) dX2_init_9 (fun H locs hP hD hS => ?_)
  have hP : va_P D vwCl [(h0, .inr (2, [.null, .ref q1, .null, .null, .null, .null, .int (Int32.ofInt 0), .null, .null, .null, .null, .int (Int32.ofInt 0), .null, .int (Int32.ofInt 0)])), (q1, .inl (cA 0, arr0 0 60))] H := hP
  have hD : va_D A [(h0, .inr (2, [.null, .ref q1, .null, .null, .null, .null, .int (Int32.ofInt 0), .null, .null, .null, .null, .int (Int32.ofInt 0), .null, .int (Int32.ofInt 0)])), (q1, .inl (cA 0, arr0 0 60))] := hD
  refine lv_aload_n hx hb dX2_init_12 rfl (lv_at hl 0 rfl) ?_
  refine lv_bipush (v := 60) hx hb dX2_init_13 (by decide) ?_
  refine nw (atype := .int) (tk := 0) (by decide) hx hb (hts _ (gd (w := .arrayClass .int) (by decide +kernel) rfl)) rfl hK hP hD hS hA (N' := 60) (by decide) (by decide) (by decide) (Nat.le_of_ble_eq_true rfl) (Nat.le_of_ble_eq_true rfl) dX2_init_15 (fun q2 H hP hD hS => ?_)
  have hP : va_P D vwCl [(h0, .inr (2, [.null, .ref q1, .null, .null, .null, .null, .int (Int32.ofInt 0), .null, .null, .null, .null, .int (Int32.ofInt 0), .null, .int (Int32.ofInt 0)])), (q1, .inl (cA 0, arr0 0 60)), (q2, .inl (cA 0, arr0 0 60))] H := hP
  have hD : va_D A [(h0, .inr (2, [.null, .ref q1, .null, .null, .null, .null, .int (Int32.ofInt 0), .null, .null, .null, .null, .int (Int32.ofInt 0), .null, .int (Int32.ofInt 0)])), (q1, .inl (cA 0, arr0 0 60)), (q2, .inl (cA 0, arr0 0 60))] := hD
  refine W.widen (k := 2) (n := 120) (Nat.le_of_ble_eq_true rfl) (Nat.le_of_ble_eq_true rfl) ?_
  refine ptF (q := (RX2, TX2, 14)) (k := 2) (v := .ref q2) (ty := .array .int) hx hb hts hown hK hP hD hS 0 rfl rfl (by decide) (by decide +kernel) rfl hin rfl (by decide +kernel) rfl rfl (Nat.le_of_ble_eq_true rfl) dX2_init_17 (fun H locs hP hD hS => ?_)
  have hP : va_P D vwCl [(h0, .inr (2, [.null, .ref q1, .ref q2, .null, .null, .null, .int (Int32.ofInt 0), .null, .null, .null, .null, .int (Int32.ofInt 0), .null, .int (Int32.ofInt 0)])), (q1, .inl (cA 0, arr0 0 60)), (q2, .inl (cA 0, arr0 0 60))] H := hP
  have hD : va_D A [(h0, .inr (2, [.null, .ref q1, .ref q2, .null, .null, .null, .int (Int32.ofInt 0), .null, .null, .null, .null, .int (Int32.ofInt 0), .null, .int (Int32.ofInt 0)])), (q1, .inl (cA 0, arr0 0 60)), (q2, .inl (cA 0, arr0 0 60))] := hD
  refine lv_aload_n hx hb dX2_init_20 rfl (lv_at hl 0 rfl) ?_
  refine lv_bipush (v := 60) hx hb dX2_init_21 (by decide) ?_
  refine nw (atype := .int) (tk := 0) (by decide) hx hb (hts _ (gd (w := .arrayClass .int) (by decide +kernel) rfl)) rfl hK hP hD hS hA (N' := 60) (by decide) (by decide) (by decide) (Nat.le_of_ble_eq_true rfl) (Nat.le_of_ble_eq_true rfl) dX2_init_23 (fun q3 H hP hD hS => ?_)
  have hP : va_P D vwCl [(h0, .inr (2, [.null, .ref q1, .ref q2, .null, .null, .null, .int (Int32.ofInt 0), .null, .null, .null, .null, .int (Int32.ofInt 0), .null, .int (Int32.ofInt 0)])), (q1, .inl (cA 0, arr0 0 60)), (q2, .inl (cA 0, arr0 0 60)), (q3, .inl (cA 0, arr0 0 60))] H := hP
  have hD : va_D A [(h0, .inr (2, [.null, .ref q1, .ref q2, .null, .null, .null, .int (Int32.ofInt 0), .null, .null, .null, .null, .int (Int32.ofInt 0), .null, .int (Int32.ofInt 0)])), (q1, .inl (cA 0, arr0 0 60)), (q2, .inl (cA 0, arr0 0 60)), (q3, .inl (cA 0, arr0 0 60))] := hD
  refine W.widen (k := 3) (n := 180) (Nat.le_of_ble_eq_true rfl) (Nat.le_of_ble_eq_true rfl) ?_
  refine ptF (q := (RX2, TX2, 14)) (k := 3) (v := .ref q3) (ty := .array .int) hx hb hts hown hK hP hD hS 0 rfl rfl (by decide) (by decide +kernel) rfl hin rfl (by decide +kernel) rfl rfl (Nat.le_of_ble_eq_true rfl) dX2_init_25 (fun H locs hP hD hS => ?_)
  have hP : va_P D vwCl [(h0, .inr (2, [.null, .ref q1, .ref q2, .ref q3, .null, .null, .int (Int32.ofInt 0), .null, .null, .null, .null, .int (Int32.ofInt 0), .null, .int (Int32.ofInt 0)])), (q1, .inl (cA 0, arr0 0 60)), (q2, .inl (cA 0, arr0 0 60)), (q3, .inl (cA 0, arr0 0 60))] H := hP
  have hD : va_D A [(h0, .inr (2, [.null, .ref q1, .ref q2, .ref q3, .null, .null, .int (Int32.ofInt 0), .null, .null, .null, .null, .int (Int32.ofInt 0), .null, .int (Int32.ofInt 0)])), (q1, .inl (cA 0, arr0 0 60)), (q2, .inl (cA 0, arr0 0 60)), (q3, .inl (cA 0, arr0 0 60))] := hD
  refine lv_aload_n hx hb dX2_init_28 rfl (lv_at hl 0 rfl) ?_
  refine lv_bipush (v := 60) hx hb dX2_init_29 (by decide) ?_
  refine nw (atype := .int) (tk := 0) (by decide) hx hb (hts _ (gd (w := .arrayClass .int) (by decide +kernel) rfl)) rfl hK hP hD hS hA (N' := 60) (by decide) (by decide) (by decide) (Nat.le_of_ble_eq_true rfl) (Nat.le_of_ble_eq_true rfl) dX2_init_31 (fun q4 H hP hD hS => ?_)
  have hP : va_P D vwCl [(h0, .inr (2, [.null, .ref q1, .ref q2, .ref q3, .null, .null, .int (Int32.ofInt 0), .null, .null, .null, .null, .int (Int32.ofInt 0), .null, .int (Int32.ofInt 0)])), (q1, .inl (cA 0, arr0 0 60)), (q2, .inl (cA 0, arr0 0 60)), (q3, .inl (cA 0, arr0 0 60)), (q4, .inl (cA 0, arr0 0 60))] H := hP
  have hD : va_D A [(h0, .inr (2, [.null, .ref q1, .ref q2, .ref q3, .null, .null, .int (Int32.ofInt 0), .null, .null, .null, .null, .int (Int32.ofInt 0), .null, .int (Int32.ofInt 0)])), (q1, .inl (cA 0, arr0 0 60)), (q2, .inl (cA 0, arr0 0 60)), (q3, .inl (cA 0, arr0 0 60)), (q4, .inl (cA 0, arr0 0 60))] := hD
  refine W.widen (k := 4) (n := 240) (Nat.le_of_ble_eq_true rfl) (Nat.le_of_ble_eq_true rfl) ?_
  refine ptF (q := (RX2, TX2, 14)) (k := 4) (v := .ref q4) (ty := .array .int) hx hb hts hown hK hP hD hS 0 rfl rfl (by decide) (by decide +kernel) rfl hin rfl (by decide +kernel) rfl rfl (Nat.le_of_ble_eq_true rfl) dX2_init_33 (fun H locs hP hD hS => ?_)
  have hP : va_P D vwCl [(h0, .inr (2, [.null, .ref q1, .ref q2, .ref q3, .ref q4, .null, .int (Int32.ofInt 0), .null, .null, .null, .null, .int (Int32.ofInt 0), .null, .int (Int32.ofInt 0)])), (q1, .inl (cA 0, arr0 0 60)), (q2, .inl (cA 0, arr0 0 60)), (q3, .inl (cA 0, arr0 0 60)), (q4, .inl (cA 0, arr0 0 60))] H := hP
  have hD : va_D A [(h0, .inr (2, [.null, .ref q1, .ref q2, .ref q3, .ref q4, .null, .int (Int32.ofInt 0), .null, .null, .null, .null, .int (Int32.ofInt 0), .null, .int (Int32.ofInt 0)])), (q1, .inl (cA 0, arr0 0 60)), (q2, .inl (cA 0, arr0 0 60)), (q3, .inl (cA 0, arr0 0 60)), (q4, .inl (cA 0, arr0 0 60))] := hD
  refine lv_aload_n hx hb dX2_init_36 rfl (lv_at hl 0 rfl) ?_
  refine lv_bipush (v := 60) hx hb dX2_init_37 (by decide) ?_
  refine nw (atype := .int) (tk := 0) (by decide) hx hb (hts _ (gd (w := .arrayClass .int) (by decide +kernel) rfl)) rfl hK hP hD hS hA (N' := 60) (by decide) (by decide) (by decide) (Nat.le_of_ble_eq_true rfl) (Nat.le_of_ble_eq_true rfl) dX2_init_39 (fun q5 H hP hD hS => ?_)
  have hP : va_P D vwCl [(h0, .inr (2, [.null, .ref q1, .ref q2, .ref q3, .ref q4, .null, .int (Int32.ofInt 0), .null, .null, .null, .null, .int (Int32.ofInt 0), .null, .int (Int32.ofInt 0)])), (q1, .inl (cA 0, arr0 0 60)), (q2, .inl (cA 0, arr0 0 60)), (q3, .inl (cA 0, arr0 0 60)), (q4, .inl (cA 0, arr0 0 60)), (q5, .inl (cA 0, arr0 0 60))] H := hP
  have hD : va_D A [(h0, .inr (2, [.null, .ref q1, .ref q2, .ref q3, .ref q4, .null, .int (Int32.ofInt 0), .null, .null, .null, .null, .int (Int32.ofInt 0), .null, .int (Int32.ofInt 0)])), (q1, .inl (cA 0, arr0 0 60)), (q2, .inl (cA 0, arr0 0 60)), (q3, .inl (cA 0, arr0 0 60)), (q4, .inl (cA 0, arr0 0 60)), (q5, .inl (cA 0, arr0 0 60))] := hD
  refine W.widen (k := 5) (n := 300) (Nat.le_of_ble_eq_true rfl) (Nat.le_of_ble_eq_true rfl) ?_
  refine ptF (q := (RX2, TX2, 14)) (k := 5) (v := .ref q5) (ty := .array .int) hx hb hts hown hK hP hD hS 0 rfl rfl (by decide) (by decide +kernel) rfl hin rfl (by decide +kernel) rfl rfl (Nat.le_of_ble_eq_true rfl) dX2_init_41 (fun H locs hP hD hS => ?_)
  have hP : va_P D vwCl [(h0, .inr (2, [.null, .ref q1, .ref q2, .ref q3, .ref q4, .ref q5, .int (Int32.ofInt 0), .null, .null, .null, .null, .int (Int32.ofInt 0), .null, .int (Int32.ofInt 0)])), (q1, .inl (cA 0, arr0 0 60)), (q2, .inl (cA 0, arr0 0 60)), (q3, .inl (cA 0, arr0 0 60)), (q4, .inl (cA 0, arr0 0 60)), (q5, .inl (cA 0, arr0 0 60))] H := hP
  have hD : va_D A [(h0, .inr (2, [.null, .ref q1, .ref q2, .ref q3, .ref q4, .ref q5, .int (Int32.ofInt 0), .null, .null, .null, .null, .int (Int32.ofInt 0), .null, .int (Int32.ofInt 0)])), (q1, .inl (cA 0, arr0 0 60)), (q2, .inl (cA 0, arr0 0 60)), (q3, .inl (cA 0, arr0 0 60)), (q4, .inl (cA 0, arr0 0 60)), (q5, .inl (cA 0, arr0 0 60))] := hD
  refine lv_aload_n hx hb dX2_init_44 rfl (lv_at hl 0 rfl) ?_
  refine lv_bipush (v := 60) hx hb dX2_init_45 (by decide) ?_
  refine nw (atype := .int) (tk := 0) (by decide) hx hb (hts _ (gd (w := .arrayClass .int) (by decide +kernel) rfl)) rfl hK hP hD hS hA (N' := 60) (by decide) (by decide) (by decide) (Nat.le_of_ble_eq_true rfl) (Nat.le_of_ble_eq_true rfl) dX2_init_47 (fun q6 H hP hD hS => ?_)
  have hP : va_P D vwCl [(h0, .inr (2, [.null, .ref q1, .ref q2, .ref q3, .ref q4, .ref q5, .int (Int32.ofInt 0), .null, .null, .null, .null, .int (Int32.ofInt 0), .null, .int (Int32.ofInt 0)])), (q1, .inl (cA 0, arr0 0 60)), (q2, .inl (cA 0, arr0 0 60)), (q3, .inl (cA 0, arr0 0 60)), (q4, .inl (cA 0, arr0 0 60)), (q5, .inl (cA 0, arr0 0 60)), (q6, .inl (cA 0, arr0 0 60))] H := hP
  have hD : va_D A [(h0, .inr (2, [.null, .ref q1, .ref q2, .ref q3, .ref q4, .ref q5, .int (Int32.ofInt 0), .null, .null, .null, .null, .int (Int32.ofInt 0), .null, .int (Int32.ofInt 0)])), (q1, .inl (cA 0, arr0 0 60)), (q2, .inl (cA 0, arr0 0 60)), (q3, .inl (cA 0, arr0 0 60)), (q4, .inl (cA 0, arr0 0 60)), (q5, .inl (cA 0, arr0 0 60)), (q6, .inl (cA 0, arr0 0 60))] := hD
  refine W.widen (k := 6) (n := 360) (Nat.le_of_ble_eq_true rfl) (Nat.le_of_ble_eq_true rfl) ?_
  refine ptF (q := (RX2, TX2, 14)) (k := 7) (v := .ref q6) (ty := .array .int) hx hb hts hown hK hP hD hS 0 rfl rfl (by decide) (by decide +kernel) rfl hin rfl (by decide +kernel) rfl rfl (Nat.le_of_ble_eq_true rfl) dX2_init_49 (fun H locs hP hD hS => ?_)
  have hP : va_P D vwCl [(h0, .inr (2, [.null, .ref q1, .ref q2, .ref q3, .ref q4, .ref q5, .int (Int32.ofInt 0), .ref q6, .null, .null, .null, .int (Int32.ofInt 0), .null, .int (Int32.ofInt 0)])), (q1, .inl (cA 0, arr0 0 60)), (q2, .inl (cA 0, arr0 0 60)), (q3, .inl (cA 0, arr0 0 60)), (q4, .inl (cA 0, arr0 0 60)), (q5, .inl (cA 0, arr0 0 60)), (q6, .inl (cA 0, arr0 0 60))] H := hP
  have hD : va_D A [(h0, .inr (2, [.null, .ref q1, .ref q2, .ref q3, .ref q4, .ref q5, .int (Int32.ofInt 0), .ref q6, .null, .null, .null, .int (Int32.ofInt 0), .null, .int (Int32.ofInt 0)])), (q1, .inl (cA 0, arr0 0 60)), (q2, .inl (cA 0, arr0 0 60)), (q3, .inl (cA 0, arr0 0 60)), (q4, .inl (cA 0, arr0 0 60)), (q5, .inl (cA 0, arr0 0 60)), (q6, .inl (cA 0, arr0 0 60))] := hD
  refine lv_aload_n hx hb dX2_init_52 rfl (lv_at hl 0 rfl) ?_
  refine lv_bipush (v := 8) hx hb dX2_init_53 (by decide) ?_
  refine nw (atype := .int) (tk := 0) (by decide) hx hb (hts _ (gd (w := .arrayClass .int) (by decide +kernel) rfl)) rfl hK hP hD hS hA (N' := 8) (by decide) (by decide) (by decide) (Nat.le_of_ble_eq_true rfl) (Nat.le_of_ble_eq_true rfl) dX2_init_55 (fun q7 H hP hD hS => ?_)
  have hP : va_P D vwCl [(h0, .inr (2, [.null, .ref q1, .ref q2, .ref q3, .ref q4, .ref q5, .int (Int32.ofInt 0), .ref q6, .null, .null, .null, .int (Int32.ofInt 0), .null, .int (Int32.ofInt 0)])), (q1, .inl (cA 0, arr0 0 60)), (q2, .inl (cA 0, arr0 0 60)), (q3, .inl (cA 0, arr0 0 60)), (q4, .inl (cA 0, arr0 0 60)), (q5, .inl (cA 0, arr0 0 60)), (q6, .inl (cA 0, arr0 0 60)), (q7, .inl (cA 0, arr0 0 8))] H := hP
  have hD : va_D A [(h0, .inr (2, [.null, .ref q1, .ref q2, .ref q3, .ref q4, .ref q5, .int (Int32.ofInt 0), .ref q6, .null, .null, .null, .int (Int32.ofInt 0), .null, .int (Int32.ofInt 0)])), (q1, .inl (cA 0, arr0 0 60)), (q2, .inl (cA 0, arr0 0 60)), (q3, .inl (cA 0, arr0 0 60)), (q4, .inl (cA 0, arr0 0 60)), (q5, .inl (cA 0, arr0 0 60)), (q6, .inl (cA 0, arr0 0 60)), (q7, .inl (cA 0, arr0 0 8))] := hD
  refine W.widen (k := 7) (n := 368) (Nat.le_of_ble_eq_true rfl) (Nat.le_of_ble_eq_true rfl) ?_
  refine ptF (q := (RX2, TX2, 14)) (k := 8) (v := .ref q7) (ty := .array .int) hx hb hts hown hK hP hD hS 0 rfl rfl (by decide) (by decide +kernel) rfl hin rfl (by decide +kernel) rfl rfl (Nat.le_of_ble_eq_true rfl) dX2_init_57 (fun H locs hP hD hS => ?_)
  have hP : va_P D vwCl [(h0, .inr (2, [.null, .ref q1, .ref q2, .ref q3, .ref q4, .ref q5, .int (Int32.ofInt 0), .ref q6, .ref q7, .null, .null, .int (Int32.ofInt 0), .null, .int (Int32.ofInt 0)])), (q1, .inl (cA 0, arr0 0 60)), (q2, .inl (cA 0, arr0 0 60)), (q3, .inl (cA 0, arr0 0 60)), (q4, .inl (cA 0, arr0 0 60)), (q5, .inl (cA 0, arr0 0 60)), (q6, .inl (cA 0, arr0 0 60)), (q7, .inl (cA 0, arr0 0 8))] H := hP
  have hD : va_D A [(h0, .inr (2, [.null, .ref q1, .ref q2, .ref q3, .ref q4, .ref q5, .int (Int32.ofInt 0), .ref q6, .ref q7, .null, .null, .int (Int32.ofInt 0), .null, .int (Int32.ofInt 0)])), (q1, .inl (cA 0, arr0 0 60)), (q2, .inl (cA 0, arr0 0 60)), (q3, .inl (cA 0, arr0 0 60)), (q4, .inl (cA 0, arr0 0 60)), (q5, .inl (cA 0, arr0 0 60)), (q6, .inl (cA 0, arr0 0 60)), (q7, .inl (cA 0, arr0 0 8))] := hD
  refine lv_aload_n hx hb dX2_init_60 rfl (lv_at hl 0 rfl) ?_
  refine lv_sipush (v := 480) hx hb dX2_init_61 (by decide) ?_
  refine nw (atype := .int) (tk := 0) (by decide) hx hb (hts _ (gd (w := .arrayClass .int) (by decide +kernel) rfl)) rfl hK hP hD hS hA (N' := 480) (by decide) (by decide) (by decide) (Nat.le_of_ble_eq_true rfl) (Nat.le_of_ble_eq_true rfl) dX2_init_64 (fun q8 H hP hD hS => ?_)
  have hP : va_P D vwCl [(h0, .inr (2, [.null, .ref q1, .ref q2, .ref q3, .ref q4, .ref q5, .int (Int32.ofInt 0), .ref q6, .ref q7, .null, .null, .int (Int32.ofInt 0), .null, .int (Int32.ofInt 0)])), (q1, .inl (cA 0, arr0 0 60)), (q2, .inl (cA 0, arr0 0 60)), (q3, .inl (cA 0, arr0 0 60)), (q4, .inl (cA 0, arr0 0 60)), (q5, .inl (cA 0, arr0 0 60)), (q6, .inl (cA 0, arr0 0 60)), (q7, .inl (cA 0, arr0 0 8)), (q8, .inl (cA 0, arr0 0 480))] H := hP
  have hD : va_D A [(h0, .inr (2, [.null, .ref q1, .ref q2, .ref q3, .ref q4, .ref q5, .int (Int32.ofInt 0), .ref q6, .ref q7, .null, .null, .int (Int32.ofInt 0), .null, .int (Int32.ofInt 0)])), (q1, .inl (cA 0, arr0 0 60)), (q2, .inl (cA 0, arr0 0 60)), (q3, .inl (cA 0, arr0 0 60)), (q4, .inl (cA 0, arr0 0 60)), (q5, .inl (cA 0, arr0 0 60)), (q6, .inl (cA 0, arr0 0 60)), (q7, .inl (cA 0, arr0 0 8)), (q8, .inl (cA 0, arr0 0 480))] := hD
  refine W.widen (k := 8) (n := 848) (Nat.le_of_ble_eq_true rfl) (Nat.le_of_ble_eq_true rfl) ?_
  refine ptF (q := (RX2, TX2, 14)) (k := 9) (v := .ref q8) (ty := .array .int) hx hb hts hown hK hP hD hS 0 rfl rfl (by decide) (by decide +kernel) rfl hin rfl (by decide +kernel) rfl rfl (Nat.le_of_ble_eq_true rfl) dX2_init_66 (fun H locs hP hD hS => ?_)
  have hP : va_P D vwCl [(h0, .inr (2, [.null, .ref q1, .ref q2, .ref q3, .ref q4, .ref q5, .int (Int32.ofInt 0), .ref q6, .ref q7, .ref q8, .null, .int (Int32.ofInt 0), .null, .int (Int32.ofInt 0)])), (q1, .inl (cA 0, arr0 0 60)), (q2, .inl (cA 0, arr0 0 60)), (q3, .inl (cA 0, arr0 0 60)), (q4, .inl (cA 0, arr0 0 60)), (q5, .inl (cA 0, arr0 0 60)), (q6, .inl (cA 0, arr0 0 60)), (q7, .inl (cA 0, arr0 0 8)), (q8, .inl (cA 0, arr0 0 480))] H := hP
  have hD : va_D A [(h0, .inr (2, [.null, .ref q1, .ref q2, .ref q3, .ref q4, .ref q5, .int (Int32.ofInt 0), .ref q6, .ref q7, .ref q8, .null, .int (Int32.ofInt 0), .null, .int (Int32.ofInt 0)])), (q1, .inl (cA 0, arr0 0 60)), (q2, .inl (cA 0, arr0 0 60)), (q3, .inl (cA 0, arr0 0 60)), (q4, .inl (cA 0, arr0 0 60)), (q5, .inl (cA 0, arr0 0 60)), (q6, .inl (cA 0, arr0 0 60)), (q7, .inl (cA 0, arr0 0 8)), (q8, .inl (cA 0, arr0 0 480))] := hD
  refine lv_aload_n hx hb dX2_init_69 rfl (lv_at hl 0 rfl) ?_
  refine lv_sipush (v := 480) hx hb dX2_init_70 (by decide) ?_
  refine nw (atype := .int) (tk := 0) (by decide) hx hb (hts _ (gd (w := .arrayClass .int) (by decide +kernel) rfl)) rfl hK hP hD hS hA (N' := 480) (by decide) (by decide) (by decide) (Nat.le_of_ble_eq_true rfl) (Nat.le_of_ble_eq_true rfl) dX2_init_73 (fun q9 H hP hD hS => ?_)
  have hP : va_P D vwCl [(h0, .inr (2, [.null, .ref q1, .ref q2, .ref q3, .ref q4, .ref q5, .int (Int32.ofInt 0), .ref q6, .ref q7, .ref q8, .null, .int (Int32.ofInt 0), .null, .int (Int32.ofInt 0)])), (q1, .inl (cA 0, arr0 0 60)), (q2, .inl (cA 0, arr0 0 60)), (q3, .inl (cA 0, arr0 0 60)), (q4, .inl (cA 0, arr0 0 60)), (q5, .inl (cA 0, arr0 0 60)), (q6, .inl (cA 0, arr0 0 60)), (q7, .inl (cA 0, arr0 0 8)), (q8, .inl (cA 0, arr0 0 480)), (q9, .inl (cA 0, arr0 0 480))] H := hP
  have hD : va_D A [(h0, .inr (2, [.null, .ref q1, .ref q2, .ref q3, .ref q4, .ref q5, .int (Int32.ofInt 0), .ref q6, .ref q7, .ref q8, .null, .int (Int32.ofInt 0), .null, .int (Int32.ofInt 0)])), (q1, .inl (cA 0, arr0 0 60)), (q2, .inl (cA 0, arr0 0 60)), (q3, .inl (cA 0, arr0 0 60)), (q4, .inl (cA 0, arr0 0 60)), (q5, .inl (cA 0, arr0 0 60)), (q6, .inl (cA 0, arr0 0 60)), (q7, .inl (cA 0, arr0 0 8)), (q8, .inl (cA 0, arr0 0 480)), (q9, .inl (cA 0, arr0 0 480))] := hD
  refine W.widen (k := 9) (n := 1328) (Nat.le_of_ble_eq_true rfl) (Nat.le_of_ble_eq_true rfl) ?_
  refine ptF (q := (RX2, TX2, 14)) (k := 10) (v := .ref q9) (ty := .array .int) hx hb hts hown hK hP hD hS 0 rfl rfl (by decide) (by decide +kernel) rfl hin rfl (by decide +kernel) rfl rfl (Nat.le_of_ble_eq_true rfl) dX2_init_75 (fun H locs hP hD hS => ?_)
  have hP : va_P D vwCl [(h0, .inr (2, [.null, .ref q1, .ref q2, .ref q3, .ref q4, .ref q5, .int (Int32.ofInt 0), .ref q6, .ref q7, .ref q8, .ref q9, .int (Int32.ofInt 0), .null, .int (Int32.ofInt 0)])), (q1, .inl (cA 0, arr0 0 60)), (q2, .inl (cA 0, arr0 0 60)), (q3, .inl (cA 0, arr0 0 60)), (q4, .inl (cA 0, arr0 0 60)), (q5, .inl (cA 0, arr0 0 60)), (q6, .inl (cA 0, arr0 0 60)), (q7, .inl (cA 0, arr0 0 8)), (q8, .inl (cA 0, arr0 0 480)), (q9, .inl (cA 0, arr0 0 480))] H := hP
  have hD : va_D A [(h0, .inr (2, [.null, .ref q1, .ref q2, .ref q3, .ref q4, .ref q5, .int (Int32.ofInt 0), .ref q6, .ref q7, .ref q8, .ref q9, .int (Int32.ofInt 0), .null, .int (Int32.ofInt 0)])), (q1, .inl (cA 0, arr0 0 60)), (q2, .inl (cA 0, arr0 0 60)), (q3, .inl (cA 0, arr0 0 60)), (q4, .inl (cA 0, arr0 0 60)), (q5, .inl (cA 0, arr0 0 60)), (q6, .inl (cA 0, arr0 0 60)), (q7, .inl (cA 0, arr0 0 8)), (q8, .inl (cA 0, arr0 0 480)), (q9, .inl (cA 0, arr0 0 480))] := hD
  refine lv_aload_n hx hb dX2_init_78 rfl (lv_at hl 0 rfl) ?_
  refine lv_bipush (v := 60) hx hb dX2_init_79 (by decide) ?_
  refine nw (atype := .int) (tk := 0) (by decide) hx hb (hts _ (gd (w := .arrayClass .int) (by decide +kernel) rfl)) rfl hK hP hD hS hA (N' := 60) (by decide) (by decide) (by decide) (Nat.le_of_ble_eq_true rfl) (Nat.le_of_ble_eq_true rfl) dX2_init_81 (fun q10 H hP hD hS => ?_)
  have hP : va_P D vwCl [(h0, .inr (2, [.null, .ref q1, .ref q2, .ref q3, .ref q4, .ref q5, .int (Int32.ofInt 0), .ref q6, .ref q7, .ref q8, .ref q9, .int (Int32.ofInt 0), .null, .int (Int32.ofInt 0)])), (q1, .inl (cA 0, arr0 0 60)), (q2, .inl (cA 0, arr0 0 60)), (q3, .inl (cA 0, arr0 0 60)), (q4, .inl (cA 0, arr0 0 60)), (q5, .inl (cA 0, arr0 0 60)), (q6, .inl (cA 0, arr0 0 60)), (q7, .inl (cA 0, arr0 0 8)), (q8, .inl (cA 0, arr0 0 480)), (q9, .inl (cA 0, arr0 0 480)), (q10, .inl (cA 0, arr0 0 60))] H := hP
  have hD : va_D A [(h0, .inr (2, [.null, .ref q1, .ref q2, .ref q3, .ref q4, .ref q5, .int (Int32.ofInt 0), .ref q6, .ref q7, .ref q8, .ref q9, .int (Int32.ofInt 0), .null, .int (Int32.ofInt 0)])), (q1, .inl (cA 0, arr0 0 60)), (q2, .inl (cA 0, arr0 0 60)), (q3, .inl (cA 0, arr0 0 60)), (q4, .inl (cA 0, arr0 0 60)), (q5, .inl (cA 0, arr0 0 60)), (q6, .inl (cA 0, arr0 0 60)), (q7, .inl (cA 0, arr0 0 8)), (q8, .inl (cA 0, arr0 0 480)), (q9, .inl (cA 0, arr0 0 480)), (q10, .inl (cA 0, arr0 0 60))] := hD
  refine W.widen (k := 10) (n := 1388) (Nat.le_of_ble_eq_true rfl) (Nat.le_of_ble_eq_true rfl) ?_
  refine ptF (q := (RX2, TX2, 14)) (k := 12) (v := .ref q10) (ty := .array .int) hx hb hts hown hK hP hD hS 0 rfl rfl (by decide) (by decide +kernel) rfl hin rfl (by decide +kernel) rfl rfl (Nat.le_of_ble_eq_true rfl) dX2_init_83 (fun H locs hP hD hS => ?_)
  have hP : va_P D vwCl [(h0, .inr (2, [.null, .ref q1, .ref q2, .ref q3, .ref q4, .ref q5, .int (Int32.ofInt 0), .ref q6, .ref q7, .ref q8, .ref q9, .int (Int32.ofInt 0), .ref q10, .int (Int32.ofInt 0)])), (q1, .inl (cA 0, arr0 0 60)), (q2, .inl (cA 0, arr0 0 60)), (q3, .inl (cA 0, arr0 0 60)), (q4, .inl (cA 0, arr0 0 60)), (q5, .inl (cA 0, arr0 0 60)), (q6, .inl (cA 0, arr0 0 60)), (q7, .inl (cA 0, arr0 0 8)), (q8, .inl (cA 0, arr0 0 480)), (q9, .inl (cA 0, arr0 0 480)), (q10, .inl (cA 0, arr0 0 60))] H := hP
  have hD : va_D A [(h0, .inr (2, [.null, .ref q1, .ref q2, .ref q3, .ref q4, .ref q5, .int (Int32.ofInt 0), .ref q6, .ref q7, .ref q8, .ref q9, .int (Int32.ofInt 0), .ref q10, .int (Int32.ofInt 0)])), (q1, .inl (cA 0, arr0 0 60)), (q2, .inl (cA 0, arr0 0 60)), (q3, .inl (cA 0, arr0 0 60)), (q4, .inl (cA 0, arr0 0 60)), (q5, .inl (cA 0, arr0 0 60)), (q6, .inl (cA 0, arr0 0 60)), (q7, .inl (cA 0, arr0 0 8)), (q8, .inl (cA 0, arr0 0 480)), (q9, .inl (cA 0, arr0 0 480)), (q10, .inl (cA 0, arr0 0 60))] := hD
  refine lv_aload_n hx hb dX2_init_86 rfl (lv_at hl 0 rfl) ?_
  refine lv_aload_n hx hb dX2_init_87 rfl (lv_at hl 1 rfl) ?_
  refine ptF (q := (RX2, TX2, 14)) (k := 0) (v := .ref a1) (ty := .object "AlmanacHouse$Calendars") hx hb hts hown hK hP hD hS 0 rfl rfl (by decide) (by decide +kernel) rfl hin rfl (by decide +kernel) rfl rfl (Nat.le_of_ble_eq_true rfl) dX2_init_88 (fun H locs hP hD hS => ?_)
  have hP : va_P D vwCl [(h0, .inr (2, [.ref a1, .ref q1, .ref q2, .ref q3, .ref q4, .ref q5, .int (Int32.ofInt 0), .ref q6, .ref q7, .ref q8, .ref q9, .int (Int32.ofInt 0), .ref q10, .int (Int32.ofInt 0)])), (q1, .inl (cA 0, arr0 0 60)), (q2, .inl (cA 0, arr0 0 60)), (q3, .inl (cA 0, arr0 0 60)), (q4, .inl (cA 0, arr0 0 60)), (q5, .inl (cA 0, arr0 0 60)), (q6, .inl (cA 0, arr0 0 60)), (q7, .inl (cA 0, arr0 0 8)), (q8, .inl (cA 0, arr0 0 480)), (q9, .inl (cA 0, arr0 0 480)), (q10, .inl (cA 0, arr0 0 60))] H := hP
  have hD : va_D A [(h0, .inr (2, [.ref a1, .ref q1, .ref q2, .ref q3, .ref q4, .ref q5, .int (Int32.ofInt 0), .ref q6, .ref q7, .ref q8, .ref q9, .int (Int32.ofInt 0), .ref q10, .int (Int32.ofInt 0)])), (q1, .inl (cA 0, arr0 0 60)), (q2, .inl (cA 0, arr0 0 60)), (q3, .inl (cA 0, arr0 0 60)), (q4, .inl (cA 0, arr0 0 60)), (q5, .inl (cA 0, arr0 0 60)), (q6, .inl (cA 0, arr0 0 60)), (q7, .inl (cA 0, arr0 0 8)), (q8, .inl (cA 0, arr0 0 480)), (q9, .inl (cA 0, arr0 0 480)), (q10, .inl (cA 0, arr0 0 60))] := hD
  obtain ⟨ρ, r1, r2, e1⟩ := out2 0
  have hPo : va_P D vwCl (wsO (fun q => ([h0, q1, q2, q3, q4, q5, q6, q7, q8, q9, q10, a1] : List Nat).getD q 0) cA V2 (fun _ _ => 0)) H := hP
  have hDo : va_D A (wsO (fun q => ([h0, q1, q2, q3, q4, q5, q6, q7, q8, q9, q10, a1] : List Nat).getD q 0) cA V2 (fun _ _ => 0)) := hD
  refine tailV (M := (cX2_init, 2, 0)) (nL := 2) (d := 0) (ls := [vR 0, vR 11]) (ρ := ρ) hx hb hml hown hts hK hN V2_k ⟨Nat.le_of_ble_eq_true rfl, Nat.le_of_ble_eq_true rfl, Nat.le_of_ble_eq_true rfl, Nat.le_of_ble_eq_true rfl⟩ hPo hDo hS ⟨rfl, hl⟩ e1 (fun pc lsA H locs hdg hP hS => ?_)
  have hP := P_ext (τ := fun q _ => if q = 7 then -1 else 0) (fun q ci fs h j => by
    by_cases e : q = 7
    · subst e; cases h
    · rw [r2 q e, if_neg e]) (fun q tk n h j hj => by
    by_cases e : q = 7
    · subst e; cases h; rw [r1 j (by omega) (by omega)]; rfl
    · rw [r2 q e, if_neg e]) hP
  exact W.vret hx hb hr (fun t ht hW => ⟨⟨(), rfl, trivial, q1, q2, q3, q4, q5, q6, q7, q8, q9, q10, by rw [ht]; exact hP, wsO_D (AI_of hDo) (fun q _ => if q = 7 then -1 else 0)⟩, hS.F ht⟩) hS.2.2 hdg
set_option maxHeartbeats 4000000 in
set_option maxRecDepth 100000 in
theorem kX0_init (l : Launch) (D : va_G) (cA : Nat → ClassId) (h0 : Nat) (sz : Nat) : Met l yX0_init (.code yX0_init cX0_init 2 none :: lw_g) ({ frames := 2, cells := 2, slots := 5503, locals := 62 }) (va_Pc [.ref h0] (fun U => U.heap.size = sz ∧ va_P D vwCl [(h0, .inr (0, [.null, .null, .int (Int32.ofInt 0)]))] U.heap ∧ (va_K D vwCl (jtys cA) U ∧ NX U) ∧ va_D (fun _ => True) [(h0, .inr (0, [.null, .null, .int (Int32.ofInt 0)]))])) (va_Qv (fun _ : Unit => True) (fun _ t => ∃ q1 q2 : Nat, va_P D vwCl [(h0, .inr (0, [.ref q1, .ref q2, .int (Int32.ofInt 0)])), (q1, .inl (cA 0, arrC)), (q2, .inl (cA 0, arr0 0 501))] t.heap ∧ va_D (va_A [(h0, .inr (0, [.null, .null, .int (Int32.ofInt 0)]))] sz) [(h0, .inr (0, [.ref q1, .ref q2, .int (Int32.ofInt 0)])), (q1, .inl (cA 0, arrC)), (q2, .inl (cA 0, arr0 0 501))]) (va_A [(h0, .inr (0, [.null, .null, .int (Int32.ofInt 0)]))] sz)) 2 5503 (va_A [(h0, .inr (0, [.null, .null, .int (Int32.ofInt 0)]))] sz) := by
  refine Met.ofW (cc := cX0_init) (maxL := 2) (ret := none) (by decide) rfl ?_
  intro p e s m args below meth c s₁ B hml hv
  obtain ⟨rfl, hsz, hP, ⟨hK, hN⟩, hD0⟩ := hv
  have hx := B.exec
  have hb := B.bytes
  have hr := B.returns
  have hts : ∀ w ∈ lw_g, w.before _ s = true := fun w hw => atoms_spec (ws := .code yX0_init cX0_init 2 none :: lw_g) B.pre w (List.mem_cons_of_mem _ hw)
  have hown : s.vm.findClass RX0 = some m.cls := findClass_of_methodNamed B.named
  have hlocks := B.notSynchronized
  have hin : meth.name = "<init>" := (name_of_methodNamed B.named B.method).1
  subst hsz
  have hD := hD0.self (sz := s.heap.size)
  generalize hAe : va_A [(h0, .inr (0, [.null, .null, .int (Int32.ofInt 0)]))] s.heap.size = A at hD ⊢
  have hA : ∀ q : Nat, s.heap.size ≤ q → A q := fun q h => by rw [← hAe]; exact Or.inr h
  have hS : va_S A s.heap s.heap [] := va_S.rf
  have hP : va_P D vwCl [(h0, .inr (0, [.null, .null, .int (Int32.ofInt 0)]))] s.heap := hP
  have hl := lv_entry ([.ref h0]) (n := 2) (Nat.le_of_ble_eq_true rfl)
  rw [lg_entry_eq]
  generalize (lg_sl ([.ref h0]) ++ List.replicate (2 - (lg_sl ([.ref h0])).length) Slot.unset).toArray = ls at hl ⊢
  have hl : lv_has ls 2 [(0, .ref h0)] := hl
  refine lv_aload_n hx hb dX0_init_0 rfl (lv_at hl 0 rfl) ?_
  refine W.objInit hx hb hown (hts _ (gd (w := .methodLink RX0 3 objectInit) (by decide +kernel) rfl)) (hts _ (gd (w := .instanceMethod objectInit) (by decide +kernel) rfl)) (hts _ (gd (w := .code objectInit ⟨#[0xb1]⟩ 1 none) (by decide +kernel) rfl)) rfl (by rw [hml]; exact hl.1) rfl dX0_init_1 (Nat.le_of_ble_eq_true rfl) (Nat.le_of_ble_eq_true rfl) ?_
  refine W.eq (g2 := F0 m 4 ls []) rfl ?_
  refine lv_aload_n hx hb dX0_init_4 rfl (lv_at hl 0 rfl) ?_
  refine lv_sipush (v := 5002) hx hb dX0_init_5 (by decide) ?_
  refine nw (atype := .int) (tk := 0) (by decide) hx hb (hts _ (gd (w := .arrayClass .int) (by decide +kernel) rfl)) rfl hK hP hD hS hA (N' := 5002) (by decide) (by decide) (by decide) (Nat.le_of_ble_eq_true rfl) (Nat.le_of_ble_eq_true rfl) dX0_init_8 (fun q1 H hP hD hS => ?_)
  have hP : va_P D vwCl [(h0, .inr (0, [.null, .null, .int (Int32.ofInt 0)])), (q1, .inl (cA 0, arr0 0 5002))] H := hP
  have hD : va_D A [(h0, .inr (0, [.null, .null, .int (Int32.ofInt 0)])), (q1, .inl (cA 0, arr0 0 5002))] := hD
  refine W.widen (k := 1) (n := 5002) (Nat.le_of_ble_eq_true rfl) (Nat.le_of_ble_eq_true rfl) ?_
  refine ptF (q := (RX0, TX0, 3)) (k := 0) (v := .ref q1) (ty := .array .int) hx hb hts hown hK hP hD hS 0 rfl rfl (by decide) (by decide +kernel) rfl hin rfl (by decide +kernel) rfl rfl (Nat.le_of_ble_eq_true rfl) dX0_init_10 (fun H locs hP hD hS => ?_)
  have hP : va_P D vwCl [(h0, .inr (0, [.ref q1, .null, .int (Int32.ofInt 0)])), (q1, .inl (cA 0, arr0 0 5002))] H := hP
  have hD : va_D A [(h0, .inr (0, [.ref q1, .null, .int (Int32.ofInt 0)])), (q1, .inl (cA 0, arr0 0 5002))] := hD
  refine lv_aload_n hx hb dX0_init_13 rfl (lv_at hl 0 rfl) ?_
  refine lv_sipush (v := 501) hx hb dX0_init_14 (by decide) ?_
  refine nw (atype := .int) (tk := 0) (by decide) hx hb (hts _ (gd (w := .arrayClass .int) (by decide +kernel) rfl)) rfl hK hP hD hS hA (N' := 501) (by decide) (by decide) (by decide) (Nat.le_of_ble_eq_true rfl) (Nat.le_of_ble_eq_true rfl) dX0_init_17 (fun q2 H hP hD hS => ?_)
  have hP : va_P D vwCl [(h0, .inr (0, [.ref q1, .null, .int (Int32.ofInt 0)])), (q1, .inl (cA 0, arr0 0 5002)), (q2, .inl (cA 0, arr0 0 501))] H := hP
  have hD : va_D A [(h0, .inr (0, [.ref q1, .null, .int (Int32.ofInt 0)])), (q1, .inl (cA 0, arr0 0 5002)), (q2, .inl (cA 0, arr0 0 501))] := hD
  refine W.widen (k := 2) (n := 5503) (Nat.le_of_ble_eq_true rfl) (Nat.le_of_ble_eq_true rfl) ?_
  refine ptF (q := (RX0, TX0, 3)) (k := 1) (v := .ref q2) (ty := .array .int) hx hb hts hown hK hP hD hS 0 rfl rfl (by decide) (by decide +kernel) rfl hin rfl (by decide +kernel) rfl rfl (Nat.le_of_ble_eq_true rfl) dX0_init_19 (fun H locs hP hD hS => ?_)
  have hP : va_P D vwCl [(h0, .inr (0, [.ref q1, .ref q2, .int (Int32.ofInt 0)])), (q1, .inl (cA 0, arr0 0 5002)), (q2, .inl (cA 0, arr0 0 501))] H := hP
  have hD : va_D A [(h0, .inr (0, [.ref q1, .ref q2, .int (Int32.ofInt 0)])), (q1, .inl (cA 0, arr0 0 5002)), (q2, .inl (cA 0, arr0 0 501))] := hD
  obtain ⟨ρ, r1, r2, r3, e1⟩ := out0 0
  have hPo : va_P D vwCl (wsO (fun q => ([h0, q1, q2] : List Nat).getD q 0) cA V0.1 (fun _ _ => 0)) H := hP
  have hDo : va_D A (wsO (fun q => ([h0, q1, q2] : List Nat).getD q 0) cA V0.1 (fun _ _ => 0)) := hD
  refine tailV (M := (cX0_init, 0, 0)) (nL := 2) (d := 1) (ls := [vR 0, vU]) (ρ := ρ) hx hb hml hown hts hK hN V0_k ⟨Nat.le_of_ble_eq_true rfl, Nat.le_of_ble_eq_true rfl, Nat.le_of_ble_eq_true rfl, Nat.le_of_ble_eq_true rfl⟩ hPo hDo hS ⟨rfl, hl⟩ e1 (fun pc lsA H locs hdg hP hS => ?_)
  have hP := P_ext (τ := fun q j => if q = 1 then (if 1 ≤ j ∧ j ≤ 5001 then cys j else 0) else 0) (fun q ci fs h j => by
    by_cases e : q = 1
    · subst e; cases h
    · rw [r2 q e, if_neg e]) (fun q tk n h j hj => by
    by_cases e : q = 1
    · subst e; cases h
      rw [if_pos rfl]
      by_cases z : 1 ≤ (j : Int) ∧ (j : Int) ≤ 5001
      · rw [if_pos z]; exact r1 j z.1 (by omega)
      · rw [if_neg z]
        have : (j : Int) = 0 := by omega
        rw [this]; exact r3
    · rw [r2 q e, if_neg e]) hP
  exact W.vret hx hb hr (fun t ht hW => ⟨⟨(), rfl, trivial, q1, q2, by rw [ht]; exact hP, wsO_D (AI_of hDo) (fun q j => if q = 1 then (if 1 ≤ j ∧ j ≤ 5001 then cys j else 0) else 0)⟩, hS.F ht⟩) hS.2.2 hdg
