/-! constructors: an array made and laid into a field -/
section CTR
variable {p : Program} {l : Launch} {e : Env} {R : Room} {s : State} {m : MethodId} {args : Array Value} {below : List Frame} {meth : Method} {c : Code} {cells slots : Nat} {Q : State → Prop} {D : va_G} {cA : Nat → ClassId} {A : Nat → Prop} {H0 H : Heap} {locs : List Loc} {ws : va_W} {cc : ByteArray} {pc : Nat} {ls : Array Slot} {rest : List Value}
def aty (tk : Nat) : FieldType := match tk with
  | 0 => .int
  | 1 => .byte
  | 2 => .boolean
  | _ => .long
theorem ra_uni {U : State} {a b : ClassId} {tk : Nat} (h1 : va_RA U a (aty tk)) (h2 : va_RA U b (aty tk)) : a = b := by
  match tk, h1, h2 with
  | 0, h1, h2 => exact Option.some.inj ((show U.vm.findClass _ = some a from h1).symm.trans h2)
  | 1, h1, h2 => exact Option.some.inj ((show U.vm.findClass _ = some a from h1).symm.trans h2)
  | 2, h1, h2 => exact Option.some.inj ((show U.vm.findClass _ = some a from h1).symm.trans h2)
  | n + 3, h1, h2 => exact Option.some.inj ((show U.vm.findClass _ = some a from h1).symm.trans h2)
/-- the contents of a new array of a kind -/
def arr0 (tk n : Nat) : vp_A := if tk = 3 then (n, .inr (.inl (fun _ => Int64.ofInt 0))) else (n, .inl (fun _ => Int32.ofInt 0))
theorem nw {atype : ArrayType} {tk : Nat} (htk : tk < 4) (hexec : p.tables.exec = Jvm.exec) (hb : c.code = cc) (harr : (Cond.arrayClass (newarray.typeOf atype)).before args s = true) (hty : newarray.typeOf atype = aty tk) (hK : va_K D vwCl (jtys cA) s) (hP : va_P D vwCl ws H) (hD : va_D A ws) (hS : va_S A H0 H locs) (hA : ∀ q, H0.size ≤ q → A q)
    {n : Int32} {N' : Nat} (hn : ¬ n < 0) (hN : n.toNatClampNeg = N') (hbytes : N' * componentBytes (aty tk) ≤ 536870912) (hcells : cells + 1 ≤ R.cells) (hslots : slots + N' ≤ R.slots) (hdg : decode cc pc = .ok (.newarray atype, 2))
    (kk : ∀ (q : Nat) (H1 : Heap), va_P D vwCl (ws ++ [(q, .inl (cA tk, arr0 tk N'))]) H1 → va_D A (ws ++ [(q, .inl (cA tk, arr0 tk N'))]) → va_S A H0 H1 locs →
      W p l e R s m args below meth c H1 locs (cells + 1) (slots + N') Q (F0 m (pc + 2) ls (.ref q :: rest))) : W p l e R s m args below meth c H locs cells slots Q (F0 m pc ls (.int n :: rest)) := by
  refine va_newa hexec hb harr hty hK hP hD hS hA (a0 := arr0 tk N') (fun cA' => ?_) hn hN hbytes hcells hslots hdg (fun q cA' H1 hK1 hP1 hD1 hS1 => ?_)
  · match tk, htk with
    | 0, _ => rfl
    | 1, _ => rfl
    | 2, _ => rfl
    | 3, _ => rfl
  · have e : cA' = cA tk := by
      have h1 := (hK1.2 4 (cA', aty tk) rfl).2
      have h2 : va_RA s (cA tk) (aty tk) := by
        match tk, htk with
        | 0, _ => exact (hK.2 0 (cA 0, .int) rfl).2
        | 1, _ => exact (hK.2 1 (cA 1, .byte) rfl).2
        | 2, _ => exact (hK.2 2 (cA 2, .boolean) rfl).2
        | 3, _ => exact (hK.2 3 (cA 3, .long) rfl).2
      exact ra_uni h1 h2
    subst e
    exact kk q H1 hP1 hD1 hS1
/-- a final field of the own class, laid in its constructor -/
theorem ptF {own : String} {a ci k index : Nat} {q : vw_C} {fs : List Value} {v : Value} {ty : FieldType} (hexec : p.tables.exec = Jvm.exec) (hb : c.code = cc) (hts : ∀ w ∈ lw_g, w.before args s = true) (hown : s.vm.findClass own = some m.cls) (hK : va_K D vwCl (jtys cA) s) (hP : va_P D vwCl ws H) (hD : va_D A ws) (hS0 : va_S A H0 H locs) (q0 : Nat) (he : ws[q0]? = some (a, .inr (ci, fs))) (hc : vwCl[ci]? = some q) (hk : k < q.2.2) (hlink : Cond.fieldLink own index (q.2.1 k).1 (q.2.1 k).2.1 (q.2.1 k).2.2.1 ∈ lw_tbl) (hfin : (q.2.1 k).2.2.2 = true) (hin2 : meth.name = "<init>") (hdecl : (q.2.1 k).1 = own) (hd : parseFieldDescriptor (q.2.1 k).2.2.1 = some ty) (hn : narrow ty v = v) (hfit : fits ty v = true) (hl : k < fs.length)
    (hdg : decode cc pc = .ok (.putfield index, 3)) (kk : ∀ (H1 : Heap) (locs1 : List Loc), va_P D vwCl (ws.set q0 (a, .inr (ci, fs.set k v))) H1 → va_D A (ws.set q0 (a, .inr (ci, fs.set k v))) → va_S A H0 H1 locs1 → W p l e R s m args below meth c H1 locs1 cells slots Q (F0 m (pc + 3) ls rest)) : W p l e R s m args below meth c H locs cells slots Q (F0 m pc ls (v :: .ref a :: rest)) := by
  obtain ⟨⟨ty0, hty⟩, hnm⟩ := jty_ok _ _ hc
  exact va_putF (T := q.2.1) (N := q.2.2) hexec hb hts (jin_g _ _ hc) ty0 hty hnm hown hK hP hD hS0 q0 he hc k hk (hts _ (gd hlink rfl)) (fun _ h => h) hfin hin2 hdecl hd hn hfit hl hdg kk
end CTR
