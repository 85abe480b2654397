/-! the law's start: the world made, then its loop by the small machine -/
theorem start_K {args : Array Value} {s : State} (hts : ∀ w ∈ lw_tbl, w.before args s = true) : ∃ (D : va_G) (cA : Nat → ClassId), va_K D vwCl (jtys cA) s := by
  have hg : ∀ w ∈ lw_g, w.before args s = true := fun w h => hts w (List.mem_filter.mp h).1
  obtain ⟨c0, i0, h0⟩ := u_known (C := RX0) (T := TX0) (N := 3) (n := 3) hg (jin_g 0 _ rfl) (hts (.instantiable RX0 3) (by decide +kernel))
  obtain ⟨c1, i1, h1⟩ := u_known (C := RX1) (T := TX1) (N := 3) (n := 3) hg (jin_g 1 _ rfl) (hts (.instantiable RX1 3) (by decide +kernel))
  obtain ⟨c2, i2, h2⟩ := u_known (C := RX2) (T := TX2) (N := 14) (n := 14) hg (jin_g 2 _ rfl) (hts (.instantiable RX2 14) (by decide +kernel))
  obtain ⟨c3, i3, h3⟩ := u_known (C := RX4) (T := TX4) (N := 1) (n := 1) hg (jin_g 3 _ rfl) (hts (.instantiable RX4 1) (by decide +kernel))
  obtain ⟨c4, i4, h4⟩ := u_known (C := RX5) (T := TX5) (N := 14) (n := 14) hg (jin_g 4 _ rfl) (hts (.instantiable RX5 14) (by decide +kernel))
  obtain ⟨c5, i5, h5⟩ := u_known (C := RX6) (T := TX6) (N := 2) (n := 2) hg (jin_g 5 _ rfl) (hts (.instantiable RX6 2) (by decide +kernel))
  obtain ⟨c6, i6, h6⟩ := u_known (C := RX7) (T := TX7) (N := 4) (n := 4) hg (jin_g 6 _ rfl) (hts (.instantiable RX7 4) (by decide +kernel))
  obtain ⟨c7, i7, h7⟩ := u_known (C := RX8) (T := TX8) (N := 7) (n := 7) hg (jin_g 7 _ rfl) (hts (.instantiable RX8 7) (by decide +kernel))
  obtain ⟨c8, i8, h8⟩ := u_known (C := RX9) (T := TX9) (N := 35) (n := 35) hg (jin_g 8 _ rfl) (hts (.instantiable RX9 35) (by decide +kernel))
  obtain ⟨a0, k0, p0, u0, v0, w0⟩ := Cond.arrayClass_spec (hts (.arrayClass .int) (by decide +kernel))
  obtain ⟨a1, k1, p1, u1, v1, w1⟩ := Cond.arrayClass_spec (hts (.arrayClass .byte) (by decide +kernel))
  obtain ⟨a2, k2, p2, u2, v2, w2⟩ := Cond.arrayClass_spec (hts (.arrayClass .boolean) (by decide +kernel))
  obtain ⟨a3, k3, p3, u3, v3, w3⟩ := Cond.arrayClass_spec (hts (.arrayClass .long) (by decide +kernel))
  refine ⟨(fun k => match k with | 0 => c0 | 1 => c1 | 2 => c2 | 3 => c3 | 4 => c4 | 5 => c5 | 6 => c6 | 7 => c7 | _ => c8, fun k => match k with | 0 => i0 | 1 => i1 | 2 => i2 | 3 => i3 | 4 => i4 | 5 => i5 | 6 => i6 | 7 => i7 | _ => i8), (fun k => match k with | 0 => a0 | 1 => a1 | 2 => a2 | _ => a3), ?_, ?_⟩
  · intro k q hq
    match k, hq with
    | 0, hq => cases hq; exact h0
    | 1, hq => cases hq; exact h1
    | 2, hq => cases hq; exact h2
    | 3, hq => cases hq; exact h3
    | 4, hq => cases hq; exact h4
    | 5, hq => cases hq; exact h5
    | 6, hq => cases hq; exact h6
    | 7, hq => cases hq; exact h7
    | 8, hq => cases hq; exact h8
    | k + 9, hq => simp [vwCl] at hq
  · intro k q hq
    match k, hq with
    | 0, hq => cases hq; exact ⟨fun n z => ⟨fun k h => (by cases h), k0, v0, p0, w0⟩, u0⟩
    | 1, hq => cases hq; exact ⟨fun n z => ⟨fun k h => (by cases h), k1, v1, p1, w1⟩, u1⟩
    | 2, hq => cases hq; exact ⟨fun n z => ⟨fun k h => (by cases h), k2, v2, p2, w2⟩, u2⟩
    | 3, hq => cases hq; exact ⟨fun n z => ⟨fun k h => (by cases h), k3, v3, p3, w3⟩, u3⟩
    | k + 4, hq => simp [jtys] at hq
theorem WV_k4 (k : Nat × (Int → Int)) : ∀ (q t n : Nat), (WV k).1[q]? = some (.inr (t, n)) → t < 4 := by
  intro q t n h
  have hall : SHP.all (fun c => match c with | .inr (t, _) => decide (t < 4) | _ => true) = true := by decide +kernel
  have := List.all_eq_true.mp hall _ (List.mem_of_getElem? h)
  simpa using this
set_option maxRecDepth 100000 in
theorem bL_16 (k : Nat × (Int → Int)) (E : Orc) (σ : St) : out (WV k) E ML_law 16 [vR 1000, vR 0, vR 33, vU, vU, vU, vU, vU] [] σ = out (WV k) E ML_law 18 [vR 1000, vR 0, vR 33, vI 0, vU, vU, vU, vU] [] σ :=
  Eq.trans (o_iconst dL_law_16) (o_istore_n dL_law_17 (Nat.le_of_ble_eq_true rfl) rfl)
set_option maxHeartbeats 4000000 in
theorem law_end {p : Program} {l : Launch} {e : Env} {s : State} {m : MethodId} {below : List Frame} {meth : Method} {c : Code} {b L : Nat} {xs : Nat → Int32} {D : va_G} {ad : Nat → Nat} {cA : Nat → ClassId} {A : Nat → Prop} {H : Heap} {locs : List Loc} {ls : Array Slot} (hprim : ∀ (k : Nat × (Int → Int)) (d : Nat), EOK l D ad cA (WV k) (jrm d) (jprim d)) (C0 : lw_At p s m meth c b L xs) (hL : L ≤ 3072) (hK : va_K D vwCl (jtys cA) s) (hAe : A = fun q => s.heap.size ≤ q) (hFX : FX ad (WV (L, fun i => (xs i.toNat).toInt)) (fun q => s.heap.size ≤ q) s s.heap) (hP : va_P D vwCl (wsO ad cA SHP σ0) H) (hD : va_D A (wsO ad cA SHP σ0)) (hS : va_S A s.heap H locs) (hl : LH ad ls 8 [vR 1000, vR 0, vR 33, vU, vU, vU, vU, vU]) : W p l e room_1 s m #[Value.ref b] below meth c H locs 56 16616 (lw_Z below #[Value.ref b] s) (F0 m 16 ls []) := by
  obtain ⟨hx, hb, hr, hml, hown, htsT, hX, hbl, hlocks, hgv⟩ := id C0
  have hts : ∀ w ∈ lw_g, w.before #[Value.ref b] s = true := fun w h => htsT w (List.mem_filter.mp h).1
  subst hAe
  have C : CX p s m #[Value.ref b] c D ad cA (WV (L, fun i => (xs i.toNat).toInt)) (fun q => s.heap.size ≤ q) 8 ML_law := ⟨hx, hb, hml, hown, hts, hK, hFX, AI_of hD⟩
  obtain ⟨ρ, ho⟩ := LS_all (k := (L, fun i => (xs i.toNat).toInt)) (fun i => ⟨Int32.le_toInt _, by have := Int32.toInt_lt (xs i.toNat); show (xs i.toNat).toInt ≤ 2147483647; omega⟩) hL L (σ := σ0) (x3 := 0) vU vU INV_start (by omega) (by show (L : Int) - 0 ≤ L; omega) (by omega)
  have ho2 := (bL_16 (L, fun i => (xs i.toNat).toInt) (EV (L, fun i => (xs i.toNat).toInt) 12) σ0).trans ho
  obtain ⟨n, hn⟩ := out_run ho2
  have hE : EOK l D ad cA (WV (L, fun i => (xs i.toNat).toInt)) (jrm 11) (EV (L, fun i => (xs i.toNat).toInt) 12) := ev_ok (WV_k4 _) (hprim _) 11
  refine run_go (rm := jrm 11) (r := (some (vI 1), ρ)) C (WV_k4 _) hE ⟨Nat.le_of_ble_eq_true rfl, Nat.le_of_ble_eq_true rfl, fun _ _ _ _ _ => ⟨rfl, rfl, Nat.le_of_ble_eq_true rfl, Nat.le_of_ble_eq_true rfl⟩⟩ (fun pc ls hat H locs lsA hP hS _ => ?_) n 16 _ [] σ0 hn H locs ls hP hS hl
  refine va_forget hS.2.2 ?_
  exact lw_ret (d0 := s.drawn) (Drawn.sameBut.refl s.drawn lw_cs) hx hb hr hlocks hat.1
