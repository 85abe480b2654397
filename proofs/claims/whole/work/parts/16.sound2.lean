section SND2
variable {p : Program} {l : Launch} {e : Env} {R : Room} {s : State} {m : MethodId} {args : Array Value} {below : List Frame} {meth : Method} {c : Code} {cells slots : Nat} {Q : State → Prop}
variable {D : va_G} {ad : Nat → Nat} {cA : Nat → ClassId} {V : Vw} {A : Nat → Prop} {nL : Nat} {M : MT} {pc pc1 : Nat} {ls st : List PV} {σ : St} {c' : Nat × List PV × List PV × St}
theorem g_jget {idx : Nat} (C : CX p s m args c D ad cA V A nL M) (hd : decode M.1 pc = .ok (.getfield idx, 3)) (hs : jget V (jfOf M.2.1 idx) (pc + 3) ls st σ = some (.inl c'))
    (K : GO p l e R s m args below meth c cells slots Q D ad cA V A nL c'.1 c'.2.1 c'.2.2.1 c'.2.2.2) : GO p l e R s m args below meth c cells slots Q D ad cA V A nL pc ls st σ := by
  obtain ⟨hx, hb, hml, hown, hts, hK, hF, hA⟩ := C
  unfold jget at hs
  split at hs
  · rename_i ci k kr q r hf
    obtain ⟨kd, pos⟩ := kr
    obtain ⟨qc, h1, h2, h3, -, -⟩ := jf_ok (jf_lt hf) hf
    split at hs
    · rename_i cj fs hq
      split at hs
      · rename_i hcj
        subst hcj
        intro H locs lsA hP hS hl
        have hw := wsO_get (ad := ad) (cA := cA) σ hq
        rw [cellE_fs] at hw
        have hv : ∀ f, fs[k]? = some f → (fs.mapIdx (fun k f => fieldV ad σ q k f))[k]? = some (fieldV ad σ q k f) := fun f hf => by rw [List.getElem?_mapIdx, hf]; rfl
        split at hs
        · rename_i t hk
          obtain rfl := jnx_inj (a := (_, _, _, _)) hs
          exact va_get (T := qc.2.1) (N := qc.2.2) hx hb hts (jin_g _ _ h1) hown hK hP q hw h1 k h2 (hts _ (gd h3 rfl)) (fun _ h => h) (hv _ hk) hd (K H locs lsA hP hS hl)
        · rename_i hk
          obtain rfl := jnx_inj (a := (_, _, _, _)) hs
          exact va_get (T := qc.2.1) (N := qc.2.2) hx hb hts (jin_g _ _ h1) hown hK hP q hw h1 k h2 (hts _ (gd h3 rfl)) (fun _ h => h) (hv _ hk) hd (K H locs lsA hP hS hl)
        · cases hs
      · cases hs
    · cases hs
  · cases hs
theorem w32_bit {a : Int} (h : w32 a = 0 ∨ w32 a = 1) : Int32.ofInt a = 0 ∨ Int32.ofInt a = 1 := by
  rcases h with h | h
  · exact Or.inl (Int32.toInt_inj.mp h)
  · exact Or.inr (Int32.toInt_inj.mp h)
theorem nar_z {x : Int32} (h : x = 0 ∨ x = 1) : narrow .boolean (.int x) = .int x ∧ fits .boolean (.int x) = true ∧ vp_nar .boolean x = x := by
  rcases h with rfl | rfl <;> decide
theorem g_jput {idx : Nat} (C : CX p s m args c D ad cA V A nL M) (hd : decode M.1 pc = .ok (.putfield idx, 3)) (hs : jput V (jfOf M.2.1 idx) (pc + 3) ls st σ = some (.inl c'))
    (K : GO p l e R s m args below meth c cells slots Q D ad cA V A nL c'.1 c'.2.1 c'.2.2.1 c'.2.2.2) : GO p l e R s m args below meth c cells slots Q D ad cA V A nL pc ls st σ := by
  obtain ⟨hx, hb, hml, hown, hts, hK, hF, hA⟩ := C
  unfold jput at hs
  split at hs
  · rename_i ci k kd pos a q r hf
    obtain ⟨qc, h1, h2, h3, h4, h5⟩ := jf_ok (jf_lt hf) hf
    obtain ⟨⟨ty0, hty⟩, hnm⟩ := jty_ok _ _ h1
    split at hs
    · rename_i cj fs hq
      split at hs
      · rename_i hcj
        subst hcj
        intro H locs lsA hP hS hl
        have hw := wsO_get (ad := ad) (cA := cA) σ hq
        rw [cellE_fs] at hw
        split at hs
        · rename_i hk
          have hlen : k < (fs.mapIdx (fun k f => fieldV ad σ q k f)).length := by
            have := (List.getElem?_eq_some_iff.mp hk).1
            simpa using this
          have fin : ∀ (ty : FieldType), (qc.2.1 k).2.2.2 = false → parseFieldDescriptor (qc.2.1 k).2.2.1 = some ty → narrow ty (.int (Int32.ofInt a)) = .int (Int32.ofInt a) → fits ty (.int (Int32.ofInt a)) = true → c' = (pc + 3, ls, r, st2 σ q k a) → W p l e R s m args below meth c H locs cells slots Q (F0 m pc lsA (((vI a : PV) :: vR q :: r).map (mv ad))) := by
            intro ty e1 e2 e3 e4 e5
            subst e5
            refine va_put (T := qc.2.1) (N := qc.2.2) hx hb hts (jin_g _ _ h1) ty0 hty hnm hown hK hP (wsO_D hA σ) hS q hw h1 k h2 (hts _ (gd h3 rfl)) (fun _ h => h) e1 e2 e3 e4 hlen hd (fun H1 locs1 hP1 _ hS1 => ?_)
            have hc : (Sum.inr (ci, (fs.mapIdx (fun k f => fieldV ad σ q k f)).set k (mv ad (vI a))) : va_E) = cellE ad cA (st2 σ q k a) q (.inl (ci, fs)) := cellE_put hk
            rw [hc, wsO_set hq] at hP1
            exact K H1 locs1 lsA hP1 hS1 hl
          split at hs
          · rename_i hk1
            exact fin .int (h4 hk1).1 (h4 hk1).2 rfl rfl (jnx_inj (a := (_, _, _, _)) hs)
          · split at hs
            · rename_i hk2
              split at hs
              · rename_i hz
                have hz := nar_z (w32_bit hz)
                exact fin .boolean (h5 hk2).1 (h5 hk2).2 hz.1 hz.2.1 (jnx_inj (a := (_, _, _, _)) hs)
              · cases hs
            · cases hs
        · cases hs
      · cases hs
    · cases hs
  · cases hs
theorem ty_at (cA : Nat → ClassId) (k : Nat) (h : k < 4) : ∃ ty, (jtys cA)[k]? = some (cA k, ty) := by
  match k, h with
  | 0, _ => exact ⟨_, rfl⟩
  | 1, _ => exact ⟨_, rfl⟩
  | 2, _ => exact ⟨_, rfl⟩
  | 3, _ => exact ⟨_, rfl⟩
theorem g_iald (C : CX p s m args c D ad cA V A nL M) (hd : decode M.1 pc = .ok (.iaload, 1)) (hs : jald vI 0 V (pc + 1) ls st σ = some (.inl c'))
    (K : GO p l e R s m args below meth c cells slots Q D ad cA V A nL c'.1 c'.2.1 c'.2.2.1 c'.2.2.2) : GO p l e R s m args below meth c cells slots Q D ad cA V A nL pc ls st σ := by
  obtain ⟨hx, hb, hml, hown, hts, hK, hF, hA⟩ := C
  unfold jald at hs
  split at hs
  · rename_i i q r
    split at hs
    · rename_i a ha
      obtain rfl := jnx_inj (a := (_, _, _, _)) hs
      intro H locs lsA hP hS hl
      unfold jrd at ha
      split at ha
      · rename_i t n hq
        split at ha
        · rename_i ht
          subst ht
          split at ha
          · rename_i hin
            have hw := wsO_get (ad := ad) (cA := cA) σ hq
            rw [cellE_i (by decide)] at hw
            refine va_iald hx hb hK hP q 0 hw rfl (w32_in hin) hd ?_
            rw [w32_clamp hin.1]
            cases ha
            exact K H locs lsA hP hS hl
          · cases ha
        · cases ha
      · cases ha
      · rw [if_pos rfl] at ha
        split at ha
        · rename_i n f hq
          split at ha
          · rename_i hin
            refine va_ti hx hb (hF.1 q n f hq) hS (w32_in hin) rfl hd ?_
            rw [w32_clamp hin.1]
            cases ha
            exact K H locs lsA hP hS hl
          · cases ha
        · cases ha
    · cases hs
  · cases hs
theorem g_lald (C : CX p s m args c D ad cA V A nL M) (hd : decode M.1 pc = .ok (.laload, 1)) (hs : jald vL 3 V (pc + 1) ls st σ = some (.inl c'))
    (K : GO p l e R s m args below meth c cells slots Q D ad cA V A nL c'.1 c'.2.1 c'.2.2.1 c'.2.2.2) : GO p l e R s m args below meth c cells slots Q D ad cA V A nL pc ls st σ := by
  obtain ⟨hx, hb, hml, hown, hts, hK, hF, hA⟩ := C
  unfold jald at hs
  split at hs
  · rename_i i q r
    split at hs
    · rename_i a ha
      obtain rfl := jnx_inj (a := (_, _, _, _)) hs
      intro H locs lsA hP hS hl
      unfold jrd at ha
      split at ha
      · rename_i t n hq
        split at ha
        · rename_i ht
          subst ht
          split at ha
          · rename_i hin
            have hw := wsO_get (ad := ad) (cA := cA) σ hq
            rw [cellE_l] at hw
            refine va_lald hx hb hK hP q 3 hw rfl (w32_in hin) hd ?_
            rw [w32_clamp hin.1]
            cases ha
            exact K H locs lsA hP hS hl
          · cases ha
        · cases ha
      · cases ha
      · rw [if_neg (by decide)] at ha
        cases ha
    · cases hs
  · cases hs
theorem g_bald (C : CX p s m args c D ad cA V A nL M) (hd : decode M.1 pc = .ok (.baload, 1)) (hs : jbald V (pc + 1) ls st σ = some (.inl c'))
    (K : GO p l e R s m args below meth c cells slots Q D ad cA V A nL c'.1 c'.2.1 c'.2.2.1 c'.2.2.2) : GO p l e R s m args below meth c cells slots Q D ad cA V A nL pc ls st σ := by
  obtain ⟨hx, hb, hml, hown, hts, hK, hF, hA⟩ := C
  unfold jbald at hs
  split at hs
  · rename_i i q r
    split at hs
    · rename_i t n hq
      split at hs
      · rename_i ht
        split at hs
        · rename_i hin
          obtain rfl := jnx_inj (a := (_, _, _, _)) hs
          intro H locs lsA hP hS hl
          have hw := wsO_get (ad := ad) (cA := cA) σ hq
          rw [cellE_i (by omega)] at hw
          rcases ht with rfl | rfl
          · refine va_bald hx hb hK hP q 1 hw rfl (w32_in hin) hd ?_
            rw [w32_clamp hin.1]
            exact K H locs lsA hP hS hl
          · refine va_zald hx hb hK hP q 2 hw rfl (w32_in hin) hd ?_
            rw [w32_clamp hin.1]
            exact K H locs lsA hP hS hl
        · cases hs
      · cases hs
    · cases hs
  · cases hs
theorem g_iast (C : CX p s m args c D ad cA V A nL M) (hd : decode M.1 pc = .ok (.iastore, 1)) (hs : jiast V (pc + 1) ls st σ = some (.inl c'))
    (K : GO p l e R s m args below meth c cells slots Q D ad cA V A nL c'.1 c'.2.1 c'.2.2.1 c'.2.2.2) : GO p l e R s m args below meth c cells slots Q D ad cA V A nL pc ls st σ := by
  obtain ⟨hx, hb, hml, hown, hts, hK, hF, hA⟩ := C
  unfold jiast at hs
  split at hs
  · rename_i x i q r
    split at hs
    · rename_i t n hq
      split at hs
      · rename_i ht
        subst ht
        split at hs
        · rename_i hin
          obtain rfl := jnx_inj (a := (_, _, _, _)) hs
          intro H locs lsA hP hS hl
          have hw := wsO_get (ad := ad) (cA := cA) σ hq
          rw [cellE_i (by decide)] at hw
          refine va_iast hx hb hK hP (wsO_D hA σ) hS q 0 hw rfl (w32_in hin) hd (fun H1 locs1 hP1 _ hS1 => ?_)
          rw [cellE_ist (ad := ad) (by decide) hin.1, wsO_set hq] at hP1
          exact K H1 locs1 lsA hP1 hS1 hl
        · cases hs
      · cases hs
    · cases hs
  · cases hs
theorem g_last (C : CX p s m args c D ad cA V A nL M) (hd : decode M.1 pc = .ok (.lastore, 1)) (hs : jlast V (pc + 1) ls st σ = some (.inl c'))
    (K : GO p l e R s m args below meth c cells slots Q D ad cA V A nL c'.1 c'.2.1 c'.2.2.1 c'.2.2.2) : GO p l e R s m args below meth c cells slots Q D ad cA V A nL pc ls st σ := by
  obtain ⟨hx, hb, hml, hown, hts, hK, hF, hA⟩ := C
  unfold jlast at hs
  split at hs
  · rename_i x i q r
    split at hs
    · rename_i t n hq
      split at hs
      · rename_i ht
        subst ht
        split at hs
        · rename_i hin
          obtain rfl := jnx_inj (a := (_, _, _, _)) hs
          intro H locs lsA hP hS hl
          have hw := wsO_get (ad := ad) (cA := cA) σ hq
          rw [cellE_l] at hw
          refine va_last hx hb hK hP (wsO_D hA σ) hS q 3 hw rfl (w32_in hin) hd (fun H1 locs1 hP1 _ hS1 => ?_)
          rw [cellE_lst (ad := ad) hin.1, wsO_set hq] at hP1
          exact K H1 locs1 lsA hP1 hS1 hl
        · cases hs
      · cases hs
    · cases hs
  · cases hs
theorem b8_nar (x : Int) : vp_nar .byte (Int32.ofInt x) = Int32.ofInt (b8 x) := by
  rw [vp_nar_byte]
  unfold b8
  rw [Int32.ofInt_toInt]
theorem g_bast (C : CX p s m args c D ad cA V A nL M) (hd : decode M.1 pc = .ok (.bastore, 1)) (hs : jbast V (pc + 1) ls st σ = some (.inl c'))
    (K : GO p l e R s m args below meth c cells slots Q D ad cA V A nL c'.1 c'.2.1 c'.2.2.1 c'.2.2.2) : GO p l e R s m args below meth c cells slots Q D ad cA V A nL pc ls st σ := by
  obtain ⟨hx, hb, hml, hown, hts, hK, hF, hA⟩ := C
  unfold jbast at hs
  split at hs
  · rename_i x i q r
    split at hs
    · rename_i t n hq
      split at hs
      · rename_i ht
        subst ht
        split at hs
        · rename_i hin
          obtain rfl := jnx_inj (a := (_, _, _, _)) hs
          intro H locs lsA hP hS hl
          have hw := wsO_get (ad := ad) (cA := cA) σ hq
          rw [cellE_i (by decide)] at hw
          refine va_bast hx hb hK hP (wsO_D hA σ) hS q 1 hw rfl (w32_in hin) hd (fun H1 locs1 hP1 _ hS1 => ?_)
          rw [b8_nar, cellE_ist (ad := ad) (by decide) hin.1, wsO_set hq] at hP1
          exact K H1 locs1 lsA hP1 hS1 hl
        · cases hs
      · split at hs
        · rename_i ht
          subst ht
          split at hs
          · rename_i hin
            split at hs
            · rename_i hz
              obtain rfl := jnx_inj (a := (_, _, _, _)) hs
              intro H locs lsA hP hS hl
              have hw := wsO_get (ad := ad) (cA := cA) σ hq
              rw [cellE_i (by decide)] at hw
              refine va_zast hx hb hK hP (wsO_D hA σ) hS q 2 hw rfl (w32_in hin) hd (fun H1 locs1 hP1 _ hS1 => ?_)
              rw [(nar_z (w32_bit hz)).2.2, cellE_ist (ad := ad) (by decide) hin.1, wsO_set hq] at hP1
              exact K H1 locs1 lsA hP1 hS1 hl
            · cases hs
          · cases hs
        · cases hs
    · cases hs
  · cases hs
theorem g_jlen (C : CX p s m args c D ad cA V A nL M) (hk4 : ∀ (q t n : Nat), V.1[q]? = some (.inr (t, n)) → t < 4) (hd : decode M.1 pc = .ok (.arraylength, 1)) (hs : jlen V (pc + 1) ls st σ = some (.inl c'))
    (K : GO p l e R s m args below meth c cells slots Q D ad cA V A nL c'.1 c'.2.1 c'.2.2.1 c'.2.2.2) : GO p l e R s m args below meth c cells slots Q D ad cA V A nL pc ls st σ := by
  obtain ⟨hx, hb, hml, hown, hts, hK, hF, hA⟩ := C
  unfold jlen at hs
  split at hs
  · rename_i q r
    split at hs
    · rename_i n hn
      obtain rfl := jnx_inj (a := (_, _, _, _)) hs
      intro H locs lsA hP hS hl
      unfold jalen at hn
      split at hn
      · rename_i t n' hq
        cases hn
        have hw := wsO_get (ad := ad) (cA := cA) σ hq
        obtain ⟨ty, hty⟩ := ty_at cA t (hk4 q t n hq)
        by_cases h3 : t = 3
        · subst h3
          rw [cellE_l] at hw
          exact va_alen hx hb hK hP q 3 hw hty (v := Int32.ofInt n) Int32.ofInt_eq_ofNat.symm hd (K H locs lsA hP hS hl)
        · rw [cellE_i h3] at hw
          exact va_alen hx hb hK hP q t hw hty (v := Int32.ofInt n) Int32.ofInt_eq_ofNat.symm hd (K H locs lsA hP hS hl)
      · cases hn
      · split at hn
        · rename_i n' f hq
          cases hn
          exact va_tlen hx hb (hF.1 q n f hq) hS (v := Int32.ofInt n) Int32.ofInt_eq_ofNat.symm hd (K H locs lsA hP hS hl)
        · cases hn
    · cases hs
  · cases hs
theorem g_jgst {idx : Nat} (C : CX p s m args c D ad cA V A nL M) (hd : decode M.1 pc = .ok (.getstatic idx, 3)) (hs : jgst V (jsOf M.2.1 idx) (pc + 3) ls st σ = some (.inl c'))
    (K : GO p l e R s m args below meth c cells slots Q D ad cA V A nL c'.1 c'.2.1 c'.2.2.1 c'.2.2.2) : GO p l e R s m args below meth c cells slots Q D ad cA V A nL pc ls st σ := by
  obtain ⟨hx, hb, hml, hown, hts, hK, hF, hA⟩ := C
  unfold jgst at hs
  split at hs
  · rename_i q hq
    split at hs
    · rename_i x hv
      obtain ⟨n, f⟩ := x
      obtain rfl := jnx_inj (a := (_, _, _, _)) hs
      intro H locs lsA hP hS hl
      unfold jsOf at hq
      split at hq
      · rename_i h
        cases hq
        rw [h.1] at hown
        rw [h.2] at hd
        exact va_gets hx hb (hF.2.1 (by rw [hv]; rfl)).1 hS hown (hts _ (gd jstat_link rfl)) (fun _ h => h) hd (K H locs lsA hP hS hl)
      · cases hq
    · cases hs
  · cases hs
end SND2
