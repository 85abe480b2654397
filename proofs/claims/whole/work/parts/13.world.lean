/-! the small machine's values and cells, as the machine has them -/
def mv (ad : Nat → Nat) (v : PV) : Value := match v with
  | .inl a => .int (Int32.ofInt a)
  | .inr (.inl a) => .long (Int64.ofInt a)
  | .inr (.inr (.inl b)) => .double b
  | .inr (.inr (.inr (.inl q))) => .ref (ad q)
  | .inr (.inr (.inr (.inr _))) => .null
theorem mv_cat (ad : Nat → Nat) (v : PV) : (mv ad v).category = jcat v := by
  match v with
  | .inl a => rfl
  | .inr (.inl a) => rfl
  | .inr (.inr (.inl b)) => rfl
  | .inr (.inr (.inr (.inl q))) => rfl
  | .inr (.inr (.inr (.inr _))) => rfl
def fieldV (ad : Nat → Nat) (σ : St) (q k : Nat) (f : Option Nat) : Value := match f with
  | some t => .ref (ad t)
  | none => .int (Int32.ofInt (σ q (k : Int)))
def cellE (ad : Nat → Nat) (cA : Nat → ClassId) (σ : St) (q : Nat) (c : Cs) : va_E := match c with
  | .inl (ci, fs) => .inr (ci, fs.mapIdx (fun k f => fieldV ad σ q k f))
  | .inr (tk, n) => if tk = 3 then .inl (cA 3, n, .inr (.inl (fun j => Int64.ofInt (σ q (j : Int))))) else .inl (cA tk, n, .inl (fun j => Int32.ofInt (σ q (j : Int))))
def wsO (ad : Nat → Nat) (cA : Nat → ClassId) (sh : List Cs) (σ : St) : va_W := sh.mapIdx (fun q c => (ad q, cellE ad cA σ q c))
theorem wsO_at (ad : Nat → Nat) (cA : Nat → ClassId) (sh : List Cs) (σ : St) (q : Nat) : (wsO ad cA sh σ)[q]? = (sh[q]?).map (fun c => (ad q, cellE ad cA σ q c)) := by
  unfold wsO; rw [List.getElem?_mapIdx]
theorem wsO_get {ad : Nat → Nat} {cA : Nat → ClassId} {sh : List Cs} {q : Nat} {c : Cs} (σ : St) (h : sh[q]? = some c) : (wsO ad cA sh σ)[q]? = some (ad q, cellE ad cA σ q c) := by
  rw [wsO_at, h]; rfl
theorem st2_ne {σ : St} {q : Nat} {k v : Int} {p : Nat} (h : p ≠ q) : st2 σ q k v p = σ p := by
  funext b; simp [st2, h]
theorem cellE_ne {ad : Nat → Nat} {cA : Nat → ClassId} {σ σ' : St} {q : Nat} (h : σ q = σ' q) (c : Cs) : cellE ad cA σ q c = cellE ad cA σ' q c := by
  match c with
  | .inl (ci, fs) => simp only [cellE, fieldV, h]
  | .inr (tk, n) => simp only [cellE, h]
/-- one cell's contents change -/
theorem wsO_set {ad : Nat → Nat} {cA : Nat → ClassId} {sh : List Cs} {σ : St} {q : Nat} {c : Cs} {k v : Int} (h : sh[q]? = some c) : (wsO ad cA sh σ).set q (ad q, cellE ad cA (st2 σ q k v) q c) = wsO ad cA sh (st2 σ q k v) := by
  apply List.ext_getElem?
  intro p
  rw [List.getElem?_set]
  by_cases hp : q = p
  · subst hp
    have hl : q < (wsO ad cA sh σ).length := by
      have := (List.getElem?_eq_some_iff.mp h).1
      simpa [wsO] using this
    rw [if_pos rfl, if_pos hl, wsO_at, h]; rfl
  · rw [if_neg hp, wsO_at, wsO_at]
    cases hs : sh[p]? with
    | none => rfl
    | some c' =>
      simp only [Option.map_some]
      rw [cellE_ne (σ := σ) (σ' := st2 σ q k v) (st2_ne (fun e => hp e.symm)).symm]
theorem cellE_fs {ad : Nat → Nat} {cA : Nat → ClassId} {σ : St} {q ci : Nat} {fs : List (Option Nat)} : cellE ad cA σ q (.inl (ci, fs)) = .inr (ci, fs.mapIdx (fun k f => fieldV ad σ q k f)) := rfl
theorem cellE_put {ad : Nat → Nat} {cA : Nat → ClassId} {σ : St} {q ci k : Nat} {fs : List (Option Nat)} {v : Int} (h : fs[k]? = some none) : (Sum.inr (ci, (fs.mapIdx (fun k f => fieldV ad σ q k f)).set k (.int (Int32.ofInt v))) : va_E) = cellE ad cA (st2 σ q k v) q (.inl (ci, fs)) := by
  rw [cellE_fs]
  congr 2
  apply List.ext_getElem?
  intro p
  have hl : k < fs.length := (List.getElem?_eq_some_iff.mp h).1
  rw [List.getElem?_set, List.getElem?_mapIdx, List.getElem?_mapIdx]
  by_cases hp : k = p
  · subst hp
    rw [if_pos rfl, if_pos (by simpa using hl), h]
    simp [fieldV, st2]
  · rw [if_neg hp]
    cases fs[p]? with
    | none => rfl
    | some f =>
      cases f with
      | some t => rfl
      | none =>
        simp only [Option.map_some, fieldV, st2]
        rw [if_neg]
        rintro ⟨-, e⟩
        exact hp (by omega)
theorem w32_def (a : Int) : (Int32.ofInt a).toInt = w32 a := rfl
theorem w32_clamp {a : Int} (h : 0 ≤ w32 a) : (((Int32.ofInt a).toNatClampNeg : Nat) : Int) = w32 a := by
  show ((w32 a).toNat : Int) = w32 a
  omega
theorem w32_in {a : Int} {n : Nat} (h : 0 ≤ w32 a ∧ w32 a < (n : Int)) : vp_in (Int32.ofInt a) n := vp_in_iff.mpr h
theorem cellE_i {ad : Nat → Nat} {cA : Nat → ClassId} {σ : St} {q tk n : Nat} (h : tk ≠ 3) : cellE ad cA σ q (.inr (tk, n)) = .inl (cA tk, n, .inl (fun j => Int32.ofInt (σ q (j : Int)))) := by simp [cellE, h]
theorem cellE_l {ad : Nat → Nat} {cA : Nat → ClassId} {σ : St} {q n : Nat} : cellE ad cA σ q (.inr (3, n)) = .inl (cA 3, n, .inr (.inl (fun j => Int64.ofInt (σ q (j : Int))))) := by simp [cellE]
theorem cellE_ist {ad : Nat → Nat} {cA : Nat → ClassId} {σ : St} {q tk n : Nat} {i v : Int} (h : tk ≠ 3) (hi : 0 ≤ w32 i) : (Sum.inl (cA tk, n, .inl (upd (fun j => Int32.ofInt (σ q (j : Int))) (Int32.ofInt i).toNatClampNeg (Int32.ofInt v))) : va_E) = cellE ad cA (st2 σ q (w32 i) v) q (.inr (tk, n)) := by
  rw [cellE_i h]
  congr 4
  funext j
  have hc := w32_clamp hi
  unfold upd st2
  by_cases hj : j = (Int32.ofInt i).toNatClampNeg
  · rw [if_pos hj, if_pos ⟨rfl, by rw [hj]; exact hc⟩]
  · rw [if_neg hj, if_neg]
    rintro ⟨-, e⟩
    exact hj (by omega)
theorem cellE_lst {ad : Nat → Nat} {cA : Nat → ClassId} {σ : St} {q n : Nat} {i v : Int} (hi : 0 ≤ w32 i) : (Sum.inl (cA 3, n, .inr (.inl (vp_updL (fun j => Int64.ofInt (σ q (j : Int))) (Int32.ofInt i).toNatClampNeg (Int64.ofInt v)))) : va_E) = cellE ad cA (st2 σ q (w32 i) v) q (.inr (3, n)) := by
  rw [cellE_l]
  congr 5
  funext j
  have hc := w32_clamp hi
  unfold vp_updL st2
  by_cases hj : j = (Int32.ofInt i).toNatClampNeg
  · rw [if_pos hj, if_pos ⟨rfl, by rw [hj]; exact hc⟩]
  · rw [if_neg hj, if_neg]
    rintro ⟨-, e⟩
    exact hj (by omega)
/-- the cells' addresses: apart, and of a kind -/
def AI (ad : Nat → Nat) (n : Nat) (A : Nat → Prop) : Prop := (∀ i j, i < n → j < n → ad i = ad j → i = j) ∧ ∀ i, i < n → A (ad i)
def AW (ad : Nat → Nat) (n : Nat) : Nat → Prop := fun q => ∃ k, k < n ∧ q = ad k
theorem AI.self {ad : Nat → Nat} {n : Nat} {A : Nat → Prop} (h : AI ad n A) : AI ad n (AW ad n) := ⟨h.1, fun i hi => ⟨i, hi, rfl⟩⟩
theorem AI.sub {ad : Nat → Nat} {n : Nat} {A : Nat → Prop} (h : AI ad n A) : ∀ q, AW ad n q → A q := by
  rintro q ⟨k, hk, rfl⟩; exact h.2 k hk
theorem wsO_lt {ad : Nat → Nat} {cA : Nat → ClassId} {sh : List Cs} {σ : St} {q : Nat} {x : Nat × va_E} (h : (wsO ad cA sh σ)[q]? = some x) : q < sh.length ∧ x.1 = ad q := by
  rw [wsO_at] at h
  cases hs : sh[q]? with
  | none => rw [hs] at h; cases h
  | some c =>
    rw [hs] at h
    exact ⟨(List.getElem?_eq_some_iff.mp hs).1, by rw [← Option.some.inj h]⟩
theorem wsO_D {ad : Nat → Nat} {cA : Nat → ClassId} {sh : List Cs} {A : Nat → Prop} (h : AI ad sh.length A) (σ : St) : va_D A (wsO ad cA sh σ) := by
  refine ⟨fun i j x y hi hj hxy => ?_, fun k x hk => ?_⟩
  · obtain ⟨a1, a2⟩ := wsO_lt hi
    obtain ⟨b1, b2⟩ := wsO_lt hj
    exact h.1 i j a1 b1 (by rw [← a2, ← b2, hxy])
  · obtain ⟨a1, a2⟩ := wsO_lt hk
    rw [a2]; exact h.2 k a1
def jtys (cA : Nat → ClassId) : List (ClassId × FieldType) := [(cA 0, .int), (cA 1, .byte), (cA 2, .boolean), (cA 3, .long)]
/-! locals -/
def jvalid (ls : List PV) (i : Nat) (v : PV) : Bool := match v with
  | .inr (.inr (.inr (.inr _))) => false
  | _ => if jcat v = 2 then (match ls[i + 1]? with
    | some (.inr (.inr (.inr (.inr _)))) => true
    | _ => false) else true
def jal (ad : Nat → Nat) (ls : List PV) : List (Nat × Value) := (List.range ls.length).filterMap (fun i => match ls[i]? with
  | some v => if jvalid ls i v then some (i, mv ad v) else none
  | none => none)
theorem jal_mem {ad : Nat → Nat} {ls : List PV} {i : Nat} {u : Value} : (i, u) ∈ jal ad ls ↔ ∃ v, ls[i]? = some v ∧ jvalid ls i v = true ∧ u = mv ad v := by
  unfold jal
  rw [List.mem_filterMap]
  constructor
  · rintro ⟨k, -, h⟩
    cases hk : ls[k]? with
    | none => rw [hk] at h; cases h
    | some v =>
      rw [hk] at h
      simp only at h
      by_cases hv : jvalid ls k v = true
      · rw [if_pos hv] at h
        cases h
        exact ⟨v, hk, hv, rfl⟩
      · rw [if_neg hv] at h; cases h
  · rintro ⟨v, h1, h2, rfl⟩
    refine ⟨i, by have := (List.getElem?_eq_some_iff.mp h1).1; simpa using this, ?_⟩
    rw [h1]
    simp only
    rw [if_pos h2]
def LH (ad : Nat → Nat) (lsA : Array Slot) (nL : Nat) (ls : List PV) : Prop := ls.length = nL ∧ lv_has lsA nL (jal ad ls)
theorem LH.get {ad : Nat → Nat} {lsA : Array Slot} {nL : Nat} {ls : List PV} (h : LH ad lsA nL ls) {i : Nat} {v : PV} (h1 : ls[i]? = some v) (h2 : jvalid ls i v = true) : lsA[i]? = some (.val (mv ad v)) := h.2.2.2 (i, mv ad v) (jal_mem.mpr ⟨v, h1, h2, rfl⟩)
theorem LH.set1 {ad : Nat → Nat} {lsA lsB : Array Slot} {nL i : Nat} {ls : List PV} {v : PV} (h : LH ad lsA nL ls) (hi : i < nL) (hv : jvalid (ls.set i v) i v = true) (hc : jcat v = 1)
    (h' : lv_has lsB nL ((i, mv ad v) :: (jal ad ls).filter (fun q => !(q.1 == i) && !(q.1 + 1 == i && q.2.category == 2)))) : LH ad lsB nL (ls.set i v) := by
  refine ⟨by rw [List.length_set]; exact h.1, h'.1, h'.2.1, ?_⟩
  rintro ⟨j, u⟩ hj
  obtain ⟨w, e1, e2, rfl⟩ := jal_mem.mp hj
  refine h'.2.2 _ ?_
  by_cases hji : i = j
  · subst hji
    rw [List.getElem?_set_self (by rw [h.1]; exact hi)] at e1
    cases e1
    exact List.mem_cons_self
  · rw [List.getElem?_set_ne hji] at e1
    refine List.mem_cons_of_mem _ (List.mem_filter.mpr ⟨jal_mem.mpr ⟨w, e1, ?_, rfl⟩, ?_⟩)
    · unfold jvalid at e2 ⊢
      match w, e2 with
      | .inl a, e2 => rfl
      | .inr (.inl a), e2 =>
        simp only [jcat, if_true] at e2 ⊢
        by_cases hk : i = j + 1
        · subst hk
          rw [List.getElem?_set_self (by rw [h.1]; exact hi)] at e2
          match v, hv, e2 with
          | .inr (.inr (.inr (.inr _))), hv, _ => simp [jvalid] at hv
        · rw [List.getElem?_set_ne hk] at e2
          exact e2
      | .inr (.inr (.inl a)), e2 =>
        simp only [jcat, if_true] at e2 ⊢
        by_cases hk : i = j + 1
        · subst hk
          rw [List.getElem?_set_self (by rw [h.1]; exact hi)] at e2
          match v, hv, e2 with
          | .inr (.inr (.inr (.inr _))), hv, _ => simp [jvalid] at hv
        · rw [List.getElem?_set_ne hk] at e2
          exact e2
      | .inr (.inr (.inr (.inl a))), e2 => rfl
      | .inr (.inr (.inr (.inr _))), e2 => simp at e2
    · have hne : (j == i) = false := by simp; exact fun e => hji e.symm
      simp only [hne, Bool.not_false, Bool.true_and]
      by_cases hk : j + 1 = i
      · subst hk
        have h2 : jcat w ≠ 2 := by
          intro h2
          unfold jvalid at e2
          rw [List.getElem?_set_self (by rw [h.1]; exact hi)] at e2
          match w, h2, e2 with
          | .inr (.inl a), _, e2 =>
            match v, hv, e2 with
            | .inr (.inr (.inr (.inr _))), hv, _ => simp [jvalid] at hv
            | .inl _, _, e2 => simp [jcat] at e2
            | .inr (.inl _), _, e2 => simp [jcat] at e2
            | .inr (.inr (.inl _)), _, e2 => simp [jcat] at e2
            | .inr (.inr (.inr (.inl _))), _, e2 => simp [jcat] at e2
          | .inr (.inr (.inl a)), _, e2 =>
            match v, hv, e2 with
            | .inr (.inr (.inr (.inr _))), hv, _ => simp [jvalid] at hv
            | .inl _, _, e2 => simp [jcat] at e2
            | .inr (.inl _), _, e2 => simp [jcat] at e2
            | .inr (.inr (.inl _)), _, e2 => simp [jcat] at e2
            | .inr (.inr (.inr (.inl _))), _, e2 => simp [jcat] at e2
        rw [mv_cat]
        simp [h2]
      · simp [hk]
theorem LH.set2 {ad : Nat → Nat} {lsA lsB : Array Slot} {nL i : Nat} {ls : List PV} {v : PV} (h : LH ad lsA nL ls) (hi : i + 1 < nL) (hc : jcat v = 2)
    (h' : lv_has lsB nL ((i, mv ad v) :: (jal ad ls).filter (fun q => !(q.1 == i) && (!(q.1 == i + 1) && !(q.1 + 1 == i && q.2.category == 2))))) : LH ad lsB nL ((ls.set i v).set (i + 1) vU) := by
  have hgi : ∀ j : Nat, ((ls.set i v).set (i + 1) vU)[j]? = if j = i + 1 then some vU else if j = i then some v else ls[j]? := by
    intro j
    by_cases h1 : j = i + 1
    · subst h1
      rw [if_pos rfl, List.getElem?_set_self (by rw [List.length_set, h.1]; exact hi)]
    · rw [if_neg h1, List.getElem?_set_ne (fun e => h1 e.symm)]
      by_cases h2 : j = i
      · subst h2
        rw [if_pos rfl, List.getElem?_set_self (by rw [h.1]; omega)]
      · rw [if_neg h2, List.getElem?_set_ne (fun e => h2 e.symm)]
  refine ⟨by rw [List.length_set, List.length_set]; exact h.1, h'.1, h'.2.1, ?_⟩
  rintro ⟨j, u⟩ hj
  obtain ⟨w, e1, e2, rfl⟩ := jal_mem.mp hj
  refine h'.2.2 _ ?_
  rw [hgi] at e1
  by_cases h1 : j = i + 1
  · rw [if_pos h1] at e1; cases e1; simp [jvalid] at e2
  · rw [if_neg h1] at e1
    by_cases h2 : j = i
    · subst h2
      rw [if_pos rfl] at e1; cases e1
      exact List.mem_cons_self
    · rw [if_neg h2] at e1
      have hcat : jcat w = 2 → j + 1 ≠ i ∧ jvalid ls j w = true := by
        intro hw
        have e3 : (match ((ls.set i v).set (i + 1) vU)[j + 1]? with
            | some (.inr (.inr (.inr (.inr _)))) => true
            | _ => false) = true := by
          unfold jvalid at e2
          match w, hw, e2 with
          | .inr (.inl a), _, e2 => simpa [jcat] using e2
          | .inr (.inr (.inl a)), _, e2 => simpa [jcat] using e2
        rw [hgi] at e3
        have n1 : ¬ (j + 1 = i + 1) := fun e => h2 (by omega)
        rw [if_neg n1] at e3
        by_cases n2 : j + 1 = i
        · rw [if_pos n2] at e3
          match v, hc, e3 with
          | .inr (.inl a), _, e3 => simp at e3
          | .inr (.inr (.inl a)), _, e3 => simp at e3
        · rw [if_neg n2] at e3
          refine ⟨n2, ?_⟩
          unfold jvalid
          match w, hw with
          | .inr (.inl a), _ => simpa [jcat] using e3
          | .inr (.inr (.inl a)), _ => simpa [jcat] using e3
      refine List.mem_cons_of_mem _ (List.mem_filter.mpr ⟨jal_mem.mpr ⟨w, e1, ?_, rfl⟩, ?_⟩)
      · by_cases hw : jcat w = 2
        · exact (hcat hw).2
        · unfold jvalid at e2 ⊢
          match w, hw, e2 with
          | .inl a, _, _ => rfl
          | .inr (.inl a), hw, _ => exact absurd rfl hw
          | .inr (.inr (.inl a)), hw, _ => exact absurd rfl hw
          | .inr (.inr (.inr (.inl a))), _, _ => rfl
          | .inr (.inr (.inr (.inr _))), _, e2 => simp at e2
      · rw [mv_cat]
        have n1 : (j == i) = false := by simpa using h2
        have n2 : (j == i + 1) = false := by simpa using h1
        rw [n1, n2]
        by_cases hw : jcat w = 2
        · have := (hcat hw).1
          simp [this]
        · simp [hw]
