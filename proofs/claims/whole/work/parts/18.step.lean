section SND4
variable {p : Program} {l : Launch} {e : Env} {R : Room} {s : State} {m : MethodId} {args : Array Value} {below : List Frame} {meth : Method} {c : Code} {cells slots : Nat} {Q : State → Prop}
variable {D : va_G} {ad : Nat → Nat} {cA : Nat → ClassId} {V : Vw} {A : Nat → Prop} {nL : Nat} {M : MT} {pc pc1 : Nat} {ls st : List PV} {σ : St} {c' : Nat × List PV × List PV × St}
theorem g_push {v : PV} {w : Value} (hv : mv ad v = w) (hs : jnx pc1 ls (v :: st) σ = some (.inl c'))
    (hrow : ∀ (H : Heap) (locs : List Loc) (lsA : Array Slot) (r : List Value), W p l e R s m args below meth c H locs cells slots Q (F0 m pc1 lsA (w :: r)) → W p l e R s m args below meth c H locs cells slots Q (F0 m pc lsA r))
    (K : GO p l e R s m args below meth c cells slots Q D ad cA V A nL c'.1 c'.2.1 c'.2.2.1 c'.2.2.2) : GO p l e R s m args below meth c cells slots Q D ad cA V A nL pc ls st σ := by
  obtain rfl := jnx_inj (a := (_, _, _, _)) hs
  intro H locs lsA hP hS hl
  refine hrow H locs lsA _ ?_
  rw [← hv]
  exact K H locs lsA hP hS hl
theorem jw_eq (a b : Int) : (w32 a = w32 b) = (Int32.ofInt a = Int32.ofInt b) := propext Int32.toInt_inj
theorem jw_lt (a b : Int) : (w32 a < w32 b) = (Int32.ofInt a < Int32.ofInt b) := propext Int32.lt_iff_toInt_lt.symm
theorem jw_le (a b : Int) : (w32 a ≤ w32 b) = (Int32.ofInt a ≤ Int32.ofInt b) := propext Int32.le_iff_toInt_le.symm
theorem jcnd_w (cd : Jvm.ClassFile.Cond) (a : Int) : jcnd cd (w32 a) 0 = jcnd cd (w32 a) (w32 0) := by rw [w32_0]
theorem br_i {cc : Prop} [Decidable cc] {t u : Nat} {lsA : Array Slot} {r : List Value} {H : Heap} {locs : List Loc} (k : W p l e R s m args below meth c H locs cells slots Q (F0 m (if decide cc = true then t else u) lsA r)) : (cc → W p l e R s m args below meth c H locs cells slots Q (F0 m t lsA r)) ∧ (¬ cc → W p l e R s m args below meth c H locs cells slots Q (F0 m u lsA r)) := by
  refine ⟨fun h => ?_, fun h => ?_⟩
  · rw [if_pos (by simpa using h)] at k; exact k
  · rw [if_neg (by simpa using h)] at k; exact k
theorem jcnd_1 {cd : Jvm.ClassFile.Cond} {off : Int} (hx : p.tables.exec = Jvm.exec) (hb : c.code = M.1) (hd : decode M.1 pc = .ok (.ifCond cd off, 3)) (H : Heap) (locs : List Loc) (lsA : Array Slot) (a : Int) (r : List Value) (t : Nat) (ht : (pc : Int) + off = (t : Int))
    (k : W p l e R s m args below meth c H locs cells slots Q (F0 m (if jcnd cd (w32 a) 0 then t else pc + 3) lsA r)) : W p l e R s m args below meth c H locs cells slots Q (F0 m pc lsA (.int (Int32.ofInt a) :: r)) := by
  rw [jcnd_w] at k
  cases cd
  case eq =>
    simp only [jcnd, jw_eq] at k
    have k := br_i k
    exact lv_if_eq hx hb hd ht k.1 k.2
  case ne =>
    simp only [jcnd, ne_eq, jw_eq] at k
    have k := br_i k
    exact lv_if_ne hx hb hd ht k.1 (fun h => k.2 (fun n => n h))
  case lt =>
    simp only [jcnd, jw_lt] at k
    have k := br_i k
    exact lv_if_lt hx hb hd ht k.1 k.2
  case ge =>
    simp only [jcnd, jw_le] at k
    have k := br_i k
    exact lv_if_ge hx hb hd ht k.1 k.2
  case gt =>
    simp only [jcnd, jw_lt] at k
    have k := br_i k
    exact lv_if_gt hx hb hd ht k.1 k.2
  case le =>
    simp only [jcnd, jw_le] at k
    have k := br_i k
    exact lv_if_le hx hb hd ht k.1 k.2
theorem jcnd_2 {cd : Jvm.ClassFile.Cond} {off : Int} (hx : p.tables.exec = Jvm.exec) (hb : c.code = M.1) (hd : decode M.1 pc = .ok (.if_icmp cd off, 3)) (H : Heap) (locs : List Loc) (lsA : Array Slot) (a b : Int) (r : List Value) (t : Nat) (ht : (pc : Int) + off = (t : Int))
    (k : W p l e R s m args below meth c H locs cells slots Q (F0 m (if jcnd cd (w32 a) (w32 b) then t else pc + 3) lsA r)) : W p l e R s m args below meth c H locs cells slots Q (F0 m pc lsA (.int (Int32.ofInt b) :: .int (Int32.ofInt a) :: r)) := by
  cases cd
  case eq =>
    simp only [jcnd, jw_eq] at k
    have k := br_i k
    exact lv_icmp_eq hx hb hd ht k.1 k.2
  case ne =>
    simp only [jcnd, ne_eq, jw_eq] at k
    have k := br_i k
    exact lv_icmp_ne hx hb hd ht k.1 (fun h => k.2 (fun n => n h))
  case lt =>
    simp only [jcnd, jw_lt] at k
    have k := br_i k
    exact lv_icmp_lt hx hb hd ht k.1 k.2
  case ge =>
    simp only [jcnd, jw_le] at k
    have k := br_i k
    exact lv_icmp_ge hx hb hd ht k.1 k.2
  case gt =>
    simp only [jcnd, jw_lt] at k
    have k := br_i k
    exact lv_icmp_gt hx hb hd ht k.1 k.2
  case le =>
    simp only [jcnd, jw_le] at k
    have k := br_i k
    exact lv_icmp_le hx hb hd ht k.1 k.2
end SND4
