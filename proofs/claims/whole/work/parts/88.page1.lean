/-! the page as a list of writes (line, place, sign) -/
def wr1 (f : Int → Int) (w : Int × Int × Int) : Int → Int := fun j => if (0 ≤ w.1 ∧ w.1 < 28 ∧ 0 ≤ w.2.1 ∧ w.2.1 < 40) ∧ j = 40 * w.1 + w.2.1 then w.2.2 else f j
def wrs (f : Int → Int) : List (Int × Int × Int) → Int → Int
  | [] => f
  | w :: ws => wrs (wr1 f w) ws
theorem wrs_app (f : Int → Int) (a b : List (Int × Int × Int)) : wrs f (a ++ b) = wrs (wrs f a) b := by
  induction a generalizing f with
  | nil => rfl
  | cons w a ih => exact ih (wr1 f w)
theorem wrs_pt {f g : Int → Int} {j : Int} (h : f j = g j) (ws : List (Int × Int × Int)) : wrs f ws j = wrs g ws j := by
  induction ws generalizing f g with
  | nil => exact h
  | cons w ws ih =>
    refine ih ?_
    unfold wr1
    split
    · rfl
    · exact h
/-- writes of other lines don't show at a place -/
theorem wrs_keep (P : Int × Int × Int → Bool) {f : Int → Int} {j : Int} (h : ∀ w : Int × Int × Int, P w = false → ¬ ((0 ≤ w.1 ∧ w.1 < 28 ∧ 0 ≤ w.2.1 ∧ w.2.1 < 40) ∧ j = 40 * w.1 + w.2.1)) (ws : List (Int × Int × Int)) : wrs f ws j = wrs f (ws.filter P) j := by
  induction ws generalizing f with
  | nil => rfl
  | cons w ws ih =>
    cases hw : P w with
    | true =>
      rw [List.filter_cons_of_pos (by rw [hw])]
      exact ih
    | false =>
      rw [List.filter_cons_of_neg (by rw [hw]; decide)]
      show wrs (wr1 f w) ws j = _
      rw [← ih (f := f)]
      refine wrs_pt ?_ ws
      unfold wr1
      rw [if_neg (h w hw)]
def pgS (S : St) (ws : List (Int × Int × Int)) : St := fun q j => if q = 30 then wrs (S 30) ws j else S q j
def pgT (T : St) (ws : List (Int × Int × Int)) : St := fun q j => if q = 54 then wrs (T 54) ws j else T q j
theorem pgS_30 (S : St) (ws : List (Int × Int × Int)) : pgS S ws 30 = wrs (S 30) ws := by
  funext j
  unfold pgS
  rw [if_pos rfl]
theorem pgT_54 (T : St) (ws : List (Int × Int × Int)) : pgT T ws 54 = wrs (T 54) ws := by
  funext j
  unfold pgT
  rw [if_pos rfl]
theorem pgS_ne {S : St} {ws : List (Int × Int × Int)} {q : Nat} (h : q ≠ 30) : pgS S ws q = S q := by
  funext j
  unfold pgS
  rw [if_neg h]
theorem pgT_ne {T : St} {ws : List (Int × Int × Int)} {q : Nat} (h : q ≠ 54) : pgT T ws q = T q := by
  funext j
  unfold pgT
  rw [if_neg h]
theorem pgS_nil (S : St) : pgS S [] = S := by
  funext q j
  unfold pgS
  by_cases z : q = 30
  · rw [if_pos z, z]; rfl
  · rw [if_neg z]
theorem pgT_nil (T : St) : pgT T [] = T := by
  funext q j
  unfold pgT
  by_cases z : q = 54
  · rw [if_pos z, z]; rfl
  · rw [if_neg z]
theorem pgS_app (S : St) (a b : List (Int × Int × Int)) : pgS (pgS S a) b = pgS S (a ++ b) := by
  funext q j
  by_cases z : q = 30
  · rw [z, pgS_30, pgS_30, pgS_30, wrs_app]
  · rw [pgS_ne z, pgS_ne z, pgS_ne z]
theorem pgT_app (T : St) (a b : List (Int × Int × Int)) : pgT (pgT T a) b = pgT T (a ++ b) := by
  funext q j
  by_cases z : q = 54
  · rw [z, pgT_54, pgT_54, pgT_54, wrs_app]
  · rw [pgT_ne z, pgT_ne z, pgT_ne z]
theorem pgS_one (S : St) {l i c : Int} (h : 0 ≤ l ∧ l < 28 ∧ 0 ≤ i ∧ i < 40) : pgS S [(l, i, c)] = st2 S 30 (l * 40 + i) c := by
  funext q j
  unfold pgS st2
  by_cases z : q = 30
  · rw [if_pos z, z]
    show wr1 (S 30) (l, i, c) j = _
    unfold wr1
    by_cases y : j = l * 40 + i
    · rw [if_pos ⟨h, by show j = 40 * l + i; omega⟩, if_pos ⟨rfl, y⟩]
    · rw [if_neg (fun w => y (by have : j = 40 * l + i := w.2; omega)), if_neg (fun w => y w.2)]
  · rw [if_neg z, if_neg (fun w => z w.1)]
theorem pgS_out (S : St) {l i c : Int} (h : ¬ (0 ≤ l ∧ l < 28 ∧ 0 ≤ i ∧ i < 40)) : pgS S [(l, i, c)] = S := by
  funext q j
  unfold pgS
  by_cases z : q = 30
  · rw [if_pos z, z]
    show wr1 (S 30) (l, i, c) j = _
    unfold wr1
    rw [if_neg (fun w => h w.1)]
  · rw [if_neg z]
theorem pgT_one (T : St) {l i c : Int} (h : 0 ≤ l ∧ l < 28 ∧ 0 ≤ i ∧ i < 40) : pgT T [(l, i, c)] = st2 T 54 (40 * l + i) c := by
  funext q j
  unfold pgT st2
  by_cases z : q = 54
  · rw [if_pos z, z]
    show wr1 (T 54) (l, i, c) j = _
    unfold wr1
    by_cases y : j = 40 * l + i
    · rw [if_pos ⟨h, y⟩, if_pos ⟨rfl, y⟩]
    · rw [if_neg (fun w => y w.2), if_neg (fun w => y w.2)]
  · rw [if_neg z, if_neg (fun w => z w.1)]
theorem pgT_out (T : St) {l i c : Int} (h : ¬ (0 ≤ l ∧ l < 28 ∧ 0 ≤ i ∧ i < 40)) : pgT T [(l, i, c)] = T := by
  funext q j
  unfold pgT
  by_cases z : q = 54
  · rw [if_pos z, z]
    show wr1 (T 54) (l, i, c) j = _
    unfold wr1
    rw [if_neg (fun w => h w.1)]
  · rw [if_neg z]
theorem b8_tab : ∀ c : Nat, c < 128 → b8 (c : Int) = c := by decide +kernel
theorem b8_id {c : Int} (h1 : 0 ≤ c) (h2 : c ≤ 127) : b8 c = c := by
  have := b8_tab c.toNat (by omega)
  rw [show ((c.toNat : Nat) : Int) = c by omega] at this
  exact this
theorem X4_put_ok (k : Nat × (Int → Int)) (d : Nat) (S : St) {l i : Int} (c : Int) (l1 : -1000 ≤ l) (l2 : l ≤ 1000000) (i1 : -1000 ≤ i) (i2 : i ≤ 1000000) : EV k (d + 1) mX4_put [vR 5, vI l, vI i, vI c] S = some (none, pgS S [(l, i, c)]) := by
  rw [eX4_put, bX4_put_0, w32_id (a := l) (by omega) (by omega), w32_id (a := i) (by omega) (by omega), show w32 28 = 28 by decide, show w32 40 = 40 by decide]
  by_cases a1 : l < 0
  · rw [if_pos a1, pgS_out S (by omega)]
  · rw [if_neg a1]
    by_cases a2 : l < 28
    · rw [if_pos a2]
      by_cases a3 : i < 0
      · rw [if_pos a3, pgS_out S (by omega)]
      · rw [if_neg a3]
        by_cases a4 : i < 40
        · rw [if_pos a4, w32_id (a := l * 40 + i) (by omega) (by omega), if_pos (by omega), pgS_one S (by omega)]
        · rw [if_neg a4, pgS_out S (by omega)]
    · rw [if_neg a2, pgS_out S (by omega)]
theorem X9_write_ok (k : Nat × (Int → Int)) (d : Nat) (T : St) {l i c : Int} (l1 : 0 ≤ l) (l2 : l ≤ 1000000) (i1 : 0 ≤ i) (i2 : i ≤ 1000000) (c1 : 0 ≤ c) (c2 : c ≤ 127) : EV k (d + 1) mX9_write [vR 33, vI l, vI i, vI c] T = some (none, pgT T [(l, i, c)]) := by
  rw [eX9_write, bX9_write_0, w32_id (a := l) (by omega) (by omega), w32_id (a := i) (by omega) (by omega), show w32 28 = 28 by decide, show w32 40 = 40 by decide, b8_id c1 c2, b8_id c1 c2]
  by_cases a2 : l < 28
  · rw [if_pos a2]
    by_cases a4 : i < 40
    · rw [if_pos a4, w32_id (a := 40 * l + i) (by omega) (by omega), if_pos (by omega), pgT_one T (by omega)]
    · rw [if_neg a4, pgT_out T (by omega)]
  · rw [if_neg a2, pgT_out T (by omega)]
def twoW (l i n : Int) : List (Int × Int × Int) := [(l, i, if n / 10 % 10 = 0 then 32 else 48 + n / 10 % 10), (l, i + 1, 48 + n % 10)]
theorem X4_two_ok (k : Nat × (Int → Int)) (d : Nat) (S : St) {l i n : Int} (l1 : 0 ≤ l) (l2 : l ≤ 1000000) (i1 : 0 ≤ i) (i2 : i ≤ 1000) (n1 : 0 ≤ n) (n2 : n ≤ 1000000) : EV k (d + 2) mX4_putTwoDigits [vR 5, vI l, vI i, vI n] S = some (none, pgS S (twoW l i n)) := by
  rw [eX4_putTwoDigits, bX4_putTwoDigits_0, jq_pos n1 (by omega) (by omega) (by omega), jr_pos (a := n / 10) (by omega) (by omega) (by omega) (by omega), jr_pos n1 (by omega) (by omega) (by omega), w32_id (a := n / 10 % 10) (by omega) (by omega)]
  unfold twoW
  by_cases z : n / 10 % 10 = 0
  · rw [if_pos z, if_pos z, X4_put_ok k d S _ (by omega) l2 (by omega) (by omega), jbV_some, X4_put_ok k d _ _ (by omega) l2 (by omega) (by omega), jbV_some, pgS_app]
    rfl
  · rw [if_neg z, if_neg z, X4_put_ok k d S _ (by omega) l2 (by omega) (by omega), jbV_some, X4_put_ok k d _ _ (by omega) l2 (by omega) (by omega), jbV_some, pgS_app]
    rfl
theorem X9_day_ok (k : Nat × (Int → Int)) (d : Nat) (T : St) {l i n : Int} (l1 : 0 ≤ l) (l2 : l ≤ 1000000) (i1 : 0 ≤ i) (i2 : i ≤ 1000) (n1 : 0 ≤ n) (n2 : n ≤ 1000000) : EV k (d + 2) mX9_writeDay [vR 33, vI l, vI i, vI n] T = some (none, pgT T (twoW l i n)) := by
  rw [eX9_writeDay, bX9_writeDay_0, jq_pos n1 (by omega) (by omega) (by omega), jr_pos (a := n / 10) (by omega) (by omega) (by omega) (by omega), jr_pos n1 (by omega) (by omega) (by omega), w32_id (a := n / 10 % 10) (by omega) (by omega)]
  unfold twoW
  by_cases z : n / 10 % 10 = 0
  · rw [if_pos z, if_pos z, X9_write_ok k d T l1 l2 i1 (by omega) (by omega) (by omega), jbV_some, X9_write_ok k d _ l1 l2 (by omega) (by omega) (by omega) (by omega), jbV_some, pgT_app]
    rfl
  · rw [if_neg z, if_neg z, X9_write_ok k d T l1 l2 i1 (by omega) (by omega) (by omega), jbV_some, X9_write_ok k d _ l1 l2 (by omega) (by omega) (by omega) (by omega), jbV_some, pgT_app]
    rfl
/-- a number's digits from a unit of m zeros on -/
def digW (l v : Int) : Nat → Int → List (Int × Int × Int)
  | 0, i => [(l, i, 48 + v % 10)]
  | m + 1, i => (l, i, 48 + v / 10 ^ (m + 1) % 10) :: digW l v m (i + 1)
def nzs (v : Int) : Nat := if v < 10 then 0 else if v < 100 then 1 else if v < 1000 then 2 else 3
def numW (l i v : Int) : List (Int × Int × Int) := digW l v (nzs v) i
theorem pw_b (m : Nat) (h : m ≤ 3) : (1 : Int) ≤ 10 ^ m ∧ (10 : Int) ^ m ≤ 1000 := by
  have : m = 0 ∨ m = 1 ∨ m = 2 ∨ m = 3 := by omega
  rcases this with z | z | z | z <;> subst z <;> decide
theorem dig4 (k : Nat × (Int → Int)) (d : Nat) {l x2 v x4 : Int} (l1 : 0 ≤ l) (l2 : l ≤ 1000000) (v1 : 0 ≤ v) (v2 : v ≤ 10000) : ∀ (m : Nat) (i : Int) (S : St), m ≤ 3 → 0 ≤ i → i + m ≤ 1003 → out (WV k) (EV k (d + 1)) MX4_putNumber 36 [vR 5, vI l, vI x2, vI v, vI x4, vI i, vI (10 ^ m)] [] S = ansI (i + m + 1) (pgS S (digW l v m i)) := by
  intro m
  induction m with
  | zero =>
    intro i S _ i0 i1
    rw [show (10 : Int) ^ 0 = 1 from rfl, bX4_putNumber_36, if_pos (by decide), if_neg (by decide), jq_pos v1 (by omega) (by omega) (by omega), Int.ediv_one, jr_pos v1 (by omega) (by omega) (by omega), X4_put_ok k d S _ (by omega) l2 (by omega) (by omega), jbV_some, show jq 1 10 = 0 by decide, bX4_putNumber_36, if_neg (by decide)]
    exact ansI_c (by omega)
  | succ m ih =>
    intro i S m3 i0 i1
    push_cast at i1
    have pb := pw_b (m + 1) m3
    have pm := pw_b m (by omega)
    have pe : (10 : Int) ^ (m + 1) = 10 ^ m * 10 := Int.pow_succ 10 m
    have q1 : v / 10 ^ (m + 1) ≤ 10000 := Int.le_trans (Int.ediv_le_self _ v1) v2
    have q0 : 0 ≤ v / 10 ^ (m + 1) := Int.ediv_nonneg v1 (by omega)
    have e10 : jq (10 ^ (m + 1)) 10 = 10 ^ m := by rw [jq_pos (by omega) (by omega) (by omega) (by omega), pe]; omega
    rw [bX4_putNumber_36, w32_id (a := 10 ^ (m + 1)) (by omega) (by omega), if_pos (by omega), if_neg (by omega), jq_pos v1 (by omega) (by omega) (by omega), jr_pos q0 (by omega) (by omega) (by omega), X4_put_ok k d S _ (by omega) l2 (by omega) (by omega), jbV_some, e10, ih (i + 1) _ (by omega) (by omega) (by omega), pgS_app]
    show ansI (i + 1 + m + 1) _ = ansI (i + ((m + 1 : Nat) : Int) + 1) _
    rw [show i + 1 + (m : Int) + 1 = i + ((m + 1 : Nat) : Int) + 1 by push_cast; omega]
    rfl
theorem dig9 (k : Nat × (Int → Int)) (d : Nat) {l x2 v : Int} (l1 : 0 ≤ l) (l2 : l ≤ 1000000) (v1 : 0 ≤ v) (v2 : v ≤ 10000) : ∀ (m : Nat) (i : Int) (T : St), m ≤ 3 → 0 ≤ i → i + m ≤ 1003 → out (WV k) (EV k (d + 1)) MX9_writeNumber 25 [vR 33, vI l, vI x2, vI v, vI (10 ^ m), vI i] [] T = ansI (i + m + 1) (pgT T (digW l v m i)) := by
  intro m
  induction m with
  | zero =>
    intro i T _ i0 i1
    rw [show (10 : Int) ^ 0 = 1 from rfl, bX9_writeNumber_25, if_pos (by decide), if_neg (by decide), jq_pos v1 (by omega) (by omega) (by omega), Int.ediv_one, jr_pos v1 (by omega) (by omega) (by omega), X9_write_ok k d T l1 l2 i0 (by omega) (by omega) (by omega), jbV_some, show jq 1 10 = 0 by decide, bX9_writeNumber_25, if_neg (by decide)]
    exact ansI_c (by omega)
  | succ m ih =>
    intro i T m3 i0 i1
    push_cast at i1
    have pb := pw_b (m + 1) m3
    have pm := pw_b m (by omega)
    have pe : (10 : Int) ^ (m + 1) = 10 ^ m * 10 := Int.pow_succ 10 m
    have q1 : v / 10 ^ (m + 1) ≤ 10000 := Int.le_trans (Int.ediv_le_self _ v1) v2
    have q0 : 0 ≤ v / 10 ^ (m + 1) := Int.ediv_nonneg v1 (by omega)
    have e10 : jq (10 ^ (m + 1)) 10 = 10 ^ m := by rw [jq_pos (by omega) (by omega) (by omega) (by omega), pe]; omega
    rw [bX9_writeNumber_25, w32_id (a := 10 ^ (m + 1)) (by omega) (by omega), if_pos (by omega), if_neg (by omega), jq_pos v1 (by omega) (by omega) (by omega), jr_pos q0 (by omega) (by omega) (by omega), X9_write_ok k d T l1 l2 i0 (by omega) (by omega) (by omega), jbV_some, e10, ih (i + 1) _ (by omega) (by omega) (by omega), pgT_app]
    show ansI (i + 1 + m + 1) _ = ansI (i + ((m + 1 : Nat) : Int) + 1) _
    rw [show i + 1 + (m : Int) + 1 = i + ((m + 1 : Nat) : Int) + 1 by push_cast; omega]
    rfl
theorem X4_number_ok (k : Nat × (Int → Int)) (d : Nat) (S : St) {l i v : Int} (l1 : 0 ≤ l) (l2 : l ≤ 1000000) (i1 : 0 ≤ i) (i2 : i ≤ 1000) (v1 : 0 ≤ v) (v2 : v ≤ 9999) : EV k (d + 2) mX4_putNumber [vR 5, vI l, vI i, vI v] S = ansI (i + nzs v + 1) (pgS S (numW l i v)) := by
  have stop : ∀ m : Nat, m ≤ 3 → v / 10 ^ m < 10 → out (WV k) (EV k (d + 1)) MX4_putNumber 3 [vR 5, vI l, vI i, vI v, vI (10 ^ m), vU, vU] [] S = ansI (i + m + 1) (pgS S (digW l v m i)) := by
    intro m m3 hv
    have pb := pw_b m m3
    have q0 : 0 ≤ v / 10 ^ m := Int.ediv_nonneg v1 (by omega)
    rw [bX4_putNumber_3, w32_id (a := 10 ^ m) (by omega) (by omega), show w32 100000000 = 100000000 by decide, if_pos (by omega), if_neg (by omega), jq_pos v1 (by omega) (by omega) (by omega), w32_id (a := v / 10 ^ m) (by omega) (by omega), show w32 10 = 10 by decide, if_pos hv]
    exact dig4 k d l1 l2 v1 (by omega) m i S m3 i1 (by omega)
  have go : ∀ m : Nat, m ≤ 3 → 10 ≤ v / 10 ^ m → out (WV k) (EV k (d + 1)) MX4_putNumber 3 [vR 5, vI l, vI i, vI v, vI (10 ^ m), vU, vU] [] S = out (WV k) (EV k (d + 1)) MX4_putNumber 3 [vR 5, vI l, vI i, vI v, vI (10 ^ (m + 1)), vU, vU] [] S := by
    intro m m3 hv
    have pb := pw_b m m3
    have q1 : v / 10 ^ m ≤ 10000 := Int.le_trans (Int.ediv_le_self _ v1) (by omega)
    rw [bX4_putNumber_3, w32_id (a := 10 ^ m) (by omega) (by omega), show w32 100000000 = 100000000 by decide, if_pos (by omega), if_neg (by omega), jq_pos v1 (by omega) (by omega) (by omega), w32_id (a := v / 10 ^ m) (by omega) (by omega), show w32 10 = 10 by decide, if_neg (by omega), Int.pow_succ]
  have p0 : v / 10 ^ 0 = v := Int.ediv_one v
  have p1 : v / 10 ^ 1 = v / 10 := rfl
  have p2 : v / 10 ^ 2 = v / 100 := rfl
  have p3 : v / 10 ^ 3 = v / 1000 := rfl
  rw [eX4_putNumber, bX4_putNumber_0]
  show out (WV k) (EV k (d + 1)) MX4_putNumber 3 [vR 5, vI l, vI i, vI v, vI (10 ^ 0), vU, vU] [] S = _
  unfold numW nzs
  by_cases a1 : v < 10
  · rw [if_pos a1, stop 0 (by omega) (by omega)]
  · rw [if_neg a1, go 0 (by omega) (by omega)]
    by_cases a2 : v < 100
    · rw [if_pos a2, stop 1 (by omega) (by omega)]
    · rw [if_neg a2, go 1 (by omega) (by omega)]
      by_cases a3 : v < 1000
      · rw [if_pos a3, stop 2 (by omega) (by omega)]
      · rw [if_neg a3, go 2 (by omega) (by omega), stop 3 (by omega) (by omega)]
theorem X9_number_ok (k : Nat × (Int → Int)) (d : Nat) (T : St) {l i v : Int} (l1 : 0 ≤ l) (l2 : l ≤ 1000000) (i1 : 0 ≤ i) (i2 : i ≤ 1000) (v1 : 0 ≤ v) (v2 : v ≤ 9999) : EV k (d + 2) mX9_writeNumber [vR 33, vI l, vI i, vI v] T = ansI (i + nzs v + 1) (pgT T (numW l i v)) := by
  have stop : ∀ m : Nat, m ≤ 3 → v / 10 ^ m < 10 → out (WV k) (EV k (d + 1)) MX9_writeNumber 3 [vR 33, vI l, vI i, vI v, vI (10 ^ m), vU] [] T = ansI (i + m + 1) (pgT T (digW l v m i)) := by
    intro m m3 hv
    have pb := pw_b m m3
    have q0 : 0 ≤ v / 10 ^ m := Int.ediv_nonneg v1 (by omega)
    rw [bX9_writeNumber_3, w32_id (a := 10 ^ m) (by omega) (by omega), if_neg (by omega), jq_pos v1 (by omega) (by omega) (by omega), w32_id (a := v / 10 ^ m) (by omega) (by omega), show w32 9 = 9 by decide, if_neg (by omega)]
    exact dig9 k d l1 l2 v1 (by omega) m i T m3 i1 (by omega)
  have go : ∀ m : Nat, m ≤ 3 → 10 ≤ v / 10 ^ m → out (WV k) (EV k (d + 1)) MX9_writeNumber 3 [vR 33, vI l, vI i, vI v, vI (10 ^ m), vU] [] T = out (WV k) (EV k (d + 1)) MX9_writeNumber 3 [vR 33, vI l, vI i, vI v, vI (10 ^ (m + 1)), vU] [] T := by
    intro m m3 hv
    have pb := pw_b m m3
    have q1 : v / 10 ^ m ≤ 10000 := Int.le_trans (Int.ediv_le_self _ v1) (by omega)
    rw [bX9_writeNumber_3, w32_id (a := 10 ^ m) (by omega) (by omega), if_neg (by omega), jq_pos v1 (by omega) (by omega) (by omega), w32_id (a := v / 10 ^ m) (by omega) (by omega), show w32 9 = 9 by decide, if_pos (by omega), Int.pow_succ]
  have p0 : v / 10 ^ 0 = v := Int.ediv_one v
  have p1 : v / 10 ^ 1 = v / 10 := rfl
  have p2 : v / 10 ^ 2 = v / 100 := rfl
  have p3 : v / 10 ^ 3 = v / 1000 := rfl
  rw [eX9_writeNumber, bX9_writeNumber_0]
  show out (WV k) (EV k (d + 1)) MX9_writeNumber 3 [vR 33, vI l, vI i, vI v, vI (10 ^ 0), vU] [] T = _
  unfold numW nzs
  by_cases a1 : v < 10
  · rw [if_pos a1, stop 0 (by omega) (by omega)]
  · rw [if_neg a1, go 0 (by omega) (by omega)]
    by_cases a2 : v < 100
    · rw [if_pos a2, stop 1 (by omega) (by omega)]
    · rw [if_neg a2, go 1 (by omega) (by omega)]
      by_cases a3 : v < 1000
      · rw [if_pos a3, stop 2 (by omega) (by omega)]
      · rw [if_neg a3, go 2 (by omega) (by omega), stop 3 (by omega) (by omega)]
