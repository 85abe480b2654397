/-! sums and verify -/
def sm (S : St) : Nat → Int → Int → Int
  | 0, _, x => x
  | t + 1, a, x => sm S t (a + 1) (jor (jshl (jxor x (S 31 a)) 9) (jushr (jxor x (S 31 a)) 23) * 16777619)
theorem sm_s (S : St) (t : Nat) (a x : Int) : sm S (t + 1) a x = sm S t (a + 1) (jor (jshl (jxor x (S 31 a)) 9) (jushr (jxor x (S 31 a)) 23) * 16777619) := rfl
theorem sum6_loop (k : Nat × (Int → Int)) (d : Nat) {S : St} {x1 b : Int} (b1 : b ≤ 1200) : ∀ (t : Nat) (a x : Int), 0 ≤ a → a + t = b → out (WV k) (EV k (d + 1)) MX6_sumOf 9 [vR 6, vI x1, vI b, vI x, vI a] [] S = ansI (sm S t a x) S := by
  intro t
  induction t with
  | zero =>
    intro a x a0 at_
    rw [bX6_sumOf_9, w32_id (a := a) (by omega) (by omega), w32_id (a := b) (by omega) (by omega), if_neg (by omega)]
    rfl
  | succ t ih =>
    intro a x a0 at_
    push_cast at at_
    rw [bX6_sumOf_9, w32_id (a := a) (by omega) (by omega), w32_id (a := b) (by omega) (by omega), if_pos (by omega), show w32 1200 = 1200 by decide, if_pos (by omega), if_pos (by omega), eJ6_rotateLeft_7cf53, bJ6_rotateLeft_7cf53_0, jbI_some, jushr_9, sm_s]
    exact ih (a + 1) _ (by omega) (by omega)
theorem X6_sumOf_ok (k : Nat × (Int → Int)) (d : Nat) (S : St) {a b : Int} (a0 : 0 ≤ a) (ab : a ≤ b) (b1 : b ≤ 1200) : EV k (d + 2) mX6_sumOf [vR 6, vI a, vI b] S = ansI (sm S (b - a).toNat a 1) S := by
  rw [eX6_sumOf, bX6_sumOf_0, J9_max_ok k d S (by omega) (by omega) (by omega) (by omega), jbI_some]
  have e : (if a ≤ 0 then 0 else a) = a := by split <;> omega
  rw [e]
  exact sum6_loop k d b1 (b - a).toNat a 1 a0 (by omega)
theorem sum9_loop (k : Nat × (Int → Int)) (d : Nat) {S T : St} (h : TR S T) {x1 b : Int} (b1 : b ≤ S 6 1) : ∀ (t : Nat) (a x : Int), 0 ≤ a → a + t = b → out (WV k) (EV k d) MX9_sum 5 [vR 33, vI x1, vI b, vI x, vI a] [] T = ansI (sm S t a x) T := by
  obtain ⟨t1, t2, t3, t4⟩ := h
  intro t
  induction t with
  | zero =>
    intro a x a0 at_
    rw [bX9_sum_5, w32_id (a := a) (by omega) (by omega), w32_id (a := b) (by omega) (by omega), if_neg (by omega)]
    rfl
  | succ t ih =>
    intro a x a0 at_
    push_cast at at_
    rw [bX9_sum_5, w32_id (a := a) (by omega) (by omega), w32_id (a := b) (by omega) (by omega), if_pos (by omega), if_pos (by omega), t4 a a0 (by omega), sm_s]
    exact ih (a + 1) _ (by omega) (by omega)
theorem X9_sum_ok (k : Nat × (Int → Int)) (d : Nat) {S T : St} (h : TR S T) {a b : Int} (a0 : 0 ≤ a) (ab : a ≤ b) (b1 : b ≤ S 6 1) : EV k (d + 1) mX9_sum [vR 33, vI a, vI b] T = ansI (sm S (b - a).toNat a 1) T := by
  rw [eX9_sum, bX9_sum_0]
  exact sum9_loop k d h b1 (b - a).toNat a 1 a0 (by omega)
def nb (S : St) : Nat → Int → Int → Int
  | 0, _, x => x
  | t + 1, a, x => nb S t (a + 1) (jor (jshl x 8) (S 31 a))
theorem nb_s (S : St) (t : Nat) (a x : Int) : nb S (t + 1) a x = nb S t (a + 1) (jor (jshl x 8) (S 31 a)) := rfl
theorem number_loop (k : Nat × (Int → Int)) (d : Nat) {S : St} {x1 m : Int} : ∀ (t : Nat) (a x : Int), 0 ≤ a → a + t = x1 + m → x1 + m ≤ 1200 → out (WV k) (EV k d) MX6_numberAt 9 [vR 6, vI x1, vI m, vI x, vI a] [] S = ansI (nb S t a x) S := by
  intro t
  induction t with
  | zero =>
    intro a x a0 at_ l
    rw [bX6_numberAt_9, w32_id (a := a) (by omega) (by omega), w32_id (a := x1 + m) (by omega) (by omega), if_neg (by omega)]
    rfl
  | succ t ih =>
    intro a x a0 at_ l
    push_cast at at_
    rw [bX6_numberAt_9, w32_id (a := a) (by omega) (by omega), w32_id (a := x1 + m) (by omega) (by omega), if_pos (by omega), show w32 1200 = 1200 by decide, if_pos (by omega), if_pos (by omega), nb_s]
    exact ih (a + 1) _ (by omega) (by omega) l
theorem X6_numberAt_ok (k : Nat × (Int → Int)) (d : Nat) (S : St) (n : Nat) {a : Int} (a0 : 0 ≤ a) (a1 : a + n ≤ 1200) : EV k (d + 2) mX6_numberAt [vR 6, vI a, vI n] S = ansI (nb S n a 0) S := by
  rw [eX6_numberAt, bX6_numberAt_0, J9_max_ok k d S (by omega) (by omega) (by omega) (by omega), jbI_some]
  have e : (if a ≤ 0 then 0 else a) = a := by split <;> omega
  rw [e]
  exact number_loop k (d + 1) n a 0 a0 rfl a1
/-- the two bytes of a head, wherever it stands -/
theorem head_b (k : Nat × (Int → Int)) (d : Nat) {S : St} (hb : ∀ i, 0 ≤ i → i < 1200 → 0 ≤ S 31 i ∧ S 31 i ≤ 255) {a : Int} (a0 : 0 ≤ a) (a1 : a ≤ 1202) : ∃ N, EV k (d + 2) mX6_numberAt [vR 6, vI a, vI 2] S = ansI N S ∧ 0 ≤ N ∧ N ≤ 65535 ∧ (a + 2 ≤ 1200 → N = jor (jshl (S 31 a) 8) (S 31 (a + 1))) := by
  by_cases z : a + 2 ≤ 1200
  · have c0 := hb a a0 (by omega)
    have c1 := hb (a + 1) (by omega) (by omega)
    refine ⟨jor (jshl (S 31 a) 8) (S 31 (a + 1)), ?_, (jor16 c0.1 c0.2 c1.1 c1.2).1, (jor16 c0.1 c0.2 c1.1 c1.2).2, fun _ => rfl⟩
    have := X6_numberAt_ok k d S 2 a0 (by omega)
    rw [show ((2 : Nat) : Int) = 2 from rfl] at this
    rw [this, nb_s, nb_s, jor0 c0.1 c0.2]
    rfl
  · rw [eX6_numberAt, bX6_numberAt_0, J9_max_ok k d S (by omega) (by omega) (by omega) (by omega), jbI_some]
    have e : (if a ≤ 0 then 0 else a) = a := by split <;> omega
    rw [e, bX6_numberAt_9, w32_id (a := a) (by omega) (by omega), w32_id (a := a + 2) (by omega) (by omega), if_pos (by omega), show w32 1200 = 1200 by decide]
    by_cases y : a < 1200
    · have c0 := hb a a0 y
      rw [if_pos y, if_pos (by omega), jor0 c0.1 c0.2, bX6_numberAt_9, w32_id (a := a + 1) (by omega) (by omega), w32_id (a := a + 2) (by omega) (by omega), if_pos (by omega), show w32 1200 = 1200 by decide, if_neg (by omega)]
      exact ⟨S 31 a, rfl, by omega, by omega, fun w => absurd w z⟩
    · rw [if_neg y]
      exact ⟨0, rfl, by omega, by omega, fun w => absurd w z⟩
theorem told_loop (k : Nat × (Int → Int)) (d : Nat) {S T : St} (h : TR S T) {x1 x2 e : Int} (e0 : 0 ≤ e) (e1 : e + 4 ≤ S 6 1) : ∀ (t : Nat) (j x : Int), 0 ≤ j → j + t = 4 → out (WV k) (EV k d) MX9_verify 78 [vR 33, vI x1, vI x2, vI e, vI x, vI j] [] T = out (WV k) (EV k d) MX9_verify 78 [vR 33, vI x1, vI x2, vI e, vI (nb S t (e + j) x), vI 4] [] T := by
  obtain ⟨t1, t2, t3, t4⟩ := h
  intro t
  induction t with
  | zero =>
    intro j x j0 jt
    rw [show j = 4 by omega]
    rfl
  | succ t ih =>
    intro j x j0 jt
    push_cast at jt
    rw [bX9_verify_78, w32_id (a := j) (by omega) (by omega), show w32 4 = 4 by decide, if_pos (by omega), w32_id (a := e + j) (by omega) (by omega), if_pos (by omega), t4 (e + j) (by omega) (by omega), nb_s, show e + j + 1 = e + (j + 1) by omega]
    exact ih (j + 1) _ (by omega) (by omega)
theorem books_loop (k : Nat × (Int → Int)) (d e : Nat) {S T : St} (h : TR S T) : ∀ (t : Nat) (a b : Int) (u3 v3 v4 v5 : PV), (S 6 1 - a).toNat ≤ t → 0 ≤ a → 1 ≤ b → 8 * (b - 1) ≤ a → (a < S 6 1 ∨ (a = S 6 1 ∧ b = 1)) → ∃ v, out (WV k) (EV k (d + 2)) MX6_countBooks 4 [vR 6, vI a, vI b, u3] [] S = ansI v S ∧ out (WV k) (EV k (e + 2)) MX9_verify 4 [vR 33, vI a, vI (b - 1), v3, v4, v5] [] T = ansI v T := by
  obtain ⟨t1, t2, t3, t4⟩ := id h
  intro t
  induction t with
  | zero =>
    intro a b u3 v3 v4 v5 ta a0 b1 ab hc
    obtain ⟨N, n1, n2, n3, n4⟩ := head_b k d t3 (a := a + 2) (by omega) (by omega)
    refine ⟨-2, ?_, ?_⟩
    · rw [bX6_countBooks_4, show w32 1200 = 1200 by decide, w32_id (a := b) (by omega) (by omega), if_neg (by omega), n1, jbI_some, w32_id (a := S 6 1) (by omega) (by omega), w32_id (a := a + 4 + N + 4) (by omega) (by omega), if_pos (by omega)]
    · rw [bX9_verify_4, t2, w32_id (a := a) (by omega) (by omega), w32_id (a := S 6 1) (by omega) (by omega), if_neg (by omega), w32_id (a := b - 1) (by omega) (by omega), if_neg (by omega)]
  | succ t ih =>
    intro a b u3 v3 v4 v5 ta a0 b1 ab hc
    obtain ⟨N, n1, n2, n3, n4⟩ := head_b k d t3 (a := a + 2) (by omega) (by omega)
    rw [bX6_countBooks_4, show w32 1200 = 1200 by decide, w32_id (a := b) (by omega) (by omega), if_neg (by omega), n1, jbI_some, w32_id (a := S 6 1) (by omega) (by omega), w32_id (a := a + 4 + N + 4) (by omega) (by omega), bX9_verify_4, t2, w32_id (a := a) (by omega) (by omega), w32_id (a := S 6 1) (by omega) (by omega), w32_id (a := a + 8) (by omega) (by omega)]
    by_cases z : a < S 6 1
    · rw [if_pos z]
      by_cases y : S 6 1 < a + 8
      · rw [if_pos y, if_pos (show S 6 1 < a + 4 + N + 4 by omega)]
        exact ⟨-2, rfl, rfl⟩
      · have en := n4 (by omega)
        rw [show a + 2 + 1 = a + 3 by omega] at en
        rw [if_neg y, w32_id (a := a + 2) (by omega) (by omega), w32_id (a := a + 3) (by omega) (by omega), if_pos (show 0 ≤ a + 2 ∧ a + 2 < 1200 by omega), if_pos (show 0 ≤ a + 3 ∧ a + 3 < 1200 by omega), t4 (a + 2) (by omega) (by omega), t4 (a + 3) (by omega) (by omega), ← en, w32_id (a := a + 4 + N + 4) (by omega) (by omega)]
        by_cases x : S 6 1 < a + 4 + N + 4
        · rw [if_pos x, if_pos x]
          exact ⟨-2, rfl, rfl⟩
        · have nm := X6_numberAt_ok k d S 4 (a := a + 4 + N) (by omega) (by omega)
          rw [show ((4 : Nat) : Int) = 4 from rfl] at nm
          rw [if_neg x, if_neg x, nm, jbI_some, X6_sumOf_ok k d S a0 (show a ≤ a + 4 + N by omega) (by omega), jbI_some, told_loop k (e + 2) h (e := a + 4 + N) (by omega) (by omega) 4 0 0 (by omega) rfl, bX9_verify_78, if_neg (show ¬ w32 4 < w32 4 by decide), X9_sum_ok k (e + 1) h a0 (show a ≤ a + 4 + N by omega) (by omega), jbI_some, show a + 4 + N + 0 = a + 4 + N by omega]
          by_cases q : w32 (nb S 4 (a + 4 + N) 0) = w32 (sm S (a + 4 + N - a).toNat a 1)
          · rw [if_pos q, if_pos q]
            by_cases r : a + 4 + N + 4 = S 6 1
            · rw [if_pos (by rw [w32_id (a := S 6 1) (by omega) (by omega)]; exact r)]
              refine ⟨b, rfl, ?_⟩
              rw [bX9_verify_4, t2, w32_id (a := a + 4 + N + 4) (by omega) (by omega), w32_id (a := S 6 1) (by omega) (by omega), if_neg (by omega), show b - 1 + 1 = b by omega, w32_id (a := b) (by omega) (by omega), if_pos (by omega)]
            · rw [if_neg (by rw [w32_id (a := S 6 1) (by omega) (by omega)]; exact r)]
              have i := ih (a + 4 + N + 4) (b + 1) (vI (a + 4 + N)) (vI (a + 4 + N)) (vI (nb S 4 (a + 4 + N) 0)) (vI 4) (by omega) (by omega) (by omega) (by omega) (Or.inl (by omega))
              rw [show b + 1 - 1 = b - 1 + 1 by omega] at i
              exact i
          · rw [if_neg q, if_neg q]
            exact ⟨-2, rfl, rfl⟩
    · rw [if_neg z, if_pos (show S 6 1 < a + 4 + N + 4 by omega), w32_id (a := b - 1) (by omega) (by omega), if_neg (by omega)]
      exact ⟨-2, rfl, rfl⟩
theorem Tw_verify (k : Nat × (Int → Int)) (d : Nat) {σ : St} (h : TR σ σ) : Tw k (d + 10) mX8_verify mX9_verify [] σ := by
  have t1 := h.1
  obtain ⟨v, a1, a2⟩ := books_loop k (d + 6) (d + 7) h (σ 6 1).toNat 0 1 vU vU vU vU (by omega) (by omega) (by omega) (by omega) (by omega)
  refine ⟨v, σ, ?_, ?_, Sc.rfl σ⟩
  · rw [eX8_verify, bX8_verify_0, eX6_countBooks, bX6_countBooks_0, a1, jbI_some]
  · rw [eX9_verify, bX9_verify_0]
    exact a2
