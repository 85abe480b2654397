/-! the counted years, one by one, by the kernel -/
def elDN (y : Nat) : Nat := 29 * ((235 * y - 234) / 19) + (12084 + 13753 * ((235 * y - 234) / 19)) / 25920
def elapN (y : Nat) : Nat := if 3 * (elDN y + 1) % 7 < 3 then elDN y + 1 else elDN y
def cysN (y : Nat) : Nat := if elapN (y + 1) = elapN y + 356 then elapN y + 2 else if 1 < y ∧ elapN y = elapN (y - 1) + 382 then elapN y + 1 else elapN y
theorem elM_N {y : Nat} (h : 1 ≤ y) : elM (y : Int) = (((235 * y - 234) / 19 : Nat) : Int) := by unfold elM; omega
theorem elD_N {y : Nat} (h : 1 ≤ y) : elD (y : Int) = (elDN y : Int) := by
  unfold elD elDN
  rw [elM_N h]
  generalize (235 * y - 234) / 19 = q
  omega
theorem elap_N {y : Nat} (h : 1 ≤ y) : elap (y : Int) = (elapN y : Int) := by
  unfold elap elapN
  rw [elD_N h]
  generalize elDN y = q
  have e : 3 * ((q : Int) + 1) % 7 = ((3 * (q + 1) % 7 : Nat) : Int) := by omega
  by_cases c : 3 * (q + 1) % 7 < 3
  · rw [if_pos c, if_pos (by rw [e]; omega)]; omega
  · rw [if_neg c, if_neg (by rw [e]; omega)]
theorem cys_N {y : Nat} (h : 1 ≤ y) : cys (y : Int) = (cysN y : Int) := by
  unfold cys cysN
  have e1 : elap ((y : Int) + 1) = (elapN (y + 1) : Int) := by rw [← elap_N (by omega), show ((y + 1 : Nat) : Int) = (y : Int) + 1 by omega]
  rw [elap_N h, e1]
  by_cases c : elapN (y + 1) = elapN y + 356
  · rw [if_pos c, if_pos (by omega)]; omega
  · rw [if_neg c, if_neg (by omega)]
    by_cases h1 : 1 < y
    · have e2 : elap ((y : Int) - 1) = (elapN (y - 1) : Int) := by rw [← elap_N (by omega), show ((y - 1 : Nat) : Int) = (y : Int) - 1 by omega]
      rw [e2]
      by_cases c2 : 1 < y ∧ elapN y = elapN (y - 1) + 382
      · rw [if_pos c2, if_pos (by omega)]; omega
      · rw [if_neg c2, if_neg (by omega)]
    · rw [if_neg (by omega), if_neg (by omega)]
/-- how long a counted year is -/
def cchk (y : Nat) : Bool := if (7 * y + 1) % 19 < 7 then (cysN (y + 1) == cysN y + 383 || cysN (y + 1) == cysN y + 384 || cysN (y + 1) == cysN y + 385) else (cysN (y + 1) == cysN y + 353 || cysN (y + 1) == cysN y + 354 || cysN (y + 1) == cysN y + 355)
set_option maxRecDepth 100000 in
theorem cchk_all : (List.range 5000).all (fun i => cchk (i + 1)) = true := by decide +kernel
theorem cys_len {y : Int} (h1 : 1 ≤ y) (h2 : y ≤ 5000) : if (7 * y + 1) % 19 < 7 then (cys (y + 1) - cys y = 383 ∨ cys (y + 1) - cys y = 384 ∨ cys (y + 1) - cys y = 385) else (cys (y + 1) - cys y = 353 ∨ cys (y + 1) - cys y = 354 ∨ cys (y + 1) - cys y = 355) := by
  obtain ⟨n, rfl⟩ : ∃ n : Nat, y = ((n + 1 : Nat) : Int) := ⟨(y - 1).toNat, by omega⟩
  have hc := List.all_eq_true.mp cchk_all n (by simp; omega)
  unfold cchk at hc
  have e1 : cys (((n + 1 : Nat) : Int) + 1) = (cysN (n + 1 + 1) : Int) := by rw [← cys_N (by omega), show ((n + 1 + 1 : Nat) : Int) = ((n + 1 : Nat) : Int) + 1 by omega]
  rw [e1, cys_N (by omega)]
  have e7 : (7 * ((n + 1 : Nat) : Int) + 1) % 19 = (((7 * (n + 1) + 1) % 19 : Nat) : Int) := by omega
  by_cases c : (7 * (n + 1) + 1) % 19 < 7
  · rw [if_pos c] at hc
    rw [if_pos (by rw [e7]; omega)]
    simp only [Bool.or_eq_true, beq_iff_eq] at hc
    omega
  · rw [if_neg c] at hc
    rw [if_neg (by rw [e7]; omega)]
    simp only [Bool.or_eq_true, beq_iff_eq] at hc
    omega
theorem cys_1 : cys 1 = 0 := by
  have := cys_N (y := 1) (by decide)
  rw [show ((1 : Nat) : Int) = 1 from rfl] at this
  rw [this]
  decide +kernel
theorem cys_5001 : 1500000 < cys 5001 := by
  have := cys_N (y := 5001) (by decide)
  rw [show ((5001 : Nat) : Int) = 5001 from rfl] at this
  rw [this]
  decide +kernel
theorem wks_7 (y : Int) : wks y % 7 = 0 := by unfold wks; omega
theorem greg_len (y : Int) : greg (y + 1) - greg y = 365 ∨ greg (y + 1) - greg y = 366 := by unfold greg; omega
theorem wks_len {y : Int} (h1 : 0 ≤ y) : wks (y + 1) - wks y = 364 ∨ wks (y + 1) - wks y = 371 := by
  have hg := greg_len y
  unfold wks
  generalize greg y = g at hg ⊢
  generalize greg (y + 1) = g2 at hg ⊢
  rcases hg with h | h
  · obtain rfl : g2 = g + 365 := by omega
    omega
  · obtain rfl : g2 = g + 366 := by omega
    omega
theorem juln_len (y : Int) : juln (y + 1) - juln y = 365 ∨ juln (y + 1) - juln y = 366 := by unfold juln; omega
/-! what holds of each year of each calendar -/
abbrev Mi (σ : St) (c y : Int) : Int := mis (σ 1 2) c y
def KF (σ : St) (c y : Int) : Prop := 1 ≤ Mi σ c y ∧ Mi σ c y ≤ mmx c ∧ (∀ m, 1 ≤ m → m ≤ Mi σ c y → 1 ≤ Ml σ c y m ∧ Ml σ c y m ≤ 200) ∧ Ys σ c y + smI (Ml σ c y) (Mi σ c y) = Ys σ c (y + 1) ∧ mah (σ 1 2) c (y + 1) = mah (σ 1 2) c y + Mi σ c y
theorem sunL_sum (yd : Int) : smI (fun m => sunL m yd) 12 = yd := by
  simp [smI, smN, sunL, sunM]
  omega
theorem sunL_b {m yd : Int} (h1 : 1 ≤ m) (h2 : m ≤ 12) (h : yd = 365 ∨ yd = 366) : 1 ≤ sunL m yd ∧ sunL m yd ≤ 200 := by
  have : m = 1 ∨ m = 2 ∨ m = 3 ∨ m = 4 ∨ m = 5 ∨ m = 6 ∨ m = 7 ∨ m = 8 ∨ m = 9 ∨ m = 10 ∨ m = 11 ∨ m = 12 := by omega
  rcases this with rfl | rfl | rfl | rfl | rfl | rfl | rfl | rfl | rfl | rfl | rfl | rfl <;> simp [sunL, sunM] <;> omega
theorem KF_sun {σ : St} {c y : Int} (hc : c = 0 ∨ c = 1) (hl : Ys σ c (y + 1) - Ys σ c y = 365 ∨ Ys σ c (y + 1) - Ys σ c y = 366) : KF σ c y := by
  have e1 : Mi σ c y = 12 := by rcases hc with rfl | rfl <;> rfl
  have e2 : ∀ m, Ml σ c y m = sunL m (Ys σ c (y + 1) - Ys σ c y) := fun m => by show mln _ _ c y m _ = _; unfold mln; rw [if_pos hc]
  have e3 : mmx c = 12 := by rcases hc with rfl | rfl <;> rfl
  have e4 : ∀ z, mah (σ 1 2) c z = 12 * z := fun z => by unfold mah; rw [if_pos hc]
  refine ⟨by omega, by omega, fun m h1 h2 => ?_, ?_, ?_⟩
  · rw [e2]; exact sunL_b h1 (by omega) hl
  · rw [e1, show Ml σ c y = fun m => sunL m (Ys σ c (y + 1) - Ys σ c y) from funext e2, sunL_sum]; omega
  · rw [e4, e4, e1]; omega
theorem KF_0 (σ : St) (y : Int) : KF σ 0 y := KF_sun (Or.inl rfl) (by have := greg_len y; show greg (y + 1) - 60 - (greg y - 60) = _ ∨ greg (y + 1) - 60 - (greg y - 60) = _; omega)
theorem KF_1 (σ : St) (y : Int) : KF σ 1 y := KF_sun (Or.inr rfl) (by have := juln_len y; show juln (y + 1) - 62 - (juln y - 62) = _ ∨ juln (y + 1) - 62 - (juln y - 62) = _; omega)
theorem KF_2 (σ : St) (y : Int) : KF σ 2 y := by
  have hl : Ys σ 2 (y + 1) - Ys σ 2 y = 365 ∨ Ys σ 2 (y + 1) - Ys σ 2 y = 366 := by show 365 * (y + 1 - 1) + (y + 1) / 4 - (365 * (y - 1) + y / 4) = _ ∨ 365 * (y + 1 - 1) + (y + 1) / 4 - (365 * (y - 1) + y / 4) = _; omega
  have e2 : ∀ m, Ml σ 2 y m = if m = 13 then Ys σ 2 (y + 1) - Ys σ 2 y - 360 else 30 := fun m => rfl
  refine ⟨show (1 : Int) ≤ 13 by decide, show (13 : Int) ≤ 13 by decide, fun m h1 h2 => ?_, ?_, ?_⟩
  · rw [e2]; split <;> omega
  · show Ys σ 2 y + smI (Ml σ 2 y) 13 = _
    rw [show Ml σ 2 y = fun m => if m = 13 then Ys σ 2 (y + 1) - Ys σ 2 y - 360 else 30 from rfl]
    simp [smI, smN]
    omega
  · show 13 * (y + 1 - 1) = 13 * (y - 1) + 13; omega
theorem KF_3 (σ : St) (y : Int) : KF σ 3 y := by
  have hl : Ys σ 3 (y + 1) - Ys σ 3 y = 354 ∨ Ys σ 3 (y + 1) - Ys σ 3 y = 355 := by show 354 * (y + 1 - 1) + (11 * (y + 1) + 3) / 30 - (354 * (y - 1) + (11 * y + 3) / 30) = _ ∨ 354 * (y + 1 - 1) + (11 * (y + 1) + 3) / 30 - (354 * (y - 1) + (11 * y + 3) / 30) = _; omega
  have e2 : ∀ m, Ml σ 3 y m = if m = 12 then Ys σ 3 (y + 1) - Ys σ 3 y - 325 else 30 - (m + 1) % 2 := fun m => rfl
  refine ⟨show (1 : Int) ≤ 12 by decide, show (12 : Int) ≤ 12 by decide, fun m h1 h2 => ?_, ?_, ?_⟩
  · rw [e2]; split <;> omega
  · show Ys σ 3 y + smI (Ml σ 3 y) 12 = _
    rw [show Ml σ 3 y = fun m => if m = 12 then Ys σ 3 (y + 1) - Ys σ 3 y - 325 else 30 - (m + 1) % 2 from rfl]
    simp [smI, smN]
    omega
  · show 12 * (y + 1 - 1) = 12 * (y - 1) + 12; omega
theorem cntL_b (m yd : Int) : 29 ≤ cntL m yd ∧ cntL m yd ≤ 30 := by unfold cntL; repeat' split; all_goals omega
theorem KF_4 (σ : St) {y : Int} (h1 : 1 ≤ y) (h2 : y ≤ 5000) : KF σ 4 y := by
  have hl := cys_len h1 h2
  have e2 : ∀ m, Ml σ 4 y m = cntL m (cys (y + 1) - cys y) := fun m => rfl
  have e3 : mmx 4 = 13 := rfl
  have e1 : Mi σ 4 y = if (7 * y + 1) % 19 < 7 then 13 else 12 := rfl
  refine ⟨by rw [e1]; split <;> omega, by rw [e1]; split <;> omega, fun m _ _ => by rw [e2]; have := cntL_b m (cys (y + 1) - cys y); omega, ?_, ?_⟩
  · rw [e1, show Ml σ 4 y = fun m => cntL m (cys (y + 1) - cys y) from rfl]
    show cys y + _ = cys (y + 1)
    generalize hq : cys (y + 1) - cys y = q at hl ⊢
    split
    · rename_i c
      rw [if_pos c] at hl
      rcases hl with rfl | rfl | rfl <;> simp [smI, smN, cntL] <;> omega
    · rename_i c
      rw [if_neg c] at hl
      rcases hl with rfl | rfl | rfl <;> simp [smI, smN, cntL] <;> omega
  · show (235 * (y + 1) - 234) / 19 = (235 * y - 234) / 19 + Mi σ 4 y
    have q1 : (235 * y - 234) / 19 = 12 * y - 13 + (7 * y + 13) / 19 := by omega
    have q2 : (235 * (y + 1) - 234) / 19 = 12 * y + (7 * y + 1) / 19 := by omega
    rw [e1, q1, q2]; split <;> omega
theorem KF_5 (σ : St) {y : Int} (h1 : 0 ≤ y) : KF σ 5 y := by
  have hl := wks_len h1
  have h7 := wks_7 y
  have e1 : Mi σ 5 y = (wks (y + 1) - wks y) / 7 := rfl
  have e3 : mmx 5 = 53 := rfl
  refine ⟨by omega, by omega, fun m _ _ => by show 1 ≤ (7 : Int) ∧ (7 : Int) ≤ 200; omega, ?_, ?_⟩
  · rw [show Ml σ 5 y = fun _ => 7 from rfl, smI_const 7 (by omega), e1]
    show wks y + 7 * ((wks (y + 1) - wks y) / 7) = wks (y + 1)
    omega
  · show (wks (y + 1) + 63) / 7 = (wks y + 63) / 7 + (wks (y + 1) - wks y) / 7
    omega
theorem KF_6 (σ : St) (y : Int) : KF σ 6 y := by
  refine ⟨show (1 : Int) ≤ 18 by decide, show (18 : Int) ≤ 18 by decide, fun m _ _ => by show 1 ≤ (20 : Int) ∧ (20 : Int) ≤ 200; omega, ?_, ?_⟩
  · rw [show Ml σ 6 y = fun _ => 20 from rfl, show Mi σ 6 y = 18 from rfl, smI_const 20 (by omega)]
    show 360 * y + 20 * 18 = 360 * (y + 1)
    omega
  · show 18 * (y + 1) = 18 * y + 18; omega
theorem smI_tele (g : Int → Int) (b : Int) {a : Int} (h : 0 ≤ a) : smI (fun m => g (b + m) - g (b + m - 1)) a = g (b + a) - g b := by
  have key : ∀ n : Nat, smN (fun m => g (b + m) - g (b + m - 1)) n = g (b + n) - g b := by
    intro n
    induction n with
    | zero => simp [smN]
    | succ n ih =>
      rw [smN, ih, show b + ((n : Int) + 1) - 1 = b + (n : Int) by omega]
      push_cast
      omega
  unfold smI
  rw [key, show ((a.toNat : Nat) : Int) = a by omega]
theorem KF_7 {σ : St} (hC : CF σ) {y : Int} (h1 : 1 ≤ y) (h2 : y ≤ (σ 1 2 + 9) / 10) : KF σ 7 y := by
  have hn := hC.1
  have e1 : Mi σ 7 y = if 10 ≤ σ 1 2 - 10 * (y - 1) then 10 else σ 1 2 - 10 * (y - 1) := rfl
  have e3 : mmx 7 = 10 := rfl
  have e2 : ∀ m, Ml σ 7 y m = σ 9 (clR (σ 1 2) (10 * (y - 1) + m)) - σ 9 (clR (σ 1 2) (10 * (y - 1) + m - 1)) := fun m => rfl
  have b1 : 1 ≤ Mi σ 7 y := by rw [e1]; split <;> omega
  have b2 : Mi σ 7 y ≤ 10 := by rw [e1]; split <;> omega
  have b3 : 10 * (y - 1) + Mi σ 7 y ≤ σ 1 2 := by rw [e1]; split <;> omega
  refine ⟨b1, by omega, fun m m1 m2 => ?_, ?_, ?_⟩
  · rw [e2]
    have k1 : clR (σ 1 2) (10 * (y - 1) + m) = 10 * (y - 1) + m - 1 + 1 := by unfold clR; rw [if_neg (by omega), if_neg (by omega)]; omega
    have k2 : clR (σ 1 2) (10 * (y - 1) + m - 1) = 10 * (y - 1) + m - 1 := by unfold clR; rw [if_neg (by omega), if_neg (by omega)]
    rw [k1, k2]
    have := hC.2.2 (10 * (y - 1) + m - 1) (by omega) (by omega)
    omega
  · rw [show Ml σ 7 y = fun m => (fun j => σ 9 (clR (σ 1 2) j)) (10 * (y - 1) + m) - (fun j => σ 9 (clR (σ 1 2) j)) (10 * (y - 1) + m - 1) from rfl, smI_tele (fun j => σ 9 (clR (σ 1 2) j)) (10 * (y - 1)) (by omega)]
    show σ 9 (clR (σ 1 2) (10 * (y - 1))) + (σ 9 (clR (σ 1 2) (10 * (y - 1) + Mi σ 7 y)) - σ 9 (clR (σ 1 2) (10 * (y - 1)))) = σ 9 (clR (σ 1 2) (10 * (y + 1 - 1)))
    have k : clR (σ 1 2) (10 * (y - 1) + Mi σ 7 y) = clR (σ 1 2) (10 * (y + 1 - 1)) := by
      unfold clR
      rw [if_neg (by omega), if_neg (by omega), if_neg (by omega), e1]
      split <;> split <;> omega
    rw [k]; omega
  · show (if σ 1 2 ≤ 10 * (y + 1 - 1) then σ 1 2 else 10 * (y + 1 - 1)) = (if σ 1 2 ≤ 10 * (y - 1) then σ 1 2 else 10 * (y - 1)) + Mi σ 7 y
    rw [e1]
    repeat' split
    all_goals omega
theorem KF_all {σ : St} (hC : CF σ) {c y : Int} (h1 : 0 ≤ c) (h2 : c ≤ 7) (hy1 : yfst c ≤ y) (hy2 : y ≤ ylst (σ 1 2) c) : KF σ c y := by
  have hf := yfst_b c
  have hl := ylst_b (c := c) hC.1.1 hC.1.2
  have : c = 0 ∨ c = 1 ∨ c = 2 ∨ c = 3 ∨ c = 4 ∨ c = 5 ∨ c = 6 ∨ c = 7 := by omega
  rcases this with rfl | rfl | rfl | rfl | rfl | rfl | rfl | rfl
  · exact KF_0 σ y
  · exact KF_1 σ y
  · exact KF_2 σ y
  · exact KF_3 σ y
  · exact KF_4 σ (by omega) (by omega)
  · exact KF_5 σ (by omega)
  · exact KF_6 σ y
  · exact KF_7 hC (by omega) hy2
