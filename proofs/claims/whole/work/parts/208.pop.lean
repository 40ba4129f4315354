/-! COUNTS of sets: Integer.bitCount, the reference's bits -/
def popI (x : Int32) : Nat := foldN (fun i a => a + if inS x (nI i) = true then 1 else 0) 10 0 0
def cntP (P : Nat → Bool) (n : Nat) : Nat := foldN (fun i a => a + if P i = true then 1 else 0) n 0 0
theorem i_nat (x : Int32) : x = nI x.toBitVec.toNat := Int32.toBitVec_inj.mp (by show x.toBitVec = BitVec.ofNat 32 x.toBitVec.toNat; simp)
theorem nat_of_bits {x : Int32} {n : Nat} (h : ∀ j, n ≤ j → bt x j = false) : ∃ s, s < 2 ^ n ∧ x = nI s :=
  ⟨x.toBitVec.toNat, Nat.lt_pow_two_of_testBit _ (fun i hi => h i hi), i_nat x⟩
theorem setB_nat (P : Nat → Bool) {n : Nat} (hn : n ≤ 32) : ∃ s, s < 2 ^ n ∧ setB P n = nI s :=
  nat_of_bits (fun j hj => by rw [bt_setB P hn, decide_eq_false (by omega)]; rfl)
def pop2 (x y : Int32) : Bool := decide (nI (popI x) = y)
def bcI (a0 : Int32) : Int32 :=
  let y1 := a0 - (((a0.toUInt32 >>> ((1 : Int32).toUInt32 &&& Int32.toUInt32 31)).toInt32) &&& (1431655765 : Int32))
  let y2 := (y1 &&& (858993459 : Int32)) + (((y1.toUInt32 >>> ((2 : Int32).toUInt32 &&& Int32.toUInt32 31)).toInt32) &&& (858993459 : Int32))
  let y3 := (y2 + ((y2.toUInt32 >>> ((4 : Int32).toUInt32 &&& Int32.toUInt32 31)).toInt32)) &&& (252645135 : Int32)
  let y4 := y3 + ((y3.toUInt32 >>> ((8 : Int32).toUInt32 &&& Int32.toUInt32 31)).toInt32)
  let y5 := y4 + ((y4.toUInt32 >>> ((16 : Int32).toUInt32 &&& Int32.toUInt32 31)).toInt32)
  y5 &&& 63
theorem bc_all : ∀ n, n < 1024 → bcI (nI n) = nI (popI (nI n)) := by decide +kernel
theorem p_bitCount {n : Nat} (hn : n < 1024) (M : Mem) : f_J6_bitCount_0f7a4_C (nI n) M = some (nI (popI (nI n)), M) := by
  rw [← bc_all n hn]; rfl
theorem bits_all : ∀ n, n < 1024 → ¬ n = 0 → (nI n &&& (nI n - 1)) = nI (n &&& (n - 1)) ∧ (n &&& (n - 1)) < n ∧ popI (nI n) = popI (nI (n &&& (n - 1))) + 1 := by decide +kernel
theorem r_bits_L : ∀ (n : Nat), n < 1024 → ∀ (fu : Nat) (a : Nat) (R : Mem), n < fu → f_X12_bits_L4 fu (nI a) (nI n) R = some (nI (a + popI (nI n)), R) := by
  intro n
  induction n using Nat.strongRecOn with
  | ind n ih =>
    intro hn fu a R hf
    obtain ⟨fu, rfl⟩ : ∃ k, fu = k + 1 := ⟨fu - 1, by omega⟩
    rw [f_X12_bits_L4]
    by_cases h0 : n = 0
    · subst h0
      rw [if_pos (show nI 0 = (0 : Int32) from rfl), show popI (nI 0) = 0 by decide +kernel]
      rfl
    · obtain ⟨e1, e2, e3⟩ := bits_all n hn h0
      rw [if_neg (nI_ne0 (by omega) (by omega)), letF, letF, e1, nI_1, ih _ e2 (by omega) fu (a + 1) R (by omega), e3]
      congr 3
      omega
theorem r_bits {n : Nat} (hn : n < 1024) (R : Mem) : f_X12_bits (nI n) R = some (nI (popI (nI n)), R) := by
  have h := r_bits_L n hn fz 0 R (by rw [fz_is]; omega)
  rw [f_X12_bits]
  erw [h]
  rw [bnd_some, Nat.zero_add]
theorem pop_0 : ∀ n, n < 1024 → (popI (nI n) = 0 ↔ n = 0) := by decide +kernel
theorem pop_le (x : Int32) : popI x ≤ 10 := by
  have : ∀ d i a, foldN (fun i a => a + if inS x (nI i) = true then 1 else 0) d i a ≤ a + d := by
    intro d
    induction d with
    | zero => intro i a; exact Nat.le_refl _
    | succ d ih =>
      intro i a
      rw [foldN]
      refine Nat.le_trans (ih _ _) ?_
      split <;> omega
  have h := this 10 0 0
  rw [Nat.zero_add] at h
  exact h
theorem cnt_ext (P : Nat → Bool) (n : Nat) : ∀ d i a, foldN (fun i a => a + if (decide (i < n) && P i) = true then 1 else 0) d i a = foldN (fun i a => a + if P i = true then 1 else 0) (min d (n - i)) i a := by
  intro d
  induction d with
  | zero => intro i a; rw [Nat.zero_min]; rfl
  | succ d ih =>
    intro i a
    rw [foldN, ih]
    by_cases h : i < n
    · rw [show min (d + 1) (n - i) = min d (n - (i + 1)) + 1 by omega, foldN, decide_eq_true h, Bool.true_and]
    · rw [show min (d + 1) (n - i) = 0 by omega, show min d (n - (i + 1)) = 0 by omega, foldN, foldN, decide_eq_false h, Bool.false_and, if_neg (by decide)]
      rfl
theorem pop_setB (P : Nat → Bool) {n : Nat} (hn : n ≤ 10) : popI (setB P n) = cntP P n := by
  unfold popI cntP
  have e := cnt_ext P n 10 0 0
  rw [show min 10 (n - 0) = n by omega] at e
  rw [← e]
  refine foldN_congr 10 0 0 (fun j a h1 h2 => ?_)
  rw [inS_bt _ (by omega), bt_setB P (by omega)]
