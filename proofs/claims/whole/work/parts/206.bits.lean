/-! ===== Int32 by its bits: bt x i ===== -/
def bt (x : Int32) (i : Nat) : Bool := x.toBitVec.getLsbD i
theorem b_ext {x y : Int32} (h : ∀ i, i < 32 → bt x i = bt y i) : x = y := Int32.toBitVec_inj.mp (BitVec.eq_of_getLsbD_eq (fun i hi => h i hi))
theorem b_or (x y : Int32) (i : Nat) : bt (x ||| y) i = (bt x i || bt y i) := by unfold bt; rw [Int32.toBitVec_or, BitVec.getLsbD_or]
theorem b_and (x y : Int32) (i : Nat) : bt (x &&& y) i = (bt x i && bt y i) := by unfold bt; rw [Int32.toBitVec_and, BitVec.getLsbD_and]
theorem b_xor (x y : Int32) (i : Nat) : bt (x ^^^ y) i = (bt x i ^^ bt y i) := by unfold bt; rw [Int32.toBitVec_xor, BitVec.getLsbD_xor]
theorem b_big {x : Int32} {i : Nat} (h : 32 ≤ i) : bt x i = false := BitVec.getLsbD_of_ge _ _ h
theorem b_255 (i : Nat) : bt 255 i = decide (i < 8) := by
  rcases Nat.lt_or_ge i 32 with h | h
  · exact (by decide +kernel : ∀ i, i < 32 → bt 255 i = decide (i < 8)) i h
  · rw [b_big h, decide_eq_false (by omega)]
theorem b_65535 (i : Nat) : bt 65535 i = decide (i < 16) := by
  rcases Nat.lt_or_ge i 32 with h | h
  · exact (by decide +kernel : ∀ i, i < 32 → bt 65535 i = decide (i < 16)) i h
  · rw [b_big h, decide_eq_false (by omega)]
theorem b_m1 : ∀ i, i < 32 → bt (-1) i = true := by decide +kernel
theorem b_0 (i : Nat) : bt 0 i = false := BitVec.getLsbD_zero
theorem s_l : ∀ n, n < 32 → ((nI n &&& 31).toBitVec.smod 32).toNat = n := by decide +kernel
theorem s_u : ∀ n, n < 32 → (((nI n).toUInt32 &&& Int32.toUInt32 31).toBitVec % 32).toNat = n := by decide +kernel
theorem b_shl (n : Nat) (hn : n < 32) (x : Int32) {i : Nat} (hi : i < 32) : bt (x <<< (nI n &&& 31)) i = (decide (n ≤ i) && bt x (i - n)) := by
  unfold bt
  rw [Int32.toBitVec_shiftLeft]
  show (x.toBitVec <<< ((nI n &&& 31).toBitVec.smod 32).toNat).getLsbD i = _
  rw [s_l n hn, BitVec.getLsbD_shiftLeft]
  rcases Nat.lt_or_ge i n with h | h
  · simp [h, Nat.not_le.mpr h]
  · simp [hi, h, Nat.not_lt.mpr h]
theorem b_ushr (n : Nat) (hn : n < 32) (x : Int32) (i : Nat) : bt ((x.toUInt32 >>> ((nI n).toUInt32 &&& Int32.toUInt32 31)).toInt32) i = bt x (n + i) := by
  show (x.toUInt32 >>> ((nI n).toUInt32 &&& Int32.toUInt32 31)).toBitVec.getLsbD i = x.toUInt32.toBitVec.getLsbD (n + i)
  rw [UInt32.toBitVec_shiftRight]
  show (x.toUInt32.toBitVec >>> (((nI n).toUInt32 &&& Int32.toUInt32 31).toBitVec % 32).toNat).getLsbD i = _
  rw [s_u n hn, BitVec.getLsbD_ushiftRight]
theorem b_sshr (n : Nat) (hn : n < 32) (x : Int32) {i : Nat} (hi : i < 32) : bt (x >>> (nI n &&& 31)) i = if n + i < 32 then bt x (n + i) else bt x 31 := by
  unfold bt
  rw [Int32.toBitVec_shiftRight]
  show (x.toBitVec.sshiftRight ((nI n &&& 31).toBitVec.smod 32).toNat).getLsbD i = _
  rw [s_l n hn, BitVec.getLsbD_sshiftRight, BitVec.msb_eq_getLsbD_last]
  simp [hi]
theorem b_shl8 (x : Int32) {i : Nat} (hi : i < 32) : bt (x <<< ((8 : Int32) &&& 31)) i = (decide (8 ≤ i) && bt x (i - 8)) := b_shl 8 (by omega) x hi
theorem b_shl16 (x : Int32) {i : Nat} (hi : i < 32) : bt (x <<< ((16 : Int32) &&& 31)) i = (decide (16 ≤ i) && bt x (i - 16)) := b_shl 16 (by omega) x hi
theorem b_shl24 (x : Int32) {i : Nat} (hi : i < 32) : bt (x <<< ((24 : Int32) &&& 31)) i = (decide (24 ≤ i) && bt x (i - 24)) := b_shl 24 (by omega) x hi
theorem b_sshr8 (x : Int32) {i : Nat} (hi : i < 32) : bt (x >>> ((8 : Int32) &&& 31)) i = if 8 + i < 32 then bt x (8 + i) else bt x 31 := b_sshr 8 (by omega) x hi
theorem s_s : ∀ n, n < 32 → (((1 : Int32) <<< (nI n &&& 31)).toBitVec) = BitVec.twoPow 32 n := by decide +kernel
theorem bt_one {n i : Nat} (hn : n < 32) : bt ((1 : Int32) <<< (nI n &&& 31)) i = decide (i = n) := by
  unfold bt
  rw [s_s n hn, BitVec.getLsbD_twoPow]
  by_cases h : i = n
  · subst h; simp [hn]
  · have : ¬ n = i := fun z => h z.symm
    simp [h, this]
theorem b_1 (i : Nat) : bt 1 i = decide (i = 0) := by
  rcases Nat.lt_or_ge i 32 with h | h
  · exact (by decide +kernel : ∀ i, i < 32 → bt 1 i = decide (i = 0)) i h
  · rw [b_big h, decide_eq_false (by omega)]
theorem inS_bt (x : Int32) {j : Nat} (hj : j < 32) : inS x (nI j) = bt x j := by
  unfold inS
  have e : bt ((x >>> (nI j &&& 31)) &&& 1) 0 = bt x j := by
    rw [b_and, b_sshr j hj x (by decide), b_1]
    simp [hj]
  cases h : bt x j with
  | false =>
    have : (x >>> (nI j &&& 31)) &&& 1 = 0 := by
      refine b_ext (fun i hi => ?_)
      rw [b_0, b_and, b_1]
      by_cases hi0 : i = 0
      · subst hi0
        rw [b_and, b_1] at e
        rw [e, h]
      · simp [hi0]
    rw [this]; rfl
  | true =>
    have : ¬ (x >>> (nI j &&& 31)) &&& 1 = 0 := by
      intro z
      rw [z, b_0, h] at e
      cases e
    rw [decide_eq_false this]; rfl
theorem bt_fold (P : Nat → Bool) (j : Nat) : ∀ (d i : Nat) (a : Int32), i + d ≤ 32 → bt (foldN (fun i a => if P i = true then a ||| ((1 : Int32) <<< (nI i &&& 31)) else a) d i a) j = (bt a j || (decide (i ≤ j ∧ j < i + d) && P j)) := by
  intro d
  induction d with
  | zero =>
    intro i a h
    rw [foldN, show decide (i ≤ j ∧ j < i + 0) = false from decide_eq_false (fun z => by omega)]
    simp
  | succ d ih =>
    intro i a h
    rw [foldN, ih (i + 1) _ (by omega)]
    by_cases hj : j = i
    · subst hj
      rw [show decide (j + 1 ≤ j ∧ j < j + 1 + d) = false from decide_eq_false (fun z => by omega), show decide (j ≤ j ∧ j < j + (d + 1)) = true from decide_eq_true ⟨Nat.le_refl _, by omega⟩]
      cases hp : P j with
      | true => rw [if_pos rfl, b_or, bt_one (by omega)]; simp
      | false => rw [if_neg (by decide)]; simp
    · have e : decide (i + 1 ≤ j ∧ j < i + 1 + d) = decide (i ≤ j ∧ j < i + (d + 1)) := by
        by_cases hh : i ≤ j ∧ j < i + (d + 1)
        · rw [decide_eq_true hh, decide_eq_true ⟨by omega, by omega⟩]
        · rw [decide_eq_false hh, decide_eq_false (fun z => hh ⟨by omega, by omega⟩)]
      rw [e]
      cases hp : P i with
      | true => rw [if_pos rfl, b_or, bt_one (by omega)]; simp [hj]
      | false => rw [if_neg (by decide)]
theorem bt_setB (P : Nat → Bool) {n : Nat} (hn : n ≤ 32) (j : Nat) : bt (setB P n) j = (decide (j < n) && P j) := by
  unfold setB
  rw [bt_fold P j n 0 0 (by omega), b_0]
  simp
theorem inS_setB (P : Nat → Bool) {n j : Nat} (hn : n ≤ 32) (hj : j < n) : inS (setB P n) (nI j) = P j := by
  rw [inS_bt _ (by omega), bt_setB P hn]
  simp [hj]
