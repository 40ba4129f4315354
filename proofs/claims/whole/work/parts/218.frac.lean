/-! FRACTIONS: tellFraction and tellsBy -/
theorem lN_0 : lN 0 = 0 := rfl
theorem lN_eq0 {b : Nat} (hb : b < 2 ^ 63) : lN b = 0 ↔ b = 0 := by rw [← lN_0]; exact pk_lEQ hb (by decide)
theorem mod_half {b r k : Nat} (hb : b < 2 ^ (k + 1)) (hr : 0 < r) (hrb : r < b) : b % r < 2 ^ k := by
  have h1 : b % r < r := Nat.mod_lt _ hr
  have h2 : b % r ≤ b - r := by
    rw [Nat.mod_eq_sub_mod (Nat.le_of_lt hrb)]
    exact Nat.mod_le _ _
  rw [Nat.pow_succ] at hb
  omega
theorem cd_end {a b i fu : Nat} (C : Mem) (hb : b = 0) (hi : i < 128) : f_X11_commonDivisor_L9 (fu + 1) (lN a) (lN b) (nI i) C = some (lN a, C) := by
  subst hb
  rw [f_X11_commonDivisor_L9, if_neg (show ¬ (128 : Int32) ≤ nI i from nI_ge (b := 128) hi (by decide)), if_pos (by rw [lg_cmp_eq, lN_0])]
theorem tb_end {a b fu : Nat} (x y : Int64) (R : Mem) (hb : b = 0) : f_X12_tellsBy_L6 x y (fu + 1) (lN a) (lN b) R = some (lN a, R) := by
  subst hb
  rw [f_X12_tellsBy_L6, if_pos (by rw [lg_cmp_eq, lN_0])]
theorem cd_step {a b i fu : Nat} (C : Mem) (ha : a < 2 ^ 62) (h0 : 0 < b) (hb : b < 2 ^ 62) (hi : i < 128) : f_X11_commonDivisor_L9 (fu + 1) (lN a) (lN b) (nI i) C = f_X11_commonDivisor_L9 fu (lN b) (lN (a % b)) (nI (i + 1)) C := by
  have hn : ¬ lN b = 0 := fun z => by have := (lN_eq0 (by omega)).mp z; omega
  rw [f_X11_commonDivisor_L9, if_neg (show ¬ (128 : Int32) ≤ nI i from nI_ge (b := 128) hi (by decide)), if_neg (by rw [lg_cmp_eq]; exact hn), if_neg hn, letF, letF, pk_lRem (by omega) h0 (by omega), nI_s]
theorem tb_step {a b fu : Nat} (x y : Int64) (R : Mem) (ha : a < 2 ^ 62) (h0 : 0 < b) (hb : b < 2 ^ 62) : f_X12_tellsBy_L6 x y (fu + 1) (lN a) (lN b) R = f_X12_tellsBy_L6 x y fu (lN b) (lN (a % b)) R := by
  have hn : ¬ lN b = 0 := fun z => by have := (lN_eq0 (by omega)).mp z; omega
  rw [f_X12_tellsBy_L6, if_neg (by rw [lg_cmp_eq]; exact hn), if_neg hn, letF, pk_lRem (by omega) h0 (by omega)]
theorem gcd_L : ∀ k a b i fu (C R : Mem) (x y : Int64), a < 2 ^ 62 → b < 2 ^ k → k ≤ 62 → i + 2 * k < 128 → 2 * k < fu → f_X11_commonDivisor_L9 fu (lN a) (lN b) (nI i) C = some (lN (Nat.gcd b a), C) ∧ f_X12_tellsBy_L6 x y fu (lN a) (lN b) R = some (lN (Nat.gcd b a), R) := by
  intro k
  induction k with
  | zero =>
    intro a b i fu C R x y ha hb hk hi hf
    obtain ⟨fu, rfl⟩ : ∃ k, fu = k + 1 := ⟨fu - 1, by omega⟩
    have hb0 : b = 0 := by simp at hb; exact hb
    rw [cd_end C hb0 (by omega), tb_end x y R hb0, hb0, Nat.gcd_zero_left]
    exact ⟨rfl, rfl⟩
  | succ k ih =>
    intro a b i fu C R x y ha hb hk hi hf
    obtain ⟨fu, rfl⟩ : ∃ k, fu = k + 1 + 1 := ⟨fu - 2, by omega⟩
    have hb62 : b < 2 ^ 62 := Nat.lt_of_lt_of_le hb (Nat.pow_le_pow_right (by decide) hk)
    by_cases h0 : b = 0
    · rw [cd_end C h0 (by omega), tb_end x y R h0, h0, Nat.gcd_zero_left]
      exact ⟨rfl, rfl⟩
    · have hr : a % b < b := Nat.mod_lt _ (by omega)
      rw [cd_step C ha (by omega) hb62 (by omega), tb_step x y R ha (by omega) hb62, Nat.gcd_rec]
      by_cases h1 : a % b = 0
      · rw [cd_end C h1 (by omega), tb_end x y R h1, h1, Nat.gcd_zero_left]
        exact ⟨rfl, rfl⟩
      · have h2 := mod_half hb (by omega) hr
        rw [cd_step C hb62 (by omega) (by omega) (by omega), tb_step x y R hb62 (by omega) (by omega), Nat.gcd_rec]
        exact ih (a % b) (b % (a % b)) (i + 1 + 1) fu C R x y (by omega) h2 (by omega) (by omega) (by omega)
/-- the FRACTION n by d, told by both -/
theorem fin_frac {C C' R R' : Mem} (h : RelS C R) (e : SqC C C') (f : SqR R R') (ho : RelO C' R') {n d m : Nat} (hd : 0 < d) (hm : 0 < m) (hd2 : m * d < 2 ^ 62) (hn2 : m * n < 2 ^ 62) {x y u v : Int64} (hx : x = lN n) (hy : y = lN d) (hu : u = lN (m * n)) (hv : v = lN (m * d)) :
    OK2 (bnd (f_X11_tellFraction x y C') fun r M => if ¬ (r = 0 ∨ r = 1) then none else some (r, M)) (bnd (f_X12_tellsBy u v R') fun r M => if ¬ (r = 0 ∨ r = 1) then none else some (r, M)) := by
  subst hx hy hu hv
  have hd3 : d < 2 ^ 62 := Nat.lt_of_le_of_lt (Nat.le_mul_of_pos_left d hm) hd2
  have hn3 : n < 2 ^ 62 := Nat.lt_of_le_of_lt (Nat.le_mul_of_pos_left n hm) hn2
  have hg0 : 0 < Nat.gcd d n := Nat.gcd_pos_of_pos_left n hd
  have hg1 : Nat.gcd d n ≤ d := Nat.gcd_le_left n hd
  have hk0 : 0 < m * Nat.gcd d n := Nat.mul_pos hm hg0
  have hk1 : m * Nat.gcd d n ≤ m * d := Nat.mul_le_mul_left m hg1
  have gcl := (gcd_L 62 n d 0 fz C' R' 0 0 hn3 hd3 (by omega) (by omega) (by rw [fz_is]; omega)).1
  have grf := (gcd_L 62 (m * n) (m * d) 0 fz C' R' (lN (m * n)) (lN (m * d)) hn2 hd2 (by omega) (by omega) (by rw [fz_is]; omega)).2
  rw [Nat.gcd_mul_left] at grf
  have gcl' : f_X11_commonDivisor_L9 fz (lN n) (lN d) 0 C' = some (lN (Nat.gcd d n), C') := gcl
  have z1 : ¬ lN (Nat.gcd d n) = 0 := fun z => by have := (lN_eq0 (by omega)).mp z; omega
  have z2 : ¬ lN (m * Nat.gcd d n) = 0 := fun z => by have := (lN_eq0 (by omega)).mp z; omega
  have z3 : ¬ lg_cmp (lN (Nat.gcd d n)) 0 ≤ 0 := by
    rw [lg_cmp_le, ← lN_0, pk_lLE (by omega) (by omega)]; omega
  refine ⟨1, sI (sL (sL C' 0 13 (lN (n / Nat.gcd d n))) 0 14 (lN (d / Nat.gcd d n))) 0 12 0, sI (sL (sL R' 0 3 (lN (n / Nat.gcd d n))) 0 4 (lN (d / Nat.gcd d n))) 0 2 0, ?_, ?_, ⟨?_, ?_, ?_, ?_, ?_⟩, ?_⟩
  · rw [f_X11_tellFraction, f_X11_commonDivisor, gcl', bnd_some, bnd_some, if_neg z3, if_neg z1, letF, if_neg z1, letF, pk_lDiv (by omega) hg0 (by omega), pk_lDiv (by omega) hg0 (by omega)]
    rfl
  · rw [f_X12_tellsBy, grf, bnd_some, if_neg z2, letF, if_neg z2, letF, pk_lDiv (by omega) hk0 (by omega), pk_lDiv (by omega) hk0 (by omega), Nat.mul_div_mul_left _ _ hm, Nat.mul_div_mul_left _ _ hm]
    rfl
  · rw [gI_same, gI_same]
  · rw [gL_I, gL_L, if_neg (by omega), gL_L, if_pos ⟨rfl, rfl⟩, gL_I, gL_L, if_neg (by omega), gL_L, if_pos ⟨rfl, rfl⟩]
  · rw [gL_I, gL_L, if_pos ⟨rfl, rfl⟩, gL_I, gL_L, if_pos ⟨rfl, rfl⟩]
  · rw [gI_I, if_neg (by omega), gI_I, if_neg (by omega), gI_L, gI_L, gI_L, gI_L, e.2.2.1, f.2.2.1]; exact h.2.2.2.1
  · rw [gI_I, if_neg (by omega), gI_I, if_neg (by omega), gI_L, gI_L, gI_L, gI_L, e.2.2.2, f.2.2.2]; exact h.2.2.2.2
  · refine RelO.st (ho.cg ((EqC.sL _ _ _ (by unfold scrC; omega)).tr (EqC.sL _ _ _ (by unfold scrC; omega))) ((EqR.sL _ _ _ (by unfold scrR; omega)).tr (EqR.sL _ _ _ (by unfold scrR; omega)))) 0
