/-! TEXTS: scanning, in the class and in the reference -/
theorem sI_sI (M : Mem) (n k : Nat) (a b : Int32) : sI (sI M n k a) n k b = sI M n k b := by
  refine Prod.ext ?_ rfl
  funext x y
  show (if x = n ∧ y = k then b else if x = n ∧ y = k then a else M.1 x y) = if x = n ∧ y = k then b else M.1 x y
  by_cases z : x = n ∧ y = k
  · rw [if_pos z, if_pos z]
  · rw [if_neg z, if_neg z, if_neg z]
theorem sI_ex (M : Mem) {n k : Nat} {v : Int32} (h : gI M n k = v) : sI M n k v = M := by rw [← h]; exact sI_id M n k
def TxC (B : Nat → Nat) (n : Nat) (C : Mem) : Prop := gI C 13 3 = nI n ∧ ∀ k, k < n → gI C 14 k = nI (B k)
def TxR (B : Nat → Nat) (n : Nat) (R : Mem) : Prop := gI R 0 11 = nI n ∧ ∀ k, k < n → gI R 7 k &&& 255 = nI (B k)
/-- where a run of bytes that P holds of ends -/
def spn (B : Nat → Nat) (P : Nat → Bool) : Nat → Nat → Nat
  | 0, i => i
  | d + 1, i => if P (B i) = true then spn B P d (i + 1) else i
theorem spn_ge (B : Nat → Nat) (P : Nat → Bool) : ∀ d i, i ≤ spn B P d i ∧ spn B P d i ≤ i + d := by
  intro d
  induction d with
  | zero => intro i; exact ⟨Nat.le_refl _, Nat.le_refl _⟩
  | succ d ih =>
    intro i
    rw [spn]
    have := ih (i + 1)
    split <;> omega
theorem spn_all (B : Nat → Nat) (P : Nat → Bool) : ∀ d i k, i ≤ k → k < spn B P d i → P (B k) = true := by
  intro d
  induction d with
  | zero => intro i k h1 h2; rw [spn] at h2; omega
  | succ d ih =>
    intro i k h1 h2
    rw [spn] at h2
    by_cases z : P (B i) = true
    · rw [if_pos z] at h2
      by_cases y : k = i
      · rw [y]; exact z
      · exact ih (i + 1) k (by omega) h2
    · rw [if_neg z] at h2; omega
theorem spn_end (B : Nat → Nat) (P : Nat → Bool) : ∀ d i, spn B P d i < i + d → ¬ P (B (spn B P d i)) = true := by
  intro d
  induction d with
  | zero => intro i h; rw [spn] at h; omega
  | succ d ih =>
    intro i h
    rw [spn] at h ⊢
    by_cases z : P (B i) = true
    · rw [if_pos z] at h ⊢
      exact ih (i + 1) (by omega)
    · rw [if_neg z]; exact z
def isBl (b : Nat) : Bool := decide (b = 32) || decide (b = 10)
def isLe (b : Nat) : Bool := decide (97 ≤ b) && decide (b ≤ 122)
def isDg (b : Nat) : Bool := decide (48 ≤ b) && decide (b ≤ 57)
theorem p_blank : ∀ b, b < 256 → ∀ M, f_X7_isBlank (nI b) M = some (bI (isBl b), M) := by
  intro b hb M
  have e : ∀ v : Nat, v < 256 → (nI b = nI v ↔ b = v) := fun v hv => ⟨nI_inj (by omega) (by omega), fun z => by rw [z]⟩
  have e32 : nI b = (32 : Int32) ↔ b = 32 := e 32 (by omega)
  have e10 : nI b = (10 : Int32) ↔ b = 10 := e 10 (by omega)
  unfold f_X7_isBlank isBl
  simp only [e32, e10]
  by_cases h : b = 32
  · rw [if_pos h, decide_eq_true h]; rfl
  · by_cases h2 : b = 10
    · rw [if_neg h, if_pos h2, decide_eq_false h, decide_eq_true h2]; rfl
    · rw [if_neg h, if_neg h2, decide_eq_false h, decide_eq_false h2]; rfl
theorem rng_b (b lo hi : Nat) (hb : b < 256) (hl : lo < 256) (hh : hi < 256) (M : Mem) : (if nI b < nI lo then some ((0 : Int32), M) else if nI hi < nI b then some ((0 : Int32), M) else some ((1 : Int32), M)) = some (bI (decide (lo ≤ b) && decide (b ≤ hi)), M) := by
  have e1 : nI b < nI lo ↔ b < lo := nI_ltI (by omega) (by omega)
  have e2 : nI hi < nI b ↔ hi < b := nI_ltI (by omega) (by omega)
  simp only [e1, e2]
  by_cases h : b < lo
  · rw [if_pos h, decide_eq_false (show ¬ lo ≤ b by omega)]; rfl
  · by_cases h2 : hi < b
    · rw [if_neg h, if_pos h2, decide_eq_false (show ¬ b ≤ hi by omega), Bool.and_false]; rfl
    · rw [if_neg h, if_neg h2, decide_eq_true (show lo ≤ b by omega), decide_eq_true (show b ≤ hi by omega)]; rfl
theorem p_letter {b : Nat} (hb : b < 256) (M : Mem) : f_X7_isLetter (nI b) M = some (bI (isLe b), M) := rng_b b 97 122 hb (by omega) (by omega) M
theorem p_digit {b : Nat} (hb : b < 256) (M : Mem) : f_X7_isDigit (nI b) M = some (bI (isDg b), M) := rng_b b 48 57 hb (by omega) (by omega) M
theorem r_small {b : Nat} (hb : b < 256) (M : Mem) : f_X12_isSmall (nI b) M = some (bI (isLe b), M) := rng_b b 97 122 hb (by omega) (by omega) M
theorem r_digit {b : Nat} (hb : b < 256) (M : Mem) : f_X12_isDigit (nI b) M = some (bI (isDg b), M) := rng_b b 48 57 hb (by omega) (by omega) M
section SCAN
variable {B : Nat → Nat} {n : Nat} {C R : Mem}
theorem p_byteAt (h : TxC B n C) (hn : n ≤ 900) {k : Nat} (hk : k < n) : f_X7_byteAt (nI k) C = some (nI (B k), C) := by
  rw [f_X7_byteAt, if_neg (nI_pos (by omega)), if_neg (show ¬ (900 : Int32) ≤ nI k from nI_ge (b := 900) (by omega) (by decide)), if_neg (show ¬ (nI k < 0 ∨ 900 ≤ (nI k).toNatClampNeg) from nI_in (by omega) (by decide)), nI_clamp (by omega), h.2 k hk]
theorem r_byteAt (h : TxR B n R) (hn : n ≤ 900) {k : Nat} (hk : k < n) : f_X12_byteAt (nI k) R = some (nI (B k), R) := by
  rw [f_X12_byteAt, h.1, if_neg (nI_ge hk (by omega)), if_neg (show ¬ (nI k < 0 ∨ 900 ≤ (nI k).toNatClampNeg) from nI_in (by omega) (by decide)), nI_clamp (by omega), h.2 k hk]
theorem r_byteN (h : TxR B n R) {k : Nat} (hk : n ≤ k) (hk2 : k < 2 ^ 31) : f_X12_byteAt (nI k) R = some (-1, R) := by
  rw [f_X12_byteAt, h.1, if_pos (nI_le hk hk2)]
theorem TxC.go (h : TxC B n C) (k : Nat) (v : Int32) (hk : k ≠ 3) : TxC B n (sI C 13 k v) := ⟨by rw [gI_I, if_neg (by omega)]; exact h.1, fun j hj => by rw [gI_I, if_neg (by omega)]; exact h.2 j hj⟩
theorem TxC.goL (h : TxC B n C) (k : Nat) (v : Int64) : TxC B n (sL C 13 k v) := ⟨h.1, fun j hj => h.2 j hj⟩
theorem TxR.go (h : TxR B n R) (k : Nat) (v : Int32) (hk : k ≠ 11) : TxR B n (sI R 0 k v) := ⟨by rw [gI_I, if_neg (by omega)]; exact h.1, fun j hj => by rw [gI_I, if_neg (by omega)]; exact h.2 j hj⟩
theorem p_L0 (hn : n ≤ 900) (hB : ∀ k, B k < 256) : ∀ d i fu (C : Mem), i + d = n → d < fu → TxC B n C → gI C 13 4 = nI i → f_X7_goOn_L0 fu C = some ((), sI C 13 4 (nI (spn B isBl d i))) := by
  intro d
  induction d with
  | zero =>
    intro i fu C h1 h2 h h4
    obtain ⟨fu, rfl⟩ : ∃ k, fu = k + 1 := ⟨fu - 1, by omega⟩
    rw [f_X7_goOn_L0, h.1, h4, show i = n by omega, if_pos (Int32.le_refl _), spn, sI_ex C (by rw [h4, show i = n by omega])]
  | succ d ih =>
    intro i fu C h1 h2 h h4
    obtain ⟨fu, rfl⟩ : ∃ k, fu = k + 1 := ⟨fu - 1, by omega⟩
    rw [f_X7_goOn_L0, h.1, h4, if_neg (show ¬ nI n ≤ nI i from nI_ge (by omega) (by omega)), p_byteAt h hn (by omega), bnd_some, p_blank _ (hB i), bnd_some, spn]
    cases z : isBl (B i) with
    | false => rw [if_pos (show bI false = 0 from rfl), if_neg (by decide), sI_ex C h4]
    | true =>
      have e : gI C 13 4 + 1 = nI (i + 1) := by rw [h4, nI_s]
      rw [if_neg (show ¬ bI true = 0 by decide), if_pos rfl, letF, e, ih (i + 1) fu _ (by omega) (by omega) (h.go 4 _ (by decide)) (gI_same _ _ _ _), sI_sI]
theorem r_L0 (hn : n ≤ 900) (hB : ∀ k, B k < 256) : ∀ d i fu (R : Mem), i + d = n → d < fu → TxR B n R → gI R 0 14 = nI i → f_X12_ahead_L0 fu R = some ((), sI R 0 14 (nI (spn B isBl d i))) := by
  intro d
  induction d with
  | zero =>
    intro i fu R h1 h2 h h4
    obtain ⟨fu, rfl⟩ : ∃ k, fu = k + 1 := ⟨fu - 1, by omega⟩
    rw [f_X12_ahead_L0, h4, r_byteN h (by omega) (by omega), bnd_some, if_neg (show ¬ (-1 : Int32) = 32 by decide), h4, r_byteN h (by omega) (by omega), bnd_some, if_neg (show ¬ (-1 : Int32) = 10 by decide), spn, sI_ex R h4]
  | succ d ih =>
    intro i fu R h1 h2 h h4
    obtain ⟨fu, rfl⟩ : ∃ k, fu = k + 1 := ⟨fu - 1, by omega⟩
    have e32 : nI (B i) = (32 : Int32) ↔ B i = 32 := ⟨nI_inj (b := 32) (by have := hB i; omega) (by omega), fun z => by rw [z]; rfl⟩
    have e10 : nI (B i) = (10 : Int32) ↔ B i = 10 := ⟨nI_inj (b := 10) (by have := hB i; omega) (by omega), fun z => by rw [z]; rfl⟩
    have e : gI R 0 14 + 1 = nI (i + 1) := by rw [h4, nI_s]
    have nx := ih (i + 1) fu (sI R 0 14 (nI (i + 1))) (by omega) (by omega) (h.go 14 _ (by decide)) (gI_same _ _ _ _)
    rw [f_X12_ahead_L0, h4, r_byteAt h hn (by omega), bnd_some, spn]
    by_cases z : B i = 32
    · have zb : isBl (B i) = true := by unfold isBl; rw [decide_eq_true z]; rfl
      rw [if_pos (e32.mpr z), if_pos zb, f_X12_ahead_J26, letF, e, nx, sI_sI]
    · rw [if_neg (fun q => z (e32.mp q)), h4, r_byteAt h hn (by omega), bnd_some]
      by_cases z2 : B i = 10
      · have zb : isBl (B i) = true := by unfold isBl; rw [decide_eq_true z2, Bool.or_true]
        rw [if_pos (e10.mpr z2), if_pos zb, f_X12_ahead_J26, letF, e, nx, sI_sI]
      · have zb : ¬ isBl (B i) = true := by unfold isBl; rw [decide_eq_false z, decide_eq_false z2]; decide
        rw [if_neg (fun q => z2 (e10.mp q)), if_neg zb, sI_ex R h4]
end SCAN
