/-! TEXTS: words and numbers -/
theorem sL_sL (M : Mem) (n k : Nat) (a b : Int64) : sL (sL M n k a) n k b = sL M n k b := by
  refine Prod.ext rfl (Prod.ext ?_ rfl)
  funext x y
  show (if x = n ∧ y = k then b else if x = n ∧ y = k then a else M.2.1 x y) = if x = n ∧ y = k then b else M.2.1 x y
  by_cases z : x = n ∧ y = k
  · rw [if_pos z, if_pos z]
  · rw [if_neg z, if_neg z, if_neg z]
theorem sL_ex (M : Mem) {n k : Nat} {v : Int64} (h : gL M n k = v) : sL M n k v = M := by
  subst h
  refine Prod.ext rfl (Prod.ext ?_ rfl)
  funext a b
  show (if a = n ∧ b = k then M.2.1 n k else M.2.1 a b) = M.2.1 a b
  by_cases z : a = n ∧ b = k
  · rw [if_pos z, z.1, z.2]
  · rw [if_neg z]
theorem sL_sI (M : Mem) (n k : Nat) (v : Int32) (a b : Nat) (w : Int64) : sL (sI M n k v) a b w = sI (sL M a b w) n k v := rfl
theorem sI_cm (M : Mem) {n k m j : Nat} (a b : Int32) (h : ¬ (n = m ∧ k = j)) : sI (sI M n k a) m j b = sI (sI M m j b) n k a := by
  refine Prod.ext ?_ rfl
  funext x y
  show (if x = m ∧ y = j then b else if x = n ∧ y = k then a else M.1 x y) = if x = n ∧ y = k then a else if x = m ∧ y = j then b else M.1 x y
  by_cases z : x = m ∧ y = j
  · have : ¬ (x = n ∧ y = k) := fun q => h ⟨q.1.symm.trans z.1, q.2.symm.trans z.2⟩
    rw [if_pos z, if_neg this, if_pos z]
  · rw [if_neg z, if_neg z]
def nmS (B : Nat → Nat) : Nat → Nat → Int64 → Int64
  | 0, _, a => a
  | d + 1, i, a => nmS B d (i + 1) (a * 27 + (nI (B i)).toInt64 - 97 + 1)
def vlS (B : Nat → Nat) : Nat → Nat → Int32 → Int32
  | 0, _, a => a
  | d + 1, i, a => vlS B d (i + 1) (a * 10 + nI (B i) - 48)
def vrS (B : Nat → Nat) : Nat → Nat → Int32 → Int32
  | 0, _, a => a
  | d + 1, i, a => vrS B d (i + 1) (mnI 100000 (10 * a + nI (B i) - 48))
section RUNS
variable {B : Nat → Nat} {n : Nat}
theorem p_L87 (hn : n ≤ 900) (hB : ∀ k, B k < 256) : ∀ d i fu (C : Mem), i + d = n → d < fu → TxC B n C → gI C 13 4 = nI i → f_X7_goOn_L87 fu C = some ((), sI (sL C 13 7 (nmS B (spn B isLe d i - i) i (gL C 13 7))) 13 4 (nI (spn B isLe d i))) := by
  intro d
  induction d with
  | zero =>
    intro i fu C h1 h2 h h4
    obtain ⟨fu, rfl⟩ : ∃ k, fu = k + 1 := ⟨fu - 1, by omega⟩
    rw [f_X7_goOn_L87, h.1, h4, show i = n by omega, if_pos (Int32.le_refl _), spn, Nat.sub_self, nmS, sL_ex C rfl, sI_ex C (by rw [h4, show i = n by omega])]
  | succ d ih =>
    intro i fu C h1 h2 h h4
    obtain ⟨fu, rfl⟩ : ∃ k, fu = k + 1 := ⟨fu - 1, by omega⟩
    rw [f_X7_goOn_L87, h.1, h4, if_neg (show ¬ nI n ≤ nI i from nI_ge (by omega) (by omega)), p_byteAt h hn (by omega), bnd_some, p_letter (hB i), bnd_some, spn]
    cases z : isLe (B i) with
    | false =>
      rw [if_pos (show bI false = 0 from rfl), if_neg (by decide), Nat.sub_self, nmS, sL_ex C rfl, sI_ex C h4]
    | true =>
      have ge := (spn_ge B isLe d (i + 1)).1
      rw [if_neg (show ¬ bI true = 0 by decide), if_pos rfl, h4, p_byteAt h hn (by omega), bnd_some, f_X7_withLetter, bnd_some, letF, letF, gI_L, h4, nI_s,
        ih (i + 1) fu _ (by omega) (by omega) ((h.goL 7 _).go 4 _ (by decide)) (gI_same _ _ _ _), sL_sI, sL_sL, sI_sI, gL_I, gL_L, if_pos ⟨rfl, rfl⟩, show spn B isLe d (i + 1) - i = (spn B isLe d (i + 1) - (i + 1)) + 1 by omega, nmS]
theorem p_L186 (hn : n ≤ 900) (hB : ∀ k, B k < 256) : ∀ d i fu (C : Mem), i + d = n → d < fu → TxC B n C → gI C 13 4 = nI i → f_X7_goOn_L186 fu C = some ((), sI (sI C 13 8 (vlS B (spn B isDg d i - i) i (gI C 13 8))) 13 4 (nI (spn B isDg d i))) := by
  intro d
  induction d with
  | zero =>
    intro i fu C h1 h2 h h4
    obtain ⟨fu, rfl⟩ : ∃ k, fu = k + 1 := ⟨fu - 1, by omega⟩
    rw [f_X7_goOn_L186, h.1, h4, show i = n by omega, if_pos (Int32.le_refl _), spn, Nat.sub_self, vlS, sI_ex C rfl, sI_ex C (by rw [h4, show i = n by omega])]
  | succ d ih =>
    intro i fu C h1 h2 h h4
    obtain ⟨fu, rfl⟩ : ∃ k, fu = k + 1 := ⟨fu - 1, by omega⟩
    rw [f_X7_goOn_L186, h.1, h4, if_neg (show ¬ nI n ≤ nI i from nI_ge (by omega) (by omega)), p_byteAt h hn (by omega), bnd_some, p_digit (hB i), bnd_some, spn]
    cases z : isDg (B i) with
    | false =>
      rw [if_pos (show bI false = 0 from rfl), if_neg (by decide), Nat.sub_self, vlS, sI_ex C rfl, sI_ex C h4]
    | true =>
      have ge := (spn_ge B isDg d (i + 1)).1
      have e4 : ∀ v, gI (sI C 13 8 v) 13 4 = nI i := fun v => by rw [gI_I, if_neg (by omega), h4]
      rw [if_neg (show ¬ bI true = 0 by decide), if_pos rfl, h4, p_byteAt h hn (by omega), bnd_some, letF, letF, e4, nI_s,
        ih (i + 1) fu _ (by omega) (by omega) ((h.go 8 _ (by decide)).go 4 _ (by decide)) (gI_same _ _ _ _), sI_cm _ _ _ (show ¬ (13 = 13 ∧ 4 = 8) by decide), sI_sI, sI_sI, gI_I, if_neg (by decide), gI_same, show spn B isDg d (i + 1) - i = (spn B isDg d (i + 1) - (i + 1)) + 1 by omega, vlS]
theorem r_L81 (hn : n ≤ 900) (hB : ∀ k, B k < 256) : ∀ d i fu (R : Mem), i + d = n → d < fu → TxR B n R → gI R 0 14 = nI i → f_X12_ahead_L81 fu R = some ((), sI R 0 14 (nI (spn B isLe d i))) := by
  intro d
  induction d with
  | zero =>
    intro i fu R h1 h2 h h4
    obtain ⟨fu, rfl⟩ : ∃ k, fu = k + 1 := ⟨fu - 1, by omega⟩
    rw [f_X12_ahead_L81, h4, r_byteN h (by omega) (by omega), bnd_some, f_X12_isSmall, if_pos (show (-1 : Int32) < 97 by decide), bnd_some, if_pos rfl, spn, sI_ex R h4]
  | succ d ih =>
    intro i fu R h1 h2 h h4
    obtain ⟨fu, rfl⟩ : ∃ k, fu = k + 1 := ⟨fu - 1, by omega⟩
    rw [f_X12_ahead_L81, h4, r_byteAt h hn (by omega), bnd_some, r_small (hB i), bnd_some, spn]
    cases z : isLe (B i) with
    | false => rw [if_pos (show bI false = 0 from rfl), if_neg (by decide), sI_ex R h4]
    | true => rw [if_neg (show ¬ bI true = 0 by decide), if_pos rfl, letF, h4, nI_s, ih (i + 1) fu _ (by omega) (by omega) (h.go 14 _ (by decide)) (gI_same _ _ _ _), sI_sI]
theorem r_L128 (hn : n ≤ 900) (hB : ∀ k, B k < 256) : ∀ d i fu (R : Mem), i + d = n → d < fu → TxR B n R → gI R 0 14 = nI i → f_X12_ahead_L128 fu R = some ((), sI (sI R 0 15 (vrS B (spn B isDg d i - i) i (gI R 0 15))) 0 14 (nI (spn B isDg d i))) := by
  intro d
  induction d with
  | zero =>
    intro i fu R h1 h2 h h4
    obtain ⟨fu, rfl⟩ : ∃ k, fu = k + 1 := ⟨fu - 1, by omega⟩
    rw [f_X12_ahead_L128, h4, r_byteN h (by omega) (by omega), bnd_some, f_X12_isDigit, if_pos (show (-1 : Int32) < 48 by decide), bnd_some, if_pos rfl, spn, Nat.sub_self, vrS, sI_ex R rfl, sI_ex R h4]
  | succ d ih =>
    intro i fu R h1 h2 h h4
    obtain ⟨fu, rfl⟩ : ∃ k, fu = k + 1 := ⟨fu - 1, by omega⟩
    rw [f_X12_ahead_L128, h4, r_byteAt h hn (by omega), bnd_some, r_digit (hB i), bnd_some, spn]
    cases z : isDg (B i) with
    | false => rw [if_pos (show bI false = 0 from rfl), if_neg (by decide), Nat.sub_self, vrS, sI_ex R rfl, sI_ex R h4]
    | true =>
      have ge := (spn_ge B isDg d (i + 1)).1
      have e4 : ∀ v, gI (sI R 0 15 v) 0 14 = nI i := fun v => by rw [gI_I, if_neg (by omega), h4]
      rw [if_neg (show ¬ bI true = 0 by decide), if_pos rfl, h4, r_byteAt h hn (by omega), bnd_some, letF, letF, letF, e4, nI_s,
        ih (i + 1) fu _ (by omega) (by omega) ((h.go 15 _ (by decide)).go 14 _ (by decide)) (gI_same _ _ _ _), sI_cm _ _ _ (show ¬ (0 = 0 ∧ 14 = 15) by decide), sI_sI, sI_sI, gI_I, if_neg (by decide), gI_same, show spn B isDg d (i + 1) - i = (spn B isDg d (i + 1) - (i + 1)) + 1 by omega, vrS]
end RUNS
