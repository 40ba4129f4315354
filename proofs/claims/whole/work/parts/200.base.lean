/-! BASE of the pure half: loops as folds, small facts of Int32, the class's and the reference's small methods -/
theorem fz_is : fz = 1000000 := rfl
theorem loopF {α β : Type} (F : Nat → α → Nat → Option β) (n : Nat) (step : Nat → α → α) (fin : α → Option β) (Inv : Nat → α → Prop)
    (h1 : ∀ fu a, Inv n a → F (fu + 1) a n = fin a) (h2 : ∀ fu a i, i < n → Inv i a → Inv (i + 1) (step i a) ∧ F (fu + 1) a i = F fu (step i a) (i + 1)) :
    ∀ d i a fu, i + d = n → d < fu → Inv i a → ∃ a', Inv n a' ∧ F fu a i = fin a' ∧ a' = Nat.rec (motive := fun _ => Nat → α → α) (fun _ a => a) (fun _ ih i a => ih (i + 1) (step i a)) d i a := by
  intro d
  induction d with
  | zero =>
    intro i a fu h hf hI
    obtain ⟨fu, rfl⟩ : ∃ k, fu = k + 1 := ⟨fu - 1, by omega⟩
    have e : i = n := by omega
    subst e
    exact ⟨a, hI, h1 fu a hI, rfl⟩
  | succ d ih =>
    intro i a fu h hf hI
    obtain ⟨fu, rfl⟩ : ∃ k, fu = k + 1 := ⟨fu - 1, by omega⟩
    obtain ⟨hI2, e⟩ := h2 fu a i (by omega) hI
    obtain ⟨a', b1, b2, b3⟩ := ih (i + 1) (step i a) fu (by omega) (by omega) hI2
    exact ⟨a', b1, by rw [e]; exact b2, b3⟩
def foldN {α : Type} (f : Nat → α → α) : Nat → Nat → α → α
  | 0, _, a => a
  | d + 1, i, a => foldN f d (i + 1) (f i a)
/-- a loop over a counter is a fold -/
theorem loopN {α β : Type} (F : Nat → α → Nat → Option β) (n : Nat) (step : Nat → α → α) (fin : α → Option β)
    (h1 : ∀ fu a, F (fu + 1) a n = fin a) (h2 : ∀ fu a i, i < n → F (fu + 1) a i = F fu (step i a) (i + 1)) :
    ∀ d i a fu, i + d = n → d < fu → F fu a i = fin (foldN step d i a) := by
  intro d
  induction d with
  | zero =>
    intro i a fu h hf
    obtain ⟨fu, rfl⟩ : ∃ k, fu = k + 1 := ⟨fu - 1, by omega⟩
    have e : i = n := by omega
    subst e
    exact h1 fu a
  | succ d ih =>
    intro i a fu h hf
    obtain ⟨fu, rfl⟩ : ∃ k, fu = k + 1 := ⟨fu - 1, by omega⟩
    rw [h2 fu a i (by omega)]
    exact ih (i + 1) (step i a) fu (by omega) (by omega)
theorem foldN_congr {α : Type} {f g : Nat → α → α} : ∀ (d i : Nat) (a : α), (∀ j a, i ≤ j → j < i + d → f j a = g j a) → foldN f d i a = foldN g d i a := by
  intro d
  induction d with
  | zero => intro i a h; rfl
  | succ d ih =>
    intro i a h
    rw [foldN, foldN, h i a (Nat.le_refl _) (by omega)]
    exact ih (i + 1) _ (fun j a h1 h2 => h j a (by omega) (by omega))
/-- a loop with an invariant -/
theorem loopI {α β : Type} (F : Nat → α → Nat → Option β) (n : Nat) (Inv : Nat → α → Prop) (Post : β → Prop)
    (h1 : ∀ fu a, Inv n a → ∃ b, F (fu + 1) a n = some b ∧ Post b) (h2 : ∀ fu a i, i < n → Inv i a → (∃ a', Inv (i + 1) a' ∧ F (fu + 1) a i = F fu a' (i + 1)) ∨ ∃ b, F (fu + 1) a i = some b ∧ Post b) :
    ∀ d i a fu, i + d = n → d < fu → Inv i a → ∃ b, F fu a i = some b ∧ Post b := by
  intro d
  induction d with
  | zero =>
    intro i a fu h hf hI
    obtain ⟨fu, rfl⟩ : ∃ k, fu = k + 1 := ⟨fu - 1, by omega⟩
    have e : i = n := by omega
    subst e
    exact h1 fu a hI
  | succ d ih =>
    intro i a fu h hf hI
    obtain ⟨fu, rfl⟩ : ∃ k, fu = k + 1 := ⟨fu - 1, by omega⟩
    rcases h2 fu a i (by omega) hI with ⟨a', hI2, e⟩ | h
    · rw [e]
      exact ih (i + 1) a' fu (by omega) (by omega) hI2
    · exact h
theorem clamp_lit {n : Nat} (h : n < 2 ^ 31) : (Int32.ofNat n).toNatClampNeg = n := nI_clamp h
theorem nI_inj {a b : Nat} (ha : a < 2 ^ 31) (hb : b < 2 ^ 31) (h : nI a = nI b) : a = b := (nI_eq ha hb).mp h
theorem i_lt (a b : Int32) : a < b ↔ a.toInt < b.toInt := Int32.lt_iff_toInt_lt
theorem i_le (a b : Int32) : a ≤ b ↔ a.toInt ≤ b.toInt := Int32.le_iff_toInt_le
theorem i_eq (a b : Int32) : a = b ↔ a.toInt = b.toInt := Int32.toInt_inj.symm
theorem i_of {x : Int32} {n : Nat} (h0 : 0 ≤ x.toInt) (h : x.toInt < n) (hn : n < 2 ^ 31) : ∃ j : Nat, j < n ∧ x = nI j := vp_in_of (vp_in_iff.mpr ⟨h0, h⟩) hn
theorem within_nI {x : Int32} {n : Nat} (hn : n < 2 ^ 31) : x < 0 ∨ nI n ≤ x ∨ ∃ j : Nat, j < n ∧ x = nI j := pk_ix x hn
/-- class: within -/
theorem p_within_t {i n : Nat} (h : i < n) (hn : n < 2 ^ 31) (M : Mem) : f_X11_within (nI i) (nI n) M = some (1, M) := by
  rw [f_X11_within, if_neg (nI_pos (by omega)), if_neg (nI_ge h hn)]
theorem p_within_lo {x b : Int32} (h : x < 0) (M : Mem) : f_X11_within x b M = some (0, M) := by
  rw [f_X11_within, if_pos h]
theorem p_within_hi {x b : Int32} (h : b ≤ x) (M : Mem) : f_X11_within x b M = some (0, M) := by
  rw [f_X11_within]
  by_cases h0 : x < 0
  · rw [if_pos h0]
  · rw [if_neg h0, if_pos h]
theorem p_cell {a i n : Nat} (ha : alC a = n) (h : i < n) (hn : n < 2 ^ 31) (M : Mem) : f_X11_cell a (nI i) M = some (gI M a i, M) := by
  have e : Int32.ofNat (alC a) = nI n := by rw [ha]; rfl
  rw [f_X11_cell, e, ha, if_neg (nI_pos (by omega)), if_neg (nI_ge h hn), if_neg (nI_in h hn), nI_clamp (by omega)]
theorem p_put {a i n : Nat} (ha : alC a = n) (h : i < n) (hn : n < 2 ^ 31) (v : Int32) (M : Mem) : f_X11_put a (nI i) v M = some ((), sI M a i v) := by
  have e : Int32.ofNat (alC a) = nI n := by rw [ha]; rfl
  rw [f_X11_put, e, ha, if_neg (nI_pos (by omega)), if_neg (nI_ge h hn), if_neg (nI_in h hn), nI_clamp (by omega)]
  rfl
theorem p_cell_T {i : Nat} (h : i < 6) (M : Mem) : f_X11_cell_T (nI i) M = some (mostL.getD i 0, M) := by
  rw [f_X11_cell_T, if_neg (nI_pos (by omega)), if_neg (by rw [show (6 : Int32) = nI 6 from rfl]; exact nI_ge h (by omega)), if_neg (nI_in h (by decide)), nI_clamp (by omega)]
def bI (b : Bool) : Int32 := if b then 1 else 0
theorem bI_t : bI true = 1 := rfl
theorem bI_f : bI false = 0 := rfl
theorem bI_01 (b : Bool) : bI b = 0 ∨ bI b = 1 := by cases b <;> simp [bI]
theorem bI_0 (b : Bool) : (bI b = 0) ↔ b = false := by cases b <;> decide
def inS (set k : Int32) : Bool := !decide (((set >>> (k &&& 31)) &&& (1 : Int32)) = 0)
theorem p_isIn (s k : Int32) (M : Mem) : f_X11_isIn s k M = some (bI (inS s k), M) := by
  rw [f_X11_isIn, inS]
  by_cases h : ((s >>> (k &&& 31)) &&& (1 : Int32)) = 0
  · rw [if_pos h]; simp [h, bI]
  · rw [if_neg h]; simp [h, bI]
theorem p_setOfAll (n : Int32) (M : Mem) : f_X11_setOfAll n M = some (((1 : Int32) <<< (n &&& 31)) - 1, M) := rfl
/-- courts: objects 27, 55, 83, 111, 139 -/
theorem isC_cases {c : Nat} (h : shC c = 0) : c = 27 ∨ c = 55 ∨ c = 83 ∨ c = 111 ∨ c = 139 :=
  (by decide +kernel : ∀ c, c < 167 → shC c = 0 → c = 27 ∨ c = 55 ∨ c = 83 ∨ c = 111 ∨ c = 139) c (shC_lt h (by decide)) h
theorem isC_lo {c : Nat} (h : shC c = 0) : 27 ≤ c ∧ c ≤ 139 := by rcases isC_cases h with rfl | rfl | rfl | rfl | rfl <;> decide
theorem shC_rule {c i : Nat} (h : shC c = 0) (hi : i < 8) : shC (c + 4 + 1 + i) = 6 := by
  rcases isC_cases h with rfl | rfl | rfl | rfl | rfl <;> exact (by decide +kernel : ∀ i, i < 8 → shC (_ + 4 + 1 + i) = 6) i hi
theorem shC_per {c i : Nat} (h : shC c = 0) (hi : i < 6) : shC (c + 13 + 1 + i) = 5 := by
  rcases isC_cases h with rfl | rfl | rfl | rfl | rfl <;> exact (by decide +kernel : ∀ i, i < 6 → shC (_ + 13 + 1 + i) = 5) i hi
theorem p_countOf {c k : Nat} (hk : k < 6) (M : Mem) : f_X0_countOf c (nI k) M = some (gI M (c + 1) k, M) := by
  rw [f_X0_countOf, if_neg (nI_pos (by omega)), if_neg (by rw [show (6 : Int32) = nI 6 from rfl]; exact nI_ge hk (by omega)), if_neg (nI_in hk (by decide)), nI_clamp (by omega)]
theorem p_count0 (c : Nat) (M : Mem) : f_X0_countOf c 0 M = some (gI M (c + 1) 0, M) := p_countOf (k := 0) (by decide) M
theorem p_count1 (c : Nat) (M : Mem) : f_X0_countOf c 1 M = some (gI M (c + 1) 1, M) := p_countOf (k := 1) (by decide) M
theorem p_count2 (c : Nat) (M : Mem) : f_X0_countOf c 2 M = some (gI M (c + 1) 2, M) := p_countOf (k := 2) (by decide) M
theorem p_count3 (c : Nat) (M : Mem) : f_X0_countOf c 3 M = some (gI M (c + 1) 3, M) := p_countOf (k := 3) (by decide) M
theorem p_count4 (c : Nat) (M : Mem) : f_X0_countOf c 4 M = some (gI M (c + 1) 4, M) := p_countOf (k := 4) (by decide) M
theorem p_count5 (c : Nat) (M : Mem) : f_X0_countOf c 5 M = some (gI M (c + 1) 5, M) := p_countOf (k := 5) (by decide) M
theorem p_has {c k n : Nat} (hk : k < 6) {M : Mem} (hn : gI M (c + 1) k = nI n) (hn2 : n < 2 ^ 31) (x : Int32) : f_X0_has c (nI k) x M = some (bI (decide (0 ≤ x.toInt ∧ x.toInt < n)), M) := by
  rw [f_X0_has]
  by_cases h0 : x < 0
  · rw [if_pos h0]
    rw [i_lt] at h0
    rw [show decide (0 ≤ x.toInt ∧ x.toInt < (n : Int)) = false from decide_eq_false (fun h => by have := h.1; simp at h0; omega)]
    rfl
  · rw [if_neg h0, p_countOf hk, bnd_some, hn]
    rw [i_lt] at h0
    by_cases h1 : nI n ≤ x
    · rw [if_pos h1]
      rw [i_le, nI_toInt hn2] at h1
      rw [show decide (0 ≤ x.toInt ∧ x.toInt < (n : Int)) = false from decide_eq_false (fun h => by have := h.2; omega)]
      rfl
    · rw [if_neg h1]
      rw [i_le, nI_toInt hn2] at h1
      rw [show decide (0 ≤ x.toInt ∧ x.toInt < (n : Int)) = true from decide_eq_true ⟨by simp at h0; omega, by omega⟩]
      rfl
theorem p_ruleAt {c i : Nat} (hi : i < 8) (M : Mem) : f_X0_ruleAt c (nI i) M = some (c + 4 + 1 + i, M) := by
  rw [f_X0_ruleAt, if_neg (nI_pos (by omega)), if_neg (by rw [show (8 : Int32) = nI 8 from rfl]; exact nI_ge hi (by omega)), if_neg (nI_in hi (by decide)), nI_clamp (by omega), f_X0_ruleAt_J26]
theorem p_personAt {c i : Nat} (hi : i < 6) (M : Mem) : f_X0_personAt c (nI i) M = some (c + 13 + 1 + i, M) := by
  rw [f_X0_personAt, if_neg (nI_pos (by omega)), if_neg (by rw [show (6 : Int32) = nI 6 from rfl]; exact nI_ge hi (by omega)), if_neg (nI_in hi (by decide)), nI_clamp (by omega), f_X0_personAt_J26]
