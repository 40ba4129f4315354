/-! TEXTS: a court, one thing more -/
def fld (a : Nat) : Nat := if a = 1 then 1 else if 2 ≤ a ∧ a ≤ 10 then 2 else if 11 ≤ a ∧ a ≤ 15 then 3 else if a = 16 ∨ a = 17 then 4 else if a = 18 ∨ a = 19 then 5 else 9
def grK (K : Kt) (kd : Nat) (v : Nat → Int32) : Kt := fun a b => if a = 0 then (if b = kd then nI (nK K kd + 1) else K 0 b) else if fld a = kd ∧ b = nK K kd then v a else K a b
section GROW
variable {K : Kt} {kd : Nat} {v : Nat → Int32}
theorem grK_0 : grK K kd v 0 kd = nI (nK K kd + 1) := by unfold grK; rw [if_pos rfl, if_pos rfl]
theorem grK_k {k : Nat} (h : k ≠ kd) : grK K kd v 0 k = K 0 k := by unfold grK; rw [if_pos rfl, if_neg h]
theorem grK_n {a : Nat} (ha : a ≠ 0) (h : fld a = kd) : grK K kd v a (nK K kd) = v a := by unfold grK; rw [if_neg ha, if_pos ⟨h, rfl⟩]
theorem grK_o {a b : Nat} (ha : a ≠ 0) (h : ¬ (fld a = kd ∧ b = nK K kd)) : grK K kd v a b = K a b := by unfold grK; rw [if_neg ha, if_neg h]
theorem grK_nk (hm : nK K kd < 10) (k : Nat) : nK (grK K kd v) k = if k = kd then nK K kd + 1 else nK K k := by
  show (grK K kd v 0 k).toNatClampNeg = _
  by_cases h : k = kd
  · subst h
    rw [grK_0, if_pos rfl, nI_clamp (by omega)]
  · rw [grK_k h, if_neg h]; rfl
/-- a thing that stood, or the new one -/
theorem gr_ix (hm : nK K kd < 10) {k i : Nat} (hi : i < nK (grK K kd v) k) : (i < nK K k ∧ ¬ (k = kd ∧ i = nK K kd)) ∨ (k = kd ∧ i = nK K kd) := by
  rw [grK_nk hm] at hi
  by_cases h : k = kd
  · subst h
    rw [if_pos rfl] at hi
    by_cases z : i = nK K k
    · exact Or.inr ⟨rfl, z⟩
    · exact Or.inl ⟨by omega, fun q => z q.2⟩
  · rw [if_neg h] at hi
    exact Or.inl ⟨hi, fun q => h q.1⟩
theorem IsC.grow {C C' : Mem} {c : Nat} (h : IsC C c K) (hm : nK K kd < 10) (w2 : kd = 2 → nK K kd < 8) (w3 : kd = 3 → nK K kd < 6) (e0 : gI C' (c + 1) kd = nI (nK K kd + 1)) (e1 : ∀ k, k ≠ kd → gI C' (c + 1) k = gI C (c + 1) k)
    (e2 : ∀ m j, c ≤ m → m < c + 28 → m ≠ c + 1 → ¬ ((kd = 1 ∧ m = c + 3 ∧ j = nK K kd) ∨ (kd = 2 ∧ m = c + 4 + 1 + nK K kd) ∨ (kd = 3 ∧ m = c + 13 + 1 + nK K kd) ∨ (kd = 4 ∧ (m = c + 20 ∨ m = c + 21) ∧ j = nK K kd) ∨ (kd = 5 ∧ (m = c + 22 ∨ m = c + 23) ∧ j = nK K kd)) → gI C' m j = gI C m j)
    (hw : WFK K)
    (n1 : kd = 1 → gI C' (c + 3) (nK K kd) = v 1) (n2 : kd = 2 → ∀ f, f < 9 → gI C' (c + 4 + 1 + nK K kd) f = v (2 + f)) (n3 : kd = 3 → ∀ f, f < 5 → gI C' (c + 13 + 1 + nK K kd) f = v (11 + f)) (n4 : kd = 4 → gI C' (c + 20) (nK K kd) = v 16 ∧ gI C' (c + 21) (nK K kd) = v 17) (n5 : kd = 5 → gI C' (c + 22) (nK K kd) = v 18 ∧ gI C' (c + 23) (nK K kd) = v 19) (hkd : kd < 6) : IsC C' c (grK K kd v) := by
  obtain ⟨h0, h1, h2, h3, h4, h5, h6, h7⟩ := h
  have w4 : kd = 4 → nK K kd ≤ 6 := fun z => by rw [z]; exact hw.n4.2
  have x2 := hw.n2.2
  have x3 := hw.n3.2
  have u1 : fld 1 = 1 := rfl
  have u16 : fld 16 = 4 := rfl
  have u17 : fld 17 = 4 := rfl
  have u18 : fld 18 = 5 := rfl
  have u19 : fld 19 = 5 := rfl
  refine ⟨fun k hk => ?_, fun i hi => ?_, fun i hi f hf => ?_, fun i hi f hf => ?_, fun i hi => ?_, fun i hi => ?_, ?_, ?_⟩
  · by_cases z : k = kd
    · subst z; rw [e0, grK_0]
    · rw [e1 k z, grK_k z]; exact h0 k hk
  · rcases gr_ix hm hi with ⟨a, b⟩ | ⟨a, b⟩
    · rw [e2 _ _ (by omega) (by omega) (by omega) (by omega), grK_o (a := 1) (by omega) (by rw [u1]; omega)]; exact h1 i a
    · subst b; rw [n1 a.symm, grK_n (a := 1) (by omega) (u1.trans a)]
  · rcases gr_ix hm hi with ⟨a, b⟩ | ⟨a, b⟩
    · have ef : fld (2 + f) = 2 := by unfold fld; rw [if_neg (by omega), if_pos (by omega)]
      rw [e2 _ _ (by omega) (by omega) (by omega) (by omega), grK_o (by omega) (by rw [ef]; omega)]; exact h2 i a f hf
    · have ef : fld (2 + f) = 2 := by unfold fld; rw [if_neg (by omega), if_pos (by omega)]
      subst b; rw [n2 a.symm f hf, grK_n (by omega) (by rw [ef]; exact a)]
  · rcases gr_ix hm hi with ⟨a, b⟩ | ⟨a, b⟩
    · have ef : fld (11 + f) = 3 := by unfold fld; rw [if_neg (by omega), if_neg (by omega), if_pos (by omega)]
      rw [e2 _ _ (by omega) (by omega) (by omega) (by omega), grK_o (by omega) (by rw [ef]; omega)]; exact h3 i a f hf
    · have ef : fld (11 + f) = 3 := by unfold fld; rw [if_neg (by omega), if_neg (by omega), if_pos (by omega)]
      subst b; rw [n3 a.symm f hf, grK_n (by omega) (by rw [ef]; exact a)]
  · rcases gr_ix hm hi with ⟨a, b⟩ | ⟨a, b⟩
    · rw [e2 _ _ (by omega) (by omega) (by omega) (by omega), e2 _ _ (by omega) (by omega) (by omega) (by omega), grK_o (a := 16) (by omega) (by rw [u16]; omega), grK_o (a := 17) (by omega) (by rw [u17]; omega)]; exact h4 i a
    · subst b; rw [(n4 a.symm).1, (n4 a.symm).2, grK_n (a := 16) (by omega) (u16.trans a), grK_n (a := 17) (by omega) (u17.trans a)]; exact ⟨rfl, rfl⟩
  · rcases gr_ix hm hi with ⟨a, b⟩ | ⟨a, b⟩
    · rw [e2 _ _ (by omega) (by omega) (by omega) (by omega), e2 _ _ (by omega) (by omega) (by omega) (by omega), grK_o (a := 18) (by omega) (by rw [u18]; omega), grK_o (a := 19) (by omega) (by rw [u19]; omega)]; exact h5 i a
    · subst b; rw [(n5 a.symm).1, (n5 a.symm).2, grK_n (a := 18) (by omega) (u18.trans a), grK_n (a := 19) (by omega) (u19.trans a)]; exact ⟨rfl, rfl⟩
  · rw [e2 _ _ (by omega) (by omega) (by omega) (by omega), grK_o (a := 20) (by omega) (by rw [show fld 20 = 9 from rfl]; omega)]; exact h6
  · rw [e2 _ _ (by omega) (by omega) (by omega) (by omega), grK_o (a := 20) (by omega) (by rw [show fld 20 = 9 from rfl]; omega)]; exact h7
end GROW
