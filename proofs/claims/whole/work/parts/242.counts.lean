/-! LIFE: what a TERM counts -/
def fcK (K : Kt) (f : Int32) : Nat := cntP (fun i => decide (K 14 i = f)) (nK K 3)
theorem cnt_add {P Q S : Nat → Bool} : ∀ (d i a b : Nat), (∀ j, i ≤ j → j < i + d → (P j = true ↔ (Q j = true ∨ S j = true)) ∧ ¬ (Q j = true ∧ S j = true)) → foldN (fun i a => a + if P i = true then 1 else 0) d i (a + b) = foldN (fun i a => a + if Q i = true then 1 else 0) d i a + foldN (fun i a => a + if S i = true then 1 else 0) d i b := by
  intro d
  induction d with
  | zero => intro i a b h; rfl
  | succ d ih =>
    intro i a b h
    obtain ⟨h1, h2⟩ := h i (Nat.le_refl _) (by omega)
    rw [foldN, foldN, foldN, ← ih (i + 1) _ _ (fun j a b => h j (by omega) (by omega))]
    congr 1
    cases hq : Q i <;> cases hs : S i <;> cases hp : P i <;> simp [hq, hs, hp] at h1 h2 ⊢ <;> omega
theorem cntP_add {P Q S : Nat → Bool} {n : Nat} (h : ∀ j, j < n → (P j = true ↔ (Q j = true ∨ S j = true)) ∧ ¬ (Q j = true ∧ S j = true)) : cntP P n = cntP Q n + cntP S n :=
  cnt_add n 0 0 0 (fun j _ b => h j (by omega))
theorem fateK_1 (s : Int32) : fateK s = 1 ↔ s = 2 := by
  unfold fateK
  by_cases h : s = 2
  · rw [if_pos h]; exact ⟨fun _ => h, fun _ => rfl⟩
  · rw [if_neg h]
    by_cases h1 : s = 1
    · rw [if_pos h1]; exact ⟨fun z => absurd z (by decide), fun z => absurd z h⟩
    · rw [if_neg h1]; exact ⟨fun z => absurd z (by decide), fun z => absurd z h⟩
theorem sitK_14 (K : Kt) (p i : Nat) : sitK K p 14 i = K 14 i := by
  unfold sitK; rw [upK_n (by omega), upK_n (by omega), upK_n (by omega)]
theorem term_vals : ∀ (d i : Nat) (x : Int32 × Kt), (∀ p, (p < i ∨ i + d ≤ p) → (foldN tstK d i x).2 14 p = x.2 14 p) ∧ (∀ p, ¬ x.2 14 p = 0 → (foldN tstK d i x).2 14 p = x.2 14 p) ∧
    (foldN tstK d i x).1 = foldN (fun p a => if (decide (x.2 14 p = 0) && decide ((foldN tstK d i x).2 14 p = 1)) = true then a ||| ((1 : Int32) <<< (nI p &&& 31)) else a) d i x.1 := by
  intro d
  induction d with
  | zero => intro i x; exact ⟨fun _ _ => rfl, fun _ _ => rfl, rfl⟩
  | succ d ih =>
    intro i x
    obtain ⟨a, b, c⟩ := ih (i + 1) (tstK i x)
    rw [foldN]
    by_cases h14 : x.2 14 i = 0
    · have e : tstK i x = ((if psenseK x.2 i (x.2 20 0) = 2 then x.1 ||| ((1 : Int32) <<< (nI i &&& 31)) else x.1), upK (sitK x.2 i) 14 i (fateK (psenseK x.2 i (x.2 20 0)))) := by rw [tstK, if_pos h14]
      have e2 : ∀ p, p ≠ i → (tstK i x).2 14 p = x.2 14 p := fun p hp => by
        rw [e]
        show upK (sitK x.2 i) 14 i (fateK (psenseK x.2 i (x.2 20 0))) 14 p = _
        rw [upK_n (by omega), sitK_14]
      have e3 : (foldN tstK d (i + 1) (tstK i x)).2 14 i = fateK (psenseK x.2 i (x.2 20 0)) := by
        rw [a i (by omega), e]
        exact upK_s _ _ _ _
      refine ⟨fun p hp => by rw [a p (by omega), e2 p (by omega)], fun p hp => ?_, ?_⟩
      · have hpi : p ≠ i := fun z => hp (by rw [z]; exact h14)
        rw [b p (by rw [e2 p hpi]; exact hp), e2 p hpi]
      · rw [foldN, decide_eq_true h14, e3, c, Bool.true_and]
        have e4 : (if decide (fateK (psenseK x.2 i (x.2 20 0)) = 1) = true then x.1 ||| ((1 : Int32) <<< (nI i &&& 31)) else x.1) = (tstK i x).1 := by
          rw [e]
          show _ = if psenseK x.2 i (x.2 20 0) = 2 then x.1 ||| ((1 : Int32) <<< (nI i &&& 31)) else x.1
          by_cases q : psenseK x.2 i (x.2 20 0) = 2
          · rw [if_pos q, if_pos (decide_eq_true ((fateK_1 _).mpr q))]
          · rw [if_neg q, if_neg (by rw [decide_eq_false (fun z => q ((fateK_1 _).mp z))]; decide)]
        rw [e4]
        refine foldN_congr d (i + 1) _ (fun p a' z1 z2 => ?_)
        rw [e2 p (by omega)]
    · have e : tstK i x = x := by rw [tstK, if_neg h14]
      rw [e] at a b c ⊢
      refine ⟨fun p hp => a p (by omega), b, ?_⟩
      rw [foldN, decide_eq_false h14, Bool.false_and, if_neg (by decide)]
      exact c
theorem term_cnt {K : Kt} (hw : WFK K) {n : Nat} (hs : K 20 1 = nI n) (hn : n + 6 ≤ 30000) :
    ∃ a b : Nat, a < 1024 ∧ b < 1024 ∧ (termK K).1 = nI a ∧ fcK (termK K).2 1 = fcK K 1 + popI (nI a) ∧ setB (fun i => decide (K 14 i = 0)) (nK K 3) &&& setB (fun i => decide ((termK K).2 14 i = 2)) (nK K 3) = nI b ∧ fcK (termK K).2 2 = fcK K 2 + popI (nI b) := by
  have hn3 := hw.n3
  obtain ⟨w1, w2, w3⟩ := termK_wf hw hs hn
  obtain ⟨t1, t2, t3⟩ := term_vals (nK K 3) 0 (0, K)
  have t3' : (termK K).1 = setB (fun p => decide (K 14 p = 0) && decide ((termK K).2 14 p = 1)) (nK K 3) := t3
  have t2' : ∀ p, ¬ K 14 p = 0 → (termK K).2 14 p = K 14 p := t2
  have hS : setB (fun i => decide (K 14 i = 0)) (nK K 3) &&& setB (fun i => decide ((termK K).2 14 i = 2)) (nK K 3) = setB (fun p => decide (K 14 p = 0) && decide ((termK K).2 14 p = 2)) (nK K 3) := by
    refine b_ext (fun i hi => ?_)
    rw [b_and, bt_setB _ (by omega), bt_setB _ (by omega), bt_setB _ (by omega)]
    cases decide (i < nK K 3) <;> cases decide (K 14 i = 0) <;> cases decide ((termK K).2 14 i = 2) <;> rfl
  have big : (2 : Nat) ^ nK K 3 ≤ 1024 := Nat.le_trans (Nat.pow_le_pow_right (by decide) hn3.2) (by decide)
  obtain ⟨a, a1, a2⟩ := setB_nat (fun p => decide (K 14 p = 0) && decide ((termK K).2 14 p = 1)) (n := nK K 3) (by omega)
  obtain ⟨b, b1, b2⟩ := setB_nat (fun p => decide (K 14 p = 0) && decide ((termK K).2 14 p = 2)) (n := nK K 3) (by omega)
  refine ⟨a, b, by omega, by omega, t3'.trans a2, ?_, hS.trans b2, ?_⟩
  · rw [← a2, pop_setB _ (by omega), fcK, fcK, w2]
    refine cntP_add (fun j _ => ?_)
    by_cases z : K 14 j = 0
    · simp [z]
    · have := t2' j z
      simp [z, this]
  · rw [← b2, pop_setB _ (by omega), fcK, fcK, w2]
    refine cntP_add (fun j _ => ?_)
    by_cases z : K 14 j = 0
    · simp [z]
    · have := t2' j z
      simp [z, this]
