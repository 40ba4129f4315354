/-! LIFE: one row of the reference, one STEP of the class -/
section ROWS
variable {C0 R0 C R C' R' : Mem} {c m : Nat} {K0 K K' : Kt} {n x : Nat}
def Run (C0 : Mem) (c : Nat) (R0 : Mem) (K0 : Kt) (n : Nat) (C R : Mem) : Prop := ∃ K x, SimK C0 c R0 K0 n K x C R ∧ gI C 25 5 = 0 ∧ gI C 25 6 = 0
def Fin2 (C0 : Mem) (c : Nat) (R0 : Mem) (K0 : Kt) (C R : Mem) (tag : Nat) : Prop := ∃ n K x, n ≤ 300 ∧ SimK C0 c R0 K0 n K x C R ∧ gI C 25 6 = 1 ∧ ((tag = 0 ∧ gI C 25 5 = 1) ∨ (tag = 1 ∧ gI C 25 5 = 0))
theorem SimK.set (hc : shC c = 0) (h : SimK C0 c R0 K0 n K x C R) {n' : Nat} (eC : ∀ a k, ¬ (a = 25 ∧ 3 ≤ k ∧ k ≤ 6) → gI C' a k = gI C a k) (lC : ∀ a k, gL C' a k = gL C a k) (rC : ∀ a k, gR C' a k = gR C a k)
    (eR : ∀ a k, ¬ (a = 0 ∧ k = 36) → ¬ a = 17 → ¬ (a = 18 ∧ k = 0) → gI R' a k = gI R a k) (lR : ∀ a k, gL R' a k = gL R a k) (e3 : gI C' 25 3 = nI n') (e36 : gI R' 0 36 = nI n') (e4 : gI C' 25 4 = gI R' 18 0) : SimK C0 c R0 K0 n' K x C' R' := by
  obtain ⟨h1, h2, h3, h4, h5, h6, h7, h8, h9, h10, h11, h12, h13, h14, h15⟩ := h
  exact ⟨h1, h2, h3, h4, h5.set hc h1 (fun a k z => eC a k (by omega)) lC rC, h6.set h1 (fun a k z1 z2 z3 => eR a k (by omega) z2 (by omega)) lR, (eC _ _ (by omega)).trans h7, (eR _ _ (by omega) (by omega) (by omega)).trans h8, e3, e36, e4, (eR _ _ (by omega) (by omega) (by omega)).trans h12, (eR _ _ (by omega) (by omega) (by omega)).trans h13, (eR _ _ (by omega) (by omega) (by omega)).trans h14, (eR _ _ (by omega) (by omega) (by omega)).trans h15⟩
/-- the count of STEPS, one more -/
theorem SimK.step (hc : shC c = 0) (h : SimK C0 c R0 K0 n K x C R) : SimK C0 c R0 K0 (n + 1) K x (sI C 25 3 (nI (n + 1))) (sI R 0 36 (nI (n + 1))) := by
  have h11 := h.2.2.2.2.2.2.2.2.2.2.1
  exact h.set hc (fun a k z => by rw [gI_I, if_neg (by omega)]) (fun _ _ => rfl) (fun _ _ => rfl) (fun a k z1 z2 z3 => by rw [gI_I, if_neg (by omega)]) (fun _ _ => rfl) (gI_same _ _ _ _) (gI_same _ _ _ _) (by rw [gI_I, if_neg (by omega), gI_I, if_neg (by omega), h11])
theorem p_comes {n : Nat} (h3 : gI C 25 3 = nI n) (h6 : gI C 25 6 = 0) (hn : n < 300) : f_X2_comesTo C = some (1, sI C 25 3 (nI (n + 1))) := by
  rw [f_X2_comesTo, if_pos h6, h3, if_pos (show nI n < (300 : Int32) from nI_lt (b := 300) hn (by decide)), letF, nI_s]
theorem p_full (h3 : gI C 25 3 = nI 300) (h6 : gI C 25 6 = 0) : f_X2_comesTo C = some (0, sI (sI C 25 5 1) 25 6 1) := by
  rw [f_X2_comesTo, if_pos h6, h3, if_neg (show ¬ nI 300 < (300 : Int32) by decide), letF, letF]
theorem over_L12 (self : Nat → Int32 → Int32 → Int32 → Mem → Rs Unit) (a1 : Nat) (a3 a4 : Int32) (b5 fu : Nat) (b6 b7 : Int32) (h6 : gI C 25 6 = 1) : f_X2_runSteps_L12 self a1 a3 a4 b5 (fu + 1) b6 b7 C = some ((), C) := by
  rw [f_X2_runSteps_L12]
  by_cases z1 : (30 : Int32) ≤ b7
  · rw [if_pos z1]
  · rw [if_neg z1]
    by_cases z2 : a3 ≤ b6
    · rw [if_pos z2]
    · have : ¬ gI C 25 6 = 0 := by rw [h6]; decide
      rw [if_neg z2, f_X2_comesTo, if_neg this, bnd_some, if_pos rfl]
theorem over_L109 (self : Nat → Int32 → Int32 → Int32 → Mem → Rs Unit) (a1 : Nat) (a3 a4 : Int32) (b5 fu : Nat) (b6 b7 b9 b10 b11 : Int32) (h6 : gI C 25 6 = 1) : f_X2_runSteps_L109 self a1 a3 a4 b5 b6 b7 b9 b10 (fu + 1) b11 C = some ((), C) := by
  rw [f_X2_runSteps_L109]
  by_cases z1 : b10 ≤ b11
  · rw [if_pos z1]
  · rw [if_neg z1]
    by_cases z2 : (3 : Int32) ≤ a4
    · rw [if_pos z2]
    · have : ¬ gI C 25 6 = 0 := by rw [h6]; decide
      rw [if_neg z2, if_neg this]
/-- no STEP is left to come to -/
theorem row_full (hc : shC c = 0) (hm0 : gI R0 1 8 = nI m) (hm : m ≤ 60) {j : Nat} (hj : j < m) (h24 : ¬ gI R0 1 (134 + 6 * j) = 24) (h : Run C0 c R0 K0 300 C R) : ∃ C', Fin2 C0 c R0 K0 C' R 0 ∧ (∀ self a3 a4 fu b7 s, ¬ (30 : Int32) ≤ b7 → ¬ a3 ≤ nI s → f_X2_runSteps_L12 self c a3 a4 (c + 24) (fu + 1) (nI s) b7 C = some ((), C')) ∧ Ev 1 j 1 R (0, R) := by
  obtain ⟨K, x, hs, h5, h6⟩ := h
  have h3 := hs.2.2.2.2.2.2.2.2.1
  have h36 := hs.2.2.2.2.2.2.2.2.2.1
  have h11 := hs.2.2.2.2.2.2.2.2.2.2.1
  refine ⟨sI (sI C 25 5 1) 25 6 1, ⟨300, K, x, by omega, ?_, gI_same _ _ _ _, Or.inl ⟨rfl, by rw [gI_I, if_neg (by omega), gI_same]⟩⟩, fun self a3 a4 fu b7 s z1 z2 => ?_, ?_⟩
  · exact hs.set hc (fun a k z => by rw [gI_I, if_neg (by omega), gI_I, if_neg (by omega)]) (fun _ _ => rfl) (fun _ _ => rfl) (fun a k z1 z2 z3 => rfl) (fun _ _ => rfl) (by rw [gI_I, if_neg (by omega), gI_I, if_neg (by omega), h3]) h36 (by rw [gI_I, if_neg (by omega), gI_I, if_neg (by omega), h11])
  · rw [f_X2_runSteps_L12, if_neg z1, if_neg z2, p_full h3 h6, bnd_some, if_pos rfl]
  · refine ev_row (hs.m8.trans hm0) hm hj (by rw [hs.at]; exact h24) (fun fu => ?_)
    rw [f_X12_lives_L32, hs.m8, hm0, if_neg (show ¬ nI m ≤ nI j from nI_ge hj (by omega)), h36, if_pos (show nI 300 = (300 : Int32) from rfl)]
/-- what the reference does at a row up to its deed -/
theorem r_come (hs : SimK C0 c R0 K0 n K x C R) (hm0 : gI R0 1 8 = nI m) (hm : m ≤ 60) {j : Nat} (hj : j < m) (hn : n < 300) (fu : Nat) : f_X12_lives_L32 (fu + 1) (nI j) R = (if gI R0 1 (134 + 6 * j) = (25 : Int32) then (some (1, sI R 0 36 (nI (n + 1)))) else (bnd (f_X12_does (nI (134 + 6 * j)) (sI R 0 36 (nI (n + 1)))) fun r21 M22 => if r21 = 0 then (f_X12_lives_J112 (f_X12_lives_L32 fu) (nI j) (nI (134 + 6 * j)) (0 : Int32) (gI R 18 0) (1 : Int32) M22) else (f_X12_lives_J112 (f_X12_lives_L32 fu) (nI j) (nI (134 + 6 * j)) (0 : Int32) (gI R 18 0) (0 : Int32) M22))) := by
  have h36 := hs.2.2.2.2.2.2.2.2.2.1
  obtain ⟨z1, z2⟩ := r_row (j := j) (i := 0) (by omega) (by omega) (e := nI (134 + 6 * j)) rfl
  have ne : ¬ nI n = (300 : Int32) := fun z => by have := nI_inj (a := n) (b := 300) (by omega) (by omega) z; omega
  have e1 : (134 : Int32) + (6 : Int32) * nI j = nI (134 + 6 * j) := by rw [litI, litI, pk_mul, nI_add]
  have e2 : gI (sI R 0 36 (nI (n + 1))) 1 (134 + 6 * j) = gI R0 1 (134 + 6 * j) := by rw [gI_I, if_neg (by omega)]; exact hs.at _
  have e3 : gI (sI R 0 36 (nI (n + 1))) 18 0 = gI R 18 0 := by rw [gI_I, if_neg (by omega)]
  rw [f_X12_lives_L32, hs.m8, hm0, if_neg (show ¬ nI m ≤ nI j from nI_ge hj (by omega)), h36, if_neg ne, e1, letF, letF, nI_s, if_neg z1, show (nI (134 + 6 * j)).toNatClampNeg = 134 + 6 * j from z2, e2, e3]
end ROWS
