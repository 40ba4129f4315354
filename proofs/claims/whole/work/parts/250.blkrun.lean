/-! LIFE: a block, in the class and in the reference -/
theorem cntW_le (at_ : Nat → Int32) : ∀ k, cntW at_ k ≤ k := by
  intro k
  induction k with
  | zero => exact Nat.le_refl _
  | succ k ih =>
    rw [cntW]
    split <;> omega
theorem cntW_mono (at_ : Nat → Int32) {a b : Nat} (h : a ≤ b) : cntW at_ a ≤ cntW at_ b := by
  induction b with
  | zero => have : a = 0 := by omega
            subst this; exact Nat.le_refl _
  | succ b ih =>
    by_cases z : a = b + 1
    · subst z; exact Nat.le_refl _
    · have := ih (by omega)
      rw [cntW]
      omega
section BLKRUN
variable {C0 R0 : Mem} {c m : Nat} {K0 : Kt}
theorem Run.m8 {C R : Mem} {n : Nat} (h : Run C0 c R0 K0 n C R) : gI R 1 8 = gI R0 1 8 := by
  obtain ⟨K, x, h, -⟩ := h
  exact h.m8
theorem Run.at {C R : Mem} {n : Nat} (h : Run C0 c R0 K0 n C R) (k : Nat) : gI R 1 (134 + k) = gI R0 1 (134 + k) := by
  obtain ⟨K, x, h, -⟩ := h
  exact h.at k
theorem Run.l17 {C R : Mem} {n : Nat} (hc : shC c = 0) (h : Run C0 c R0 K0 n C R) (k : Nat) (v : Int32) : Run C0 c R0 K0 n C (sI R 17 k v) := by
  obtain ⟨K, x, h, h5, h6⟩ := h
  have e := h.2.2.2.2.2.2.2.2
  exact ⟨K, x, h.set hc (fun _ _ _ => rfl) (fun _ _ => rfl) (fun _ _ => rfl) (fun a k z1 z2 z3 => by rw [gI_I, if_neg (by omega)]) (fun _ _ => rfl) e.1 (by rw [gI_I, if_neg (by omega)]; exact e.2.1) (by rw [gI_I, if_neg (by omega)]; exact e.2.2.1), h5, h6⟩
/-- what a block does: it ends, or all ends in it -/
def BOut (C0 : Mem) (c : Nat) (R0 : Mem) (K0 : Kt) (j e n lo hi : Nat) (C R : Mem) (X : Rs Unit) (g : Nat → Nat) (q lim : Nat) : Prop :=
  (∃ n' C' R', n ≤ n' ∧ n' ≤ 300 ∧ X = some ((), C') ∧ Run C0 c R0 K0 n' C' R' ∧ (∀ k, (k < lo ∨ hi ≤ k) → gI R' 17 k = gI R 17 k) ∧ ∀ nb f out, 1 ≤ nb → g nb ≤ lim → Ev nb e f R' out → Ev (g nb) j (f + (n' - n)) R out) ∨
  (∃ C' R' tag, X = some ((), C') ∧ Fin2 C0 c R0 K0 C' R' tag ∧ Ev q j (302 - n) R (tag, R'))
theorem loop_run (hc : shC c = 0) (hm0 : gI R0 1 8 = nI m) (hm : m ≤ 60) {j p d dp cp s : Nat} (hjp : j < p) (hp : p < m) (hd : d ≤ 2) (h24 : gI R0 1 (134 + 6 * p) = 24) (hop : gI R0 1 (134 + 6 * p + 4) = nI j)
    (body : ∀ n C R, Run C0 c R0 K0 n C R → n ≤ 300 → BOut C0 c R0 K0 (j + 1) p n (j + 1) p C R (f_X2_runSteps dp c (nI (s + 1)) (nI cp) (nI (d + 1)) C) (fun nb => nb) 1 (100 * (62 - p))) (a3 b7 : Int32) :
    ∀ t n C R b fu, Run C0 c R0 K0 n C R → n ≤ 300 → t ≤ 98 → b + (t + 1) ≤ 99 → t + 1 < fu → ((gI R0 1 (134 + 6 * j) = 23 ∧ gI R 17 j = nI t) ∨ (¬ gI R0 1 (134 + 6 * j) = 23 ∧ t = 0)) →
      BOut C0 c R0 K0 (j + 1) (p + 1) n j p C R (f_X2_runSteps_L109 (f_X2_runSteps dp) c a3 (nI d) (c + 24) (nI s) b7 (nI cp) (nI (b + (t + 1))) fu (nI b) C) (fun nb => nb + t + 1) (t + 1) (100 * (62 - p)) := by
  intro t
  induction t with
  | zero =>
    intro n C R b fu hr hn ht hb hfu hl
    obtain ⟨fu, rfl⟩ : ∃ k, fu = k + 2 := ⟨fu - 2, by omega⟩
    have h6 := hr.choose_spec.choose_spec.2.2
    have z1 : ¬ nI (b + (0 + 1)) ≤ nI b := nI_ge (by omega) (by omega)
    have z2 : ¬ (3 : Int32) ≤ nI d := nI_ge (b := 3) (by omega) (by decide)
    rcases body n C R hr hn with ⟨n', C', R', e1, e2, e3, e4, e5, e6⟩ | ⟨C', R', tag, e1, e2, e3⟩
    · refine Or.inl ⟨n', C', R', e1, e2, ?_, e4, fun k hk => e5 k (by omega), fun nb f out w1 w2 hev => ?_⟩
      · rw [f_X2_runSteps_L109, if_neg z1, if_neg z2, if_pos h6, nI_s, nI_s, e3, bnd_some, letF, nI_s, f_X2_runSteps_L109, if_pos (Int32.le_refl _)]
      · have hl' : ¬ gI R' 1 (134 + 6 * j) = 23 ∨ gI R' 17 j ≤ 0 := by
          rcases hl with ⟨y1, y2⟩ | ⟨y1, -⟩
          · rw [e5 j (by omega), y2]; exact Or.inr (by decide)
          · rw [e4.at]; exact Or.inl y1
        have := ev_next (e4.m8.trans hm0) hm hp hjp (by rw [e4.at]; exact h24) ((e4.at (6 * p + 4)).trans hop) hl' hev
        exact e6 (nb + 1) f out (by omega) w2 this
    · refine Or.inr ⟨C', R', tag, ?_, e2, e3⟩
      obtain ⟨_, _, _, _, _, o6, _⟩ := e2
      rw [f_X2_runSteps_L109, if_neg z1, if_neg z2, if_pos h6, nI_s, nI_s, e1, bnd_some, letF]
      exact over_L109 _ _ _ _ _ _ _ _ _ _ _ o6
  | succ t ih =>
    intro n C R b fu hr hn ht hb hfu hl
    obtain ⟨fu, rfl⟩ : ∃ k, fu = k + 1 := ⟨fu - 1, by omega⟩
    have h6 := hr.choose_spec.choose_spec.2.2
    have z1 : ¬ nI (b + (t + 1 + 1)) ≤ nI b := nI_ge (by omega) (by omega)
    have z2 : ¬ (3 : Int32) ≤ nI d := nI_ge (b := 3) (by omega) (by decide)
    obtain ⟨y1, y2⟩ : gI R0 1 (134 + 6 * j) = 23 ∧ gI R 17 j = nI (t + 1) := by
      rcases hl with h | ⟨-, h⟩
      · exact h
      · omega
    rcases body n C R hr hn with ⟨n1, C1, R1, e1, e2, e3, e4, e5, e6⟩ | ⟨C', R', tag, e1, e2, e3⟩
    · have hl1 : gI R1 17 j = nI (t + 1) := (e5 j (by omega)).trans y2
      have again : ∀ nb f out, nb + 1 ≤ 100 * (62 - p) → Ev nb (j + 1) f (sI R1 17 j (nI t)) out → Ev (nb + 1) (j + 1) (f + (n1 - n)) R out := fun nb f out w hev =>
        e6 (nb + 1) f out (by omega) w (ev_again (e4.m8.trans hm0) hm hp hjp (by rw [e4.at]; exact h24) ((e4.at (6 * p + 4)).trans hop) (by rw [e4.at]; exact y1) (by omega) hl1 hev)
      have step : f_X2_runSteps_L109 (f_X2_runSteps dp) c a3 (nI d) (c + 24) (nI s) b7 (nI cp) (nI (b + (t + 1 + 1))) (fu + 1) (nI b) C = f_X2_runSteps_L109 (f_X2_runSteps dp) c a3 (nI d) (c + 24) (nI s) b7 (nI cp) (nI (b + 1 + (t + 1))) fu (nI (b + 1)) C1 := by
        rw [f_X2_runSteps_L109, if_neg z1, if_neg z2, if_pos h6, nI_s, nI_s, e3, bnd_some, letF, nI_s, show b + (t + 1 + 1) = b + 1 + (t + 1) by omega]
      rcases ih n1 C1 (sI R1 17 j (nI t)) (b + 1) fu (e4.l17 hc j _) e2 (by omega) (by omega) (by omega) (Or.inl ⟨y1, gI_same _ _ _ _⟩) with ⟨n', C', R', g1, g2, g3, g4, g5, g6⟩ | ⟨C', R', tag, g1, g2, g3⟩
      · refine Or.inl ⟨n', C', R', by omega, g2, step.trans g3, g4, fun k hk => ?_, fun nb f out w1 w2 hev => ?_⟩
        · rw [g5 k (by omega), gI_I, if_neg (by omega), e5 k (by omega)]
        · have w3 : nb + (t + 1) + 1 ≤ 100 * (62 - p) := w2
          have := again (nb + t + 1) _ out (by omega) (g6 nb f out w1 (by show nb + t + 1 ≤ _; omega) hev)
          exact this.mono (by show nb + t + 1 + 1 ≤ nb + (t + 1) + 1; omega) (by omega)
      · refine Or.inr ⟨C', R', tag, step.trans g1, g2, ?_⟩
        exact (again (t + 1) _ _ (by omega) g3).mono (by omega) (by omega)
    · refine Or.inr ⟨C', R', tag, ?_, e2, e3.mono (by omega) (by omega)⟩
      obtain ⟨_, _, _, _, _, o6, _⟩ := e2
      obtain ⟨fu, rfl⟩ : ∃ k, fu = k + 1 := ⟨fu - 1, by omega⟩
      rw [f_X2_runSteps_L109, if_neg z1, if_neg z2, if_pos h6, nI_s, nI_s, e1, bnd_some, letF]
      exact over_L109 _ _ _ _ _ _ _ _ _ _ _ o6
end BLKRUN
