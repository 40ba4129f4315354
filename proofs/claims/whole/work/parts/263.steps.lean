/-! TEXTS: tokens taken and refused, in both -/
def StT (B : Nat → Nat) (n : Nat) (C R : Mem) (f e : Nat) : Prop := TxC B n C ∧ TxR B n R ∧ KwC C ∧ TkR B n C R f e ∧ gI R 0 18 = 0
/-- both stop with the same FAULT -/
def FlT (C R : Mem) : Prop := ∃ k p : Nat, 1 ≤ k ∧ k ≤ 9 ∧ p ≤ 900 ∧ gI C 13 9 = nI k ∧ gI C 13 10 = nI p ∧ gI R 0 18 = nI k ∧ gI R 0 17 = nI p
section STEPS
variable {B : Nat → Nat} {n : Nat} {C R : Mem} {f e : Nat}
theorem st_go (hn : n ≤ 900) (hB : ∀ k, B k < 256) (h : StT B n C R f e) : ∃ C' R' f' e', f_X7_goOn C = some ((), C') ∧ f_X12_ahead R = some ((), R') ∧ StT B n C' R' f' e' ∧ GoC C C' ∧ GoR R R' ∧ e ≤ f' := by
  obtain ⟨h1, h2, h3, h4, h5⟩ := h
  obtain ⟨C', R', f', e', a1, a2, a3, a4, a5, a6⟩ := tk_go hn hB h1 h2 h3 h4.2.1 h4.2.2.1 h4.2.2.2.1
  exact ⟨C', R', f', e', a1, a2, ⟨h1.gi a4, h2.gi a5, h3.gi a4, a3, (a5.1 _ _ (by omega)).trans h5⟩, a4, a5, a6⟩
/-- the class's number of the TOKEN, and what the reference says of it -/
theorem tk_num (h : StT B n C R f e) (hn : n ≤ 900) (hB : ∀ k, B k < 256) : ∃ t : Nat, t ≤ 62 ∧ gI C 13 6 = nI t ∧ (t = 33 ↔ gI R 0 12 = 1) ∧ (t = 32 ↔ gI R 0 12 = 0) ∧ ((t < 29 ∧ f_X12_inWords R = some (nI (kwP.getD t 0), R)) ∨ (29 ≤ t ∧ f_X12_inWords R = some (-1, R))) := by
  obtain ⟨h1, h2, h3, ⟨a1, a2, a3, a4, a5, a6, a7⟩, h5⟩ := h
  rcases a7 with ⟨b1, b2, b3⟩ | ⟨b1, b2, b3, b4⟩ | ⟨b1, v, b2, b3, b4, b5, b6⟩ | ⟨b1, s, b2, b3, b4, b5⟩ | ⟨b1, b2, b3⟩
  · exact ⟨32, by omega, b2, by rw [b3]; decide, by rw [b3]; decide, Or.inr ⟨by omega, r_inWordsN (by rw [b3]; decide)⟩⟩
  · have w := r_inWords hn hB h2 a1 a2 a6 a4 b3
    rcases b4 with ⟨c1, c2⟩ | ⟨c1, c2, c3⟩
    · have ll : (wrd B f (e - f)).length = e - f := by unfold wrd; rw [List.length_map, List.length_range']
      have : kwI (wrd B f (e - f)) = 29 := by
        rcases findW_is (wrd B f (e - f)) 29 0 (by omega) with ⟨x1, x2, -⟩ | ⟨x1, -⟩
        · exfalso
          have := (kw_lets _ x1).1
          rw [x2, ll] at this
          omega
        · exact x1
      refine ⟨30, by omega, c2, by rw [b3]; decide, by rw [b3]; decide, Or.inr ⟨by omega, ?_⟩⟩
      rcases kw_both (wrd B f (e - f)) with ⟨x1, -⟩ | ⟨x1, x2⟩
      · omega
      · rw [w, x2, if_neg (by omega)]
    · rcases kw_both (wrd B f (e - f)) with ⟨x1, x2, x3⟩ | ⟨x1, x2⟩
      · refine ⟨kwI (wrd B f (e - f)), by omega, c3, ?_, ?_, Or.inl ⟨x1, by rw [w, if_pos x3, x2]⟩⟩
        · rw [b3]; exact ⟨fun z => by omega, fun z => absurd z (by decide)⟩
        · rw [b3]; exact ⟨fun z => by omega, fun z => absurd z (by decide)⟩
      · refine ⟨29, by omega, by rw [c3, x1], by rw [b3]; decide, by rw [b3]; decide, Or.inr ⟨by omega, by rw [w, x2, if_neg (by omega)]⟩⟩
  · exact ⟨31, by omega, b3, by rw [b4]; decide, by rw [b4]; decide, Or.inr ⟨by omega, r_inWordsN (by rw [b4]; decide)⟩⟩
  · refine ⟨s, by omega, b3, ?_, ?_, Or.inr ⟨by omega, r_inWordsN (by rw [b4]; decide)⟩⟩
    · rw [b4]; exact ⟨fun z => by omega, fun z => absurd z (by decide)⟩
    · rw [b4]; exact ⟨fun z => by omega, fun z => absurd z (by decide)⟩
  · exact ⟨33, by omega, b2, by rw [b3]; decide, by rw [b3]; decide, Or.inr ⟨by omega, r_inWordsN (by rw [b3]; decide)⟩⟩
/-- a refusal -/
theorem st_fail (h : StT B n C R f e) (hn : n ≤ 900) (hB : ∀ k, B k < 256) {k : Nat} (h1 : 1 ≤ k) (h9 : k ≤ 9) : ∃ C' R', f_X7_refuse (nI k) C = some (0, C') ∧ f_X12_fails (nI k) R = some (0, R') ∧ FlT C' R' ∧
    (∀ a j, ¬ (a = 13 ∧ (j = 9 ∨ j = 10)) → gI C' a j = gI C a j) ∧ (∀ a j, gL C' a j = gL C a j) ∧ (∀ a j, gR C' a j = gR C a j) ∧ (∀ a j, ¬ (a = 0 ∧ (j = 17 ∨ j = 18)) → gI R' a j = gI R a j) ∧ ∀ a j, gL R' a j = gL R a j := by
  obtain ⟨t, t1, t2, t3, -, -⟩ := tk_num h hn hB
  obtain ⟨-, -, -, ⟨a1, a2, a3, a4, a5, a6, -⟩, h18⟩ := h
  have go : ∀ kk : Nat, 1 ≤ kk → kk ≤ 9 → ∃ C' R', f_X7_refuse_J15 (nI kk) C = some (0, C') ∧ f_X12_fails_J21 (nI kk) R = some (0, R') ∧ FlT C' R' ∧
    (∀ a j, ¬ (a = 13 ∧ (j = 9 ∨ j = 10)) → gI C' a j = gI C a j) ∧ (∀ a j, gL C' a j = gL C a j) ∧ (∀ a j, gR C' a j = gR C a j) ∧ (∀ a j, ¬ (a = 0 ∧ (j = 17 ∨ j = 18)) → gI R' a j = gI R a j) ∧ ∀ a j, gL R' a j = gL R a j := by
    intro kk y1 y9
    have c5 : gI (sI C 13 9 (nI kk)) 13 5 = nI f := by rw [gI_I, if_neg (by omega), a5]
    have r3 : gI (sI R 0 18 (nI kk)) 0 13 = nI f := by rw [gI_I, if_neg (by omega), a6]
    refine ⟨sI (sI C 13 9 (nI kk)) 13 10 (nI f), sI (sI R 0 18 (nI kk)) 0 17 (nI f), ?_, ?_, ⟨kk, f, y1, y9, by omega, ?_, gI_same _ _ _ _, ?_, gI_same _ _ _ _⟩, fun a j z => ?_, fun _ _ => rfl, fun _ _ => rfl, fun a j z => ?_, fun _ _ => rfl⟩
    · rw [f_X7_refuse_J15, letF, letF, c5]
    · rw [f_X12_fails_J21, letF, letF, r3]
    · rw [gI_I, if_neg (by omega), gI_same]
    · rw [gI_I, if_neg (by omega), gI_same]
    · rw [gI_I, if_neg (by omega), gI_I, if_neg (by omega)]
    · rw [gI_I, if_neg (by omega), gI_I, if_neg (by omega)]
  by_cases z : t = 33
  · rw [f_X7_refuse, t2, if_pos (show nI t = (33 : Int32) by rw [z]; rfl), f_X12_fails, if_pos h18, if_pos (t3.mp z)]
    exact go 1 (by omega) (by omega)
  · have ne : ¬ nI t = (33 : Int32) := fun q => z (nI_inj (b := 33) (by omega) (by omega) q)
    rw [f_X7_refuse, t2, if_neg ne, f_X12_fails, if_pos h18, if_neg (fun q => z (t3.mpr q))]
    exact go k h1 h9
end STEPS
