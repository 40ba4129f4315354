/-! TEXTS: a part of a court begins; SMELLS, SIGNS -/
def EndP (B : Nat → Nat) (n c kd x : Nat) (K : Kt) (C0 R0 C R : Mem) : Prop := InS B n c kd x C0 R0 C R ∧ gI C (c + 1) kd = nI (x + 1) ∧ gI R 1 (2008 + kd) = nI (x + 1) ∧ (kd ≠ 2 → kd ≠ 5 → nmOK (gL C (c + 2) (kd * 6 + x)) (gL R 2 (92 + nmB.getD kd 0 + x))) ∧ RowOK c kd x K C R
theorem r_full {R : Mem} {k most x : Nat} (hk : k < 6) (r : gI R 1 (2008 + k) = nI x) (hx : x ≤ 10) (hm : most ≤ 10) : f_X12_isFull (nI k) (nI most) R = some (bI (decide (x = most)), R) := by
  obtain ⟨z1, z2⟩ := r_rd (e := (2008 : Int32) + nI k) (j := 2008 + k) (nI_add 2008 k) (by omega)
  rw [f_X12_isFull, if_neg z1, z2, r]
  by_cases h : x = most
  · rw [if_pos (by rw [h]), decide_eq_true h]; rfl
  · rw [if_neg (fun q => h (nI_inj (by omega) (by omega) q)), decide_eq_false h]; rfl
theorem most_is : ∀ k, k < 6 → mostL.getD k 0 = nI (mxK.getD k 0) ∧ mxK.getD k 0 ≤ 10 := by decide +kernel
theorem c_full {C : Mem} {c k x : Nat} (hk : k < 6) (r : gI C (c + 1) k = nI x) (hx : x ≤ 10) : f_X0_isFull c (nI k) C = some (bI (decide (mxK.getD k 0 ≤ x)), C) := by
  obtain ⟨m1, m2⟩ := most_is k hk
  rw [f_X0_isFull, p_countOf hk, bnd_some, r, p_cell_T hk, bnd_some, m1]
  by_cases h : mxK.getD k 0 ≤ x
  · rw [if_neg (nI_nlt h (by omega)), decide_eq_true h]; rfl
  · rw [if_pos (nI_lt (by omega) (by omega)), decide_eq_false h]; rfl
section BEGINS
variable {B : Nat → Nat} {n c kd x : Nat} {C0 R0 C R : Mem} {K : Kt}
/-- GUILTY or CLEAN or neither -/
theorem in_guilt (X : Cx B n c kd x) (h : InS B n c kd x C0 R0 C R) : ∃ g w : Int32, f_X4_guiltHere C = some (g, C) ∧ f_X12_inWords R = some (w, R) ∧
    ((g = 1 ∧ w = 8) ∨ (g = 2 ∧ w = 9) ∨ (g = 0 ∧ w = 7 ∧ gI C 13 6 = 9) ∨ (g = 0 ∧ (w < 7 ∨ (¬ w < 7 ∧ ¬ w ≤ 9)) ∧ ¬ gI C 13 6 = 9 ∧ ¬ w = 8 ∧ ¬ w = 9)) := by
  obtain ⟨f, e, s⟩ := h.1
  obtain ⟨t, t1, t2, -, -, t3⟩ := tk_num s X.1 X.2.1
  have ne : ∀ u : Nat, u < 100 → t ≠ u → ¬ gI C 13 6 = nI u := fun u hu z q => z (nI_inj (by omega) (by omega) (t2.symm.trans q))
  by_cases z7 : t = 7
  · subst z7
    rcases t3 with ⟨-, t3⟩ | ⟨y, -⟩
    · exact ⟨1, 8, by rw [f_X4_guiltHere, t2]; rfl, t3, Or.inl ⟨rfl, rfl⟩⟩
    · omega
  by_cases z8 : t = 8
  · subst z8
    rcases t3 with ⟨-, t3⟩ | ⟨y, -⟩
    · exact ⟨2, 9, by rw [f_X4_guiltHere, t2]; rfl, t3, Or.inr (Or.inl ⟨rfl, rfl⟩)⟩
    · omega
  have g0 : f_X4_guiltHere C = some (0, C) := by
    rw [f_X4_guiltHere, if_neg (show ¬ gI C 13 6 = 7 from ne 7 (by omega) z7), if_neg (show ¬ gI C 13 6 = 8 from ne 8 (by omega) z8)]
  by_cases z9 : t = 9
  · subst z9
    rcases t3 with ⟨-, t3⟩ | ⟨y, -⟩
    · exact ⟨0, 7, g0, t3, Or.inr (Or.inr (Or.inl ⟨rfl, rfl, t2⟩))⟩
    · omega
  rcases t3 with ⟨y, t3⟩ | ⟨y, t3⟩
  · refine ⟨0, _, g0, t3, Or.inr (Or.inr (Or.inr ⟨rfl, ?_, ne 9 (by omega) z9, ?_, ?_⟩))⟩
    · have : kwP.getD t 0 < 7 ∨ (9 < kwP.getD t 0 ∧ kwP.getD t 0 < 29) := (by decide : ∀ t, t < 29 → t ≠ 7 → t ≠ 8 → t ≠ 9 → kwP.getD t 0 < 7 ∨ (9 < kwP.getD t 0 ∧ kwP.getD t 0 < 29)) t y z7 z8 z9
      rcases this with q | ⟨q, q2⟩
      · exact Or.inl (nI_lt (b := 7) q (by omega))
      · exact Or.inr ⟨nI_nlt (b := 7) (by omega) (by omega), nI_ge (a := 9) q (by omega)⟩
    · exact kwP_ne y (t := 7) (by omega) z7
    · exact kwP_ne y (t := 8) (by omega) z8
  · exact ⟨0, -1, g0, t3, Or.inr (Or.inr (Or.inr ⟨rfl, Or.inl (by decide), ne 9 (by omega) z9, by decide, by decide⟩))⟩
/-- a new NAME's part, up to its NAME -/
theorem in_new (X : Cx B n c kd x) (h : InS B n c kd x C0 R0 C R) (hw : WFK K) (iC : IsC C0 c K) (iR : IsR R0 2008 K) (iN : NmR C0 c R0 4 K) (hx : x = nK K kd) (gC : GoC C0 C) (gR : GoR R0 R) (ha : f_X12_ahead R0 = some ((), R)) {most sort : Nat}
    (hkd : (kd = 0 ∧ most = 5 ∧ sort = 0) ∨ (kd = 1 ∧ most = 6 ∧ sort = 5) ∨ (kd = 3 ∧ most = 6 ∧ sort = 11) ∨ (kd = 4 ∧ most = 6 ∧ sort = 17)) :
    Par c C0 R0 (f_X4_takeNewName (nI kd) c C) (f_X12_newOne (nI kd) (nI most) (nI sort) R0) (fun C' R' => InS B n c kd x C0 R0 C' R' ∧ gI C' (c + 1) kd = nI (x + 1) ∧ nmOK (gL C' (c + 2) (kd * 6 + x)) (gL R' 2 (92 + nmB.getD kd 0 + x)) ∧ gI C' 16 3 = nI x ∧ ∀ j, gI R' 1 j = gI R0 1 j) := by
  obtain ⟨f, e, s⟩ := h.1
  have lo := isC_lo X.2.2.2.2
  have mx := mxC X.2.2.1 X.2.2.2.1
  have es : sort = nmB.getD kd 0 := by rcases hkd with ⟨rfl, -, rfl⟩ | ⟨rfl, -, rfl⟩ | ⟨rfl, -, rfl⟩ | ⟨rfl, -, rfl⟩ <;> rfl
  have xm : x < most := by omega
  have r0 : gI R0 1 (2008 + kd) = nI x := by rw [iR.1 kd X.2.2.1, (hw.nk X.2.2.1).1, hx]
  have hCk : ∀ k, k < 6 → gI C (c + 1) k = K 0 k := fun k hk => (gC.1 _ _ (by omega)).trans (iC.1 k hk)
  have hRk : ∀ k, k < 6 → gI R 1 (2008 + k) = K 0 k := fun k hk => (gR.1 _ _ (by omega)).trans (iR.1 k hk)
  have hNk : NmR C c R 4 K := fun k hk k2 i hi => by rw [gC.2.1 _ _ (by omega), gR.2]; exact iN k hk k2 i hi
  rw [f_X12_newOne, r_full X.2.2.1 r0 (by omega) (by omega), bnd_some, decide_eq_false (show ¬ x = most by omega), if_pos bI_f, ha, bnd_some]
  rcases st_newName (c := c) X.2.2.2.2 X.1 X.2.1 s hkd hw hCk hRk hNk (by omega) with hh | ⟨w, C', R', f', e', w1, w2, w3, a1, a2, a3, a4, a5⟩
  · exact Or.inl (hh.pre (h.pr X).1 (h.pr X).2)
  · refine Or.inr ⟨C', R', a1, a2, ⟨⟨f', e', a3⟩, ⟨fun a j z1 z2 z3 z4 => ?_, fun a j z1 z2 => ?_, fun a j => ?_⟩, ⟨fun a j z1 z2 => ?_, fun a j z => ?_⟩⟩, ?_, ?_, ?_, fun j => ?_⟩
    · rw [a4.1 a j (by omega), gI_L, gI_I, if_neg (by omega), gI_I, if_neg (by omega)]; exact h.2.1.1 a j z1 z2 z3 z4
    · rw [a4.2.1 a j z1, gL_L, if_neg (by rw [← hx]; omega), gL_I, gL_I]; exact h.2.1.2.1 a j z1 z2
    · rw [a4.2.2]; exact h.2.1.2.2 a j
    · rw [a5.1 a j (by omega), gI_L]; exact h.2.2.1 a j z1 z2
    · rw [a5.2, gL_L, if_neg (by rw [← hx, es]; omega)]; exact h.2.2.2 a j z
    · rw [a4.1 _ _ (by omega), gI_L, gI_I, if_neg (by omega), gI_same, hx]
    · rw [a4.2.1 _ _ (by omega), gL_L, if_pos ⟨rfl, by rw [hx]⟩, a5.2, gL_L, if_pos ⟨rfl, by rw [hx, es]⟩]
      exact ⟨w, w2, w3, w1, rfl, rfl⟩
    · rw [a4.1 _ _ (by omega), gI_L, gI_same, hx]
    · rw [a5.1 _ _ (by omega), gI_L]; exact gR.1 _ _ (by omega)
end BEGINS
section SMELL
variable {B : Nat → Nat} {n c x : Nat} {C0 R0 C R : Mem} {K : Kt}
theorem part0 (X : Cx B n c 0 x) (h : InS B n c 0 x C0 R0 C R) (hw : WFK K) (iC : IsC C0 c K) (iR : IsR R0 2008 K) (iN : NmR C0 c R0 4 K) (hx : x = nK K 0) (gC : GoC C0 C) (gR : GoR R0 R) (ha : f_X12_ahead R0 = some ((), R)) :
    Par c C0 R0 (f_X4_readPart 0 c C) (f_X12_aSmell R0) (EndP B n c 0 x K C0 R0) := by
  have hnew := in_new X h hw iC iR iN hx gC gR ha (most := 5) (sort := 0) (Or.inl ⟨rfl, rfl, rfl⟩)
  rw [f_X4_readPart, if_pos rfl, f_X12_aSmell]
  refine hnew.b (fun M => fin_b (Or.inl rfl)) (fun M => if_pos rfl) fun C1 R1 ⟨q1, q2, q3, q4, q5⟩ => ?_
  rw [fin_b (Or.inr rfl), if_neg i10, letF, show gI R1 1 2008 = nI x by rw [q5, hx]; exact (iR.1 0 (by omega)).trans (hw.nk (k := 0) (by omega)).1, nI_s]
  refine Par.ok ⟨q1.wR _ (Or.inl rfl), q2, gI_same _ _ _ _, fun _ _ => q3, ?_⟩
  unfold RowOK
  omega
theorem part1 (X : Cx B n c 1 x) (h : InS B n c 1 x C0 R0 C R) (hw : WFK K) (iC : IsC C0 c K) (iR : IsR R0 2008 K) (iN : NmR C0 c R0 4 K) (hx : x = nK K 1) (gC : GoC C0 C) (gR : GoR R0 R) (ha : f_X12_ahead R0 = some ((), R)) :
    Par c C0 R0 (f_X4_readPart 1 c C) (f_X12_aCue R0) (EndP B n c 1 x K C0 R0) := by
  have lo := isC_lo X.2.2.2.2
  have mx := mxC X.2.2.1 X.2.2.2.1
  have hnew := in_new X h hw iC iR iN hx gC gR ha (most := 6) (sort := 5) (Or.inr (Or.inl ⟨rfl, rfl, rfl⟩))
  rw [f_X4_readPart, if_neg i10, if_pos rfl, f_X12_aCue]
  refine hnew.b (fun M => if_pos rfl) (fun M => if_pos rfl) fun C1 R1 ⟨q1, q2, q3, q4, q5⟩ => ?_
  rw [if_neg i10, if_neg i10]
  refine Par.bC ?_
  rw [f_X4_readSense, letF, q4]
  refine (in_take X q1 (t := 6) (by omega)).b (fun M => if_pos rfl) (fun M => if_pos rfl) fun C2 R2 ⟨p1, p2, p3⟩ => ?_
  rw [if_neg i10, if_neg i10]
  obtain ⟨g, w, g1, g2, g3⟩ := in_guilt X p1
  rw [g1, bnd_some, g2, bnd_some]
  have rx : gI R2 1 2009 = nI x := by rw [p3.1 _ _ (by omega), q5, hx]; exact (iR.1 1 (by omega)).trans (hw.nk (k := 1) (by omega)).1
  have good : ∀ m : Nat, m ≤ 2 → g = nI m → w - 7 = nI m → Par c C0 R0 (f_X4_readSense_J46 c (nI x) g C2) (if ((2018 : Int32) + (gI R2 1 2009)) < 0 ∨ 3548 ≤ (((2018 : Int32) + (gI R2 1 2009))).toNatClampNeg then none else letF (sI R2 1 (((2018 : Int32) + (gI R2 1 2009))).toNatClampNeg ((w - (7 : Int32)))) fun M19 => bnd (f_X12_ahead M19) fun _ M21 => letF (sI M21 1 2009 (((gI M21 1 2009) + (1 : Int32)))) fun M23 => some ((1 : Int32), M23)) (EndP B n c 1 x K C0 R0) := by
    intro m hm e1 e2
    obtain ⟨z1, z2⟩ := r_rd (e := (2018 : Int32) + nI x) (j := 2018 + x) (nI_add 2018 x) (by omega)
    have n1 : nrC c 1 x (c + 3) x := Or.inl ⟨rfl, rfl, rfl⟩
    have n2 : nrR 1 x (2018 + x) := Or.inr (Or.inl ⟨rfl, rfl⟩)
    obtain ⟨C3, R3, a1, a2, a3, a4, a5⟩ := in_go X ((p1.wC X (nI m) (Or.inr (Or.inr n1))).wR (nI m) n2)
    have r3 : gI R3 1 2009 = nI x := by rw [a5.1 _ _ (by omega), gI_I, if_neg (by omega)]; exact rx
    rw [f_X4_readSense_J46, e1, p_put (kC_0_2 X.2.2.2.2).2 (by omega) (by decide), bnd_some, a1, bnd_some, rx, if_neg z1, z2, e2, letF, a2, bnd_some, letF, r3, nI_s]
    refine Par.ok ⟨a3.wR _ (Or.inl rfl), ?_, gI_same _ _ _ _, fun _ _ => ?_, ?_⟩
    · rw [a4.1 _ _ (by omega), gI_I, if_neg (by omega), p2.1 _ _ (by omega)]; exact q2
    · rw [gL_I, a4.2.1 _ _ (by omega), gL_I, p2.2.1 _ _ (by omega), a5.2, gL_I, p3.2]; exact q3
    · refine ⟨fun _ => ⟨m, hm, ?_, ?_⟩, by omega, by omega, by omega, by omega⟩
      · rw [a4.1 _ _ (by omega), gI_same]
      · rw [gI_I, if_neg (by omega), a5.1 _ _ (by omega), gI_same]
  rcases g3 with ⟨rfl, rfl⟩ | ⟨rfl, rfl⟩ | ⟨rfl, rfl, g4⟩ | ⟨rfl, g4, g5, -⟩
  · rw [if_neg i10, if_neg (show ¬ (8 : Int32) < 7 by decide), if_pos (show (8 : Int32) ≤ 9 by decide)]
    exact good 1 (by omega) rfl (by decide)
  · rw [if_neg (show ¬ (2 : Int32) = 0 by decide), if_neg (show ¬ (9 : Int32) < 7 by decide), if_pos (show (9 : Int32) ≤ 9 by decide)]
    exact good 2 (by omega) rfl (by decide)
  · rw [if_pos rfl, if_pos g4, if_neg (show ¬ (7 : Int32) < 7 by decide), if_pos (show (7 : Int32) ≤ 9 by decide)]
    exact good 0 (by omega) rfl (by decide)
  · rw [if_pos rfl, if_neg g5]
    rcases g4 with g4 | ⟨g4, g6⟩
    · rw [if_pos g4]
      exact in_fail X p1 (k := 2) (by omega) (by omega)
    · rw [if_neg g4, if_neg g6]
      exact in_fail X p1 (k := 2) (by omega) (by omega)
end SMELL
