/-! TEXTS: READERS, WORDS -/
section READW
variable {B : Nat → Nat} {n c x : Nat} {C0 R0 C R : Mem} {K : Kt}
theorem part4 (X : Cx B n c 4 x) (h : InS B n c 4 x C0 R0 C R) (hw : WFK K) (iC : IsC C0 c K) (iR : IsR R0 2008 K) (iN : NmR C0 c R0 4 K) (hx : x = nK K 4) (gC : GoC C0 C) (gR : GoR R0 R) (ha : f_X12_ahead R0 = some ((), R)) :
    Par c C0 R0 (f_X4_readPart 4 c C) (f_X12_aReader R0) (EndP B n c 4 x K C0 R0) := by
  have hc := X.2.2.2.2
  have lo := isC_lo hc
  have mx := mxC X.2.2.1 X.2.2.2.1
  have r0 : gI R0 1 2012 = nI x := by rw [hx]; exact (iR.1 4 (by omega)).trans (hw.nk (k := 4) (by omega)).1
  have hnew := in_new X h hw iC iR iN hx gC gR ha (most := 6) (sort := 17) (Or.inr (Or.inr (Or.inr ⟨rfl, rfl, rfl⟩)))
  have e8 : (2110 : Int32) + (2 : Int32) * nI x = nI (2110 + 2 * x) := by rw [litI, litI, pk_mul, nI_add]
  have e1 : nI (2110 + 2 * x) + (1 : Int32) = nI (2110 + 2 * x + 1) := nI_add _ 1
  have nr : ∀ j, 2110 + 2 * x ≤ j → j < 2112 + 2 * x → nrR 4 x j := fun j y1 y2 => Or.inr (Or.inr (Or.inr (Or.inr (Or.inl ⟨rfl, y1, y2⟩))))
  have n20 : c + 20 = 16 ∨ (c + 20 = c + 1 ∧ x = 4) ∨ nrC c 4 x (c + 20) x := Or.inr (Or.inr (Or.inr (Or.inr (Or.inr (Or.inl ⟨rfl, Or.inl rfl, rfl⟩)))))
  have n21 : c + 21 = 16 ∨ (c + 21 = c + 1 ∧ x = 4) ∨ nrC c 4 x (c + 21) x := Or.inr (Or.inr (Or.inr (Or.inr (Or.inr (Or.inl ⟨rfl, Or.inr rfl, rfl⟩)))))
  rw [f_X4_readPart, if_neg (show ¬ (4 : Int32) = 0 by decide), if_neg (show ¬ (4 : Int32) = 1 by decide), if_neg (show ¬ (4 : Int32) = 2 by decide), if_neg (show ¬ (4 : Int32) = 3 by decide), if_pos rfl, f_X12_aReader, r0, e8, letF, e1]
  refine hnew.b (fun M => if_pos rfl) (fun M => if_pos rfl) fun C1 R1 ⟨q1, q2, q3, q4, q5⟩ => ?_
  rw [if_neg i10, if_neg i10]
  refine Par.bC ?_
  rw [f_X4_readReader, letF, q4]
  refine (in_take X q1 (t := 13) (by omega)).b (fun M => if_pos rfl) (fun M => if_pos rfl) fun C2 R2 ⟨p1, p2, p3⟩ => ?_
  rw [if_neg i10, if_neg i10]
  refine (in_num X p1 (lo := 0) (hi := 16) (q := 2110 + 2 * x) (by omega) (by omega) (nr _ (by omega) (by omega))).b (fun M => if_pos rfl) (fun M => if_pos rfl) fun C3 R3 ⟨u1, v, v1, v2, v3, v4⟩ => ?_
  obtain ⟨s1, s2, s3⟩ := (go16 v3)
  obtain ⟨t1, t2, t3⟩ := (go1 v4)
  rw [if_neg i10, if_neg i10, s2, p_put (kC_0_5 hc).2 (by omega) (by decide), bnd_some]
  refine (in_take X (u1.wC X (nI v) n20) (t := 14) (by omega)).b (fun M => if_pos rfl) (fun M => if_pos rfl) fun C4 R4 ⟨w1, w2, w3⟩ => ?_
  rw [if_neg i10, if_neg i10]
  refine (in_num X w1 (lo := 1) (hi := 9) (q := 2110 + 2 * x + 1) (by omega) (by omega) (nr _ (by omega) (by omega))).b (fun M => if_pos rfl) (fun M => if_pos rfl) fun C5 R5 ⟨y1, z, z1, z2, z3, z4⟩ => ?_
  obtain ⟨a1, a2, a3⟩ := (go16 z3)
  obtain ⟨b1, b2, b3⟩ := (go1 z4)
  have kc : ∀ a j, a ≠ 13 → a ≠ 16 → ¬ (a = c + 20 ∧ j = x) → gI C5 a j = gI C1 a j := fun a j d1 d2 d3 => by rw [a1 a j d1 d2, w2.1 _ _ (by omega), gI_I, if_neg d3, s1 a j d1 d2, p2.1 _ _ (by omega)]
  have kl : ∀ a j, a ≠ 13 → gL C5 a j = gL C1 a j := fun a j d1 => by rw [a3 a j d1, w2.2.1 _ _ (by omega), gL_I, s3 a j d1, p2.2.1 _ _ (by omega)]
  have krl : ∀ a j, gL R5 a j = gL R1 a j := fun a j => by rw [b3, w3.2, t3, p3.2]
  have kr : ∀ j, j ≠ 2110 + 2 * x → j ≠ 2110 + 2 * x + 1 → gI R5 1 j = gI R0 1 j := fun j d1 d2 => by rw [b1 j d2, w3.1 _ _ (by omega), t1 j d1, p3.1 _ _ (by omega), q5]
  rw [if_neg i10, if_neg i10, a2, p_put (kC_0_6 hc).2 (by omega) (by decide), bnd_some, letF, show gI R5 1 2012 = nI x by rw [kr _ (by omega) (by omega)]; exact r0, nI_s]
  refine Par.ok ⟨(y1.wC X (nI z) n21).wR _ (Or.inl rfl), ?_, gI_same _ _ _ _, fun _ _ => ?_, by omega, by omega, by omega, fun _ => ⟨⟨v, v2, ?_, ?_⟩, z, z1, z2, gI_same _ _ _ _, ?_⟩, by omega⟩
  · rw [gI_I, if_neg (by omega), kc _ _ (by omega) (by omega) (by omega)]; exact q2
  · rw [gL_I, gL_I, kl _ _ (by omega), krl]; exact q3
  · rw [gI_I, if_neg (by omega), a1 _ _ (by omega) (by omega), w2.1 _ _ (by omega), gI_same]
  · rw [gI_I, if_neg (by omega), b1 _ (by omega), w3.1 _ _ (by omega)]; exact t2
  · rw [gI_I, if_neg (by omega)]; exact b2
theorem part5 (X : Cx B n c 5 x) (h : InS B n c 5 x C0 R0 C R) (hw : WFK K) (iC : IsC C0 c K) (iR : IsR R0 2008 K) (iN : NmR C0 c R0 4 K) (hx : x = nK K 5) (gC : GoC C0 C) (gR : GoR R0 R) (ha : f_X12_ahead R0 = some ((), R)) :
    Par c C0 R0 (f_X4_readPart 5 c C) (f_X12_aWord R0) (EndP B n c 5 x K C0 R0) := by
  have hc := X.2.2.2.2
  have lo := isC_lo hc
  have mx := mxC X.2.2.1 X.2.2.2.1
  have r0 : gI R0 1 (2008 + 5) = nI x := by rw [iR.1 5 X.2.2.1, (hw.nk X.2.2.1).1, hx]
  have r0' : gI R0 1 2013 = nI x := r0
  have c0 : gI C0 (c + 1) 5 = nI x := by rw [iC.1 5 X.2.2.1, (hw.nk X.2.2.1).1, hx]
  have full : f_X12_isFull 5 10 R0 = some (bI (decide (x = 10)), R0) := r_full (k := 5) (most := 10) (by omega) r0 (by omega) (by omega)
  have e8 : (2122 : Int32) + (2 : Int32) * nI x = nI (2122 + 2 * x) := by rw [litI, litI, pk_mul, nI_add]
  have e1 : nI (2122 + 2 * x) + (1 : Int32) = nI (2122 + 2 * x + 1) := nI_add _ 1
  obtain ⟨z1, z2⟩ := r_rd (e := nI (2122 + 2 * x + 1)) (j := 2122 + 2 * x + 1) rfl (by omega)
  have ct := (in_cnt X h hw iC iR (k := 3) (by omega) (by omega)).2
  have ct' : gI R 1 2011 = nI (nK K 3) := ct
  have nr : ∀ j, 2122 + 2 * x ≤ j → j < 2124 + 2 * x → nrR 5 x j := fun j y1 y2 => Or.inr (Or.inr (Or.inr (Or.inr (Or.inr ⟨rfl, y1, y2⟩))))
  have nm := in_name X h hw iC iR iN (k := 3) (base := 103) (q := 2122 + 2 * x) (Or.inr (Or.inr ⟨rfl, rfl⟩)) (by omega) (nr _ (by omega) (by omega))
  have n22 : c + 22 = 16 ∨ (c + 22 = c + 1 ∧ x = 5) ∨ nrC c 5 x (c + 22) x := Or.inr (Or.inr (Or.inr (Or.inr (Or.inr (Or.inr ⟨rfl, Or.inl rfl, rfl⟩)))))
  have n23 : c + 23 = 16 ∨ (c + 23 = c + 1 ∧ x = 5) ∨ nrC c 5 x (c + 23) x := Or.inr (Or.inr (Or.inr (Or.inr (Or.inr (Or.inr ⟨rfl, Or.inr rfl, rfl⟩)))))
  rw [f_X4_readPart, if_neg (show ¬ (5 : Int32) = 0 by decide), if_neg (show ¬ (5 : Int32) = 1 by decide), if_neg (show ¬ (5 : Int32) = 2 by decide), if_neg (show ¬ (5 : Int32) = 3 by decide), if_neg (show ¬ (5 : Int32) = 4 by decide), f_X12_aWord, full, bnd_some, decide_eq_false (show ¬ x = 10 by omega), if_pos bI_f, r0', e8, letF, ha, bnd_some, ct']
  refine nm.b (fun M => if_pos rfl) (fun M => if_pos rfl) fun C1 R1 ⟨p1, v, v1, v2, v3⟩ => ?_
  obtain ⟨s1, s2, s3⟩ := (go16 v2)
  obtain ⟨t1, t2, t3⟩ := (go1 v3)
  rw [if_neg i10, if_neg i10]
  refine Par.bC ?_
  have c1 : gI C1 (c + 1) 5 = nI x := by rw [s1 _ _ (by omega) (by omega), gC.1 _ _ (by omega)]; exact c0
  have ao : f_X0_addOne c 5 C1 = some (nI x, sI C1 (c + 1) 5 (nI (x + 1))) := by
    have q : f_X0_countOf c 5 C1 = some (gI C1 (c + 1) 5, C1) := p_countOf (k := 5) (by omega) C1
    have w' : f_X11_put (c + 1) 5 (nI (x + 1)) C1 = some ((), sI C1 (c + 1) 5 (nI (x + 1))) := p_put (i := 5) (alC_cnt hc) (by omega) (by decide) (nI (x + 1)) C1
    rw [f_X0_addOne, q, bnd_some, c1, nI_s, w', bnd_some]
  have s2' : gI (sI C1 (c + 1) 5 (nI (x + 1))) 16 3 = nI v := by rw [gI_I, if_neg (by omega)]; exact s2
  obtain ⟨g, w, g1, g2, g3⟩ := in_guilt X p1
  have rx : gI R1 1 2013 = nI x := by rw [t1 _ (by omega), gR.1 _ _ (by omega)]; exact r0'
  rw [f_X4_readWord, g1, bnd_some, g2, bnd_some]
  have go : ∀ m : Nat, (m = 1 ∨ m = 2) → g = nI m → w - 7 = nI m → Par c C0 R0 (bnd (f_X0_addOne c (5 : Int32) C1) fun r5 M6 => bnd (f_X11_put (c + 22) r5 ((gI M6 16 3)) M6) fun _ M9 => bnd (f_X11_put (c + 23) r5 g M9) fun _ M12 => bnd (f_X7_goOn M12) fun _ M15 => some ((1 : Int32), M15)) (f_X12_aWord_J81 (nI (2122 + 2 * x)) w R1) (EndP B n c 5 x K C0 R0) := by
    intro m hm e e2
    obtain ⟨C2, R2, a1, a2, a3, a4, a5⟩ := in_go X ((((p1.wC X (nI (x + 1)) (Or.inr (Or.inl ⟨rfl, rfl⟩))).wC X (nI v) n22).wC X (nI m) n23).wR (nI m) (nr (2122 + 2 * x + 1) (by omega) (by omega)))
    have kr : ∀ j, j ≠ 2122 + 2 * x + 1 → gI R2 1 j = gI R1 1 j := fun j y => by rw [a5.1 _ _ (by omega), gI_I, if_neg (by omega)]
    rw [ao, bnd_some, s2', p_put (kC_0_7 hc).2 (by omega) (by decide), bnd_some, e, p_put (kC_0_8 hc).2 (by omega) (by decide), bnd_some, a1, bnd_some, f_X12_aWord_J81, e1, if_neg z1, z2, e2, letF, a2, bnd_some, letF, show gI R2 1 2013 = nI x by rw [kr _ (by omega)]; exact rx, nI_s]
    refine Par.ok ⟨a3.wR _ (Or.inl rfl), ?_, gI_same _ _ _ _, fun _ y => absurd rfl y, by omega, by omega, by omega, by omega, fun _ => ⟨⟨v, v1, ?_, ?_⟩, ?_⟩⟩
    · rw [a4.1 _ _ (by omega), gI_I, if_neg (by omega), gI_I, if_neg (by omega), gI_same]
    · rw [a4.1 _ _ (by omega), gI_I, if_neg (by omega), gI_same]
    · rw [gI_I, if_neg (by omega), kr _ (by omega)]; exact t2
    · rw [a4.1 _ _ (by omega), gI_same, gI_I, if_neg (by omega), a5.1 _ _ (by omega), gI_same]
      rcases hm with rfl | rfl
      · exact Or.inl ⟨rfl, rfl⟩
      · exact Or.inr ⟨rfl, rfl⟩
  rcases g3 with ⟨rfl, rfl⟩ | ⟨rfl, rfl⟩ | ⟨rfl, rfl, -⟩ | ⟨rfl, -, -, w8, w9⟩
  · rw [if_neg i10, if_pos rfl]; exact go 1 (Or.inl rfl) rfl (by decide)
  · rw [if_neg (show ¬ (2 : Int32) = 0 by decide), if_neg (show ¬ (9 : Int32) = 8 by decide), if_pos rfl]; exact go 2 (Or.inr rfl) rfl (by decide)
  · rw [if_pos rfl, if_neg (show ¬ (7 : Int32) = 8 by decide), if_neg (show ¬ (7 : Int32) = 9 by decide)]
    exact in_fail X p1 (k := 2) (by omega) (by omega)
  · rw [if_pos rfl, if_neg w8, if_neg w9]
    exact in_fail X p1 (k := 2) (by omega) (by omega)
end READW
