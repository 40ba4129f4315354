/-! TEXTS: one part of a court, in both -/
theorem RowOK.go {c kd x : Nat} {K : Kt} {C R C' R' : Mem} (h : RowOK c kd x K C R) (e : ∀ a, 27 ≤ a → gI C' a = gI C a) (r : gI R' 1 = gI R 1) (hc : 27 ≤ c) : RowOK c kd x K C' R' := by
  unfold RowOK
  rw [e (c + 3) (by omega), e (c + 4 + 1 + x) (by omega), e (c + 13 + 1 + x) (by omega), e (c + 20) (by omega), e (c + 21) (by omega), e (c + 22) (by omega), e (c + 23) (by omega), r]
  exact h
def sumK (K : Kt) : Nat := nK K 0 + nK K 1 + nK K 2 + nK K 3 + nK K 4 + nK K 5
theorem sumK_le {K : Kt} (h : WFK K) : sumK K ≤ 41 := by
  have := h.n0.2
  have := h.n1.2
  have := h.n2.2
  have := h.n3.2
  have := h.n4.2
  have := h.n5.2
  unfold sumK
  omega
theorem sumK_gr {K : Kt} {kd : Nat} {v : Nat → Int32} (hk : kd < 6) (hm : nK K kd < 10) : sumK (grK K kd v) = sumK K + 1 := by
  unfold sumK
  rw [grK_nk hm, grK_nk hm, grK_nk hm, grK_nk hm, grK_nk hm, grK_nk hm]
  rcases (show kd = 0 ∨ kd = 1 ∨ kd = 2 ∨ kd = 3 ∨ kd = 4 ∨ kd = 5 by omega) with rfl | rfl | rfl | rfl | rfl | rfl <;> simp <;> omega
noncomputable def partC (c : Nat) (C : Mem) : Rs Int32 := bnd (f_X4_beginPart (gI C 13 6) c C) fun r M => if r = 0 then some (0, M) else bnd (f_X4_readPart (gI C 13 6) c M) fun r M => if r = 0 then some (0, M) else f_X4_take 59 M
noncomputable def aPart (t : Nat) (R : Mem) : Rs Int32 := if t = 0 then f_X12_aSmell R else if t = 1 then f_X12_aCue R else if t = 2 then f_X12_aRule R else if t = 3 then f_X12_aPerson R else if t = 4 then f_X12_aReader R else f_X12_aWord R
theorem r_part {R : Mem} {t : Nat} (ht : t < 6) (h : f_X12_inWords R = some (nI t, R)) : f_X12_courtPart R = bnd (aPart t R) fun r M => f_X12_courtPart_J101 r M := by
  rw [f_X12_courtPart, h, bnd_some, if_neg (nI_pos (by omega)), if_pos (show nI t ≤ 5 from nI_le (b := 5) (by omega) (by omega))]
  rcases (show t = 0 ∨ t = 1 ∨ t = 2 ∨ t = 3 ∨ t = 4 ∨ t = 5 by omega) with rfl | rfl | rfl | rfl | rfl | rfl
  · rw [if_pos (show nI 0 = 0 from rfl)]; rfl
  · rw [if_neg (show ¬ nI 1 = 0 by decide), if_pos (show nI 1 = 1 from rfl)]; rfl
  · rw [if_neg (show ¬ nI 2 = 0 by decide), if_neg (show ¬ nI 2 = 1 by decide), if_pos (show nI 2 = 2 from rfl)]; rfl
  · rw [if_neg (show ¬ nI 3 = 0 by decide), if_neg (show ¬ nI 3 = 1 by decide), if_neg (show ¬ nI 3 = 2 by decide), if_pos (show nI 3 = 3 from rfl)]; rfl
  · rw [if_neg (show ¬ nI 4 = 0 by decide), if_neg (show ¬ nI 4 = 1 by decide), if_neg (show ¬ nI 4 = 2 by decide), if_neg (show ¬ nI 4 = 3 by decide), if_pos (show nI 4 = 4 from rfl)]; rfl
  · rw [if_neg (show ¬ nI 5 = 0 by decide), if_neg (show ¬ nI 5 = 1 by decide), if_neg (show ¬ nI 5 = 2 by decide), if_neg (show ¬ nI 5 = 3 by decide), if_neg (show ¬ nI 5 = 4 by decide)]; rfl
/-- full: kind 6 -/
theorem r_newFull {R R' : Mem} {kd most sort x : Nat} (hk : kd < 6) (r : gI R 1 (2008 + kd) = nI x) (hm : most ≤ 10) (e : x = most) (hf : f_X12_fails 6 R = some (0, R')) : f_X12_newOne (nI kd) (nI most) (nI sort) R = some (0, R') := by
  rw [f_X12_newOne, r_full hk r (by omega) hm, bnd_some, decide_eq_true e, if_neg (by decide), hf, bnd_some, fin_b (Or.inl rfl)]
theorem r_partFull {R R' : Mem} {K : Kt} {t : Nat} (ht : t < 6) (hw : WFK K) (iR : IsR R 2008 K) (e : nK K t = mxK.getD t 0) (hf : f_X12_fails 6 R = some (0, R')) : aPart t R = some (0, R') := by
  have r : gI R 1 (2008 + t) = nI (nK K t) := (iR.1 t ht).trans (hw.nk ht).1
  rcases (show t = 0 ∨ t = 1 ∨ t = 2 ∨ t = 3 ∨ t = 4 ∨ t = 5 by omega) with rfl | rfl | rfl | rfl | rfl | rfl
  · have q : f_X12_newOne 0 5 0 R = some (0, R') := r_newFull (kd := 0) (most := 5) (sort := 0) (by omega) r (by omega) e hf
    rw [aPart, if_pos rfl, f_X12_aSmell, q, bnd_some, if_pos rfl]
  · have q : f_X12_newOne 1 6 5 R = some (0, R') := r_newFull (kd := 1) (most := 6) (sort := 5) (by omega) r (by omega) e hf
    rw [aPart, if_neg (by decide), if_pos rfl, f_X12_aCue, q, bnd_some, if_pos rfl]
  · have q : f_X12_isFull 2 8 R = some (bI (decide (nK K 2 = 8)), R) := r_full (k := 2) (most := 8) (by omega) r (by have := hw.n2.2; omega) (by omega)
    rw [aPart, if_neg (by decide), if_neg (by decide), if_pos rfl, f_X12_aRule, q, bnd_some, decide_eq_true (show nK K 2 = 8 from e), if_neg (by decide), hf, bnd_some, fin_b (Or.inl rfl)]
  · have q : f_X12_newOne 3 6 11 R = some (0, R') := r_newFull (kd := 3) (most := 6) (sort := 11) (by omega) r (by omega) e hf
    rw [aPart, if_neg (by decide), if_neg (by decide), if_neg (by decide), if_pos rfl, f_X12_aPerson, f_X12_personRow, bnd_some, letF, q, bnd_some, if_pos rfl]
  · have q : f_X12_newOne 4 6 17 R = some (0, R') := r_newFull (kd := 4) (most := 6) (sort := 17) (by omega) r (by omega) e hf
    rw [aPart, if_neg (by decide), if_neg (by decide), if_neg (by decide), if_neg (by decide), if_pos rfl, f_X12_aReader, letF, q, bnd_some, if_pos rfl]
  · have q : f_X12_isFull 5 10 R = some (bI (decide (nK K 5 = 10)), R) := r_full (k := 5) (most := 10) (by omega) r (by have := hw.n5.2; omega) (by omega)
    rw [aPart, if_neg (by decide), if_neg (by decide), if_neg (by decide), if_neg (by decide), if_neg (by decide), f_X12_aWord, q, bnd_some, decide_eq_true (show nK K 5 = 10 from e), if_neg (by decide), hf, bnd_some, fin_b (Or.inl rfl)]
section CPART
variable {B : Nat → Nat} {n c : Nat} {C R : Mem} {K : Kt} {f e : Nat}
theorem part_any {C1 R1 : Mem} {t : Nat} (ht : t < 6) (X : Cx B n c t (nK K t)) (hp : PtI B n c C R f e K) (h : InS B n c t (nK K t) C R C1 R1) (gC : GoC C C1) (gR : GoR R R1) (ha : f_X12_ahead R = some ((), R1)) :
    Par c C R (f_X4_readPart (nI t) c C1) (aPart t R) (EndP B n c t (nK K t) K C R) := by
  obtain ⟨hs, hw, iC, iR, iN, iZ, -⟩ := hp
  have mx := mxC ht X.2.2.2.1
  rcases (show t = 0 ∨ t = 1 ∨ t = 2 ∨ t = 3 ∨ t = 4 ∨ t = 5 by omega) with rfl | rfl | rfl | rfl | rfl | rfl
  · exact part0 X h hw iC iR iN rfl gC gR ha
  · exact part1 X h hw iC iR iN rfl gC gR ha
  · exact part2 X h hw iC iR iN rfl gC gR ha
  · exact part3 X h hw iC iR iN (fun g hg => iZ _ (Nat.le_refl _) (by omega) g hg) rfl gC gR ha
  · exact part4 X h hw iC iR iN rfl gC gR ha
  · exact part5 X h hw iC iR iN rfl gC gR ha
theorem st_part (hc : shC c = 0) (hn : n ≤ 900) (hB : ∀ k, B k < 256) (h : PtI B n c C R f e K) : Par c C R (partC c C) (f_X12_courtPart R) (fun C' R' => ∃ K' f' e', PtI B n c C' R' f' e' K' ∧ sumK K' = sumK K + 1 ∧ PrC c C C' ∧ PrR R R') := by
  obtain ⟨hs, hw, iC, iR, iN, iZ, -⟩ := id h
  have lo := isC_lo hc
  obtain ⟨t, t1, t2, -, -, t3⟩ := tk_num hs hn hB
  have bad : 6 ≤ t → ∀ Q, Par c C R (partC c C) (f_X12_courtPart R) Q := by
    intro h6 Q
    obtain ⟨C', R', a1, a2, a3⟩ := st_stp (c := c) hs hn hB (k := 2) (by omega) (by omega)
    have a1' : f_X7_refuse 2 C = some (0, C') := a1
    have a2' : f_X12_fails 2 R = some (0, R') := a2
    refine Or.inl ⟨C', R', ?_, ?_, a3⟩
    · rw [partC, t2, f_X4_beginPart, if_neg (nI_pos (by omega)), if_neg (show ¬ nI t ≤ 5 from nI_ge (a := 5) (by omega) (by omega)), a1', bnd_some, fin_b (Or.inl rfl), bnd_some, if_pos rfl]
    · rcases t3 with ⟨y, t3⟩ | ⟨y, t3⟩
      · have k6 : 6 ≤ kwP.getD t 0 ∧ kwP.getD t 0 < 29 := (by decide : ∀ t, t < 29 → 6 ≤ t → 6 ≤ kwP.getD t 0 ∧ kwP.getD t 0 < 29) t y h6
        rw [f_X12_courtPart, t3, bnd_some, if_neg (nI_pos (by omega)), if_neg (show ¬ nI (kwP.getD t 0) ≤ 5 from nI_ge (a := 5) (by omega) (by omega)), a2', bnd_some, fin_b (Or.inl rfl)]
      · rw [f_X12_courtPart, t3, bnd_some, if_pos (by decide), a2', bnd_some, fin_b (Or.inl rfl)]
  rcases Nat.lt_or_ge t 6 with ht | ht
  · have kt : kwP.getD t 0 = t := (by decide : ∀ t, t < 6 → kwP.getD t 0 = t) t ht
    have iw : f_X12_inWords R = some (nI t, R) := by
      rcases t3 with ⟨-, t3⟩ | ⟨y, -⟩
      · rw [t3, kt]
      · omega
    have kK := hw.nk ht
    have cnt : gI C (c + 1) t = nI (nK K t) := (iC.1 t ht).trans kK.1
    have mle : nK K t ≤ mxK.getD t 0 := (hw.1 t ht).2
    rw [partC, t2, f_X4_beginPart, if_neg (nI_pos (by omega)), if_pos (show nI t ≤ 5 from nI_le (b := 5) (by omega) (by omega)), c_full ht cnt (by omega), bnd_some, r_part ht iw]
    rcases Nat.lt_or_ge (nK K t) (mxK.getD t 0) with hlt | hge
    · obtain ⟨C1, R1, f1, e1, a1, a2, a3, a4, a5, -⟩ := st_go hn hB hs
      have X : Cx B n c t (nK K t) := ⟨hn, hB, ht, hlt, hc⟩
      have h1 : InS B n c t (nK K t) C R C1 R1 := ⟨⟨f1, e1, a3⟩, FnC.rf.go a4, FnR.rf.go a5⟩
      rw [decide_eq_false (show ¬ mxK.getD t 0 ≤ nK K t by omega), if_pos bI_f, a1, bnd_some, bnd_some, if_neg i10]
      refine (part_any ht X h h1 a4 a5 a2).b (fun M => if_pos rfl) (fun M => by rw [f_X12_courtPart_J101, if_pos rfl]) fun C2 R2 ⟨q1, q2, q3, q4, q5⟩ => ?_
      rw [if_neg i10, f_X12_courtPart_J101, if_neg i10]
      have sm := in_semi X q1
      rcases sm with ⟨C', R', y1, y2, y3⟩ | ⟨C3, R3, y1, y2, ⟨⟨f3, e3, y3⟩, y4, y5⟩, y6, y7⟩
      · exact Or.inl ⟨C', R', y1, by rw [y2, bnd_some, if_pos rfl], y3⟩
      · have eC : ∀ a, 27 ≤ a → gI C3 a = gI C2 a := fun a ha => funext fun j => y6.1 _ _ (by omega)
        have eR : gI R3 1 = gI R2 1 := funext fun j => y7.1 _ _ (by omega)
        refine Or.inr ⟨C3, R3, y1, by rw [y2, bnd_some, if_neg i10], grK K t (newV c t (nK K t) C3), f3, e3, h.grow hc y3 ht hlt y4 y5 (by rw [eC _ (by omega)]; exact q2) (by rw [eR]; exact q3) (fun z1 z2 => by rw [y6.2.1 _ _ (by omega), y7.2]; exact q4 z1 z2) (q5.go eC eR lo.1), sumK_gr ht (by have := mxC ht hlt; omega), y4.pr ht hlt, y5.pr ht hlt⟩
    · obtain ⟨C', R', a1, a2, a3⟩ := st_stp (c := c) hs hn hB (k := 6) (by omega) (by omega)
      have a1' : f_X7_refuse 6 C = some (0, C') := a1
      rw [decide_eq_true hge, if_neg (by decide)]
      refine Or.inl ⟨C', R', ?_, ?_, a3⟩
      · rw [a1', bnd_some, fin_b (Or.inl rfl), bnd_some, if_pos rfl]
      · rw [r_partFull ht hw iR (by omega) a2, bnd_some, f_X12_courtPart_J101, if_pos rfl]
  · exact bad ht _
end CPART
