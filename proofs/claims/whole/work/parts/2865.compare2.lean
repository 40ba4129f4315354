/-! TEXTS: COMPARES, in WEEKS -/
section CMPP
variable {B : Nat → Nat} {n c : Nat} {C R : Mem} {f e : Nat}

theorem st_cmp2 (hn : n ≤ 900) (hB : ∀ k, B k < 256) (h : StT B n C R f e) {most q q2 : Nat} (hm : most ≤ 99) (hq : 2008 ≤ q) (hq1 : q < 2510) (hq2 : 2008 ≤ q2) (hq3 : q2 < 2510) {F : Mem → Rs Int32}
    (hF : ∀ M, F M = letF (sI M 1 q (gI M 0 15)) fun M24 => bnd (f_X12_ahead M24) fun _ M26 => bnd (f_X12_number (nI q2) (nI 0) (nI most) M26) fun r28 M29 => if ¬ (r28 = 0 ∨ r28 = 1) then none else some (r28, M29)) :
    Hlt c C R (f_X4_takeCompare (nI most) C) (cmpF F R) ∨
    ∃ s v C' R' f' e' lo hi, f_X4_takeCompare (nI most) C = some (1, C') ∧ cmpF F R = some (1, R') ∧ StT B n C' R' f' e' ∧ cmpR most (nI s) (nI v) (nI v) lo hi ∧ gI C' 16 3 = nI v ∧ gI C' 16 4 = lo ∧ gI C' 16 5 = hi ∧ (s = 60 ∨ s = 61 ∨ s = 62) ∧ v ≤ most ∧
      (∀ a k, ¬ (a = 13 ∧ (k = 4 ∨ k = 5 ∨ k = 6 ∨ k = 8)) → ¬ (a = 16 ∧ k ≠ 2) → gI C' a k = gI C a k) ∧ (∀ a k, ¬ (a = 13 ∧ k = 7) → gL C' a k = gL C a k) ∧ (∀ a k, gR C' a k = gR C a k) ∧ ∃ R1, GoR (sI R 1 q (nI s)) R1 ∧ GoR (sI R1 1 q2 (nI v)) R' := by
  have s2 := (st_stp (c := c) h hn hB (k := 2) (by omega) (by omega)).chk
  -- behind the sign
  have body : ∀ s : Nat, (s = 60 ∨ s = 61 ∨ s = 62) → gI C 13 6 = nI s → gI R 0 15 = nI s → Hlt c C R (f_X4_takeCompare_J35 (nI most) (nI s) C) (F R) ∨
    ∃ v C' R' f' e' lo hi, f_X4_takeCompare_J35 (nI most) (nI s) C = some (1, C') ∧ F R = some (1, R') ∧ StT B n C' R' f' e' ∧ cmpR most (nI s) (nI v) (nI v) lo hi ∧ gI C' 16 3 = nI v ∧ gI C' 16 4 = lo ∧ gI C' 16 5 = hi ∧ v ≤ most ∧
      (∀ a k, ¬ (a = 13 ∧ (k = 4 ∨ k = 5 ∨ k = 6 ∨ k = 8)) → ¬ (a = 16 ∧ k ≠ 2) → gI C' a k = gI C a k) ∧ (∀ a k, ¬ (a = 13 ∧ k = 7) → gL C' a k = gL C a k) ∧ (∀ a k, gR C' a k = gR C a k) ∧ ∃ R1, GoR (sI R 1 q (nI s)) R1 ∧ GoR (sI R1 1 q2 (nI v)) R' := by
    intro s hs c6 r15
    have hs1 := h.s1 q (nI s)
    obtain ⟨C1, R1, f1, e1, a1, a2, a3, a4, a5, -⟩ := st_go hn hB hs1
    rw [f_X4_takeCompare_J35, a1, bnd_some, hF, r15, letF, a2, bnd_some]
    rcases st_number (c := c) hn hB a3 (lo := 0) (hi := most) (q := q2) (by omega) (by omega) (by omega) with hh | ⟨v, C2, R2, f2, e2, v1, v2, b1, b2, b3, b4, b5⟩
    · refine Or.inl ?_
      obtain ⟨C', R', g1, g2, g3, g4, g5⟩ := hh
      have g1' : f_X4_takeNumber 0 (nI most) C1 = some (0, C') := g1
      refine ⟨C', R', by rw [g1', bnd_some, if_pos rfl], by rw [g2, bnd_some, fin_b (Or.inl rfl)], g3, (a4.pr c).tr g4, ((PrR.s1 hq hq1 _).tr a5.pr).tr g5⟩
    · refine Or.inr ?_
      have b1' : f_X4_takeNumber 0 (nI most) C1 = some (1, C2) := b1
      have c3 : gI C2 16 3 = nI v := (b4.1 _ _ (by omega)).trans (gI_same _ _ _ _)
      rw [b1', bnd_some, if_neg i10, b2, bnd_some, fin_b (Or.inr rfl), c3]
      have fr : ∀ x y : Int32, (∀ a k, ¬ (a = 13 ∧ (k = 4 ∨ k = 5 ∨ k = 6 ∨ k = 8)) → ¬ (a = 16 ∧ k ≠ 2) → gI (sI (sI C2 16 4 x) 16 5 y) a k = gI C a k) ∧ (∀ a k, ¬ (a = 13 ∧ k = 7) → gL (sI (sI C2 16 4 x) 16 5 y) a k = gL C a k) ∧ (∀ a k, gR (sI (sI C2 16 4 x) 16 5 y) a k = gR C a k) := fun x y =>
        ⟨fun a k z1 z2 => by rw [gI_I, if_neg (by omega), gI_I, if_neg (by omega), b4.1 a k z1, gI_I, if_neg (by omega), a4.1 a k z1], fun a k z => (b4.2.1 a k z).trans (a4.2.1 a k z), fun a k => (b4.2.2 a k).trans (a4.2.2 a k)⟩
      have o3 : ∀ x y : Int32, gI (sI (sI C2 16 4 x) 16 5 y) 16 3 = nI v := fun x y => by rw [gI_I, if_neg (by omega), gI_I, if_neg (by omega), c3]
      have o4 : ∀ x y : Int32, gI (sI (sI C2 16 4 x) 16 5 y) 16 4 = x := fun x y => by rw [gI_I, if_neg (by omega), gI_same]
      have c3' : ∀ x : Int32, gI (sI C2 16 4 x) 16 3 = nI v := fun x => by rw [gI_I, if_neg (by omega), c3]
      rcases hs with rfl | rfl | rfl
      · refine ⟨v, _, R2, f2, e2, 0, nI v - 1, ?_, rfl, (b3.s16 4 _).s16 5 _, Or.inr ⟨v, v2, rfl, rfl, Or.inl ⟨rfl, rfl, rfl⟩⟩, o3 _ _, o4 _ _, gI_same _ _ _ _, v2, (fr _ _).1, (fr _ _).2.1, (fr _ _).2.2, R1, a5, b5⟩
        rw [if_pos (show nI 60 = (60 : Int32) from rfl), f_X4_takeCompare_J83, letF, if_pos (show nI 60 = (60 : Int32) from rfl), c3', letF]
      · refine ⟨v, _, R2, f2, e2, nI v, nI v, ?_, rfl, (b3.s16 4 _).s16 5 _, Or.inr ⟨v, v2, rfl, rfl, Or.inr (Or.inr ⟨rfl, rfl, rfl⟩)⟩, o3 _ _, o4 _ _, gI_same _ _ _ _, v2, (fr _ _).1, (fr _ _).2.1, (fr _ _).2.2, R1, a5, b5⟩
        rw [if_neg (show ¬ nI 61 = (60 : Int32) by decide), if_neg (show ¬ nI 61 = (62 : Int32) by decide), f_X4_takeCompare_J83, letF, if_neg (show ¬ nI 61 = (60 : Int32) by decide), if_neg (show ¬ nI 61 = (62 : Int32) by decide), c3', letF]
      · refine ⟨v, _, R2, f2, e2, nI v + 1, nI most, ?_, rfl, (b3.s16 4 _).s16 5 _, Or.inr ⟨v, v2, rfl, rfl, Or.inr (Or.inl ⟨rfl, rfl, rfl⟩)⟩, o3 _ _, o4 _ _, gI_same _ _ _ _, v2, (fr _ _).1, (fr _ _).2.1, (fr _ _).2.2, R1, a5, b5⟩
        rw [if_neg (show ¬ nI 62 = (60 : Int32) by decide), if_pos (show nI 62 = (62 : Int32) from rfl), f_X4_takeCompare_J83, letF, if_neg (show ¬ nI 62 = (60 : Int32) by decide), if_pos (show nI 62 = (62 : Int32) from rfl), letF]
  rcases st_isSign h (s := 60) (by omega) with ⟨b1, b2, b3⟩ | ⟨b1, b2⟩
  · have b2' : f_X12_isSign 60 R = some (1, R) := b2
    have e1 : f_X4_takeCompare (nI most) C = f_X4_takeCompare_J35 (nI most) (nI 60) C := by rw [f_X4_takeCompare, b1, letF, if_pos (show nI 60 = (60 : Int32) from rfl)]
    have e2 : cmpF F R = F R := by rw [cmpF, b2', bnd_some, if_neg i10]
    rw [e1, e2]
    rcases body 60 (by omega) b1 b3 with hh | ⟨v, C', R', f', e', lo, hi, g1, g2, g3, g4, g5, g6, g7, g8, g9⟩
    · exact Or.inl hh
    · exact Or.inr ⟨60, v, C', R', f', e', lo, hi, g1, g2, g3, g4, g5, g6, g7, by omega, g8, g9⟩
  have n60 : ¬ gI C 13 6 = (60 : Int32) := b1
  have b2' : f_X12_isSign 60 R = some (0, R) := b2
  rcases st_isSign h (s := 62) (by omega) with ⟨c1, c2, c3⟩ | ⟨c1, c2⟩
  · have c2' : f_X12_isSign 62 R = some (1, R) := c2
    have e1 : f_X4_takeCompare (nI most) C = f_X4_takeCompare_J35 (nI most) (nI 62) C := by rw [f_X4_takeCompare, letF, if_neg n60, c1, if_pos (show nI 62 = (62 : Int32) from rfl)]
    have e2 : cmpF F R = F R := by rw [cmpF, b2', bnd_some, if_pos rfl, c2', bnd_some, if_neg i10]
    rw [e1, e2]
    rcases body 62 (by omega) c1 c3 with hh | ⟨v, C', R', f', e', lo, hi, g1, g2, g3, g4, g5, g6, g7, g8, g9⟩
    · exact Or.inl hh
    · exact Or.inr ⟨62, v, C', R', f', e', lo, hi, g1, g2, g3, g4, g5, g6, g7, by omega, g8, g9⟩
  have n62 : ¬ gI C 13 6 = (62 : Int32) := c1
  have c2' : f_X12_isSign 62 R = some (0, R) := c2
  rcases st_isSign h (s := 61) (by omega) with ⟨d1, d2, d3⟩ | ⟨d1, d2⟩
  · have d2' : f_X12_isSign 61 R = some (1, R) := d2
    have e1 : f_X4_takeCompare (nI most) C = f_X4_takeCompare_J35 (nI most) (nI 61) C := by rw [f_X4_takeCompare, letF, if_neg n60, if_neg n62, d1, if_pos (show nI 61 = (61 : Int32) from rfl)]
    have e2 : cmpF F R = F R := by rw [cmpF, b2', bnd_some, if_pos rfl, c2', bnd_some, if_pos rfl, d2', bnd_some, if_neg i10]
    rw [e1, e2]
    rcases body 61 (by omega) d1 d3 with hh | ⟨v, C', R', f', e', lo, hi, g1, g2, g3, g4, g5, g6, g7, g8, g9⟩
    · exact Or.inl hh
    · exact Or.inr ⟨61, v, C', R', f', e', lo, hi, g1, g2, g3, g4, g5, g6, g7, by omega, g8, g9⟩
  have n61 : ¬ gI C 13 6 = (61 : Int32) := d1
  have d2' : f_X12_isSign 61 R = some (0, R) := d2
  refine Or.inl ?_
  rw [f_X4_takeCompare, letF, if_neg n60, if_neg n62, if_neg n61, cmpF, b2', bnd_some, if_pos rfl, c2', bnd_some, if_pos rfl, d2', bnd_some, if_pos rfl]
  exact s2
end CMPP
