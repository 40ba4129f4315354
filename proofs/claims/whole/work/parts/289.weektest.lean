/-! WEEKS: WHEN -/
section TEST
variable {B : Nat → Nat} {n c d w s m : Nat} {C0 R0 C R : Mem} {K : Kt}
theorem test_go (X : Bx B n c w s m) (h : InB B n w s m C0 R0 C R) {t k : Nat} : ∃ C' R', (∀ A E : Mem → Rs Int32, (bnd (f_X9_putCell w (nI s) 1 (nI t) C) fun _ M11 => bnd (f_X7_goOn M11) fun _ M14 => A M14) = A C' ∧ (if nI (2142 + 6 * m) < 0 ∨ 3548 ≤ (nI (2142 + 6 * m)).toNatClampNeg then none else letF (sI R 1 (nI (2142 + 6 * m)).toNatClampNeg ((2200 : Int32) + nI k)) fun M11 => bnd (f_X12_ahead M11) fun _ M13 => E M13) = E R') ∧
    InB B n w s m C0 R0 C' R' ∧ gI C' (w + 1) (5 * s + 1) = nI t ∧ gI R' 1 (2142 + 6 * m) = nI (2200 + k) ∧ (∀ j, j ≠ 5 * s + 1 → gI C' (w + 1) j = gI C (w + 1) j) ∧ ∀ j, j ≠ 2142 + 6 * m → gI R' 1 j = gI R 1 j := by
  have m60 := X.2.2.2.2.2
  have lo := isC_lo X.2.2.2.1
  have hw := X.2.2.1
  obtain ⟨z1, z2⟩ := r_rd (e := nI (2142 + 6 * m)) (j := 2142 + 6 * m) rfl (by omega)
  have ek : (2200 : Int32) + nI k = nI (2200 + k) := nI_add 2200 k
  have pc : f_X9_putCell w (nI s) 1 (nI t) C = some ((), sI C (w + 1) (5 * s + 1) (nI t)) := p_putCell X (i := 1) (by omega) (nI t) C
  obtain ⟨C1, R1, a1, a2, a3, a4, a5⟩ := ib_go X ((h.wC X (a := w + 1) (j := 5 * s + 1) (nI t) (Or.inr ⟨rfl, by omega, by omega⟩)).wR (j := 2142 + 6 * m) (nI (2200 + k)) (by omega))
  refine ⟨C1, R1, fun A E => ⟨by rw [pc, bnd_some, a1, bnd_some], by rw [if_neg z1, z2, ek, letF, a2, bnd_some]⟩, a3, ?_, ?_, fun j y => ?_, fun j y => ?_⟩
  · rw [a4.1 _ _ (by omega), gI_same]
  · rw [a5.1 _ _ (by omega), gI_same]
  · rw [a4.1 _ _ (by omega), gI_I, if_neg (by omega)]
  · rw [a5.1 _ _ (by omega), gI_I, if_neg (by omega)]
/-- HELD, FREE -/
theorem test_fate (X : Bx B n c w s m) (h : InB B n w s m C0 R0 C R) (hK : CrtW K d C0 R0) (hd : 27 ≤ d ∧ (d + 28 ≤ c ∨ c + 28 ≤ d)) (c0 : gI C (w + 1) (5 * s) = 22) (r4 : gI R 1 (2142 + (6 * m + 4)) = 0) {t k : Nat} (ht : (t = 26 ∧ k = 27) ∨ (t = 27 ∧ k = 28)) :
    Par c C0 R0 (f_X4_readTest_J46 (nI s) d w (nI t) C) (f_X12_test_J25 (nI (2142 + 6 * m)) (nI k) R) (OpnQ B n w s m K C0 R0) := by
  have e1 : nI (2142 + 6 * m) + (1 : Int32) = nI (2142 + (6 * m + 1)) := q6 m 1
  obtain ⟨C1, R1, g, h1, g1, g2, g3, g4⟩ := test_go X h (t := t) (k := k)
  have n11 : ¬ nI t = 11 := fun q => by have := nI_inj (b := 11) (by omega) (by omega) q; omega
  have n25 : ¬ nI t = 25 := fun q => by have := nI_inj (b := 25) (by omega) (by omega) q; omega
  have k26 : ¬ nI k = 26 := fun q => by have := nI_inj (b := 26) (by omega) (by omega) q; omega
  have k11 : ¬ nI k = 11 := fun q => by have := nI_inj (b := 11) (by omega) (by omega) q; omega
  rw [f_X4_readTest_J46, f_X12_test_J25]
  rw [(g _ (fun _ => none)).1, (g (fun _ => none) _).2, if_neg n11, if_neg k26, if_neg k11, e1]
  refine ib_kp X (ci := 2) (by omega) (ib_person X h1 hK hd (i := 1) (by omega)) (fun M => fin_b (Or.inl rfl)) fun C2 R2 v p1 p2 p3 p4 p5 p6 => ?_
  rw [if_neg i10, if_neg n25, fin_b (Or.inr rfl)]
  have a0 : gI R2 1 (2142 + 6 * m) = nI (2200 + k) := (p6 _ (by omega)).trans g2
  have b0 : gI C2 (w + 1) (5 * s) = 22 := ((p5 _ (by omega)).trans (g3 _ (by omega))).trans c0
  have b1 : gI C2 (w + 1) (5 * s + 1) = nI t := (p5 _ (by omega)).trans g1
  have a4 : gI R2 1 (2142 + (6 * m + 4)) = 0 := ((p6 _ (by omega)).trans (g4 _ (by omega))).trans r4
  rcases ht with ⟨rfl, rfl⟩ | ⟨rfl, rfl⟩
  · exact Par.ok ⟨p1, Or.inr ⟨b0, Or.inr (Or.inl ⟨a0, b1, v, p2, p4, p3⟩)⟩, a4⟩
  · exact Par.ok ⟨p1, Or.inr ⟨b0, Or.inr (Or.inr (Or.inl ⟨a0, b1, v, p2, p4, p3⟩))⟩, a4⟩
theorem test_shows (X : Bx B n c w s m) (h : InB B n w s m C0 R0 C R) (hK : CrtW K d C0 R0) (hd : 27 ≤ d ∧ (d + 28 ≤ c ∨ c + 28 ≤ d)) (c0 : gI C (w + 1) (5 * s) = 22) (r4 : gI R 1 (2142 + (6 * m + 4)) = 0) :
    Par c C0 R0 (f_X4_readTest_J46 (nI s) d w (nI 25) C) (f_X12_test_J25 (nI (2142 + 6 * m)) (nI 26) R) (OpnQ B n w s m K C0 R0) := by
  have e1 : nI (2142 + 6 * m) + (1 : Int32) = nI (2142 + (6 * m + 1)) := q6 m 1
  have e2 : nI (2142 + 6 * m) + (2 : Int32) = nI (2142 + (6 * m + 2)) := q6 m 2
  obtain ⟨C1, R1, g, h1, g1, g2, g3, g4⟩ := test_go X h (t := 25) (k := 26)
  rw [f_X4_readTest_J46, f_X12_test_J25]
  rw [(g _ (fun _ => none)).1, (g (fun _ => none) _).2, if_neg (show ¬ nI 25 = 11 by decide), if_pos (show nI 26 = 26 from rfl), e1, e2]
  refine ib_kp X (ci := 2) (by omega) (ib_person X h1 hK hd (i := 1) (by omega)) (fun M => if_pos rfl) fun C2 R2 v p1 p2 p3 p4 p5 p6 => ?_
  rw [if_neg i10, if_pos (show nI 25 = 25 from rfl), if_neg i10]
  refine ib_kp X (ci := 3) (by omega) (ib_name X p1 hK hd (k := 1) (base := 5) (i := 2) (Or.inr (Or.inl ⟨rfl, rfl⟩)) (by omega)) (fun M => if_pos rfl) fun C3 R3 v2 u1 u2 u3 u4 u5 u6 => ?_
  rw [if_neg i10, if_neg i10]
  refine Par.ok ⟨u1, Or.inr ⟨((u5 _ (by omega)).trans ((p5 _ (by omega)).trans (g3 _ (by omega)))).trans c0, Or.inl ⟨((u6 _ (by omega)).trans (p6 _ (by omega))).trans g2, ((u5 _ (by omega)).trans (p5 _ (by omega))).trans g1, v, p2, (u6 _ (by omega)).trans p4, (u5 _ (by omega)).trans p3, v2, u2, u4, u3⟩⟩, ((u6 _ (by omega)).trans ((p6 _ (by omega)).trans (g4 _ (by omega)))).trans r4⟩
theorem test_warm (X : Bx B n c w s m) (h : InB B n w s m C0 R0 C R) (c0 : gI C (w + 1) (5 * s) = 22) (r4 : gI R 1 (2142 + (6 * m + 4)) = 0) :
    Par c C0 R0 (f_X4_readTest_J46 (nI s) d w (nI 11) C) (f_X12_test_J25 (nI (2142 + 6 * m)) (nI 11) R) (OpnQ B n w s m K C0 R0) := by
  have m60 := X.2.2.2.2.2
  have lo := isC_lo X.2.2.2.1
  have hw := X.2.2.1
  have e2 : nI (2142 + 6 * m) + (2 : Int32) = nI (2142 + (6 * m + 2)) := q6 m 2
  have e5 : nI (2142 + 6 * m) + (5 : Int32) = nI (2142 + (6 * m + 5)) := q6 m 5
  obtain ⟨z1, z2⟩ := r_rd (e := nI (2142 + (6 * m + 5))) (j := 2142 + (6 * m + 5)) rfl (by omega)
  obtain ⟨C1, R1, g, h1, g1, g2, g3, g4⟩ := test_go X h (t := 11) (k := 11)
  rw [f_X4_readTest_J46, f_X12_test_J25]
  rw [(g _ (fun _ => none)).1, (g (fun _ => none) _).2, if_pos (show nI 11 = 11 from rfl), if_neg (show ¬ nI 11 = 26 by decide), if_pos (show nI 11 = 11 from rfl)]
  have F : ∀ M, f_X12_test_J126 (nI (2142 + 6 * m)) M = letF (sI M 1 (2142 + (6 * m + 5)) (gI M 0 15)) fun M24 => bnd (f_X12_ahead M24) fun _ M26 => bnd (f_X12_number (nI (2142 + (6 * m + 2))) (nI 0) (nI 9) M26) fun r28 M29 => if ¬ (r28 = 0 ∨ r28 = 1) then none else some (r28, M29) := fun M => by
    rw [f_X12_test_J126, e5, if_neg z1, z2, e2]; rfl
  have q := ib_cmp X h1 F
  have p2 : ∀ v M, f_X9_putCell w (nI s) 2 v M = some ((), sI M (w + 1) (5 * s + 2) v) := fun v M => p_putCell X (i := 2) (by omega) v M
  have p3 : ∀ v M, f_X9_putCell w (nI s) 3 v M = some ((), sI M (w + 1) (5 * s + 3) v) := fun v M => p_putCell X (i := 3) (by omega) v M
  show Par c C0 R0 (bnd (f_X4_takeCompare 9 C1) _) (cmpF (f_X12_test_J126 (nI (2142 + 6 * m))) R1) _
  rcases q with ⟨C', R', y1, y2, y3⟩ | ⟨C2, R2, y1, y2, y3, ⟨v, lo', hi', y4, y5, y6⟩, y7, y8, y9⟩
  · exact Or.inl ⟨C', R', by rw [y1, bnd_some, if_pos rfl], y2, y3⟩
  · have g5 : gI (sI C2 (w + 1) (5 * s + 2) (gI C2 16 4)) 16 5 = gI C2 16 5 := by rw [gI_I, if_neg (by omega)]
    refine Or.inr ⟨sI (sI C2 (w + 1) (5 * s + 2) (gI C2 16 4)) (w + 1) (5 * s + 3) (gI C2 16 5), R2, by rw [y1, bnd_some, if_neg i10, p2, bnd_some, g5, p3, bnd_some], y2, (y3.wC X _ (Or.inr ⟨rfl, by omega, by omega⟩)).wC X _ (Or.inr ⟨rfl, by omega, by omega⟩), Or.inr ⟨?_, Or.inr (Or.inr (Or.inr ⟨?_, ?_, y7, v, ?_⟩))⟩, ?_⟩
    · show gI (sI (sI C2 (w + 1) (5 * s + 2) (gI C2 16 4)) (w + 1) (5 * s + 3) (gI C2 16 5)) (w + 1) (5 * s) = 22
      rw [gI_I, if_neg (by omega), gI_I, if_neg (by omega), y8 _ _ (by omega) (by omega), g3 _ (by omega)]; exact c0
    · exact (y9 _ (by omega) (by omega)).trans g2
    · show gI (sI (sI C2 (w + 1) (5 * s + 2) (gI C2 16 4)) (w + 1) (5 * s + 3) (gI C2 16 5)) (w + 1) (5 * s + 1) = 11
      rw [gI_I, if_neg (by omega), gI_I, if_neg (by omega), y8 _ _ (by omega) (by omega)]; exact g1
    · show cmpR 9 (gI R2 1 (2142 + (6 * m + 5))) (gI R2 1 (2142 + (6 * m + 2))) v (gI (sI (sI C2 (w + 1) (5 * s + 2) (gI C2 16 4)) (w + 1) (5 * s + 3) (gI C2 16 5)) (w + 1) (5 * s + 2)) (gI (sI (sI C2 (w + 1) (5 * s + 2) (gI C2 16 4)) (w + 1) (5 * s + 3) (gI C2 16 5)) (w + 1) (5 * s + 3))
      rw [gI_I _ _ _ _ (5 * s + 2), if_neg (by omega), gI_same, gI_same, y5, y6]; exact y4
    · exact ((y9 _ (by omega) (by omega)).trans (g4 _ (by omega))).trans r4
theorem body_when (X : Bx B n c w s m) (h : InB B n w s m C0 R0 C R) (hK : CrtW K d C0 R0) (hd : 27 ≤ d ∧ (d + 28 ≤ c ∨ c + 28 ≤ d)) (c0 : gI C (w + 1) (5 * s) = 22) (r4 : gI R 1 (2142 + (6 * m + 4)) = 0) : Par c C0 R0 (f_X4_readStep (nI 22) (nI s) d w C) (f_X12_weekOrder (nI 22) (nI (2142 + 6 * m)) R) (OpnQ B n w s m K C0 R0) := by
  have a : f_X4_readStep (nI 22) (nI s) d w C = (bnd (f_X4_readTest (nI s) d w C) fun r64 M65 => if ¬ (r64 = 0 ∨ r64 = 1) then none else some (r64, M65)) := rfl
  have b : f_X12_weekOrder (nI 22) (nI (2142 + 6 * m)) R = (bnd (f_X12_test (nI (2142 + 6 * m)) R) fun r36 M37 => if ¬ (r36 = 0 ∨ r36 = 1) then none else some (r36, M37)) := rfl
  rw [a, b]
  refine Par.bK (Par.bR ?_)
  obtain ⟨f, e, sT⟩ := h.1
  obtain ⟨t, t1, t2, -, -, t3⟩ := tk_num sT X.1 X.2.1
  rw [f_X4_readTest, letF, t2, f_X12_test]
  have ne : ∀ u : Nat, u < 100 → t ≠ u → ¬ nI t = nI u := fun u hu z q => z (nI_inj (by omega) (by omega) q)
  by_cases z25 : t = 25
  · subst z25
    rcases t3 with ⟨-, t3⟩ | ⟨y, -⟩
    · have t3' : f_X12_inWords R = some (nI 26, R) := t3
      rw [if_pos (show nI 25 = 25 from rfl), t3', bnd_some, if_neg (show ¬ nI 26 = 11 by decide), if_pos (show (26 : Int32) ≤ nI 26 by decide)]
      exact test_shows X h hK hd c0 r4
    · omega
  by_cases z26 : t = 26
  · subst z26
    rcases t3 with ⟨-, t3⟩ | ⟨y, -⟩
    · have t3' : f_X12_inWords R = some (nI 27, R) := t3
      rw [if_neg (show ¬ nI 26 = 25 by decide), if_pos (show nI 26 = 26 from rfl), t3', bnd_some, if_neg (show ¬ nI 27 = 11 by decide), if_pos (show (26 : Int32) ≤ nI 27 by decide)]
      exact test_fate X h hK hd c0 r4 (Or.inl ⟨rfl, rfl⟩)
    · omega
  by_cases z27 : t = 27
  · subst z27
    rcases t3 with ⟨-, t3⟩ | ⟨y, -⟩
    · have t3' : f_X12_inWords R = some (nI 28, R) := t3
      rw [if_neg (show ¬ nI 27 = 25 by decide), if_neg (show ¬ nI 27 = 26 by decide), if_pos (show nI 27 = 27 from rfl), t3', bnd_some, if_neg (show ¬ nI 28 = 11 by decide), if_pos (show (26 : Int32) ≤ nI 28 by decide)]
      exact test_fate X h hK hd c0 r4 (Or.inr ⟨rfl, rfl⟩)
    · omega
  by_cases z11 : t = 11
  · subst z11
    rcases t3 with ⟨-, t3⟩ | ⟨y, -⟩
    · have t3' : f_X12_inWords R = some (nI 11, R) := t3
      rw [if_neg (show ¬ nI 11 = 25 by decide), if_neg (show ¬ nI 11 = 26 by decide), if_neg (show ¬ nI 11 = 27 by decide), if_pos (show nI 11 = 11 from rfl), t3', bnd_some, if_pos (show nI 11 = 11 from rfl)]
      exact test_warm X h c0 r4
    · omega
  rw [if_neg (show ¬ nI t = 25 from ne 25 (by omega) z25), if_neg (show ¬ nI t = 26 from ne 26 (by omega) z26), if_neg (show ¬ nI t = 27 from ne 27 (by omega) z27), if_neg (show ¬ nI t = 11 from ne 11 (by omega) z11)]
  rcases t3 with ⟨y, t3⟩ | ⟨y, t3⟩
  · have kk : kwP.getD t 0 ≠ 11 ∧ kwP.getD t 0 < 26 := by
      rcases (by decide : ∀ t, t < 29 → (t = 25 ∨ t = 26 ∨ t = 27 ∨ t = 11 ∨ (kwP.getD t 0 ≠ 11 ∧ kwP.getD t 0 < 26))) t y with q | q | q | q | q
      · exact absurd q z25
      · exact absurd q z26
      · exact absurd q z27
      · exact absurd q z11
      · exact q
    rw [t3, bnd_some, if_neg (show ¬ nI (kwP.getD t 0) = 11 from fun q => kk.1 (nI_inj (b := 11) (by omega) (by omega) q)), if_neg (show ¬ (26 : Int32) ≤ nI (kwP.getD t 0) from nI_ge (b := 26) kk.2 (by omega))]
    exact ib_fail X h (k := 2) (by omega) (by omega)
  · rw [t3, bnd_some, if_neg (by decide), if_neg (by decide)]
    exact ib_fail X h (k := 2) (by omega) (by omega)
end TEST
