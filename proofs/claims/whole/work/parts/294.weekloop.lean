/-! WEEKS: all STEPS, in both -/
section ANYW
variable {B : Nat → Nat} {n c d : Nat} {C R : Mem} {K : Kt} {f e m : Nat} {os : List Nat}
theorem step_any (hc : shC c = 0) (hn : n ≤ 900) (hB : ∀ k, B k < 256) (hd : 27 ≤ d ∧ (d + 28 ≤ c ∨ c + 28 ≤ d)) (h : WkS B n c d K C R f e m os) :
    Par c C R (stepC c d C) (f_X12_weekStep R) (fun C' R' => ∃ os', (∃ f' e', WkS B n c d K C' R' f' e' (m + 1) os') ∧ PrC c C C' ∧ PrR R R') := by
  have sT := h.1
  have m2 := h.2.2.2.1
  have wi := h.2.2.2.2.2.2.2.2.1
  have m60 := wi.m60
  have l3 : os.length ≤ 3 := by have a := wi.2.2.2.1; have b := (wi.2.2.2.2.1 m (Nat.le_refl _)).2; omega
  obtain ⟨t, t1, t2, -, -, t3⟩ := tk_num sT hn hB
  have e5 : (2142 : Int32) + (6 : Int32) * nI m = nI (2142 + 6 * m) := by rw [litI, litI, pk_mul, nI_add]
  have bad : ∀ k : Nat, 1 ≤ k → k ≤ 9 → (∀ C', f_X7_refuse (nI k) C = some (0, C') → stepC c d C = some (0, C')) → (∀ R', f_X12_fails (nI k) R = some (0, R') → f_X12_weekStep R = some (0, R')) → ∀ Q, Par c C R (stepC c d C) (f_X12_weekStep R) Q := by
    intro k k1 k9 a b Q
    obtain ⟨C', R', g1, g2, g3⟩ := st_stp (c := c) sT hn hB k1 k9
    exact Or.inl ⟨C', R', a C' g1, b R' g2, g3⟩
  by_cases z28 : t = 28
  · subst z28
    have iw : f_X12_inWords R = some (24, R) := by
      rcases t3 with ⟨-, t3⟩ | ⟨y, -⟩
      · exact t3
      · omega
    cases os with
    | cons o os =>
      rw [stepC, t2, if_pos (show nI 28 = 28 from rfl)]
      exact step_end hc hn hB hd h iw
    | nil =>
      have w4 : gI C 16 2 = 0 := h.2.2.2.2.2.1
      have w5 : gI R 0 21 = 0 := h.2.2.2.2.2.2.1
      refine bad 2 (by omega) (by omega) (fun C' g => ?_) (fun R' g => ?_) _
      · have g' : f_X7_refuse 2 C = some (0, C') := g
        rw [stepC, t2, if_pos (show nI 28 = 28 from rfl), f_X4_closeStep, w4, if_neg (show ¬ (0 : Int32) < 0 by decide), g', bnd_some, fin_b (Or.inl rfl), bnd_some, if_pos rfl]
      · have g' : f_X12_fails 2 R = some (0, R') := g
        rw [f_X12_weekStep, iw, bnd_some, m2, letF, e5, letF, if_neg (show ¬ (24 : Int32) = 22 by decide), if_neg (show ¬ (24 : Int32) = 23 by decide), f_X12_weekStep_J42, if_neg (show ¬ (24 : Int32) < 15 by decide), if_neg (show ¬ (25 : Int32) < 24 by decide), if_pos rfl, w5, if_pos rfl, g', bnd_some, fin_b (Or.inl rfl)]
  have n28 : ¬ nI t = 28 := fun q => z28 (nI_inj (b := 28) (by omega) (by omega) q)
  have cst : stepC c d C = bnd (f_X4_beginStep (nI t) (c + 24) C) fun r M => if r = 0 then some ((0 : Int32), M) else bnd (f_X4_readStep (nI t) (gI C (c + 24) 1) d (c + 24) M) fun r M => if r = 0 then some ((0 : Int32), M) else f_X4_take 59 M := by rw [stepC, t2, if_neg n28]
  -- the reference in J42, whatever it opens
  have rst : ∀ w : Int32, f_X12_inWords R = some (w, R) → f_X12_weekStep R = f_X12_weekStep_J42 w (nI m) (nI (2142 + 6 * m)) (bI (decide (w = 22) || decide (w = 23))) R := by
    intro w iw
    rw [f_X12_weekStep, iw, bnd_some, m2, letF, e5, letF]
    by_cases y2 : w = 22
    · rw [if_pos y2, f_X12_weekStep_J37, decide_eq_true y2]; rfl
    · rw [if_neg y2]
      by_cases y3 : w = 23
      · rw [if_pos y3, f_X12_weekStep_J37, decide_eq_false y2, decide_eq_true y3]; rfl
      · rw [if_neg y3, decide_eq_false y2, decide_eq_false y3]; rfl
  by_cases hr : 15 ≤ t ∧ t ≤ 24
  · obtain ⟨ht, ht2⟩ := hr
    have iw : f_X12_inWords R = some (nI (kwP.getD t 0), R) := by
      rcases t3 with ⟨-, t3⟩ | ⟨y, -⟩
      · exact t3
      · omega
    have kk : 15 ≤ kwP.getD t 0 ∧ kwP.getD t 0 ≤ 25 ∧ kwP.getD t 0 ≠ 24 ∧ (kwP.getD t 0 = 22 ↔ t = 22) ∧ (kwP.getD t 0 = 23 ↔ t = 23) :=
      (by decide : ∀ t, t < 25 → (t < 15 ∨ (15 ≤ kwP.getD t 0 ∧ kwP.getD t 0 ≤ 25 ∧ kwP.getD t 0 ≠ 24 ∧ (kwP.getD t 0 = 22 ↔ t = 22) ∧ (kwP.getD t 0 = 23 ↔ t = 23)))) t (by omega) |>.resolve_left (by omega)
    obtain ⟨k15, k25, k24, k22, k23⟩ := kk
    by_cases good : cntW (atW R) m < 30 ∧ ((t = 22 ∨ t = 23) → os.length < 3)
    · rw [cst, h.2.2.1]
      exact step_no hc hn hB hd h ht ht2 iw good.1 good.2
    generalize kwP.getD t 0 = k at iw k15 k25 k24 k22 k23
    have n24 : ¬ nI k = 24 := fun q => k24 (nI_inj (b := 24) (by omega) (by omega) q)
    by_cases hs : cntW (atW R) m < 30
    · by_cases hl : (t = 22 ∨ t = 23) → os.length < 3
      · exact absurd ⟨hs, hl⟩ good
      · -- too deep
        have op : t = 22 ∨ t = 23 := Decidable.byContradiction fun q => hl (fun q2 => absurd q2 q)
        have lq : os.length = 3 := by
          rcases Nat.lt_or_ge os.length 3 with q | q
          · exact absurd (fun _ => q) hl
          · omega
        have w1 := h.2.2.1
        have w3 := h.2.2.2.2.1
        have w4 := h.2.2.2.2.2.1
        have w5 := h.2.2.2.2.2.2.1
        rw [lq] at w4 w5
        refine bad 7 (by omega) (by omega) (fun C' g => ?_) (fun R' g => ?_) _
        · have g' : f_X7_refuse 7 C = some (0, C') := g
          have bs : f_X4_beginStep (nI t) (c + 24) C = some (0, C') := by
            rw [f_X4_beginStep, if_neg (show ¬ nI t < 15 from nI_nlt (a := t) (b := 15) ht (by omega)), if_pos (show nI t ≤ 24 from nI_le (b := 24) ht2 (by omega)), w1, if_pos (show nI (cntW (atW R) m) < 30 from nI_lt (b := 30) hs (by omega))]
            rcases op with rfl | rfl
            · rw [if_pos (show nI 22 = 22 from rfl), f_X4_beginStep_J52, f_X4_beginStep_J57, if_neg i10, w4, if_neg (show ¬ nI 3 < 3 by decide), g', bnd_some, fin_b (Or.inl rfl)]
            · rw [if_neg (show ¬ nI 23 = 22 by decide), if_pos (show nI 23 = 23 from rfl), f_X4_beginStep_J52, f_X4_beginStep_J57, if_neg i10, w4, if_neg (show ¬ nI 3 < 3 by decide), g', bnd_some, fin_b (Or.inl rfl)]
          rw [cst, bs, bnd_some, if_pos rfl]
        · have g' : f_X12_fails 7 R = some (0, R') := g
          have ob : bI (decide (nI k = 22) || decide (nI k = 23)) = 1 := by
            rcases op with q | q
            · rw [decide_eq_true (show nI k = 22 by rw [k22.mpr q]; rfl)]; rfl
            · rw [decide_eq_true (show nI k = 23 by rw [k23.mpr q]; rfl), Bool.or_true]; rfl
          rw [rst _ iw, ob, f_X12_weekStep_J42, if_neg (show ¬ nI k < 15 from nI_nlt (b := 15) k15 (by omega)), if_neg (show ¬ 25 < nI k from nI_nlt (a := 25) k25 (by omega)), if_neg n24, f_X12_weekStep_J75, if_neg n24, w3, if_neg (show ¬ nI (cntW (atW R) m) = 30 from fun q => by have := nI_inj (b := 30) (by omega) (by omega) q; omega), f_X12_weekStep_J97, if_neg i10, w5, if_pos (show nI 3 = 3 from rfl), g', bnd_some, fin_b (Or.inl rfl)]
    · -- too many
      have s30 : cntW (atW R) m = 30 := by have := wi.2.2.2.2.2.2; omega
      have w1 := h.2.2.1
      have w3 := h.2.2.2.2.1
      rw [s30] at w1 w3
      refine bad 6 (by omega) (by omega) (fun C' g => ?_) (fun R' g => ?_) _
      · have g' : f_X7_refuse 6 C = some (0, C') := g
        rw [cst, f_X4_beginStep, if_neg (show ¬ nI t < 15 from nI_nlt (a := t) (b := 15) ht (by omega)), if_pos (show nI t ≤ 24 from nI_le (b := 24) ht2 (by omega)), w1, if_neg (show ¬ nI 30 < 30 by decide), g', bnd_some, fin_b (Or.inl rfl), bnd_some, if_pos rfl]
      · have g' : f_X12_fails 6 R = some (0, R') := g
        rw [rst _ iw, f_X12_weekStep_J42, if_neg (show ¬ nI k < 15 from nI_nlt (b := 15) k15 (by omega)), if_neg (show ¬ 25 < nI k from nI_nlt (a := 25) k25 (by omega)), if_neg n24, f_X12_weekStep_J75, if_neg n24, w3, if_pos (show nI 30 = 30 from rfl), g', bnd_some, fin_b (Or.inl rfl)]
  · -- no STEP begins so
    refine bad 2 (by omega) (by omega) (fun C' g => ?_) (fun R' g => ?_) _
    · have g' : f_X7_refuse 2 C = some (0, C') := g
      rw [cst, f_X4_beginStep]
      by_cases y : t < 15
      · rw [if_pos (show nI t < 15 from nI_lt (b := 15) y (by omega)), g', bnd_some, fin_b (Or.inl rfl), bnd_some, if_pos rfl]
      · rw [if_neg (show ¬ nI t < 15 from nI_nlt (a := t) (b := 15) (by omega) (by omega)), if_neg (show ¬ nI t ≤ 24 from nI_ge (a := 24) (by omega) (by omega)), g', bnd_some, fin_b (Or.inl rfl), bnd_some, if_pos rfl]
    · have g' : f_X12_fails 2 R = some (0, R') := g
      rcases t3 with ⟨y, t3⟩ | ⟨y, t3⟩
      · rw [rst _ t3, f_X12_weekStep_J42]
        have kk : kwP.getD t 0 < 15 ∨ (25 < kwP.getD t 0 ∧ kwP.getD t 0 < 29) := by
          rcases (by decide : ∀ t, t < 29 → (t = 28 ∨ (15 ≤ t ∧ t ≤ 24) ∨ kwP.getD t 0 < 15 ∨ (25 < kwP.getD t 0 ∧ kwP.getD t 0 < 29))) t y with q | q | q
          · exact absurd q z28
          · exact absurd q hr
          · exact q
        rcases kk with kk | ⟨kk, kk2⟩
        · rw [if_pos (show nI (kwP.getD t 0) < 15 from nI_lt (b := 15) kk (by omega)), g', bnd_some, fin_b (Or.inl rfl)]
        · rw [if_neg (show ¬ nI (kwP.getD t 0) < 15 from nI_nlt (b := 15) (by omega) (by omega)), if_pos (show 25 < nI (kwP.getD t 0) from nI_lt (a := 25) kk (by omega)), g', bnd_some, fin_b (Or.inl rfl)]
      · rw [rst _ t3, f_X12_weekStep_J42, if_pos (show (-1 : Int32) < 15 by decide), g', bnd_some, fin_b (Or.inl rfl)]
end ANYW
theorem close01 {w : Nat} {C C' : Mem} {r : Int32} (h : f_X4_closeStep w C = some (r, C')) : r = 0 ∨ r = 1 := by
  rw [f_X4_closeStep] at h
  by_cases z : 0 < gI C 16 2
  · rw [if_pos z] at h
    obtain ⟨y, -, h⟩ := lt_inv h
    obtain ⟨r1, M1, -, h⟩ := bnd_inv h
    obtain ⟨r2, M2, -, h⟩ := bnd_inv h
    obtain ⟨r3, M3, -, h⟩ := bnd_inv h
    cases h
    exact Or.inr rfl
  · rw [if_neg z] at h
    obtain ⟨r1, M1, -, h⟩ := bnd_inv h
    obtain ⟨h1, h2⟩ := gd_inv h
    cases h2
    exact Decidable.byContradiction h1
theorem c_loopW {c d : Nat} {C C' : Mem} {r i : Int32} {fu : Nat} (hi : ¬ 900 ≤ i) (ht : ¬ gI C 13 6 = 32) (h : stepC c d C = some (r, C')) : f_X4_readWeeks_L20 d (c + 24) (fu + 1) i C = if r = 0 then some (0, C') else f_X4_readWeeks_L20 d (c + 24) fu (i + 1) C' := by
  have fin : ∀ M, f_X4_take 59 M = some (r, C') → f_X4_readWeeks_J98 (f_X4_readWeeks_L20 d (c + 24) fu) d (c + 24) i 1 M = if r = 0 then some (0, C') else f_X4_readWeeks_L20 d (c + 24) fu (i + 1) C' := by
    intro M e
    rw [f_X4_readWeeks_J98, if_neg i10, e, bnd_some]
    rfl
  rw [f_X4_readWeeks_L20, if_neg hi, if_neg ht, letF, letF]
  rw [stepC] at h
  by_cases z28 : gI C 13 6 = 28
  · rw [if_pos z28] at h
    rw [if_pos z28]
    obtain ⟨r1, M1, e1, h⟩ := bnd_inv h
    have r01 : r1 = 0 ∨ r1 = 1 := close01 e1
    rw [e1, bnd_some]
    rcases r01 with rfl | rfl
    · rw [if_pos rfl] at h
      cases h
      rw [f_X4_readWeeks_J98, if_pos rfl, if_pos rfl]
    · rw [if_neg i10] at h
      exact fin M1 h
  · rw [if_neg z28] at h
    rw [if_neg z28]
    obtain ⟨r1, M1, e1, h⟩ := bnd_inv h
    rw [e1, bnd_some]
    by_cases z1 : r1 = 0
    · rw [if_pos z1] at h
      cases h
      rw [if_pos z1, f_X4_readWeeks_J97, f_X4_readWeeks_J98, if_pos rfl, if_pos rfl]
    rw [if_neg z1] at h
    obtain ⟨r2, M2, e2, h⟩ := bnd_inv h
    rw [if_neg z1, e2, bnd_some]
    by_cases z2 : r2 = 0
    · rw [if_pos z2] at h
      cases h
      rw [if_pos z2, f_X4_readWeeks_J97, f_X4_readWeeks_J98, if_pos rfl, if_pos rfl]
    rw [if_neg z2] at h
    rw [if_neg z2]
    exact fin M2 h
section WLOOP
variable {B : Nat → Nat} {n c d : Nat} {K : Kt}
theorem week_loop (hc : shC c = 0) (hn : n ≤ 900) (hB : ∀ k, B k < 256) (hd : 27 ≤ d ∧ (d + 28 ≤ c ∨ c + 28 ≤ d)) : ∀ q m f e os C R fu fu2, q + m = 60 → q + 1 < fu → q + 2 < fu2 → WkS B n c d K C R f e m os →
    ∃ s C' R', f_X4_readWeeks_L20 d (c + 24) fu (nI m) C = some (s, C') ∧ f_X12_weeks_L38 fu2 1 R = some ((), R') ∧ PrC c C C' ∧ PrR R R' ∧ ((s = 0 ∧ FlT C' R') ∨ (s = 1 ∧ ∃ m f e os, WkS B n c d K C' R' f e m os)) := by
  intro q
  induction q with
  | zero =>
    intro m f e os C R fu fu2 h1 h3 h4 h
    obtain ⟨fu, rfl⟩ : ∃ k, fu = k + 1 := ⟨fu - 1, by omega⟩
    obtain ⟨fu2, rfl⟩ : ∃ k, fu2 = k + 2 := ⟨fu2 - 2, by omega⟩
    obtain ⟨t, t1, t2, -, t4, -⟩ := tk_num h.1 hn hB
    have i9 : ¬ (900 : Int32) ≤ nI m := nI_ge (b := 900) (by omega) (by omega)
    by_cases z : t = 32
    · refine ⟨1, C, R, ?_, ?_, PrC.rf, PrR.rf, Or.inr ⟨rfl, m, f, e, os, h⟩⟩
      · rw [f_X4_readWeeks_L20, if_neg i9, t2, if_pos (by rw [z]; rfl)]
      · rw [f_X12_weeks_L38, if_neg i10, if_pos (t4.mp z)]
    · have ne : ¬ gI C 13 6 = 32 := fun q => z (nI_inj (b := 32) (by omega) (by omega) (t2.symm.trans q))
      rcases step_any hc hn hB hd h with ⟨C', R', a1, a2, a3, a4, a5⟩ | ⟨C', R', a1, a2, os', ⟨f', e', a3⟩, a5, a6⟩
      · refine ⟨0, C', R', ?_, ?_, a4, a5, Or.inl ⟨rfl, a3⟩⟩
        · rw [c_loopW i9 ne a1, if_pos rfl]
        · rw [f_X12_weeks_L38, if_neg i10, if_neg (fun q => z (t4.mpr q)), a2, bnd_some, f_X12_weeks_L38, if_pos rfl]
      · have := a3.2.2.2.2.2.2.2.2.1.m60
        omega
  | succ q ih =>
    intro m f e os C R fu fu2 h1 h3 h4 h
    obtain ⟨fu, rfl⟩ : ∃ k, fu = k + 1 := ⟨fu - 1, by omega⟩
    obtain ⟨fu2, rfl⟩ : ∃ k, fu2 = k + 2 := ⟨fu2 - 2, by omega⟩
    obtain ⟨t, t1, t2, -, t4, -⟩ := tk_num h.1 hn hB
    have i9 : ¬ (900 : Int32) ≤ nI m := nI_ge (b := 900) (by omega) (by omega)
    by_cases z : t = 32
    · refine ⟨1, C, R, ?_, ?_, PrC.rf, PrR.rf, Or.inr ⟨rfl, m, f, e, os, h⟩⟩
      · rw [f_X4_readWeeks_L20, if_neg i9, t2, if_pos (by rw [z]; rfl)]
      · rw [f_X12_weeks_L38, if_neg i10, if_pos (t4.mp z)]
    · have ne : ¬ gI C 13 6 = 32 := fun q => z (nI_inj (b := 32) (by omega) (by omega) (t2.symm.trans q))
      rcases step_any hc hn hB hd h with ⟨C', R', a1, a2, a3, a4, a5⟩ | ⟨C', R', a1, a2, os', ⟨f', e', a3⟩, a5, a6⟩
      · refine ⟨0, C', R', ?_, ?_, a4, a5, Or.inl ⟨rfl, a3⟩⟩
        · rw [c_loopW i9 ne a1, if_pos rfl]
        · rw [f_X12_weeks_L38, if_neg i10, if_neg (fun q => z (t4.mpr q)), a2, bnd_some, f_X12_weeks_L38, if_pos rfl]
      · obtain ⟨s, C2, R2, b1, b2, b3, b4, b5⟩ := ih (m + 1) f' e' os' C' R' fu (fu2 + 1) (by omega) (by omega) (by omega) a3
        refine ⟨s, C2, R2, ?_, ?_, a5.tr b3, a6.tr b4, b5⟩
        · rw [c_loopW i9 ne a1, if_neg i10, nI_s]; exact b1
        · rw [f_X12_weeks_L38, if_neg i10, if_neg (fun q => z (t4.mpr q)), a2, bnd_some]; exact b2
end WLOOP
