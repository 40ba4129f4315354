/-! WEEKS: a STEP that is no END, in both -/
theorem StT.setR2 {B : Nat → Nat} {n : Nat} {C R R' : Mem} {f e : Nat} (h : StT B n C R f e) (e1 : ∀ k, k ≠ 21 → k ≠ 22 → gI R' 0 k = gI R 0 k) (e7 : ∀ k, gI R' 7 k = gI R 7 k) : StT B n C R' f e := by
  obtain ⟨h1, ⟨a1, a2⟩, h3, h4, h5⟩ := h
  refine ⟨h1, ⟨(e1 _ (by omega) (by omega)).trans a1, fun k hk => by rw [e7]; exact a2 k hk⟩, h3, ?_, (e1 _ (by omega) (by omega)).trans h5⟩
  unfold TkR at h4 ⊢
  rw [e1 12 (by omega) (by omega), e1 13 (by omega) (by omega), e1 14 (by omega) (by omega), e1 15 (by omega) (by omega)]
  exact h4
theorem BwC.rf {w s : Nat} {C : Mem} : BwC w s C C := ⟨fun _ _ _ _ _ _ _ => rfl, fun _ _ _ => rfl, fun _ _ => rfl⟩
theorem BwR.rf {m : Nat} {R : Mem} : BwR m R R := ⟨fun _ _ _ _ _ => rfl, fun _ _ => rfl⟩
section BEGR
variable {B : Nat → Nat} {n c d : Nat} {C R : Mem} {K : Kt} {f e m : Nat} {os : List Nat}
/-- the reference begins one -/
theorem r_begin {k s l : Nat} (iw : f_X12_inWords R = some (nI k, R)) (h1 : 15 ≤ k) (h2 : k ≤ 25) (hk : k ≠ 24) (hm : m < 60) (rm : gI R 1 2016 = nI m) (hs : s < 30) (rs : gI R 0 22 = nI s) (rl : gI R 0 21 = nI l) {o : Bool} (ho : o = (decide (k = 22) || decide (k = 23))) (hl : o = true → l < 3) (l3 : l ≤ 3) :
    ∃ R1, f_X12_weekStep R = (bnd (f_X12_ahead R1) fun _ M45 => bnd (f_X12_weekOrder (nI k) (nI (2142 + 6 * m)) M45) fun r47 M48 => if r47 = 0 then (some ((0 : Int32), M48)) else (if bI o = 0 then (f_X12_weekStep_J222 (nI k) (nI m) (nI (2142 + 6 * m)) M48) else (if (gI M48 0 21) < 0 ∨ 3 ≤ ((gI M48 0 21)).toNatClampNeg then none else letF (sI M48 8 ((gI M48 0 21)).toNatClampNeg (nI m)) fun M53 => letF (sI M53 0 21 (((gI M53 0 21) + (1 : Int32)))) fun M54 => f_X12_weekStep_J222 (nI k) (nI m) (nI (2142 + 6 * m)) M54))) ∧
      (∀ y j, gI R1 y j = if y = 1 ∧ j = 2016 then nI (m + 1) else if y = 1 ∧ 2142 + 6 * m + 1 ≤ j ∧ j < 2142 + 6 * m + 6 then 0 else if y = 1 ∧ j = 2142 + 6 * m then nI k else if y = 0 ∧ j = 22 then nI (s + 1) else gI R y j) ∧ ∀ y j, gL R1 y j = gL R y j := by
  obtain ⟨R1, t1, t2, t3⟩ := r_zero5 (R := sI (sI R 0 22 (nI (s + 1))) 1 (2142 + 6 * m) (nI k)) (q := 2142 + 6 * m) (by omega) (nI k) (nI m) (bI o)
  obtain ⟨z1, z2⟩ := r_rd (e := nI (2142 + 6 * m)) (j := 2142 + 6 * m) rfl (by omega)
  have e5 : (2142 : Int32) + (6 : Int32) * nI m = nI (2142 + 6 * m) := by rw [litI, litI, pk_mul, nI_add]
  have g16 : gI R1 1 2016 = nI m := by rw [t2, if_neg (by omega), gI_I, if_neg (by omega), gI_I, if_neg (by omega)]; exact rm
  refine ⟨sI R1 1 2016 (nI (m + 1)), ?_, fun y j => ?_, fun y j => ?_⟩
  · have k24 : ¬ nI k = 24 := fun q => hk (nI_inj (b := 24) (by omega) (by omega) q)
    have j133 : f_X12_weekStep_J117 (nI k) (nI m) (nI (2142 + 6 * m)) (bI o) R = (bnd (f_X12_ahead (sI R1 1 2016 (nI (m + 1)))) fun _ M45 => bnd (f_X12_weekOrder (nI k) (nI (2142 + 6 * m)) M45) fun r47 M48 => if r47 = 0 then (some ((0 : Int32), M48)) else (if bI o = 0 then (f_X12_weekStep_J222 (nI k) (nI m) (nI (2142 + 6 * m)) M48) else (if (gI M48 0 21) < 0 ∨ 3 ≤ ((gI M48 0 21)).toNatClampNeg then none else letF (sI M48 8 ((gI M48 0 21)).toNatClampNeg (nI m)) fun M53 => letF (sI M53 0 21 (((gI M53 0 21) + (1 : Int32)))) fun M54 => f_X12_weekStep_J222 (nI k) (nI m) (nI (2142 + 6 * m)) M54))) := by
      rw [f_X12_weekStep_J117, if_neg k24, f_X12_weekStep_J133, rs, nI_s, letF, if_neg z1, z2, letF, t1, bnd_some, g16, nI_s, letF]
    have j42 : f_X12_weekStep_J42 (nI k) (nI m) (nI (2142 + 6 * m)) (bI o) R = f_X12_weekStep_J117 (nI k) (nI m) (nI (2142 + 6 * m)) (bI o) R := by
      rw [f_X12_weekStep_J42, if_neg (show ¬ nI k < 15 from nI_nlt (b := 15) h1 (by omega)), if_neg (show ¬ 25 < nI k from nI_nlt (a := 25) h2 (by omega)), if_neg k24, f_X12_weekStep_J75, if_neg k24, rs, if_neg (show ¬ nI s = 30 from fun q => by have := nI_inj (b := 30) (by omega) (by omega) q; omega), f_X12_weekStep_J97, rl]
      cases o with
      | false => rw [if_pos bI_f]
      | true =>
        have := hl rfl
        rw [if_neg (show ¬ bI true = 0 by decide), if_neg (show ¬ nI l = 3 from fun q => by have := nI_inj (b := 3) (by omega) (by omega) q; omega)]
    rw [f_X12_weekStep, iw, bnd_some, rm, letF, e5, letF, ← j133, ← j42]
    by_cases z22 : k = 22
    · subst z22
      have ho' : o = true := ho
      subst ho'
      rw [if_pos (show nI 22 = 22 from rfl), f_X12_weekStep_J37]; rfl
    · rw [if_neg (show ¬ nI k = 22 from fun q => z22 (nI_inj (b := 22) (by omega) (by omega) q))]
      by_cases z23 : k = 23
      · subst z23
        have ho' : o = true := ho
        subst ho'
        rw [if_pos (show nI 23 = 23 from rfl), f_X12_weekStep_J37]; rfl
      · have ho' : o = false := by rw [ho, decide_eq_false z22, decide_eq_false z23]; rfl
        subst ho'
        rw [if_neg (show ¬ nI k = 23 from fun q => z23 (nI_inj (b := 23) (by omega) (by omega) q))]; rfl
  · rw [gI_I, t2, gI_I, gI_I]
  · rw [gL_I, t3, gL_I, gL_I]
theorem step_fin (hc : shC c = 0) (hn : n ≤ 900) (hB : ∀ k, B k < 256) (hd : 27 ≤ d ∧ (d + 28 ≤ c ∨ c + 28 ≤ d)) {C3 R4 : Mem} {os' : List Nat} {m' : Nat} (hs : ∃ f e, StT B n C3 R4 f e) (pc : PrC c C C3) (pr : PrR R R4) (hk : CrtW K d C3 R4) (c1 : gI C3 (c + 24) 1 = nI (cntW (atW R4) m')) (r1 : gI R4 1 2016 = nI m') (r2 : gI R4 0 22 = nI (cntW (atW R4) m')) (c2 : gI C3 16 2 = nI os'.length) (r3 : gI R4 0 21 = nI os'.length)
    (stk : StkW C3 R4 (atW R4) os') (wi : WkI K (clW c C3) (atW R4) m' os') (f9 : gI C3 13 9 = 0) (f10 : gI C3 13 10 = -1) (f17 : gI R4 0 17 = -1) :
    Par c C R (f_X4_take 59 C3) (bnd (f_X12_wantSign 59 R4) fun r M => if ¬ (r = 0 ∨ r = 1) then none else some (r, M)) (fun C' R' => (∃ f' e', WkS B n c d K C' R' f' e' m' os') ∧ PrC c C C' ∧ PrR R R') := by
  have lo := isC_lo hc
  obtain ⟨f, e, sT⟩ := hs
  refine Par.bR ?_
  rcases st_semi (c := c) hn hB sT with hh | ⟨C5, R5, f5, e5, a1, a2, a3, a4, a5⟩
  · exact Or.inl (hh.pre pc pr)
  · have ea : atW R5 = atW R4 := funext fun j => a5.1 _ _ (by omega)
    have ec : clW c C5 = clW c C3 := funext fun j => a4.1 _ _ (by omega)
    refine Or.inr ⟨C5, R5, a1, a2, ⟨f5, e5, a3, hk.bw (w := c + 24) (s := 0) (m := 0) (BwC.rf.go a4) (BwR.rf.go a5) rfl lo.1 hd, ?_, ?_, ?_, ?_, ?_, ?_, ?_, ?_, ?_, ?_⟩, pc.tr (a4.pr c), pr.tr a5.pr⟩
    · rw [ea, a4.1 _ _ (by omega)]; exact c1
    · rw [a5.1 _ _ (by omega)]; exact r1
    · rw [ea, a5.1 _ _ (by omega)]; exact r2
    · rw [a4.1 _ _ (by omega)]; exact c2
    · rw [a5.1 _ _ (by omega)]; exact r3
    · exact stk.cg (fun i hi => a5.1 _ _ (by omega)) (fun i hi => a4.1 _ _ (by omega)) (fun x hx => by rw [ea])
    · rw [ea, ec]; exact wi
    · rw [a4.1 _ _ (by omega)]; exact f9
    · rw [a4.1 _ _ (by omega)]; exact f10
    · rw [a5.1 _ _ (by omega)]; exact f17
/-- a STEP's order -/
theorem body_smp {w s : Nat} {C2 R2 : Mem} (X : Bx B n c w s m) (h : InB B n w s m C2 R2 C2 R2) (hK : CrtW K d C2 R2) (hd : 27 ≤ d ∧ (d + 28 ≤ c ∨ c + 28 ≤ d)) {t : Nat} (ht : 15 ≤ t) (ht2 : t ≤ 24) (h22 : t ≠ 22) (h23 : t ≠ 23) (c0 : gI C2 (w + 1) (5 * s) = nI t) (r0 : gI R2 1 (2142 + 6 * m) = nI (kwP.getD t 0)) :
    Par c C2 R2 (f_X4_readStep (nI t) (nI s) d w C2) (f_X12_weekOrder (nI (kwP.getD t 0)) (nI (2142 + 6 * m)) R2) (SmpQ B n w s m K C2 R2) := by
  rcases (show t = 15 ∨ t = 16 ∨ t = 17 ∨ t = 18 ∨ t = 19 ∨ t = 20 ∨ t = 21 ∨ t = 24 by omega) with rfl | rfl | rfl | rfl | rfl | rfl | rfl | rfl
  · exact body_sit X h hK hd c0 r0
  · exact body_plain h (t := 16) (by omega) c0 r0
  · exact body_feed X h hK hd c0 r0
  · exact body_rub X h hK hd (t := 18) (by omega) c0 r0
  · exact body_rub X h hK hd (t := 19) (by omega) c0 r0
  · exact body_plain h (t := 20) (by omega) c0 r0
  · exact body_plain h (t := 21) (by omega) c0 r0
  · exact body_stop h c0 r0
end BEGR
