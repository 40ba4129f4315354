/-! WEEKS: a STEP that is no END, whole -/
section STEPW
variable {B : Nat → Nat} {n c d : Nat} {C R : Mem} {K : Kt} {f e m : Nat} {os : List Nat}
theorem step_beg (hc : shC c = 0) (hn : n ≤ 900) (hB : ∀ k, B k < 256) (hd : 27 ≤ d ∧ (d + 28 ≤ c ∨ c + 28 ≤ d)) (h : WkS B n c d K C R f e m os) {t : Nat} (ht : 15 ≤ t) (ht2 : t ≤ 24) (iw : f_X12_inWords R = some (nI (kwP.getD t 0), R)) (hs : cntW (atW R) m < 30) {o : Bool} (ho : o = (decide (t = 22) || decide (t = 23))) (hl : o = true → os.length < 3) :
    ∃ C2 R2, f_X4_beginStep (nI t) (c + 24) C = some (1, C2) ∧
      f_X12_weekStep R = (bnd (f_X12_weekOrder (nI (kwP.getD t 0)) (nI (2142 + 6 * m)) R2) fun r47 M48 => if r47 = 0 then (some ((0 : Int32), M48)) else (if bI o = 0 then (f_X12_weekStep_J222 (nI (kwP.getD t 0)) (nI m) (nI (2142 + 6 * m)) M48) else (if (gI M48 0 21) < 0 ∨ 3 ≤ ((gI M48 0 21)).toNatClampNeg then none else letF (sI M48 8 ((gI M48 0 21)).toNatClampNeg (nI m)) fun M53 => letF (sI M53 0 21 (((gI M53 0 21) + (1 : Int32)))) fun M54 => f_X12_weekStep_J222 (nI (kwP.getD t 0)) (nI m) (nI (2142 + 6 * m)) M54))) ∧
      (∃ f e, StT B n C2 R2 f e) ∧ BwC (c + 24) (cntW (atW R) m) C C2 ∧ BwR m R R2 ∧ CrtW K d C2 R2 ∧ gI C2 (c + 24) 1 = nI (cntW (atW R) m + 1) ∧ gI C2 16 2 = nI (if o = true then os.length + 1 else os.length) ∧ (∀ i, i < os.length → gI C2 17 i = gI C 17 i) ∧ (o = true → gI C2 17 os.length = nI (cntW (atW R) m)) ∧ gI C2 (c + 24 + 1) (5 * cntW (atW R) m) = nI t ∧
      gI R2 1 2016 = nI (m + 1) ∧ gI R2 0 22 = nI (cntW (atW R) m + 1) ∧ gI R2 0 21 = nI os.length ∧ (∀ i, gI R2 8 i = gI R 8 i) ∧ gI R2 1 (2142 + 6 * m) = nI (kwP.getD t 0) ∧ gI R2 1 (2142 + (6 * m + 4)) = 0 ∧ gI C2 13 9 = 0 ∧ gI C2 13 10 = -1 ∧ gI R2 0 17 = -1 := by
  have lo := isC_lo hc
  obtain ⟨sT, hk, w1, w2, w3, w4, w5, w6, w7, w8, w9, w10⟩ := h
  have m58 : m ≤ 58 := by obtain ⟨-, -, -, -, -, q6, q7⟩ := w7; omega
  have l3 : os.length ≤ 3 := by have a := w7.2.2.2.1; have b := (w7.2.2.2.2.1 m (Nat.le_refl _)).2; omega
  have kk : 15 ≤ kwP.getD t 0 ∧ kwP.getD t 0 ≤ 25 ∧ kwP.getD t 0 ≠ 24 ∧ (decide (t = 22) || decide (t = 23)) = (decide (kwP.getD t 0 = 22) || decide (kwP.getD t 0 = 23)) :=
    (by decide : ∀ t, t < 25 → (t < 15 ∨ (15 ≤ kwP.getD t 0 ∧ kwP.getD t 0 ≤ 25 ∧ kwP.getD t 0 ≠ 24 ∧ (decide (t = 22) || decide (t = 23)) = (decide (kwP.getD t 0 = 22) || decide (kwP.getD t 0 = 23))))) t (by omega) |>.resolve_left (by omega)
  obtain ⟨R1, r1, r2, r3⟩ := r_begin iw kk.1 kk.2.1 kk.2.2.1 (by omega) w2 hs w3 w5 (ho.trans kk.2.2.2) hl l3
  have c1 := c_begin (C := C) hc ht ht2 hs w1 w4 ho hl
  have cf : ∀ C1, C1 = (if o = true then sI (sI (sI (sI C (c + 24) 1 (nI (cntW (atW R) m + 1))) (c + 24 + 1) (5 * cntW (atW R) m) (nI t)) 17 os.length (nI (cntW (atW R) m))) 16 2 (nI (os.length + 1)) else sI (sI C (c + 24) 1 (nI (cntW (atW R) m + 1))) (c + 24 + 1) (5 * cntW (atW R) m) (nI t)) →
      (∀ a j, ¬ (a = 16 ∧ j = 2) → ¬ (a = 17 ∧ j = os.length) → ¬ (a = c + 24 ∧ j = 1) → ¬ (a = c + 24 + 1 ∧ j = 5 * cntW (atW R) m) → gI C1 a j = gI C a j) ∧ (∀ a j, gL C1 a j = gL C a j) ∧ (∀ a j, gR C1 a j = gR C a j) ∧ gI C1 (c + 24) 1 = nI (cntW (atW R) m + 1) ∧ gI C1 16 2 = nI (if o = true then os.length + 1 else os.length) ∧ (o = true → gI C1 17 os.length = nI (cntW (atW R) m)) ∧ gI C1 (c + 24 + 1) (5 * cntW (atW R) m) = nI t := by
    intro C1 e1
    cases o with
    | true =>
      rw [if_pos rfl] at e1
      subst e1
      refine ⟨fun a j y1 y2 y3 y4 => ?_, fun _ _ => rfl, fun _ _ => rfl, ?_, ?_, fun _ => ?_, ?_⟩
      · rw [gI_I, if_neg y1, gI_I, if_neg y2, gI_I, if_neg y4, gI_I, if_neg y3]
      · rw [gI_I, if_neg (by omega), gI_I, if_neg (by omega), gI_I, if_neg (by omega), gI_same]
      · rw [gI_same, if_pos rfl]
      · rw [gI_I, if_neg (by omega), gI_same]
      · rw [gI_I, if_neg (by omega), gI_I, if_neg (by omega), gI_same]
    | false =>
      rw [if_neg (by decide)] at e1
      subst e1
      refine ⟨fun a j y1 y2 y3 y4 => ?_, fun _ _ => rfl, fun _ _ => rfl, ?_, ?_, fun q => absurd q (by decide), ?_⟩
      · rw [gI_I, if_neg y4, gI_I, if_neg y3]
      · rw [gI_I, if_neg (by omega), gI_same]
      · rw [gI_I, if_neg (by omega), gI_I, if_neg (by omega), w4, if_neg (by decide)]
      · rw [gI_same]
  generalize hC1 : (if o = true then sI (sI (sI (sI C (c + 24) 1 (nI (cntW (atW R) m + 1))) (c + 24 + 1) (5 * cntW (atW R) m) (nI t)) 17 os.length (nI (cntW (atW R) m))) 16 2 (nI (os.length + 1)) else sI (sI C (c + 24) 1 (nI (cntW (atW R) m + 1))) (c + 24 + 1) (5 * cntW (atW R) m) (nI t)) = C1 at c1
  obtain ⟨g1, g2, g3, g4, g5, g6, g7⟩ := cf C1 hC1.symm
  have sT1 : StT B n C1 R1 f e := (sT.setC (C' := C1) (fun a k z => g1 a k (by omega) (by omega) (by omega) (by omega)) (fun a k z => g2 a k)).setR2 (fun k z1 z2 => by rw [r2, if_neg (by omega), if_neg (by omega), if_neg (by omega), if_neg (by omega)]) (fun k => by rw [r2, if_neg (by omega), if_neg (by omega), if_neg (by omega), if_neg (by omega)])
  obtain ⟨C2, R2, f2, e2, a1, a2, a3, a4, a5, -⟩ := st_go hn hB sT1
  have bC : BwC (c + 24) (cntW (atW R) m) C C2 := ⟨fun a j z1 z2 z3 z4 z5 => (a4.1 a j z1).trans (g1 a j (by omega) (by omega) z4 (by omega)), fun a j z => (a4.2.1 a j z).trans (g2 a j), fun a j => (a4.2.2 a j).trans (g3 a j)⟩
  have bR : BwR m R R2 := ⟨fun a j z1 z2 z3 => (a5.1 a j (by omega)).trans (by rw [r2, if_neg (by omega), if_neg (by omega), if_neg (by omega), if_neg (by omega)]), fun a j => (a5.2 a j).trans (r3 a j)⟩
  refine ⟨C2, R2, by rw [c1, a1, bnd_some], by rw [r1, a2, bnd_some], ⟨f2, e2, a3⟩, bC, bR, hk.bw bC bR rfl lo.1 hd, ?_, ?_, fun i hi => ?_, fun q => ?_, ?_, ?_, ?_, ?_, fun i => ?_, ?_, ?_, ?_, ?_, ?_⟩
  · rw [a4.1 _ _ (by omega)]; exact g4
  · rw [a4.1 _ _ (by omega)]; exact g5
  · rw [a4.1 _ _ (by omega)]; exact g1 _ _ (by omega) (by omega) (by omega) (by omega)
  · rw [a4.1 _ _ (by omega)]; exact g6 q
  · rw [a4.1 _ _ (by omega)]; exact g7
  · rw [a5.1 _ _ (by omega), r2, if_pos ⟨rfl, rfl⟩]
  · rw [a5.1 _ _ (by omega), r2, if_neg (by omega), if_neg (by omega), if_neg (by omega), if_pos ⟨rfl, rfl⟩]
  · rw [a5.1 _ _ (by omega), r2, if_neg (by omega), if_neg (by omega), if_neg (by omega), if_neg (by omega)]; exact w5
  · rw [a5.1 _ _ (by omega), r2, if_neg (by omega), if_neg (by omega), if_neg (by omega), if_neg (by omega)]
  · rw [a5.1 _ _ (by omega), r2, if_neg (by omega), if_neg (by omega), if_pos ⟨rfl, rfl⟩]
  · rw [a5.1 _ _ (by omega), r2, if_neg (by omega), if_pos (by omega)]
  · rw [a4.1 _ _ (by omega)]; exact (g1 _ _ (by omega) (by omega) (by omega) (by omega)).trans w8
  · rw [a4.1 _ _ (by omega)]; exact (g1 _ _ (by omega) (by omega) (by omega) (by omega)).trans w9
  · rw [a5.1 _ _ (by omega), r2, if_neg (by omega), if_neg (by omega), if_neg (by omega), if_neg (by omega)]; exact w10
theorem step_no (hc : shC c = 0) (hn : n ≤ 900) (hB : ∀ k, B k < 256) (hd : 27 ≤ d ∧ (d + 28 ≤ c ∨ c + 28 ≤ d)) (h : WkS B n c d K C R f e m os) {t : Nat} (ht : 15 ≤ t) (ht2 : t ≤ 24) (iw : f_X12_inWords R = some (nI (kwP.getD t 0), R)) (hs : cntW (atW R) m < 30) (hl : (t = 22 ∨ t = 23) → os.length < 3) :
    Par c C R (bnd (f_X4_beginStep (nI t) (c + 24) C) fun r M => if r = 0 then some ((0 : Int32), M) else bnd (f_X4_readStep (nI t) (nI (cntW (atW R) m)) d (c + 24) M) fun r M => if r = 0 then some ((0 : Int32), M) else f_X4_take 59 M) (f_X12_weekStep R) (fun C' R' => ∃ os', (∃ f' e', WkS B n c d K C' R' f' e' (m + 1) os') ∧ PrC c C C' ∧ PrR R R') := by
  have lo := isC_lo hc
  have wi := h.2.2.2.2.2.2.2.2.1
  have stk := h.2.2.2.2.2.2.2.1
  have m58 : m ≤ 58 := by obtain ⟨-, -, -, -, -, q6, q7⟩ := wi; omega
  have k24 : ¬ nI (kwP.getD t 0) = 24 := by
    have : kwP.getD t 0 ≠ 24 ∧ kwP.getD t 0 < 29 := (by decide : ∀ t, t < 25 → kwP.getD t 0 ≠ 24 ∧ kwP.getD t 0 < 29) t (by omega)
    exact fun q => this.1 (nI_inj (b := 24) (by omega) (by omega) q)
  by_cases op : t = 22 ∨ t = 23
  · have ho : true = (decide (t = 22) || decide (t = 23)) := by rcases op with rfl | rfl <;> rfl
    obtain ⟨C2, R2, b1, b2, b3, bC, bR, bK, c1, c2, c3, c4, c5, r1, r2, r3, r4, r5, r6, f9, f10, f17⟩ := step_beg hc hn hB hd h ht ht2 iw hs ho (fun _ => hl op)
    have X : Bx B n c (c + 24) (cntW (atW R) m) m := ⟨hn, hB, rfl, hc, hs, by omega⟩
    have hI : InB B n (c + 24) (cntW (atW R) m) m C2 R2 C2 R2 := ⟨b3, FbC.rf, FbR.rf⟩
    have body : Par c C2 R2 (f_X4_readStep (nI t) (nI (cntW (atW R) m)) d (c + 24) C2) (f_X12_weekOrder (nI (kwP.getD t 0)) (nI (2142 + 6 * m)) R2) (OpnQ B n (c + 24) (cntW (atW R) m) m K C2 R2) := by
      rcases op with rfl | rfl
      · exact body_when X hI bK hd c5 r6
      · exact body_loop X hI c5 r5 r6
    rw [b1, bnd_some, if_neg i10, b2]
    refine (body.pre (bC.pr rfl) (bR.pr (by omega))).b (fun M => if_pos rfl) (fun M => if_pos rfl) fun C3 R3 ⟨⟨q0, qC, qR⟩, q1, q2⟩ => ?_
    have dC := bC.fb qC
    have dR := bR.fb qR
    have l3 := hl op
    have e21 : gI R3 0 21 = nI os.length := (qR.1 _ _ (by omega) (by omega)).trans r3
    have e21b : gI (sI R3 8 os.length (nI m)) 0 21 = nI os.length := by rw [gI_I, if_neg (by omega)]; exact e21
    rw [if_neg i10, if_neg i10, if_neg (show ¬ bI true = 0 by decide), e21, if_neg (show ¬ (nI os.length < 0 ∨ 3 ≤ (nI os.length).toNatClampNeg) from nI_in l3 (by decide)), nI_clamp (by omega), letF, e21b, nI_s, letF, f_X12_weekStep_J222, if_neg k24]
    have eA : ∀ j, atW (sI (sI R3 8 os.length (nI m)) 0 21 (nI (os.length + 1))) j = atW R3 j := fun j => by
      show gI (sI (sI R3 8 os.length (nI m)) 0 21 (nI (os.length + 1))) 1 (2142 + j) = gI R3 1 (2142 + j)
      rw [gI_I, if_neg (by omega), gI_I, if_neg (by omega)]
    have eA' : atW (sI (sI R3 8 os.length (nI m)) 0 21 (nI (os.length + 1))) = atW R3 := funext eA
    have e1 : ∀ j, j < 6 * m → atW R3 j = atW R j := fun j hj => dR.1 _ _ (by omega) (by omega) (by omega)
    have e2 : ∀ j, j < 5 * cntW (atW R) m → clW c C3 j = clW c C j := fun j hj => dC.1 _ _ (by omega) (by omega) (by omega) (by omega) (by omega)
    have wn := wi.opn hs l3 e1 e2 q1 q2
    have ec := cntW_cg (m := m) (at_ := atW R) (at' := atW R3) (fun j hj => e1 _ (by omega))
    have cnt : cntW (atW R3) (m + 1) = cntW (atW R) m + 1 := by rw [cntW_s, if_neg (show ¬ atW R3 (6 * m) = 24 from q1.ne.1), ec m (Nat.le_refl _)]
    obtain ⟨f3, e3, sT3⟩ := q0
    refine (step_fin (C3 := C3) (R4 := sI (sI R3 8 os.length (nI m)) 0 21 (nI (os.length + 1))) hc hn hB hd (os' := m :: os) (m' := m + 1) ⟨f3, e3, sT3.setR2 (fun k z1 z2 => by rw [gI_I, if_neg (by omega), gI_I, if_neg (by omega)]) (fun k => by rw [gI_I, if_neg (by omega), gI_I, if_neg (by omega)])⟩ (dC.pr rfl) ⟨fun a j z1 z2 z3 => by rw [gI_I, if_neg (by omega), gI_I, if_neg (by omega)]; exact (dR.pr (by omega)).1 a j z1 z2 z3, fun a j z => (dR.pr (by omega)).2 a j z⟩ ((bK.fb X qC qR hd).bw (w := c + 24) (s := 0) (m := 0) BwC.rf ⟨fun a j z1 z2 z3 => by rw [gI_I, if_neg (by omega), gI_I, if_neg (by omega)], fun a j => rfl⟩ rfl lo.1 hd) ?_ ?_ ?_ ?_ ?_ ?_ ?_ ?_ ?_ ?_).mono fun C' R' hh => ⟨m :: os, hh⟩
    · rw [eA', cnt]; exact (qC.1 _ _ (by omega) (by omega) (by omega)).trans c1
    · rw [gI_I, if_neg (by omega), gI_I, if_neg (by omega)]; exact (qR.1 _ _ (by omega) (by omega)).trans r1
    · rw [eA', cnt, gI_I, if_neg (by omega), gI_I, if_neg (by omega)]; exact (qR.1 _ _ (by omega) (by omega)).trans r2
    · exact (qC.1 _ _ (by omega) (by omega) (by omega)).trans c2
    · rw [gI_same, List.length_cons]
    · refine ⟨?_, ?_, ?_⟩
      · rw [gI_I, if_neg (by omega), gI_same]
      · rw [eA', ec m (Nat.le_refl _), qC.1 _ _ (by omega) (by omega) (by omega)]; exact c4 rfl
      · refine stk.cg (fun i hi => ?_) (fun i hi => ?_) (fun x hx => ?_)
        · rw [gI_I, if_neg (by omega), gI_I, if_neg (by omega), qR.1 _ _ (by omega) (by omega)]; exact r4 i
        · rw [qC.1 _ _ (by omega) (by omega) (by omega)]; exact c3 i hi
        · rw [eA']; exact ec x (by have := (wi.2.1 x hx).1; omega)
    · rw [eA']; exact wn
    · exact (qC.1 _ _ (by omega) (by omega) (by omega)).trans f9
    · exact (qC.1 _ _ (by omega) (by omega) (by omega)).trans f10
    · rw [gI_I, if_neg (by omega), gI_I, if_neg (by omega)]; exact (qR.1 _ _ (by omega) (by omega)).trans f17
  · have ho : false = (decide (t = 22) || decide (t = 23)) := by rw [decide_eq_false (show ¬ t = 22 by omega), decide_eq_false (show ¬ t = 23 by omega)]; rfl
    obtain ⟨C2, R2, b1, b2, b3, bC, bR, bK, c1, c2, c3, c4, c5, r1, r2, r3, r4, r5, r6, f9, f10, f17⟩ := step_beg hc hn hB hd h ht ht2 iw hs ho (fun q => absurd q (by decide))
    have X : Bx B n c (c + 24) (cntW (atW R) m) m := ⟨hn, hB, rfl, hc, hs, by omega⟩
    have hI : InB B n (c + 24) (cntW (atW R) m) m C2 R2 C2 R2 := ⟨b3, FbC.rf, FbR.rf⟩
    have body := body_smp X hI bK hd ht ht2 (by omega) (by omega) c5 r5
    rw [b1, bnd_some, if_neg i10, b2]
    refine (body.pre (bC.pr rfl) (bR.pr (by omega))).b (fun M => if_pos rfl) (fun M => if_pos rfl) fun C3 R3 ⟨⟨q0, qC, qR⟩, q1⟩ => ?_
    have dC := bC.fb qC
    have dR := bR.fb qR
    rw [if_neg i10, if_neg i10, if_pos bI_f, f_X12_weekStep_J222, if_neg k24]
    have e1 : ∀ j, j < 6 * m → atW R3 j = atW R j := fun j hj => dR.1 _ _ (by omega) (by omega) (by omega)
    have e2 : ∀ j, j < 5 * cntW (atW R) m → clW c C3 j = clW c C j := fun j hj => dC.1 _ _ (by omega) (by omega) (by omega) (by omega) (by omega)
    have wn := wi.smp hs e1 e2 q1
    have ec := cntW_cg (m := m) (at_ := atW R) (at' := atW R3) (fun j hj => e1 _ (by omega))
    have cnt : cntW (atW R3) (m + 1) = cntW (atW R) m + 1 := by rw [cntW_s, if_neg (show ¬ atW R3 (6 * m) = 24 from q1.ne.1), ec m (Nat.le_refl _)]
    refine (step_fin hc hn hB hd (os' := os) (m' := m + 1) q0 (dC.pr rfl) (dR.pr (by omega)) (bK.fb X qC qR hd) ?_ ?_ ?_ ?_ ?_ ?_ wn ?_ ?_ ?_).mono fun C' R' hh => ⟨os, hh⟩
    · rw [cnt]; exact (qC.1 _ _ (by omega) (by omega) (by omega)).trans c1
    · exact (qR.1 _ _ (by omega) (by omega)).trans r1
    · rw [cnt]; exact (qR.1 _ _ (by omega) (by omega)).trans r2
    · exact (qC.1 _ _ (by omega) (by omega) (by omega)).trans c2
    · exact (qR.1 _ _ (by omega) (by omega)).trans r3
    · refine stk.cg (fun i hi => ?_) (fun i hi => ?_) (fun x hx => ?_)
      · rw [qR.1 _ _ (by omega) (by omega)]; exact r4 i
      · rw [qC.1 _ _ (by omega) (by omega) (by omega)]; exact c3 i hi
      · exact ec x (by have := (wi.2.1 x hx).1; omega)
    · exact (qC.1 _ _ (by omega) (by omega) (by omega)).trans f9
    · exact (qC.1 _ _ (by omega) (by omega) (by omega)).trans f10
    · exact (qR.1 _ _ (by omega) (by omega)).trans f17
end STEPW
