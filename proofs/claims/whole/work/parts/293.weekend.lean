/-! WEEKS: END, and any STEP -/
noncomputable def stepC (c d : Nat) (C : Mem) : Rs Int32 := if gI C 13 6 = 28 then (bnd (f_X4_closeStep (c + 24) C) fun r M => if r = 0 then some ((0 : Int32), M) else f_X4_take 59 M) else bnd (f_X4_beginStep (gI C 13 6) (c + 24) C) fun r M => if r = 0 then some ((0 : Int32), M) else bnd (f_X4_readStep (gI C 13 6) (gI C (c + 24) 1) d (c + 24) M) fun r M => if r = 0 then some ((0 : Int32), M) else f_X4_take 59 M
section ENDW
variable {B : Nat → Nat} {n c d : Nat} {C R : Mem} {K : Kt} {f e m : Nat}
theorem step_end {o : Nat} {os : List Nat} (hc : shC c = 0) (hn : n ≤ 900) (hB : ∀ k, B k < 256) (hd : 27 ≤ d ∧ (d + 28 ≤ c ∨ c + 28 ≤ d)) (h : WkS B n c d K C R f e m (o :: os)) (iw : f_X12_inWords R = some (24, R)) :
    Par c C R (bnd (f_X4_closeStep (c + 24) C) fun r M => if r = 0 then some ((0 : Int32), M) else f_X4_take 59 M) (f_X12_weekStep R) (fun C' R' => ∃ os', (∃ f' e', WkS B n c d K C' R' f' e' (m + 1) os') ∧ PrC c C C' ∧ PrR R R') := by
  have lo := isC_lo hc
  obtain ⟨sT, hk, w1, w2, w3, w4, w5, w6, w7, w8, w9, w10⟩ := h
  have m59 : m ≤ 59 := by obtain ⟨-, -, -, -, -, q6, q7⟩ := w7; rw [List.length_cons] at q6; omega
  have s30 : cntW (atW R) m ≤ 30 := w7.2.2.2.2.2.2
  have l2 : os.length < 3 := by have a := w7.2.2.2.1; have b := (w7.2.2.2.2.1 m (Nat.le_refl _)).2; rw [List.length_cons] at a; omega
  obtain ⟨om, -, so, -, -⟩ := w7.2.1 o List.mem_cons_self
  obtain ⟨k1, k2, k3⟩ := w6
  rw [List.length_cons] at w4 w5
  have pl : nI (os.length + 1) - 1 = nI os.length := pk_sub (a := os.length + 1) (b := 1) (by omega)
  -- the one that begins
  have e4 : nI (cntW (atW R) o) * 5 + (4 : Int32) = nI (5 * cntW (atW R) o + 4) := by rw [litI, litI, pk_mul, nI_add, Nat.mul_comm]
  have g2 : gI (sI C 16 2 (nI os.length)) 16 2 = nI os.length := gI_same _ _ _ _
  have g17 : gI (sI C 16 2 (nI os.length)) 17 os.length = nI (cntW (atW R) o) := by rw [gI_I, if_neg (by omega)]; exact k2
  have gw : gI (sI C 16 2 (nI os.length)) (c + 24) 1 = nI (cntW (atW R) m) := by rw [gI_I, if_neg (by omega)]; exact w1
  have cC : f_X4_closeStep (c + 24) C = bnd (f_X7_goOn (sI (sI C 16 2 (nI os.length)) (c + 24 + 1) (5 * cntW (atW R) o + 4) (nI (cntW (atW R) m)))) fun _ M => some (1, M) := by
    rw [f_X4_closeStep, w4, if_pos (show 0 < nI (os.length + 1) from nI_lt (a := 0) (by omega) (by omega)), pl, letF, g2, p_cell zC_17 l2 (by decide), bnd_some, g17, gw, f_X9_putCell, e4, p_put (n := 150) (alC_wk hc) (by omega) (by decide), bnd_some, bnd_some]
  -- the other
  obtain ⟨R1, t1, t2, t3⟩ := r_zero5 (R := sI (sI R 0 22 (nI (cntW (atW R) m))) 1 (2142 + 6 * m) 24) (q := 2142 + 6 * m) (by omega) 24 (nI m) 0
  obtain ⟨z1, z2⟩ := r_rd (e := nI (2142 + 6 * m)) (j := 2142 + 6 * m) rfl (by omega)
  have e5 : (2142 : Int32) + (6 : Int32) * nI m = nI (2142 + 6 * m) := by rw [litI, litI, pk_mul, nI_add]
  have g16 : gI R1 1 2016 = nI m := by rw [t2, if_neg (by omega), gI_I, if_neg (by omega), gI_I, if_neg (by omega)]; exact w2
  have e0 : nI (cntW (atW R) m) + (0 : Int32) = nI (cntW (atW R) m) := nI_add _ 0
  have n21 : ¬ nI (os.length + 1) = 0 := fun q => by have := nI_inj (b := 0) (by omega) (by omega) q; omega
  have wO : ∀ M, f_X12_weekOrder 24 (nI (2142 + 6 * m)) M = some (1, M) := fun M => rfl
  have sT1 : StT B n (sI (sI C 16 2 (nI os.length)) (c + 24 + 1) (5 * cntW (atW R) o + 4) (nI (cntW (atW R) m))) (sI R1 1 2016 (nI (m + 1))) f e :=
    (sT.setC (C' := sI (sI C 16 2 (nI os.length)) (c + 24 + 1) (5 * cntW (atW R) o + 4) (nI (cntW (atW R) m))) (fun a k z => by rw [gI_I, if_neg (by omega), gI_I, if_neg (by omega)]) (fun a k z => rfl)).setR2 (fun k y1 y2 => by rw [gI_I, if_neg (by omega), t2, if_neg (by omega), gI_I, if_neg (by omega), gI_I, if_neg (by omega)]) (fun k => by rw [gI_I, if_neg (by omega), t2, if_neg (by omega), gI_I, if_neg (by omega), gI_I, if_neg (by omega)])
  obtain ⟨C2, R2, f2, e2, a1, a2, a3, a4, a5, -⟩ := st_go hn hB sT1
  have r1e : ∀ y j, gI (sI R1 1 2016 (nI (m + 1))) y j = if y = 1 ∧ j = 2016 then nI (m + 1) else if y = 1 ∧ 2142 + 6 * m + 1 ≤ j ∧ j < 2142 + 6 * m + 6 then 0 else if y = 1 ∧ j = 2142 + 6 * m then 24 else if y = 0 ∧ j = 22 then nI (cntW (atW R) m) else gI R y j := fun y j => by rw [gI_I, t2, gI_I, gI_I]
  have e21 : gI R2 0 21 = nI (os.length + 1) := by rw [a5.1 _ _ (by omega), r1e, if_neg (by omega), if_neg (by omega), if_neg (by omega), if_neg (by omega)]; exact w5
  have e8 : gI R2 8 os.length = nI o := by rw [a5.1 _ _ (by omega), r1e, if_neg (by omega), if_neg (by omega), if_neg (by omega), if_neg (by omega)]; exact k1
  have q4 : nI (2142 + 6 * m) + (4 : Int32) = nI (2142 + 6 * m + 4) := nI_add _ 4
  obtain ⟨y1, y2⟩ := r_rd (e := nI (2142 + 6 * m + 4)) (j := 2142 + 6 * m + 4) rfl (by omega)
  have qo : (2142 : Int32) + (6 : Int32) * nI o + (4 : Int32) = nI (2142 + 6 * o + 4) := by rw [litI, litI, pk_mul, nI_add, litI, nI_add]
  obtain ⟨x1, x2⟩ := r_rd (e := nI (2142 + 6 * o + 4)) (j := 2142 + 6 * o + 4) rfl (by omega)
  have in3 : ¬ (nI os.length < 0 ∨ 3 ≤ (nI os.length).toNatClampNeg) := nI_in l2 (by decide)
  have h21 : gI (sI R2 0 21 (nI os.length)) 0 21 = nI os.length := gI_same _ _ _ _
  have h8 : gI (sI R2 0 21 (nI os.length)) 8 os.length = nI o := by rw [gI_I, if_neg (by omega)]; exact e8
  have i21 : gI (sI (sI R2 0 21 (nI os.length)) 1 (2142 + 6 * m + 4) (nI o)) 0 21 = nI os.length := by rw [gI_I, if_neg (by omega), gI_same]
  have i8 : gI (sI (sI R2 0 21 (nI os.length)) 1 (2142 + 6 * m + 4) (nI o)) 8 os.length = nI o := by rw [gI_I, if_neg (by omega)]; exact h8
  have rR : f_X12_weekStep R = (bnd (f_X12_wantSign 59 (sI (sI (sI R2 0 21 (nI os.length)) 1 (2142 + 6 * m + 4) (nI o)) 1 (2142 + 6 * o + 4) (nI m))) fun r M => if ¬ (r = 0 ∨ r = 1) then none else some (r, M)) := by
    rw [f_X12_weekStep, iw, bnd_some, w2, letF, e5, letF, if_neg (show ¬ (24 : Int32) = 22 by decide), if_neg (show ¬ (24 : Int32) = 23 by decide), f_X12_weekStep_J42, if_neg (show ¬ (24 : Int32) < 15 by decide), if_neg (show ¬ (25 : Int32) < 24 by decide), if_pos rfl, w5, if_neg n21, f_X12_weekStep_J75, if_pos rfl, f_X12_weekStep_J97, if_pos rfl, f_X12_weekStep_J117, if_pos rfl, f_X12_weekStep_J133, w3, e0, letF, if_neg z1, z2, letF, t1, bnd_some, g16, nI_s, letF, a2, bnd_some, wO, bnd_some, if_neg i10, if_pos rfl, f_X12_weekStep_J222, if_pos rfl, e21, pl, letF, h21, if_neg in3, q4, if_neg y1, y2, nI_clamp (by omega), h8, letF, i21, if_neg in3, nI_clamp (by omega), i8, qo, if_neg x1, x2, letF]
  rw [cC, a1, bnd_some, bnd_some, if_neg i10, rR]
  -- what stands now
  have rk : ∀ y j, ¬ (y = 0 ∧ (j = 12 ∨ j = 13 ∨ j = 14 ∨ j = 15 ∨ j = 21)) → ¬ (y = 1 ∧ (j = 2016 ∨ j = 2142 + 6 * o + 4 ∨ (2142 + 6 * m ≤ j ∧ j < 2142 + 6 * m + 6))) → gI (sI (sI (sI R2 0 21 (nI os.length)) 1 (2142 + 6 * m + 4) (nI o)) 1 (2142 + 6 * o + 4) (nI m)) y j = gI R y j := by
    intro y j z3 z4
    rw [gI_I, if_neg (by omega), gI_I, if_neg (by omega), gI_I, if_neg (by omega), a5.1 _ _ (by omega), r1e, if_neg (by omega), if_neg (by omega), if_neg (by omega)]
    by_cases z : y = 0 ∧ j = 22
    · rw [if_pos z, z.1, z.2]; exact w3.symm
    · rw [if_neg z]
  have rl : ∀ y j, gL (sI (sI (sI R2 0 21 (nI os.length)) 1 (2142 + 6 * m + 4) (nI o)) 1 (2142 + 6 * o + 4) (nI m)) y j = gL R y j := fun y j => by rw [gL_I, gL_I, gL_I, a5.2, gL_I, t3, gL_I, gL_I]
  have ck : ∀ a j, ¬ (a = 13 ∧ (j = 4 ∨ j = 5 ∨ j = 6 ∨ j = 8)) → ¬ (a = 16 ∧ j = 2) → ¬ (a = c + 24 + 1 ∧ j = 5 * cntW (atW R) o + 4) → gI C2 a j = gI C a j := fun a j z3 z4 z5 => by rw [a4.1 a j z3, gI_I, if_neg z5, gI_I, if_neg z4]
  have cl : ∀ a j, ¬ (a = 13 ∧ j = 7) → gL C2 a j = gL C a j := fun a j z => by rw [a4.2.1 a j z, gL_I, gL_I]
  have e1 : ∀ j, j < 6 * m → j ≠ 6 * o + 4 → atW (sI (sI (sI R2 0 21 (nI os.length)) 1 (2142 + 6 * m + 4) (nI o)) 1 (2142 + 6 * o + 4) (nI m)) j = atW R j := fun j z3 z4 => rk _ _ (by omega) (by omega)
  have r0 : atW (sI (sI (sI R2 0 21 (nI os.length)) 1 (2142 + 6 * m + 4) (nI o)) 1 (2142 + 6 * o + 4) (nI m)) (6 * m) = 24 := by
    show gI (sI (sI (sI R2 0 21 (nI os.length)) 1 (2142 + 6 * m + 4) (nI o)) 1 (2142 + 6 * o + 4) (nI m)) 1 (2142 + 6 * m) = 24
    rw [gI_I, if_neg (by omega), gI_I, if_neg (by omega), gI_I, if_neg (by omega), a5.1 _ _ (by omega), r1e, if_neg (by omega), if_neg (by omega), if_pos ⟨rfl, rfl⟩]
  have r4 : atW (sI (sI (sI R2 0 21 (nI os.length)) 1 (2142 + 6 * m + 4) (nI o)) 1 (2142 + 6 * o + 4) (nI m)) (6 * m + 4) = nI o := by
    show gI (sI (sI (sI R2 0 21 (nI os.length)) 1 (2142 + 6 * m + 4) (nI o)) 1 (2142 + 6 * o + 4) (nI m)) 1 (2142 + (6 * m + 4)) = nI o
    rw [gI_I, if_neg (by omega), gI_I, if_pos ⟨rfl, by omega⟩]
  have r5 : atW (sI (sI (sI R2 0 21 (nI os.length)) 1 (2142 + 6 * m + 4) (nI o)) 1 (2142 + 6 * o + 4) (nI m)) (6 * o + 4) = nI m := by
    show gI (sI (sI (sI R2 0 21 (nI os.length)) 1 (2142 + 6 * m + 4) (nI o)) 1 (2142 + 6 * o + 4) (nI m)) 1 (2142 + (6 * o + 4)) = nI m
    rw [gI_I, if_pos ⟨rfl, by omega⟩]
  have r6 : clW c C2 (5 * cntW (atW R) o + 4) = nI (cntW (atW R) m) := by
    show gI C2 (c + 24 + 1) (5 * cntW (atW R) o + 4) = _
    rw [a4.1 _ _ (by omega), gI_same]
  have wn := w7.cls e1 (cl' := clW c C2) (fun j z3 z4 => ck _ _ (by omega) (by omega) (by omega)) r0 r4 r5 r6
  have ec := cntW_cg (m := m) (at_ := atW R) (at' := atW (sI (sI (sI R2 0 21 (nI os.length)) 1 (2142 + 6 * m + 4) (nI o)) 1 (2142 + 6 * o + 4) (nI m))) (fun j hj => e1 _ (by omega) (by omega))
  have cnt : cntW (atW (sI (sI (sI R2 0 21 (nI os.length)) 1 (2142 + 6 * m + 4) (nI o)) 1 (2142 + 6 * o + 4) (nI m))) (m + 1) = cntW (atW R) m := by rw [cntW_s, if_pos r0, ec m (Nat.le_refl _)]; rfl
  have r16 : gI (sI (sI (sI R2 0 21 (nI os.length)) 1 (2142 + 6 * m + 4) (nI o)) 1 (2142 + 6 * o + 4) (nI m)) 1 2016 = nI (m + 1) := by rw [gI_I, if_neg (by omega), gI_I, if_neg (by omega), gI_I, if_neg (by omega), a5.1 _ _ (by omega), r1e, if_pos ⟨rfl, rfl⟩]
  have r21 : gI (sI (sI (sI R2 0 21 (nI os.length)) 1 (2142 + 6 * m + 4) (nI o)) 1 (2142 + 6 * o + 4) (nI m)) 0 21 = nI os.length := by rw [gI_I, if_neg (by omega)]; exact i21
  have sT4 : StT B n C2 (sI (sI (sI R2 0 21 (nI os.length)) 1 (2142 + 6 * m + 4) (nI o)) 1 (2142 + 6 * o + 4) (nI m)) f2 e2 := a3.setR2 (fun k z3 z4 => by rw [gI_I, if_neg (by omega), gI_I, if_neg (by omega), gI_I, if_neg (by omega)]) (fun k => by rw [gI_I, if_neg (by omega), gI_I, if_neg (by omega), gI_I, if_neg (by omega)])
  obtain ⟨hk1, hk2, hk3, hk4⟩ := hk
  generalize (sI (sI (sI R2 0 21 (nI os.length)) 1 (2142 + 6 * m + 4) (nI o)) 1 (2142 + 6 * o + 4) (nI m)) = R4 at *
  refine (step_fin (C3 := C2) (R4 := R4) hc hn hB hd (os' := os) (m' := m + 1) ⟨f2, e2, sT4⟩ ⟨fun a j z3 z4 z5 => ck a j (by omega) (by omega) (by omega), fun a j z3 z4 => cl a j z3, fun a j => by rw [a4.2.2, gR_I, gR_I]⟩ ⟨fun a j z3 z4 z5 => rk a j (by omega) (by omega), fun a j z => rl a j⟩ ⟨hk1, fun k hk => (ck _ _ (by omega) (by omega) (by omega)).trans (hk2 k hk), fun k hk => (rk _ _ (by omega) (by omega)).trans (hk3 k hk), fun k hk k2 i hi => by rw [cl _ _ (by omega), rl]; exact hk4 k hk k2 i hi⟩ ?_ r16 ?_ ?_ r21 ?_ wn ?_ ?_ ?_).mono fun C' R' hh => ⟨os, hh⟩
  · rw [cnt, ck _ _ (by omega) (by omega) (by omega)]; exact w1
  · rw [cnt, rk _ _ (by omega) (by omega)]; exact w3
  · rw [a4.1 _ _ (by omega), gI_I, if_neg (by omega), gI_same]
  · exact k3.cg (fun i hi => rk _ _ (by omega) (by omega)) (fun i hi => ck _ _ (by omega) (by omega) (by omega)) (fun x hx => ec x (by have := (w7.2.1 x (List.mem_cons_of_mem _ hx)).1; omega))
  · exact (ck _ _ (by omega) (by omega) (by omega)).trans w8
  · exact (ck _ _ (by omega) (by omega) (by omega)).trans w9
  · exact (rk _ _ (by omega) (by omega)).trans w10
end ENDW
