/-! TEXTS: a new NAME -/
section NEWN
variable {B : Nat → Nat} {n c : Nat} {C R : Mem} {f e : Nat} {K : Kt}
theorem alC_cnt {c : Nat} (hc : shC c = 0) : alC (c + 1) = 6 := by rcases isC_cases hc with rfl | rfl | rfl | rfl | rfl <;> decide +kernel
theorem st_newName (hc : shC c = 0) (hn : n ≤ 900) (hB : ∀ k, B k < 256) (h : StT B n C R f e) {kd most sort : Nat} (hkd : (kd = 0 ∧ most = 5 ∧ sort = 0) ∨ (kd = 1 ∧ most = 6 ∧ sort = 5) ∨ (kd = 3 ∧ most = 6 ∧ sort = 11) ∨ (kd = 4 ∧ most = 6 ∧ sort = 17)) (hK : WFK K)
    (hC : ∀ k, k < 6 → gI C (c + 1) k = K 0 k) (hR1 : ∀ k, k < 6 → gI R 1 (2008 + k) = K 0 k) (hN : NmR C c R 4 K) (hlt : nK K kd < most) :
    Hlt c C R (f_X4_takeNewName (nI kd) c C) (bnd (f_X12_isName R) fun r8 M9 => if r8 = 0 then (bnd (f_X12_fails (2 : Int32) M9) fun r29 M30 => if ¬ (r29 = 0 ∨ r29 = 1) then none else some (r29, M30)) else (bnd (f_X12_isTaken M9) fun r12 M13 => if r12 = 0 then (if ((2008 : Int32) + nI kd) < 0 ∨ 3548 ≤ (((2008 : Int32) + nI kd)).toNatClampNeg then none else bnd (f_X12_nameHere M13) fun r17 M18 => if (((92 : Int32) + nI sort) + (gI M13 1 (((2008 : Int32) + nI kd)).toNatClampNeg)) < 0 ∨ 138 ≤ ((((92 : Int32) + nI sort) + (gI M13 1 (((2008 : Int32) + nI kd)).toNatClampNeg))).toNatClampNeg then none else letF (sL M18 2 ((((92 : Int32) + nI sort) + (gI M13 1 (((2008 : Int32) + nI kd)).toNatClampNeg))).toNatClampNeg r17) fun M21 => bnd (f_X12_ahead M21) fun _ M23 => some ((1 : Int32), M23)) else (bnd (f_X12_fails (3 : Int32) M13) fun r25 M26 => if ¬ (r25 = 0 ∨ r25 = 1) then none else some (r25, M26)))) ∨
    ∃ w C' R' f' e', lets w ∧ 1 ≤ w.length ∧ w.length ≤ 8 ∧ f_X4_takeNewName (nI kd) c C = some (1, C') ∧ (bnd (f_X12_isName R) fun r8 M9 => if r8 = 0 then (bnd (f_X12_fails (2 : Int32) M9) fun r29 M30 => if ¬ (r29 = 0 ∨ r29 = 1) then none else some (r29, M30)) else (bnd (f_X12_isTaken M9) fun r12 M13 => if r12 = 0 then (if ((2008 : Int32) + nI kd) < 0 ∨ 3548 ≤ (((2008 : Int32) + nI kd)).toNatClampNeg then none else bnd (f_X12_nameHere M13) fun r17 M18 => if (((92 : Int32) + nI sort) + (gI M13 1 (((2008 : Int32) + nI kd)).toNatClampNeg)) < 0 ∨ 138 ≤ ((((92 : Int32) + nI sort) + (gI M13 1 (((2008 : Int32) + nI kd)).toNatClampNeg))).toNatClampNeg then none else letF (sL M18 2 ((((92 : Int32) + nI sort) + (gI M13 1 (((2008 : Int32) + nI kd)).toNatClampNeg))).toNatClampNeg r17) fun M21 => bnd (f_X12_ahead M21) fun _ M23 => some ((1 : Int32), M23)) else (bnd (f_X12_fails (3 : Int32) M13) fun r25 M26 => if ¬ (r25 = 0 ∨ r25 = 1) then none else some (r25, M26)))) = some (1, R') ∧ StT B n C' R' f' e' ∧
      GoC (sL (sI (sI C (c + 1) kd (nI (nK K kd + 1))) 16 3 (nI (nK K kd))) (c + 2) (kd * 6 + nK K kd) (lN (code27 w))) C' ∧ GoR (sL R 2 (92 + sort + nK K kd) (lN (code256 w))) R' := by
  have lo := isC_lo hc
  have kk : K 0 kd = nI (nK K kd) := (hK.nk (k := kd) (by omega)).1
  have cnt : gI C (c + 1) kd = nI (nK K kd) := (hC kd (by omega)).trans kk
  have rnt : gI R 1 (2008 + kd) = nI (nK K kd) := (hR1 kd (by omega)).trans kk
  rcases st_isName hn hB h with ⟨b1, b2, b3, b4, b5, b6, b7, b8, b9⟩ | ⟨b1, b2⟩
  · obtain ⟨b, t1, t2⟩ := taken2 hn hB h.2.1 (Nat.le_of_lt b3) b4 b5 b8 b9 b6 hK hC hR1 hN
    have ll : (wrd B f (e - f)).length = e - f := by unfold wrd; rw [List.length_map, List.length_range']
    have nh := r_nameHere hn hB h.2.1 (Nat.le_of_lt b3) b4 b5 b8 b9
    obtain ⟨z1, z2⟩ := r_rd (e := (2008 : Int32) + nI kd) (j := 2008 + kd) (nI_add 2008 kd) (by omega)
    have e92 : (92 : Int32) + nI sort + nI (nK K kd) = nI (92 + sort + nK K kd) := by rw [litI, nI_add, nI_add]
    have z3 : ¬ (nI (92 + sort + nK K kd) < 0 ∨ 138 ≤ (nI (92 + sort + nK K kd)).toNatClampNeg) := nI_in (by omega) (by decide)
    rw [f_X4_takeNewName, if_pos b1, b7, t1, bnd_some, b2, bnd_some, if_neg i10, t2, bnd_some]
    cases b with
    | true =>
      rw [if_neg (show ¬ bI true = 0 by decide), if_neg (show ¬ bI true = 0 by decide)]
      exact Or.inl (st_stp (c := c) h hn hB (k := 3) (by omega) (by omega)).chk
    | false =>
      have y1 : nI kd * 6 + nI (nK K kd) = nI (kd * 6 + nK K kd) := by rw [litI, pk_mul, nI_add]
      have ao : f_X0_addOne c (nI kd) C = some (nI (nK K kd), sI C (c + 1) kd (nI (nK K kd + 1))) := by
        rw [f_X0_addOne, p_countOf (by omega), cnt, bnd_some, nI_s, p_put (alC_cnt hc) (by omega) (by decide), bnd_some]
      have g16 : gI (sI (sI C (c + 1) kd (nI (nK K kd + 1))) 16 3 (nI (nK K kd))) 16 3 = nI (nK K kd) := gI_same _ _ _ _
      have g7 : gL (sI (sI C (c + 1) kd (nI (nK K kd + 1))) 16 3 (nI (nK K kd))) 13 7 = lN (code27 (wrd B f (e - f))) := b7
      have z4 : ¬ (nI (kd * 6 + nK K kd) < 0 ∨ 36 ≤ (nI (kd * 6 + nK K kd)).toNatClampNeg) := nI_in (by omega) (by decide)
      have pn : f_X0_putName c (nI kd) (nI (nK K kd)) (lN (code27 (wrd B f (e - f)))) (sI (sI C (c + 1) kd (nI (nK K kd + 1))) 16 3 (nI (nK K kd))) = some ((), sL (sI (sI C (c + 1) kd (nI (nK K kd + 1))) 16 3 (nI (nK K kd))) (c + 2) (kd * 6 + nK K kd) (lN (code27 (wrd B f (e - f))))) := by
        rw [f_X0_putName, y1, letF, withinT 36 36 rfl (by decide) (by omega), bnd_some, if_neg i10, if_neg z4, nI_clamp (by omega), letF]
      have hs : StT B n (sL (sI (sI C (c + 1) kd (nI (nK K kd + 1))) 16 3 (nI (nK K kd))) (c + 2) (kd * 6 + nK K kd) (lN (code27 (wrd B f (e - f))))) (sL R 2 (92 + sort + nK K kd) (lN (code256 (wrd B f (e - f))))) f e :=
        (h.setC (fun a j z => by rw [gI_L, gI_I, if_neg (by omega), gI_I, if_neg (by omega)]) (fun a j z => by rw [gL_L, if_neg (by omega), gL_I, gL_I])).setR (fun a j z => by rw [gI_L])
      obtain ⟨C', R', f', e', a1, a2, a3, a4, a5, -⟩ := st_go hn hB hs
      refine Or.inr ⟨wrd B f (e - f), C', R', f', e', b6, by omega, by omega, ?_, ?_, a3, a4, a5⟩
      · rw [if_pos (show bI false = 0 from rfl), ao, bnd_some, letF, g16, g7, pn, bnd_some, a1, bnd_some]
      · rw [if_pos (show bI false = 0 from rfl), if_neg z1, nh, bnd_some, z2, rnt, e92, if_neg z3, nI_clamp (by omega), letF, a2, bnd_some]
  · rw [f_X4_takeNewName, if_neg b1, b2, bnd_some, if_pos rfl]
    exact Or.inl (st_stp (c := c) h hn hB (k := 2) (by omega) (by omega)).chk
end NEWN
