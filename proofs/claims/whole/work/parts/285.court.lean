/-! COURT -/
def K0 : Kt := fun _ _ => 0
theorem nK0 (k : Nat) : nK K0 k = 0 := by unfold nK K0; decide
theorem wfK0 : WFK K0 := by
  refine ⟨fun k hk => ?_, fun i hi => ?_, fun i hi => ?_, fun i hi => ?_, fun i hi => ?_, fun i hi => ?_, ⟨0, by omega, rfl⟩, 0, by omega, rfl⟩
  · rw [nK0]; exact ⟨rfl, Nat.zero_le _⟩
  all_goals rw [nK0] at hi; omega
section COURT
variable {C R : Mem}
theorem m_court (h : Rel C R) (a : Int32) : OK2 (f_X11_court a C) (f_X12_court a R) := by
  obtain ⟨hs, ho⟩ := h
  obtain ⟨m, m0, m1, m2, m3⟩ := ho.2.2.1
  obtain ⟨h0, h1⟩ := ho.1.sh
  obtain ⟨hsp, hnw⟩ := ho.1.two
  have no : (a < 0 ∨ nI (m + 1) ≤ a) → OK2 (f_X11_court a C) (f_X12_court a R) := by
    intro z
    have w : f_X11_within a (nI (m + 1)) C = some (0, C) := by
      rcases z with z | z
      · exact p_within_lo z C
      · exact p_within_hi z C
    rw [f_X11_court, m1, nI_s, w, bnd_some, if_pos rfl, f_X12_court, r_beginsNo m0 m2 z, bnd_some, if_pos rfl]
    exact fin_ref hs SqC.rf SqR.rf ho 1
  rcases within_nI (x := a) (n := m + 1) (by omega) with z | z | ⟨n, hn, rfl⟩
  · exact no (Or.inl z)
  · exact no (Or.inr z)
  obtain ⟨Cc, c1, c2, c3, c4⟩ := p_clear (c := gR C 0 1) C
  have kwc : KwC Cc := ho.2.2.2.2.1.cg (fun k => c3 _ _)
  have pc : PrC (gR C 0 1) C Cc := ⟨fun a k z1 z2 z3 => by rw [c2, if_neg (by omega)], fun a k z1 z2 => c3 a k, c4⟩
  obtain ⟨B, C1, R1, f, e, hB, b1, b2, b3, b4, b5, b6, b7, b8, b9⟩ := text_begin (C := Cc) (R := R) (m := m) (n := n) (most := 900) m0 (by omega) (by omega) (by omega) m2 (fun k hk => by rw [c2, if_neg (by omega)]; exact m3 k hk) kwc
  have b2' : f_X12_begins (nI n) 900 R = some (1, R1) := b2
  obtain ⟨R2, p1, p2, p3⟩ := r_plain R1
  have pI : PtI B n (gR C 0 1) C1 R2 f e K0 := by
    have cz : ∀ y k, (y = gR C 0 1 + 1 ∧ k < 6) ∨ (y = gR C 0 1 + 24 ∧ k < 2) ∨ (y = gR C 0 1 ∧ (k = 12 ∨ k = 13)) → gI C1 y k = 0 := fun y k z => by rw [b4.1 y k (by omega), c2, if_pos z]
    have rz : ∀ k, 2008 ≤ k → k < 2510 → k ≠ 2016 → gI R2 1 k = 0 := fun k z1 z2 z3 => by rw [p2, if_pos ⟨rfl, z1, z2⟩, if_neg z3]
    refine ⟨b3.setR (fun a k z => by rw [p2, if_neg (by omega)]), wfK0, ⟨fun k hk => ?_, fun i hi => ?_, fun i hi => ?_, fun i hi => ?_, fun i hi => ?_, fun i hi => ?_, ?_, ?_⟩, ⟨fun k hk => ?_, fun i hi => ?_, fun i hi => ?_, fun i hi => ?_, fun i hi => ?_, fun i hi => ?_, ?_, ?_⟩, fun k hk k2 i hi => ?_, fun i i1 i2 g hg => ?_, rfl, ?_, ?_, b6, b7, ?_⟩
    · exact cz _ _ (Or.inl ⟨rfl, hk⟩)
    iterate 5 rw [nK0] at hi; omega
    · exact cz _ _ (by omega)
    · exact cz _ _ (by omega)
    · exact rz _ (by omega) (by omega) (by omega)
    iterate 5 rw [nK0] at hi; omega
    · exact rz _ (by omega) (by omega) (by omega)
    · exact rz _ (by omega) (by omega) (by omega)
    · rw [nK0] at hi; omega
    · exact rz _ (by omega) (by omega) (by omega)
    · exact cz _ _ (by omega)
    · rw [p2, if_pos (by omega), if_pos rfl]
    · rw [p2, if_neg (by omega)]; exact b8
  obtain ⟨s, C2, R3, l1, l2, l3, l4, l5⟩ := court_loop h1 (show n ≤ 900 by omega) hB 41 0 f e K0 C1 R2 fz fz (by unfold sumK; rw [nK0, nK0, nK0, nK0, nK0, nK0]) (by unfold sumK; rw [nK0, nK0, nK0, nK0, nK0, nK0]) (by rw [fz_is]; omega) (by rw [fz_is]; omega) pI
  have l1' : f_X4_readCourt_L14 (gR C 0 1) fz 0 C1 = some (s, C2) := l1
  have prC : PrC (gR C 0 1) C C2 := (pc.tr (b4.pr _)).tr l3
  have plR : TxF R1 R2 := ⟨fun a k z1 z2 z3 => by rw [p2, if_neg (by omega)], fun a k _ => p3 a k⟩
  have txR : TxF R R3 := (b5.tx.tr plR).tr l4.tx
  have r10 : gI R3 0 10 = 0 := by rw [l4.1 _ _ (by omega) (by omega) (by omega), p2, if_neg (by omega)]; exact b9
  have eT : ∀ k, gL C2 0 k = gL C 0 k := fun k => prC.2.1 _ _ (by omega) (by omega)
  have eR : ∀ k, gL R3 0 k = gL R 0 k := fun k => txR.2 _ _ (by omega)
  have g0 : ∀ a k, gR C2 a k = gR C a k := prC.2.2
  rw [f_X11_court, m1, nI_s, withinT (m + 1) _ rfl (by omega) hn, bnd_some, if_neg i10, if_neg (nn h1), f_X4_readCourt, c1, bnd_some, b1, bnd_some, l1', bnd_some, f_X12_court, b2', bnd_some, if_neg i10, p1, bnd_some, l2, bnd_some]
  rcases l5 with ⟨rfl, k, p, k1, k9, pp, f1, f2, f3, f4⟩ | ⟨rfl, K, f', e', q⟩
  · have ne : ¬ nI k = 0 := fun z => by have := nI_inj (b := 0) (by omega) (by omega) z; omega
    rw [if_pos rfl, bnd_some, if_pos rfl, f_X11_court_J57, g0, if_neg (nn h0), p_count3, bnd_some, f3, if_neg ne, f_X12_court_J112]
    exact text_end (ho.bad prC txR r10) (by rw [eT, eR]; exact hs.2.1) (by rw [eT, eR]; exact hs.2.2.1) (k := k) (by omega) f1 f3 (f2.trans f4.symm) (Or.inl ⟨rfl, k1⟩)
  · obtain ⟨qs, qw, qC, qR, qN, -, q21, q24, q16, q9, q10, q17⟩ := q
    obtain ⟨R4, R5, t1, t2, t3, t4⟩ := r_takeSlot R3
    have q18 : gI R3 0 18 = 0 := qs.2.2.2.2
    rw [if_neg (show ¬ (1 : Nat) = 0 by decide), bnd_some, if_neg i10, g0, g0, if_neg (nn h0), if_neg (nn h1), letF, letF, q18, if_pos rfl, t1, bnd_some, t2, bnd_some, f_X12_court_J112, f_X11_court_J57]
    have gA : gR (sR (sR C2 0 0 (gR C 0 1)) 0 1 (gR C 0 0)) 0 0 = gR C 0 1 := by rw [gR_R, if_neg (by omega), gR_R, if_pos ⟨rfl, rfl⟩]
    have gB : gR (sR (sR C2 0 0 (gR C 0 1)) 0 1 (gR C 0 0)) 0 1 = gR C 0 0 := by rw [gR_R, if_pos ⟨rfl, rfl⟩]
    rw [gA, if_neg (nn h1), p_count3, bnd_some]
    have qC' : IsC (sI (sR (sR C2 0 0 (gR C 0 1)) 0 1 (gR C 0 0)) 13 2 0) (gR C 0 1) K := qC.cg (fun n k z1 z2 => by rw [gI_I, if_neg (by omega), gI_R, gI_R]) qw
    have qR' : IsR R5 (502 * 0) K := qR.mv (fun k hk => by rw [t3, if_pos (by omega), show 2008 + (502 * 0 + k) = 2008 + k by omega]) qw
    have rk : RelK (sI (sR (sR C2 0 0 (gR C 0 1)) 0 1 (gR C 0 0)) 13 2 0) (gR C 0 1) R5 0 := by
      refine ⟨K, qw, ⟨0, by omega, q21⟩, qC', qR', fun k hk k2 i hi => ?_, Or.inl ⟨?_, ?_⟩⟩
      · have b1 : i < 6 ∧ nmB.getD k 0 + i < 23 := by
          have q := qw.1 k (by omega)
          rcases (show k = 0 ∨ k = 1 ∨ k = 3 ∨ k = 4 by omega) with rfl | rfl | rfl | rfl <;> simp [mxK] at q <;> simp [nmB] <;> omega
        have := qN k hk k2 i hi
        rw [gL_I, gL_R, gL_R, t4, if_pos (by omega), show 92 + (23 * 0 + nmB.getD k 0 + i) = 23 * 4 + nmB.getD k 0 + i by omega]
        exact this
      · rw [gI_I, if_neg (by omega), gI_R, gI_R]; exact q24
      · rw [t3, if_pos (by omega)]; exact q16
    have ei : ∀ n k, ¬ (n = 13) → ¬ (n = 16 ∨ n = 17) → ¬ (gR C 0 1 ≤ n ∧ n < gR C 0 1 + 28) → gI (sI (sR (sR C2 0 0 (gR C 0 1)) 0 1 (gR C 0 0)) 13 2 0) n k = gI C n k ∧ gL (sI (sR (sR C2 0 0 (gR C 0 1)) 0 1 (gR C 0 0)) 13 2 0) n k = gL C n k := fun n k z1 z2 z3 =>
      ⟨by rw [gI_I, if_neg (by omega), gI_R, gI_R]; exact prC.1 n k (by omega) z2 z3, by rw [gL_I, gL_R, gL_R]; exact prC.2.1 n k (by omega) (by omega)⟩
    have gA' : gR (sI (sR (sR C2 0 0 (gR C 0 1)) 0 1 (gR C 0 0)) 13 2 0) 0 0 = gR C 0 1 := gA
    have gB' : gR (sI (sR (sR C2 0 0 (gR C 0 1)) 0 1 (gR C 0 0)) 13 2 0) 0 1 = gR C 0 0 := gB
    have hnow := ho.1
    have re : RelO (sI (sR (sR C2 0 0 (gR C 0 1)) 0 1 (gR C 0 0)) 13 2 0) R5 := by
      refine ho.re (fun n k z => ei n k (by omega) (by omega) (by omega)) (fun n k z => by rw [t3, if_neg (by omega)]; exact txR.1 n k (by omega) (by omega) (by omega)) (fun n k z => by rw [t4, if_neg (by omega)]; exact txR.2 n k (by omega)) ?_ ⟨0, by omega, gI_same _ _ _ _, by rw [t3, if_neg (by omega)]; exact r10, fun k hk => by omega⟩ ?_
      · unfold NowC at hnow ⊢
        rw [gA', gB']
        omega
      · rw [gA']; exact rk
    have c3e : gI (sR (sR C2 0 0 (gR C 0 1)) 0 1 (gR C 0 0)) (gR C 0 1 + 1) 3 = gI R5 1 3 := by
      rw [gI_R, gI_R, qC.1 3 (by omega), qR'.cnt (k := 3) (by omega)]
    refine text_end re ?_ ?_ (k := 0) (by omega) ?_ ?_ ?_ (Or.inr ⟨rfl, rfl, c3e⟩)
    · rw [gL_R, gL_R, t4, if_neg (by omega), eT, eR]; exact hs.2.1
    · rw [gL_R, gL_R, t4, if_neg (by omega), eT, eR]; exact hs.2.2.1
    · rw [gI_R, gI_R]; exact q9
    · rw [t3, if_neg (by omega)]; exact q18
    · rw [gI_R, gI_R, t3, if_neg (by omega)]; exact q10.trans q17.symm
end COURT
