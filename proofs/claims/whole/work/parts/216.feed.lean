/-! FEED, copyFed (bp_b: a row of kit/laws, pasted) -/
theorem bp_b (x : Int32) : x.toInt8.toInt32 &&& 255 = x &&& 255 := by
  apply Int32.toBitVec_inj.mp
  rw [Int32.toBitVec_and, Int32.toBitVec_and, Int8.toBitVec_toInt32, Int32.toBitVec_toInt8]
  apply BitVec.eq_of_getLsbD_eq
  intro i hi
  rw [BitVec.getLsbD_and, BitVec.getLsbD_and]
  have hm : ∀ i < 32, 8 ≤ i → (255 : Int32).toBitVec.getLsbD i = false := by decide
  rcases Nat.lt_or_ge i 8 with z | z
  · rw [BitVec.getLsbD_signExtend, BitVec.getLsbD_signExtend, if_pos z, if_pos hi]
    simp only [z, hi, decide_true, Bool.true_and]
  · rw [hm i hi z]; simp
def FdC (C C' : Mem) : Prop := (∀ n k, ¬ (n = 14 ∨ (n = 13 ∧ k = 2)) → gI C' n k = gI C n k) ∧ (∀ n k, gL C' n k = gL C n k) ∧ ∀ n k, gR C' n k = gR C n k
def FdR (R R' : Mem) : Prop := (∀ n k, ¬ (n = 6 ∨ (n = 0 ∧ k = 10)) → gI R' n k = gI R n k) ∧ ∀ n k, gL R' n k = gL R n k
theorem FdC.rf {C : Mem} : FdC C C := ⟨fun _ _ _ => rfl, fun _ _ => rfl, fun _ _ => rfl⟩
theorem FdR.rf {C : Mem} : FdR C C := ⟨fun _ _ _ => rfl, fun _ _ => rfl⟩
theorem FdC.tr {C C1 C2 : Mem} (h : FdC C C1) (g : FdC C1 C2) : FdC C C2 := ⟨fun n k z => (g.1 n k z).trans (h.1 n k z), fun n k => (g.2.1 n k).trans (h.2.1 n k), fun n k => (g.2.2 n k).trans (h.2.2 n k)⟩
theorem FdR.tr {C C1 C2 : Mem} (h : FdR C C1) (g : FdR C1 C2) : FdR C C2 := ⟨fun n k z => (g.1 n k z).trans (h.1 n k z), fun n k => (g.2 n k).trans (h.2 n k)⟩
def TpR (C R : Mem) (n : Nat) : Prop := gI C 13 2 = nI n ∧ gI R 0 10 = nI n ∧ ∀ k, k < n → ∃ b : Nat, b < 256 ∧ gI C 14 k = nI b ∧ gI R 6 k &&& 255 = nI b
theorem RelO.tape {C C' R R' : Mem} (h : RelO C R) (e : FdC C C') (f : FdR R R') (hb' : RelB C' R') : RelO C' R' := by
  obtain ⟨hn, ht, hb, hl, hkw, hk, hm⟩ := h
  obtain ⟨e1, e2, e3⟩ := e
  obtain ⟨f1, f2⟩ := f
  obtain ⟨hsp, hnw⟩ := hn.two
  refine ⟨by unfold NowC; rw [e3, e3]; exact hn, ht.cg (fun n k a b => ⟨e1 n k (by omega), e2 n k⟩) (fun n k a b => ⟨f1 n k (by omega), f2 n k⟩), hb',
    hl.cg (e1 _ _ (by omega)) (fun k => e1 _ _ (by omega)) (f1 _ _ (by omega)) (fun k => f1 _ _ (by omega)),
    hkw.cg (fun k => e2 _ _), ?_, hm.cg (e1 _ _ (by omega)) (fun n k a => ⟨e1 _ _ (by omega), e2 _ _⟩) (f1 _ _ (by omega)) (fun k a b => f1 _ _ (by omega)) (fun k a b => f2 _ _)⟩
  rw [e3]
  exact hk.cg (fun n k a b => ⟨e1 _ _ (by omega), e2 _ _⟩) (fun k a b => f1 _ _ (by omega)) (fun k a b => f2 _ _)
theorem add_step (a s : Int32) (hs : ¬ s < 0) (fu : Nat) {C R : Mem} {n : Nat} (h : TpR C R n) (hn : n < 900) : ∃ C' R', f_X7_addInt_L3 a (fu + 1) s C = f_X7_addInt_L3 a fu (s + -8) C' ∧ f_X12_four_L3 a (fu + 1) s R = f_X12_four_L3 a fu (s + -8) R' ∧ TpR C' R' (n + 1) ∧ FdC C C' ∧ FdR R R' := by
  obtain ⟨h1, h2, h3⟩ := h
  obtain ⟨b, hb, eb⟩ := pk_andE (a >>> (s &&& 31)) (m := 255) 8 (by decide)
  have q : ¬ (nI n < 0 ∨ 900 ≤ (nI n).toNatClampNeg) := nI_in hn (by decide)
  refine ⟨sI (sI C 14 n ((a >>> (s &&& 31)) &&& 255)) 13 2 (nI (n + 1)), sI (sI R 6 n (vp_nar .byte (a >>> (s &&& 31)).toInt8.toInt32)) 0 10 (nI (n + 1)), ?_, ?_, ⟨?_, ?_, fun k hk => ?_⟩, ⟨fun x k z => ?_, fun x k => rfl, fun x k => rfl⟩, ⟨fun x k z => ?_, fun x k => rfl⟩⟩
  · rw [f_X7_addInt_L3, if_neg hs, h1, p_put zC_14 hn (by decide), bnd_some, letF, letF, gI_I, if_neg (by omega), h1, nI_s]
  · rw [f_X12_four_L3, if_neg hs, h2, if_neg q, letF, letF, letF, gI_I, if_neg (by omega), h2, nI_s, nI_clamp (by omega)]
  · rw [gI_I, if_pos ⟨rfl, rfl⟩]
  · rw [gI_I, if_pos ⟨rfl, rfl⟩]
  · by_cases z : k = n
    · refine ⟨b, hb, ?_, ?_⟩
      · rw [gI_I, if_neg (by omega), gI_I, if_pos ⟨rfl, z⟩]; exact eb
      · rw [gI_I, if_neg (by omega), gI_I, if_pos ⟨rfl, z⟩, pk_vb, bp_b]; exact eb
    · obtain ⟨b2, q1, q2, q3⟩ := h3 k (by omega)
      exact ⟨b2, q1, by rw [gI_I, if_neg (by omega), gI_I, if_neg (by omega)]; exact q2, by rw [gI_I, if_neg (by omega), gI_I, if_neg (by omega)]; exact q3⟩
  · rw [gI_I, if_neg (by omega), gI_I, if_neg (by omega)]
  · rw [gI_I, if_neg (by omega), gI_I, if_neg (by omega)]
theorem add_int (a : Int32) {C R : Mem} {n : Nat} (h : TpR C R n) (hn : n + 4 ≤ 900) : ∃ C' R', f_X7_addInt a C = some ((), C') ∧ f_X12_four a R = some ((), R') ∧ TpR C' R' (n + 4) ∧ FdC C C' ∧ FdR R R' := by
  obtain ⟨fu, hf⟩ : ∃ fu, fz = fu + 5 := ⟨999995, by rw [fz_is]⟩
  obtain ⟨C1, R1, a1, b1, t1, c1, d1⟩ := add_step a 24 (by decide) (fu + 4) h (by omega)
  obtain ⟨C2, R2, a2, b2, t2, c2, d2⟩ := add_step a 16 (by decide) (fu + 3) t1 (by omega)
  obtain ⟨C3, R3, a3, b3, t3, c3, d3⟩ := add_step a 8 (by decide) (fu + 2) t2 (by omega)
  obtain ⟨C4, R4, a4, b4, t4, c4, d4⟩ := add_step a 0 (by decide) (fu + 1) t3 (by omega)
  refine ⟨C4, R4, ?_, ?_, t4, ((c1.tr c2).tr c3).tr c4, ((d1.tr d2).tr d3).tr d4⟩
  · rw [f_X7_addInt, hf, a1, show (24 : Int32) + -8 = 16 from by decide, a2, show (16 : Int32) + -8 = 8 from by decide, a3, show (8 : Int32) + -8 = 0 from by decide, a4, f_X7_addInt_L3, if_pos (by decide), bnd_some]
  · rw [f_X12_four, hf, b1, show (24 : Int32) + -8 = 16 from by decide, b2, show (16 : Int32) + -8 = 8 from by decide, b3, show (8 : Int32) + -8 = 0 from by decide, b4, f_X12_four_L3, if_pos (by decide), bnd_some]
section FEED
variable {C R : Mem}
theorem m_feed (h : Rel C R) (a b c d e : Int32) : OK2 (f_X11_feed a b c d e C) (f_X12_feed a b c d e R) := by
  obtain ⟨hs, ho⟩ := h
  obtain ⟨n, n0, n1, n2, n3⟩ := ho.2.2.1
  have l20 : nI n + 20 = nI (n + 20) := by rw [litI, nI_add]
  rw [f_X11_feed, f_X12_feed, f_X7_hasRoom, n1, n2, l20]
  by_cases hr : n + 20 ≤ 900
  · obtain ⟨C1, R1, a1, b1, t1, c1, d1⟩ := add_int a (C := C) (R := R) (n := n) ⟨n1, n2, n3⟩ (by omega)
    obtain ⟨C2, R2, a2, b2, t2, c2, d2⟩ := add_int b t1 (by omega)
    obtain ⟨C3, R3, a3, b3, t3, c3, d3⟩ := add_int c t2 (by omega)
    obtain ⟨C4, R4, a4, b4, t4, c4, d4⟩ := add_int d t3 (by omega)
    obtain ⟨C5, R5, a5, b5, t5, c5, d5⟩ := add_int e t4 (by omega)
    have e1 := (((c1.tr c2).tr c3).tr c4).tr c5
    have f1 := (((d1.tr d2).tr d3).tr d4).tr d5
    rw [if_neg (show ¬ (900 : Int32) < nI (n + 20) from nI_nlt (a := 900) (b := n + 20) hr (by decide)), bnd_some, if_neg i10, a1, bnd_some, a2, bnd_some, a3, bnd_some, a4, bnd_some, a5, bnd_some,
      if_pos (show nI (n + 20) ≤ (900 : Int32) from nI_le (b := 900) hr (by decide)), b1, bnd_some, b2, bnd_some, b3, bnd_some, b4, bnd_some, b5, bnd_some, t5.1, t5.2.1]
    obtain ⟨s1, s2, s3, s4, s5⟩ := hs
    refine ⟨_, C5, R5, rfl, rfl, ⟨?_, ?_, ?_, ?_, ?_⟩, ho.tape e1 f1 ⟨n + 20, hr, t5.1, t5.2.1, t5.2.2⟩⟩
    · rw [e1.1 _ _ (by omega), f1.1 _ _ (by omega)]; exact s1
    · rw [e1.2.1, f1.2]; exact s2
    · rw [e1.2.1, f1.2]; exact s3
    · rw [e1.1 _ _ (by omega), f1.1 _ _ (by omega)]; exact s4
    · rw [e1.1 _ _ (by omega), f1.1 _ _ (by omega)]; exact s5
  · rw [if_pos (show (900 : Int32) < nI (n + 20) from nI_lt (a := 900) (by omega) (by omega)), bnd_some, if_pos i00, if_neg (show ¬ nI (n + 20) ≤ (900 : Int32) from nI_ge (b := n + 20) (a := 900) (by omega) (by omega))]
    exact ⟨_, C, R, rfl, rfl, hs, ho⟩
end FEED
/-- copyFed -/
theorem cfed_L {C0 R0 : Mem} {c : Nat} {K : Kt} (hc : gR C0 0 0 = c) (h0 : shC c = 0) (hC : IsC C0 c K) (hR : IsR R0 0 K) (hw : WFK K) {i s : Nat} (hi : i < 4) (hs : s < 4) (a1 : gI C0 (5 + 2 * i) 0 = nI s) (a2 : gI R0 3 i = nI s) :
    ∀ d x fu C R, x + d = nK K 3 → d < fu → PoI C0 R0 C R → ∃ C' R', f_X11_copyFed_L60 (5 + 2 * i) (nI (nK K 3)) fu (nI x) C = some ((), C') ∧ f_X12_copyFed_L52 (nI i) fu (nI x) R = some ((), R') ∧ PoI C0 R0 C' R' := by
  have hn3 := hw.n3
  intro d
  induction d with
  | zero =>
    intro x fu C R q1 q2 hI
    obtain ⟨fu, rfl⟩ : ∃ k, fu = k + 1 := ⟨fu - 1, by omega⟩
    have e : x = nK K 3 := by omega
    subst e
    exact ⟨C, R, by rw [f_X11_copyFed_L60, if_pos (Int32.le_refl _)], by rw [f_X12_copyFed_L52, hI.2.2.2.2, hR.cnt (by decide), hn3.1, if_pos (Int32.le_refl _)], hI⟩
  | succ d ih =>
    intro x fu C R q1 q2 hI
    obtain ⟨fu, rfl⟩ : ∃ k, fu = k + 1 := ⟨fu - 1, by omega⟩
    obtain ⟨g1, g2, g3, g4, g5⟩ := hI
    have hx : x < nK K 3 := by omega
    have nx : ¬ nI (nK K 3) ≤ nI x := nI_ge hx (by omega)
    have qi : ¬ (nI i < 0 ∨ 4 ≤ (nI i).toNatClampNeg) := nI_in hi (by decide)
    have qx : ¬ (nI x < 0 ∨ 60 ≤ (nI x).toNatClampNeg) := nI_in (by omega) (by omega)
    obtain ⟨u1, u2⟩ := tr_rd (rowT i x) (by omega)
    have y3 : gI C (5 + 2 * i) 0 = nI s := (g4 _ _).trans a1
    have y4 : gI R 3 i = nI s := (g5 _ _).trans a2
    have gc : gR C 0 0 = c := (g1.2 _ _).trans hc
    have f1 : gI C (c + 13 + 1 + x) 1 = K 12 x := (g4 _ _).trans (hC.2.2.2.1 x hx 1 (by decide))
    have f2 : gI R 1 (72 + 5 * x + 0) = K 12 x := (g5 _ _).trans (hR.per hx).1
    rw [f_X11_copyFed_L60, if_neg nx, gc, if_neg (nn h0), p_personAt (by omega), bnd_some, if_neg (nn (shC_per h0 (by omega))), f1, f_X8_putNumber, withinT 60 60 rfl (by decide) (by omega), bnd_some, if_neg i10, cut_cls i hs y3, bnd_some, if_neg qx, letF, bnd_some, letF, nI_clamp (show x < 2 ^ 31 by omega)]
    rw [f_X12_copyFed_L52, g5, hR.cnt (by decide), hn3.1, if_neg nx, r_personOf0 (by omega), bnd_some, if_neg qi, nI_clamp (show i < 2 ^ 31 by omega), y4, f2, cut_ref hs, bnd_some, if_neg u1, letF, letF, u2, nI_s]
    exact ih (x + 1) fu _ _ (by omega) (by omega) ⟨g1.sL _ _ _ (by omega), g2.sL _ _ _ (by omega), g3.put hi (by omega) hs y3 _ (cutS_id hs _), fun n k => g4 n k, fun n k => g5 n k⟩
section COPYFED
variable {C R : Mem}
theorem m_copyFed (h : Rel C R) (a : Int32) : OK2 (f_X11_copyFed a C) (f_X12_copyFed a R) := by
  obtain ⟨hs, ho⟩ := h
  obtain ⟨K, hw, hC, hR, h0, h1⟩ := ho.get
  have hn3 := hw.n3
  rw [f_X11_copyFed, f_X12_copyFed]
  rcases ix a (n := 4) (by decide) with hx | ⟨i, hi, rfl⟩
  · rw [withinF 4 4 rfl hx, bnd_some, if_pos i00, r_isTrayF hx, bnd_some, if_pos i00]
    exact fin_ref hs SqC.rf SqR.rf ho 1
  have qi : ¬ (nI i < 0 ∨ 4 ≤ (nI i).toNatClampNeg) := nI_in hi (by decide)
  have ci : (nI i).toNatClampNeg = i := nI_clamp (by omega)
  rw [withinT 4 4 rfl (by decide) hi, bnd_some, if_neg i10, r_isTrayT hi, bnd_some, if_neg i10, p_trayAt hi, bnd_some, if_neg (nn (shC_tray hi)), f_X8_isMissing, if_neg qi]
  rcases ho.2.1 i hi with ⟨x, y⟩ | ⟨s, n1, s1, s2, s3, s4, s5, s6, -⟩
  · rw [if_pos x, bnd_some, if_neg i10, if_pos (by rw [ci]; exact y)]
    exact fin_ref hs SqC.rf SqR.rf ho 2
  have mi : ¬ gI R 4 (nI i).toNatClampNeg = -1 := by rw [ci, s6]; exact nI_ne_m1 (by omega)
  rw [if_neg (by rw [s3]; exact nI_ne_m1 (by omega)), bnd_some, if_pos i00, if_neg (nn h0), p_count3, bnd_some, hC.1 3 (by decide), hn3.1, p_hasRun s2 s5, bnd_some, if_neg mi, if_neg qi, ci, s6, hR.cnt (by decide), hn3.1, nI_toInt (by omega), show (0 : Int32).toInt = 0 from rfl]
  by_cases hz : nK K 3 ≤ n1
  · obtain ⟨C', R', g1, g2, g3, g4, g5, -, g7⟩ := cfed_L (C0 := C) (R0 := R) rfl h0 hC hR hw hi s1 s3 s4 (nK K 3) 0 fz C R (by omega) (by rw [fz_is]; omega) ⟨FrTC.rf, FrTR.rf, ho.2.1, fun _ _ => rfl, fun _ _ => rfl⟩
    have g1' : f_X11_copyFed_L60 (5 + 2 * i) (nI (nK K 3)) fz 0 C = some ((), C') := g1
    have g2' : f_X12_copyFed_L52 (nI i) fz 0 R = some ((), R') := g2
    rw [decide_eq_true (by omega), bI_t, if_neg i10, g1', bnd_some, if_pos (nI_le hz (by omega)), g2', bnd_some, g7, hR.cnt (by decide), hn3.1]
    exact fin_giv hs g3.sq g4.sq (ho.trays g3 g4 g5) _
  · rw [decide_eq_false (by omega), bI_f, if_pos i00, if_neg (nI_ge (by omega) (by omega))]
    exact fin_ref hs SqC.rf SqR.rf ho 3
end COPYFED
