/-! LIFE: SITTINGS, TERMS; any STEP that does -/
section STEP2
variable {C0 R0 C R C' R' : Mem} {c : Nat} {K0 K K' : Kt} {n x : Nat}
theorem i_sa (a b d : Int32) : a - b + d = a + d - b := by rw [Int32.sub_eq_add_neg, Int32.sub_eq_add_neg, Int32.add_assoc, Int32.add_comm (-b) d, ← Int32.add_assoc]
theorem SimK.ran (hc : shC c = 0) (h : SimK C0 c R0 K0 n K x C R) (gc : InC C c K' C') (gr : LfR R0 K' R') (hw : WFK K') (hs : ∃ s : Nat, s ≤ 9999 ∧ K' 20 1 = nI s) (hn : ∀ k, nK K' k = nK K k) (cR : ∀ n k, n ≠ 1 → ¬ (n = 18 ∧ (k = 1 ∨ k = 2 ∨ k = 3)) → gI R' n k = gI R n k)
    (e1 : gI R' 18 1 = K' 20 1 - K0 20 1) (e2 : gI R' 18 2 = nI (fcK K' 1) - nI (fcK K0 1)) (e3 : gI R' 18 3 = nI (fcK K' 2) - nI (fcK K0 2)) : SimK C0 c R0 K0 n K' x C' R' ∧ KpC C C' ∧ KpR R R' := by
  have lo := isC_lo hc
  obtain ⟨h1, h2, h3, h4, h5, h6, h7, h8, h9, h10, h11, h12, h13, h14, h15⟩ := h
  have cC : ∀ k, gI C' 25 k = gI C 25 k := fun k => gc.2.1 _ _ (by omega)
  exact ⟨⟨hw, hs, fun k => (hn k).trans (h3 k), h4, h5.inC gc, gr, (cC 2).trans h7, (cR 0 35 (by decide) (by omega)).trans h8, (cC 3).trans h9, (cR 0 36 (by decide) (by omega)).trans h10, by rw [cC 4, cR 18 0 (by decide) (by omega), h11], (cR 18 4 (by decide) (by omega)).trans h12, e1, e2, e3⟩, ⟨cC 4, cC 5, cC 6⟩, fun k => cR 17 k (by decide) (by omega), cR 18 0 (by decide) (by omega)⟩
theorem fcK_sit (K : Kt) (p : Nat) (f : Int32) : fcK (sitK K p) f = fcK K f := by
  unfold fcK
  rw [sitK_nK]
  have : (fun i => decide (sitK K p 14 i = f)) = fun i => decide (K 14 i = f) := funext (fun i => by rw [sitK_14])
  rw [this]
theorem dn_sit (hc : shC c = 0) (h : SimK C0 c R0 K0 n K x C R) {p : Nat} (hp : p < nK K 3) : Dn C0 c R0 K0 n C R
    (bnd (f_X0_hasRoomFor c (1 : Int32) C) fun r7 M8 => if r7 = 0 then (some ((0 : Int32), M8)) else (bnd (f_X0_sitBefore c (nI p) M8) fun r11 M12 => some ((1 : Int32), M12))) (f_X12_sitsBy (nI p) R) := by
  have hw := h.1
  have h5 := h.2.2.2.2.1
  have h6 := h.2.2.2.2.2.1
  obtain ⟨s, hs1, hs2⟩ := h.2.1
  rw [f_X0_hasRoomFor, h5.1.2.2.2.2.2.2.2, f_X12_sitsBy, h6.1.sat, hs2]
  by_cases hf : s = 9999
  · subst hf
    rw [if_pos (show (9999 : Int32) < nI 9999 + 1 by decide), bnd_some, if_pos i00, if_pos (show nI 9999 = (9999 : Int32) from rfl)]
    exact ⟨0, C, R, K, x, Or.inl rfl, rfl, rfl, h, ⟨rfl, rfl, rfl⟩, fun _ => rfl, rfl⟩
  · have hf2 : ¬ (9999 : Int32) < nI s + 1 := fun z => by have := (room_le (s := s) (n := 1) (by omega) (by decide)).1.mp z; omega
    have hf3 : ¬ nI s = (9999 : Int32) := fun z => hf (nI_inj (by omega) (by decide) z)
    rw [if_neg hf2, bnd_some, if_neg i10, if_neg hf3]
    obtain ⟨C', e1, e2⟩ := p_sitBefore (C0 := C) hc ⟨h5.1, FrC.rf⟩ hw hs2 (by omega) hp
    obtain ⟨R', e3, e4⟩ := r_sits (R0 := R) ⟨h6.1, FrR.rf⟩ hw hs2 (by omega) hp
    have w1 := (sitK_wf hw (p := p) hs2 (by omega)).1
    rw [e1, e3, bnd_some, bnd_some, letF]
    have oR : ∀ n k, n ≠ 1 → gI R' n k = gI R n k := fun n k z => e4.2.1 _ _ (by omega)
    obtain ⟨a, b, d⟩ := h.ran hc e2 (R' := sI R' 18 1 (gI R' 18 1 + 1)) ((h6.inR e4).set w1 (fun n k z1 z2 z3 => by rw [gI_I, if_neg (by omega)]) (fun _ _ => rfl)) w1 ⟨s + 1, by omega, sitK_sat hs2⟩ (fun k => sitK_nK K p k) (fun n k z1 z2 => by rw [gI_I, if_neg (by omega), oR n k z1])
      (by rw [gI_same, oR 18 1 (by decide), h.2.2.2.2.2.2.2.2.2.2.2.2.1, sitK_sat hs2, hs2, i_sa, nI_s])
      (by rw [gI_I, if_neg (by omega), oR 18 2 (by decide), h.2.2.2.2.2.2.2.2.2.2.2.2.2.1, fcK_sit])
      (by rw [gI_I, if_neg (by omega), oR 18 3 (by decide), h.2.2.2.2.2.2.2.2.2.2.2.2.2.2, fcK_sit])
    exact ⟨1, C', _, _, x, Or.inr rfl, rfl, rfl, a, b, d⟩
theorem dn_term (hc : shC c = 0) (h : SimK C0 c R0 K0 n K x C R) : Dn C0 c R0 K0 n C R
    (bnd (f_X0_canHoldTerm c C) fun r15 M16 => if r15 = 0 then (some ((0 : Int32), M16)) else (bnd (f_X0_holdTerm c M16) fun r19 M20 => some ((1 : Int32), M20))) (f_X12_termsBy R) := by
  have hw := h.1
  have h5 := h.2.2.2.2.1
  have h6 := h.2.2.2.2.2.1
  obtain ⟨sn, hn1, hn2⟩ := h.2.1
  have hn3 := hw.n3
  obtain ⟨s, hs1, hs2⟩ := setB_nat (fun i => decide (K 14 i = 0)) (n := nK K 3) (by omega)
  have hs3 : s < 1024 := Nat.lt_of_lt_of_le hs1 (Nat.le_trans (Nat.pow_le_pow_right (by decide) hn3.2) (by decide))
  have hp1 := pop_setB (fun i => decide (K 14 i = 0)) (n := nK K 3) (by omega)
  rw [hs2] at hp1
  have hp2 := pop_le (nI s)
  obtain ⟨q1, q2⟩ := room_le (s := sn) (n := popI (nI s)) (by omega) hp2
  have same : Dn C0 c R0 K0 n C R (some (0, C)) (some (0, R)) := ⟨0, C, R, K, x, Or.inl rfl, rfl, rfl, h, ⟨rfl, rfl, rfl⟩, fun _ => rfl, rfl⟩
  rw [f_X0_canHoldTerm, p_setOfFate hc h5.1 hw, bnd_some, hs2, p_bitCount hs3, bnd_some, f_X12_termsBy, r_peopleThat h6.1 hw (by decide), bnd_some, hs2]
  by_cases hz : s = 0
  · subst hz
    have z0 : nI (popI (nI 0)) ≤ 0 := by decide +kernel
    rw [if_pos z0, bnd_some, if_pos i00, if_pos (show nI 0 = (0 : Int32) from rfl)]
    exact same
  have hz2 : popI (nI s) ≠ 0 := fun z => hz ((pop_0 s hs3).mp z)
  have z1 : ¬ nI (popI (nI s)) ≤ 0 := nI_nle (by omega) (by omega)
  have z2 : ¬ nI s = 0 := nI_ne0 (by omega) (by omega)
  rw [if_neg z1, if_neg z2, f_X0_hasRoomFor, h5.1.2.2.2.2.2.2.2, f_X12_isTooMuch, r_peopleThat h6.1 hw (by decide), bnd_some, hs2, r_bits hs3, bnd_some, h6.1.sat, hn2]
  by_cases hf : sn + popI (nI s) ≤ 9999
  · have z3 : ¬ (9999 : Int32) < nI sn + nI (popI (nI s)) := fun z => by have := q1.mp z; omega
    rw [if_neg z3, bnd_some, if_neg i10, bnd_some, if_neg i10, if_pos (q2.mpr hf), bnd_some, if_pos i00]
    obtain ⟨C', e1, e2⟩ := p_holdTerm (C0 := C) hc ⟨h5.1, FrC.rf⟩ hw hn2 (by omega)
    have hR1 : IsR (sI R 18 1 (gI R 18 1 + nI (popI (nI s)))) 0 K := h6.1.cg (fun k _ _ => by rw [gI_I, if_neg (by omega)]) hw
    obtain ⟨R', e3, e4⟩ := r_terms (R0 := sI R 18 1 (gI R 18 1 + nI (popI (nI s)))) ⟨hR1, FrR.rf⟩ hw hn2 (by omega)
    obtain ⟨w1, w2, w3⟩ := termK_wf hw hn2 (by omega)
    obtain ⟨a, b, ha, hb, t1, t2, t3, t4⟩ := term_cnt hw hn2 (by omega)
    rw [hs2] at t3
    have oR : ∀ n k, n ≠ 1 → ¬ (n = 18 ∧ k = 1) → gI R' n k = gI R n k := fun n k z y => (e4.2.1 _ _ (by omega)).trans (by rw [gI_I, if_neg y])
    have o1 : gI R' 18 1 = gI R 18 1 + nI (popI (nI s)) := (e4.2.1 _ _ (by omega)).trans (gI_same _ _ _ _)
    have hR3 : IsR (sI R' 18 2 (gI (sI R 18 1 (gI R 18 1 + nI (popI (nI s)))) 18 2 + nI (popI (nI a)))) 0 (termK K).2 := e4.1.cg (fun k _ _ => by rw [gI_I, if_neg (by omega)]) w1
    rw [e1, bnd_some, r_bits hs3, bnd_some, letF, e3, bnd_some, t1, r_bits ha, bnd_some, letF, r_peopleThat hR3 w1 (by decide), bnd_some, w2, t3, r_bits hb, bnd_some, letF]
    have lR : LfR R0 (termK K).2 R' := by
      have g1 : LfR R0 K (sI R 18 1 (gI R 18 1 + nI (popI (nI s)))) := h6.set hw (fun n k z1 z2 z3 => by rw [gI_I, if_neg (by omega)]) (fun _ _ => rfl)
      exact g1.inR e4
    obtain ⟨y1, y2, y3⟩ := h.ran hc e2 (R' := sI (sI R' 18 2 (gI (sI R 18 1 (gI R 18 1 + nI (popI (nI s)))) 18 2 + nI (popI (nI a)))) 18 3 (gI (sI R' 18 2 (gI (sI R 18 1 (gI R 18 1 + nI (popI (nI s)))) 18 2 + nI (popI (nI a)))) 18 3 + nI (popI (nI b))))
      (lR.set w1 (fun n k z1 z2 z3 => by rw [gI_I, if_neg (by omega), gI_I, if_neg (by omega)]) (fun _ _ => rfl)) w1 ⟨_, by omega, w3⟩ w2 (fun n k z1 z2 => by rw [gI_I, if_neg (by omega), gI_I, if_neg (by omega), oR n k z1 (by omega)])
      (by rw [gI_I, if_neg (by omega), gI_I, if_neg (by omega), o1, h.2.2.2.2.2.2.2.2.2.2.2.2.1, w3, hn2, i_sa, nI_add, hp1])
      (by rw [gI_I, if_neg (by omega), gI_same, gI_I, if_neg (by omega), h.2.2.2.2.2.2.2.2.2.2.2.2.2.1, i_sa, nI_add, t2])
      (by rw [gI_same, gI_I, if_neg (by omega), oR 18 3 (by decide) (by omega), h.2.2.2.2.2.2.2.2.2.2.2.2.2.2, i_sa, nI_add, t4])
    exact ⟨1, C', _, _, x, Or.inr rfl, rfl, rfl, y1, y2, y3⟩
  · rw [if_pos (q1.mpr (by omega)), bnd_some, if_pos i00, bnd_some, if_pos i00, if_neg (fun z => hf (q2.mp z)), bnd_some, if_neg i10]
    exact same
theorem SimK.cl (hc : shC c = 0) (h : SimK C0 c R0 K0 n K x C R) (k : Nat) : gI C (c + 25) k = gI C0 (c + 25) k := by
  have lo := isC_lo hc
  exact h.2.2.2.2.1.2.1 _ _ (by omega) (by omega)
theorem SimK.at (h : SimK C0 c R0 K0 n K x C R) (k : Nat) : gI R 1 (134 + k) = gI R0 1 (134 + k) := h.2.2.2.2.2.1.2.1 _ _ (by omega) (by omega) (by omega) (by omega)
theorem SimK.m8 (h : SimK C0 c R0 K0 n K x C R) : gI R 1 8 = gI R0 1 8 := h.2.2.2.2.2.1.2.1 _ _ (by omega) (by omega) (by omega) (by omega)
theorem Dn.chk {X Y : Rs Int32} (h : Dn C0 c R0 K0 n C R X Y) : Dn C0 c R0 K0 n C R X (bnd Y fun r M => if ¬ (r = 0 ∨ r = 1) then none else some (r, M)) := by
  obtain ⟨b, C', R', K', x', h1, h2, h3, h4⟩ := h
  exact ⟨b, C', R', K', x', h1, h2, by rw [h3, bnd_some, fin_b h1], h4⟩
theorem Dn.chk2 {X Y : Rs Int32} (h : Dn C0 c R0 K0 n C R X Y) : Dn C0 c R0 K0 n C R (bnd X fun r M => if ¬ (r = 0 ∨ r = 1) then none else some (r, M)) (bnd Y fun r M => if ¬ (r = 0 ∨ r = 1) then none else some (r, M)) := by
  obtain ⟨b, C', R', K', x', h1, h2, h3, h4⟩ := h
  exact ⟨b, C', R', K', x', h1, by rw [h2, bnd_some, fin_b h1], by rw [h3, bnd_some, fin_b h1], h4⟩
theorem does2 (hc : shC c = 0) (h : SimK C0 c R0 K0 n K x C R) {j s : Nat} (hj : j < 60) (hs : s < 30) (hrow : smpW K0 (fun k => gI C0 (c + 25) k) (fun k => gI R0 1 (134 + k)) j s) :
    ∃ kd : Nat, 15 ≤ kd ∧ kd ≤ 21 ∧ gI C (c + 25) (5 * s) = nI kd ∧ gI R 1 (134 + 6 * j) = nI kd ∧ Dn C0 c R0 K0 n C R (f_X2_does c (nI kd) (nI s) C) (f_X12_does (nI (134 + 6 * j)) R) := by
  have hw := h.1
  have hn0 := hw.n0
  have hnk := h.2.2.1
  obtain ⟨kd, k1, k2, k3, k4, k5⟩ := hrow
  have k3' : gI R 1 (134 + 6 * j) = nI kd := (h.at _).trans k3
  obtain ⟨z1, z2⟩ := r_row (i := 0) hj (by omega) (e := nI (134 + 6 * j)) rfl
  obtain ⟨z3, z4⟩ := r_row (i := 1) hj (by omega) (e := nI (134 + 6 * j) + 1) (nI_s _)
  obtain ⟨z5, z6⟩ := r_row (i := 2) hj (by omega) (e := nI (134 + 6 * j) + 2) (nI_add _ 2)
  refine ⟨kd, k1, k2, (h.cl hc _).trans k4, k3', ?_⟩
  rw [f_X2_does, show (2 : Int32) = nI 2 from rfl, show (3 : Int32) = nI 3 from rfl, p_cellAt hc hs (by omega), bnd_some, p_cellAt hc hs (by omega), bnd_some, h.cl hc, h.cl hc, letF, f_X12_does, if_neg z3, z4, letF, if_neg z5, z6, letF, if_neg z1, show (nI (134 + 6 * j)).toNatClampNeg = 134 + 6 * j from z2, letF, k3', show gI R 1 (134 + 6 * j + 1) = gI R0 1 (134 + (6 * j + 1)) from h.at (6 * j + 1), show gI R 1 (134 + 6 * j + 2) = gI R0 1 (134 + (6 * j + 2)) from h.at (6 * j + 2)]
  rcases k5 with ⟨rfl, p, p1, p2, p3⟩ | rfl | ⟨rfl, p, p1, p2, p3, v, v1, v2, v3, v4⟩ | ⟨hkd, p, p1, p2, p3, v, v1, v2, v3⟩ | rfl | rfl
  · have p2' : gI R0 1 (134 + (6 * j + 1)) = nI p := p2
    have p3' : gI C0 (c + 25) (5 * s + 2) = nI p := p3
    rw [p2', p3', if_pos (show nI 15 = (15 : Int32) from rfl), if_pos (show nI 15 = (15 : Int32) from rfl)]
    exact (dn_sit hc h (by rw [hnk]; exact p1)).chk
  · rw [if_neg (show ¬ nI 16 = (15 : Int32) by decide), if_pos (show nI 16 = (16 : Int32) from rfl), if_neg (show ¬ nI 16 = (15 : Int32) by decide), if_pos (show nI 16 = (16 : Int32) from rfl)]
    exact (dn_term hc h).chk
  · have p2' : gI R0 1 (134 + (6 * j + 1)) = nI p := p2
    have p3' : gI C0 (c + 25) (5 * s + 2) = nI p := p3
    have v3' : gI R0 1 (134 + (6 * j + 2)) = nI v := v3
    have v4' : gI C0 (c + 25) (5 * s + 3) = nI v := v4
    rw [p2', p3', v3', v4', if_neg (show ¬ nI 17 = (15 : Int32) by decide), if_neg (show ¬ nI 17 = (16 : Int32) by decide), if_pos (show nI 17 = (17 : Int32) from rfl), if_neg (show ¬ nI 17 = (15 : Int32) by decide), if_neg (show ¬ nI 17 = (16 : Int32) by decide), if_pos (show nI 17 = (17 : Int32) from rfl)]
    exact (dn_feed hc h (by rw [hnk]; exact p1) (by omega)).chk2
  · have p2' : gI R0 1 (134 + (6 * j + 1)) = nI p := p2
    have p3' : gI C0 (c + 25) (5 * s + 2) = nI p := p3
    have v2' : gI R0 1 (134 + (6 * j + 2)) = nI v := v2
    have v3' : gI C0 (c + 25) (5 * s + 3) = nI v := v3
    have hv : v < 5 := by rw [← hnk] at v1; omega
    rcases hkd with rfl | rfl
    · rw [p2', p3', v2', v3', if_neg (show ¬ nI 18 = (15 : Int32) by decide), if_neg (show ¬ nI 18 = (16 : Int32) by decide), if_neg (show ¬ nI 18 = (17 : Int32) by decide), if_pos (show nI 18 = (18 : Int32) from rfl), if_neg (show ¬ nI 18 = (15 : Int32) by decide), if_neg (show ¬ nI 18 = (16 : Int32) by decide), if_neg (show ¬ nI 18 = (17 : Int32) by decide), if_pos (show nI 18 = (18 : Int32) from rfl)]
      exact (dn_smell hc h (by rw [hnk]; exact p1) hv 1).chk2
    · rw [p2', p3', v2', v3', if_neg (show ¬ nI 19 = (15 : Int32) by decide), if_neg (show ¬ nI 19 = (16 : Int32) by decide), if_neg (show ¬ nI 19 = (17 : Int32) by decide), if_neg (show ¬ nI 19 = (18 : Int32) by decide), if_pos (show nI 19 = (19 : Int32) from rfl), if_neg (show ¬ nI 19 = (15 : Int32) by decide), if_neg (show ¬ nI 19 = (16 : Int32) by decide), if_neg (show ¬ nI 19 = (17 : Int32) by decide), if_neg (show ¬ nI 19 = (18 : Int32) by decide), if_pos (show nI 19 = (19 : Int32) from rfl)]
      exact (dn_smell hc h (by rw [hnk]; exact p1) hv 0).chk2
  · rw [if_neg (show ¬ nI 20 = (15 : Int32) by decide), if_neg (show ¬ nI 20 = (16 : Int32) by decide), if_neg (show ¬ nI 20 = (17 : Int32) by decide), if_neg (show ¬ nI 20 = (18 : Int32) by decide), if_neg (show ¬ nI 20 = (19 : Int32) by decide), if_pos (show nI 20 = (20 : Int32) from rfl), if_neg (show ¬ nI 20 = (15 : Int32) by decide), if_neg (show ¬ nI 20 = (16 : Int32) by decide), if_neg (show ¬ nI 20 = (17 : Int32) by decide), if_neg (show ¬ nI 20 = (18 : Int32) by decide), if_neg (show ¬ nI 20 = (19 : Int32) by decide), if_pos (show nI 20 = (20 : Int32) from rfl)]
    exact (dn_night hc h).chk2
  · rw [if_neg (show ¬ nI 21 = (15 : Int32) by decide), if_neg (show ¬ nI 21 = (16 : Int32) by decide), if_neg (show ¬ nI 21 = (17 : Int32) by decide), if_neg (show ¬ nI 21 = (18 : Int32) by decide), if_neg (show ¬ nI 21 = (19 : Int32) by decide), if_neg (show ¬ nI 21 = (20 : Int32) by decide), if_pos (show nI 21 = (21 : Int32) from rfl), if_neg (show ¬ nI 21 = (15 : Int32) by decide), if_neg (show ¬ nI 21 = (16 : Int32) by decide), if_neg (show ¬ nI 21 = (17 : Int32) by decide), if_neg (show ¬ nI 21 = (18 : Int32) by decide), if_neg (show ¬ nI 21 = (19 : Int32) by decide), if_neg (show ¬ nI 21 = (20 : Int32) by decide), if_pos (show nI 21 = (21 : Int32) from rfl)]
    exact (dn_any hc h).chk2
end STEP2
