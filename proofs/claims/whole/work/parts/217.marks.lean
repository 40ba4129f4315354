/-! MARKS: mark, undo -/
def WkP (K : Kt) (kn ct : Int32) (cl : Nat → Int32) (st : Int32) (at_ : Nat → Int32) : Prop :=
  (kn = 0 ∧ st = -1) ∨ (kn = 1 ∧ ∃ m : Nat, m ≤ 60 ∧ st = nI m ∧ cntW at_ m ≤ 30 ∧ ct = nI (cntW at_ m) ∧ (∀ k, k < m → rowW K cl at_ m k) ∧ (∀ k, k ≤ m → 0 ≤ depW at_ k ∧ depW at_ k ≤ 3) ∧ depW at_ m = 0)
theorem WkP.cg {K : Kt} {kn ct st : Int32} {cl cl' at_ at' : Nat → Int32} (h : WkP K kn ct cl st at_) (e : ∀ k, k < 150 → cl' k = cl k) (e1 : ∀ k, k < 360 → at' k = at_ k) : WkP K kn ct cl' st at' := by
  rcases h with h | ⟨a, m, h5, h6, h7, h8, h9, h10, h11⟩
  · exact Or.inl h
  · refine Or.inr ⟨a, m, h5, h6, ?_⟩
    have ecnt : ∀ k, k ≤ 60 → cntW at' k = cntW at_ k := by
      intro k
      induction k with
      | zero => intro _; rfl
      | succ k ih => intro hk; rw [cntW, cntW, ih (by omega)]; rw [e1 _ (by omega)]
    have edep : ∀ k, k ≤ 60 → depW at' k = depW at_ k := by
      intro k
      induction k with
      | zero => intro _; rfl
      | succ k ih => intro hk; rw [depW, depW, ih (by omega)]; rw [e1 _ (by omega)]
    rw [ecnt m h5]
    refine ⟨h7, h8, fun k hk => ?_, fun k hk => by rw [edep k (by omega)]; exact h10 k hk, by rw [edep m h5]; exact h11⟩
    have q := h9 k hk
    unfold rowW at q ⊢
    rw [ecnt k (by omega), e1 _ (by omega), e1 _ (by omega), e1 _ (by omega), e1 _ (by omega), e1 _ (by omega)]
    rcases q with ⟨q1, o, q2, q3, q4, q5⟩ | ⟨s, q1, q2, q3⟩
    · exact Or.inl ⟨q1, o, q2, q3, by rw [e1 _ (by omega)]; exact q4, by rw [e1 _ (by omega)]; exact q5⟩
    · refine Or.inr ⟨s, q1, q2, ?_⟩
      rw [e _ (by omega), e _ (by omega), e _ (by omega), e _ (by omega), e _ (by omega)]
      rcases q3 with q3 | q3 | ⟨p, w1, w2, w3, w4, w5, w6, w7, w8⟩
      · exact Or.inl q3
      · exact Or.inr (Or.inl q3)
      · refine Or.inr (Or.inr ⟨p, w1, w2, w3, by rw [e1 _ (by omega)]; exact w4, by rw [e1 _ (by omega)]; exact w5, by rw [ecnt p (by omega)]; exact w6, fun i o z1 z2 z3 z4 z5 => ?_, w8⟩)
        rw [e1 _ (by omega)] at z3 z4
        exact w7 i o z1 z2 z3 z4 z5
theorem IsR.mv {R R' : Mem} {o o' : Nat} {K : Kt} (h : IsR R o K) (e0 : ∀ k, k < 134 → gI R' 1 (o' + k) = gI R 1 (o + k)) (hw : WFK K) : IsR R' o' K := by
  obtain ⟨h0, h1, h2, h3, h4, h5, h6, h7⟩ := h
  have := hw.n1
  have := hw.n2
  have := hw.n3
  have := hw.n4
  have := hw.n5
  have e : ∀ p q, o' ≤ p → p < o' + 134 → q + o' = p + o → gI R' 1 p = gI R 1 q := by
    intro p q a b c
    have := e0 (p - o') (by omega)
    rw [show o' + (p - o') = p by omega, show o + (p - o') = q by omega] at this
    exact this
  refine ⟨fun k hk => (e _ _ (by omega) (by omega) (by omega)).trans (h0 k hk), fun i hi => (e _ _ (by omega) (by omega) (by omega)).trans (h1 i hi), fun i hi => ?_, fun i hi => ?_, fun i hi => ?_, fun i hi => ?_, (e _ _ (by omega) (by omega) (by omega)).trans h6, (e _ _ (by omega) (by omega) (by omega)).trans h7⟩
  · rw [e (o' + 16 + 7 * i) (o + 16 + 7 * i) (by omega) (by omega) (by omega), e (o' + 16 + 7 * i + 1) (o + 16 + 7 * i + 1) (by omega) (by omega) (by omega), e (o' + 16 + 7 * i + 2) (o + 16 + 7 * i + 2) (by omega) (by omega) (by omega), e (o' + 16 + 7 * i + 3) (o + 16 + 7 * i + 3) (by omega) (by omega) (by omega), e (o' + 16 + 7 * i + 4) (o + 16 + 7 * i + 4) (by omega) (by omega) (by omega), e (o' + 16 + 7 * i + 5) (o + 16 + 7 * i + 5) (by omega) (by omega) (by omega), e (o' + 16 + 7 * i + 6) (o + 16 + 7 * i + 6) (by omega) (by omega) (by omega)]
    exact h2 i hi
  · rw [e (o' + 72 + 5 * i) (o + 72 + 5 * i) (by omega) (by omega) (by omega), e (o' + 72 + 5 * i + 1) (o + 72 + 5 * i + 1) (by omega) (by omega) (by omega), e (o' + 72 + 5 * i + 2) (o + 72 + 5 * i + 2) (by omega) (by omega) (by omega), e (o' + 72 + 5 * i + 3) (o + 72 + 5 * i + 3) (by omega) (by omega) (by omega), e (o' + 72 + 5 * i + 4) (o + 72 + 5 * i + 4) (by omega) (by omega) (by omega)]
    exact h3 i hi
  · rw [e (o' + 102 + 2 * i) (o + 102 + 2 * i) (by omega) (by omega) (by omega), e (o' + 102 + 2 * i + 1) (o + 102 + 2 * i + 1) (by omega) (by omega) (by omega)]
    exact h4 i hi
  · rw [e (o' + 114 + 2 * i) (o + 114 + 2 * i) (by omega) (by omega) (by omega), e (o' + 114 + 2 * i + 1) (o + 114 + 2 * i + 1) (by omega) (by omega) (by omega)]
    exact h5 i hi
theorem RelK.copied {C C' R R' : Mem} {a b i j : Nat} {K : Kt} (hw : WFK K) (hs : ∃ n : Nat, n ≤ 9999 ∧ K 20 1 = nI n) (hC : IsC C b K) (hR : IsR R (502 * i) K) (hN : NmR C b R i K) (hW : WkR C b R (502 * i) K) (g : Cpd a b (cpP (nK K 2) (nK K 3)) True C C')
    (e : ∀ k, k < 502 → gI R' 1 (502 * j + k) = gI R 1 (502 * i + k)) (f : ∀ k, k < 23 → gL R' 2 (23 * j + k) = gL R 2 (23 * i + k)) : RelK C' a R' j := by
  have c : ∀ x k, x < 28 → cpP (nK K 2) (nK K 3) x k → gI C' (a + x) k = gI C (b + x) k := g.2.2.1
  refine ⟨K, hw, hs, g.isC hC hw, hR.mv (fun k hk => e k (by omega)) hw, fun k hk h2 x hx => ?_, ?_⟩
  · have b1 : x < 6 ∧ nmB.getD k 0 + x < 23 := by
      have q := hw.1 k (by omega)
      rcases (show k = 0 ∨ k = 1 ∨ k = 3 ∨ k = 4 by omega) with rfl | rfl | rfl | rfl <;> simp [mxK] at q <;> simp [nmB] <;> omega
    rw [g.2.2.2 trivial _ (by omega), show 23 * j + nmB.getD k 0 + x = 23 * j + (nmB.getD k 0 + x) by omega, f _ (by omega), ← Nat.add_assoc]
    exact hN k hk h2 x hx
  · have h4 : WkP K (gI C (b + 24) 0) (gI C (b + 24) 1) (fun k => gI C (b + 25) k) (gI R 1 (502 * i + 8)) (fun k => gI R 1 (502 * i + 134 + k)) := hW
    have h5 := h4.cg (cl' := fun k => gI C' (a + 25) k) (at' := fun k => gI R' 1 (502 * j + 134 + k)) (fun k hk => c 25 k (by omega) (by unfold cpP; omega)) (fun k hk => by
      have := e (134 + k) (by omega)
      rw [← Nat.add_assoc, ← Nat.add_assoc] at this
      exact this)
    rw [← c 24 0 (by omega) (by unfold cpP; omega), ← c 24 1 (by omega) (by unfold cpP; omega), ← e 8 (by omega)] at h5
    exact h5
theorem row5 (a k : Nat) : (502 : Int32) * nI a + nI k = nI (502 * a + k) := by rw [litI, pk_mul, nI_add]
theorem row2 (a k : Nat) : (23 : Int32) * nI a + nI k = nI (23 * a + k) := by rw [litI, pk_mul, nI_add]
theorem nm_rd {e : Int32} {j : Nat} (he : e = nI j) (hj : j < 138) : ¬ (e < 0 ∨ 138 ≤ e.toNatClampNeg) ∧ e.toNatClampNeg = j := by
  subst he
  exact ⟨nI_in hj (by decide), nI_clamp (by omega)⟩
theorem r_copies {a b : Nat} (ha : a ≤ 3) (hb : b ≤ 3) (hab : a ≠ b) (R : Mem) : ∃ R', f_X12_copies (nI a) (nI b) R = some ((), R') ∧ (∀ n k, gI R' n k = if n = 1 ∧ 502 * b ≤ k ∧ k < 502 * b + 502 then gI R 1 (502 * a + (k - 502 * b)) else gI R n k) ∧ ∀ n k, gL R' n k = if n = 2 ∧ 23 * b ≤ k ∧ k < 23 * b + 23 then gL R 2 (23 * a + (k - 23 * b)) else gL R n k := by
  have key1 := loopI (fun fu (D : Mem) i => f_X12_copies_L2 (nI a) (nI b) fu (nI i) D) 502 (fun i D => (∀ n k, gI D n k = if n = 1 ∧ 502 * b ≤ k ∧ k < 502 * b + i then gI R 1 (502 * a + (k - 502 * b)) else gI R n k) ∧ ∀ n k, gL D n k = gL R n k)
    (fun r => r.1 = () ∧ (∀ n k, gI r.2 n k = if n = 1 ∧ 502 * b ≤ k ∧ k < 502 * b + 502 then gI R 1 (502 * a + (k - 502 * b)) else gI R n k) ∧ ∀ n k, gL r.2 n k = gL R n k)
    (fun fu D hI => ⟨((), D), ?_, rfl, hI⟩)
    (fun fu D i hi hI => Or.inl ?_) 502 0 R fz (by omega) (by rw [fz_is]; omega) ⟨fun n k => by rw [if_neg (by omega)], fun n k => rfl⟩
  · obtain ⟨⟨u, D1⟩, e1, -, g1, l1⟩ := key1
    have key2 := loopI (fun fu (D : Mem) i => f_X12_copies_L41 (nI a) (nI b) fu (nI i) D) 23 (fun i D => (∀ n k, gI D n k = gI D1 n k) ∧ ∀ n k, gL D n k = if n = 2 ∧ 23 * b ≤ k ∧ k < 23 * b + i then gL R 2 (23 * a + (k - 23 * b)) else gL R n k)
      (fun r => r.1 = () ∧ (∀ n k, gI r.2 n k = gI D1 n k) ∧ ∀ n k, gL r.2 n k = if n = 2 ∧ 23 * b ≤ k ∧ k < 23 * b + 23 then gL R 2 (23 * a + (k - 23 * b)) else gL R n k)
      (fun fu D hI => ⟨((), D), ?_, rfl, hI⟩)
      (fun fu D i hi hI => Or.inl ?_) 23 0 D1 fz (by omega) (by rw [fz_is]; omega) ⟨fun n k => rfl, fun n k => by rw [if_neg (by omega)]; exact l1 n k⟩
    · obtain ⟨⟨u2, D2⟩, e2, -, g2, l2⟩ := key2
      have e1' : f_X12_copies_L2 (nI a) (nI b) fz 0 R = some (u, D1) := e1
      have e2' : f_X12_copies_L41 (nI a) (nI b) fz 0 D1 = some (u2, D2) := e2
      exact ⟨D2, by rw [f_X12_copies, e1', bnd_some, e2', bnd_some], fun n k => (g2 n k).trans (g1 n k), l2⟩
    · rw [f_X12_copies_L41, if_pos (show (23 : Int32) ≤ nI 23 by decide)]
    · obtain ⟨q1, q2⟩ := nm_rd (row2 a i) (by omega)
      obtain ⟨q3, q4⟩ := nm_rd (row2 b i) (by omega)
      refine ⟨sL D 2 (23 * b + i) (gL D 2 (23 * a + i)), ⟨fun n k => hI.1 n k, fun n k => ?_⟩, ?_⟩
      · rw [gL_L, hI.2, hI.2]
        by_cases z : n = 2 ∧ k = 23 * b + i
        · rw [if_pos z, if_neg (by omega), if_pos (by omega)]
          congr 1; omega
        · rw [if_neg z]
          by_cases z2 : n = 2 ∧ 23 * b ≤ k ∧ k < 23 * b + i
          · rw [if_pos z2, if_pos (by omega)]
          · rw [if_neg z2, if_neg (by omega)]
      · rw [f_X12_copies_L41, if_neg (show ¬ (23 : Int32) ≤ nI i from nI_ge (b := 23) hi (by decide)), if_neg q1, if_neg q3, letF, letF, q2, q4, nI_s]
  · rw [f_X12_copies_L2, if_pos (show (502 : Int32) ≤ nI 502 by decide)]
  · obtain ⟨q1, q2⟩ := r_rd (row5 a i) (by omega)
    obtain ⟨q3, q4⟩ := r_rd (row5 b i) (by omega)
    refine ⟨sI D 1 (502 * b + i) (gI D 1 (502 * a + i)), ⟨fun n k => ?_, fun n k => hI.2 n k⟩, ?_⟩
    · rw [gI_I, hI.1, hI.1]
      by_cases z : n = 1 ∧ k = 502 * b + i
      · rw [if_pos z, if_neg (by omega), if_pos (by omega)]
        congr 1; omega
      · rw [if_neg z]
        by_cases z2 : n = 1 ∧ 502 * b ≤ k ∧ k < 502 * b + i
        · rw [if_pos z2, if_pos (by omega)]
        · rw [if_neg z2, if_neg (by omega)]
    · rw [f_X12_copies_L2, if_neg (show ¬ (502 : Int32) ≤ nI i from nI_ge (b := 502) hi (by decide)), if_neg q1, if_neg q3, letF, letF, q2, q4, nI_s]
theorem p_markAt {j : Nat} (hj : j < 3) (M : Mem) : f_X11_markAt (nI j) M = some (83 + 28 * j, M) := by
  rw [f_X11_markAt, withinT 3 3 rfl (by decide) hj, bnd_some, if_neg i10, if_neg (show ¬ (nI j < 0 ∨ 3 ≤ (nI j).toNatClampNeg) from nI_in hj (by decide)), f_X11_markAt_J25, nI_clamp (by omega)]
theorem shC_mark {j : Nat} (h : j < 3) : shC (83 + 28 * j) = 0 := (by decide +kernel : ∀ j, j < 3 → shC (83 + 28 * j) = 0) j h
section MARKS
variable {C R : Mem}
theorem m_mark (h : Rel C R) : OK2 (f_X11_mark C) (f_X12_mark R) := by
  obtain ⟨hs, ho⟩ := h
  obtain ⟨hnow, ht, hb, hl, hkw, hk, hm⟩ := id ho
  obtain ⟨m, m0, m1, m2, m3⟩ := id hm
  obtain ⟨K, hw, hsn, hC, hR, hN, hW⟩ := id hk
  obtain ⟨h0, h1⟩ := hnow.sh
  obtain ⟨hsp, hnw⟩ := hnow.two
  rw [f_X11_mark, f_X12_mark, m1, m2]
  by_cases hz : m = 3
  · subst hz
    rw [if_neg (by decide), if_pos (show nI 3 = 3 from rfl)]
    exact fin_ref hs SqC.rf SqR.rf ho 4
  have hm3 : m < 3 := by omega
  obtain ⟨C1, e1, g⟩ := p_copyCourt (shC_mark hm3) h0 (show 83 + 28 * m ≠ gR C 0 0 by omega) hC hw hW.kn
  obtain ⟨R1, f1, f2, f3⟩ := r_copies (a := 0) (b := m + 1) (by omega) (by omega) (by omega) (sI R 0 41 (nI (m + 1)))
  have f1' : f_X12_copies 0 (nI (m + 1)) (sI R 0 41 (nI (m + 1))) = some ((), R1) := f1
  have eC : ∀ n k, ¬ (83 + 28 * m ≤ n ∧ n < 83 + 28 * m + 28) → ¬ (n = 0 ∧ k = 3) → gI (sI C1 0 3 (nI (m + 1))) n k = gI C n k ∧ gL (sI C1 0 3 (nI (m + 1))) n k = gL C n k := by
    intro n k z1 z2
    refine ⟨?_, (g.1 n k z1).2⟩
    rw [gI_I, if_neg z2]
    exact (g.1 n k z1).1
  have eR : ∀ n k, ¬ (n = 1 ∧ 502 * (m + 1) ≤ k ∧ k < 502 * (m + 1) + 502) → ¬ (n = 0 ∧ k = 41) → gI R1 n k = gI R n k := by
    intro n k z1 z2
    rw [f2, if_neg z1, gI_I, if_neg z2]
  have fR : ∀ n k, ¬ (n = 2 ∧ 23 * (m + 1) ≤ k ∧ k < 23 * (m + 1) + 23) → gL R1 n k = gL R n k := by
    intro n k z1
    rw [f3, if_neg z1]
    rfl
  have gr : ∀ n k, gR (sI C1 0 3 (nI (m + 1))) n k = gR C n k := fun n k => g.2.1 n k
  have c3 : gI C1 0 3 = nI m := (g.1 _ _ (by omega)).1.trans m1
  rw [if_pos (show nI m < (3 : Int32) from nI_lt (b := 3) hm3 (by decide)), p_markAt hm3, bnd_some, if_neg (nn (shC_mark hm3)), if_neg (nn h0), e1, bnd_some, letF, c3, nI_s, gI_same]
  have r41 : gI R1 0 41 = nI (m + 1) := by rw [f2, if_neg (by omega), gI_same]
  rw [if_neg (show ¬ nI m = (3 : Int32) from fun z => hz (nI_inj (by omega) (by decide) z)), letF, gI_same, f1', bnd_some, r41]
  refine fin_giv hs ⟨(eC _ _ (by omega) (by omega)).2, (eC _ _ (by omega) (by omega)).2, (eC _ _ (by omega) (by omega)).1, (eC _ _ (by omega) (by omega)).1⟩ ⟨fR _ _ (by omega), fR _ _ (by omega), eR _ _ (by omega) (by omega), eR _ _ (by omega) (by omega)⟩ ?_ _
  refine ⟨by unfold NowC; rw [gr, gr]; exact hnow, ht.cg (fun n k a b => eC n k (by omega) (by omega)) (fun n k a b => ⟨eR n k (by omega) (by omega), fR n k (by omega)⟩),
    hb.cg (eC _ _ (by omega) (by omega)).1 (fun k => (eC _ _ (by omega) (by omega)).1) (eR _ _ (by omega) (by omega)) (fun k => eR _ _ (by omega) (by omega)),
    hl.cg (eC _ _ (by omega) (by omega)).1 (fun k => (eC _ _ (by omega) (by omega)).1) (eR _ _ (by omega) (by omega)) (fun k => eR _ _ (by omega) (by omega)),
    hkw.cg (fun k => (eC _ _ (by omega) (by omega)).2), ?_, m + 1, by omega, gI_same _ _ _ _, r41, fun j hj => ?_⟩
  · rw [gr]
    exact hk.cg (fun n k a b => eC _ _ (by omega) (by omega)) (fun k a b => eR _ _ (by omega) (by omega)) (fun k a b => fR _ _ (by omega))
  · by_cases hjm : j = m
    · subst hjm
      have q : RelK C1 (83 + 28 * j) R1 (j + 1) := RelK.copied (i := 0) hw hsn hC hR hN hW g (fun k hk => by
        rw [f2, if_pos (by omega), gI_I, if_neg (by omega), show 502 * (j + 1) + k - 502 * (j + 1) = k by omega]) (fun k hk => by
        rw [f3, if_pos (by omega), show 23 * (j + 1) + k - 23 * (j + 1) = k by omega]; rfl)
      exact q.cg (fun n k a b => ⟨by rw [gI_I, if_neg (by omega)], rfl⟩) (fun _ _ _ => rfl) (fun _ _ _ => rfl)
    · exact (m3 j (by omega)).cg (fun n k a b => eC _ _ (by omega) (by omega)) (fun k a b => eR _ _ (by omega) (by omega)) (fun k a b => fR _ _ (by omega))
theorem m_undo (h : Rel C R) : OK2 (f_X11_undo C) (f_X12_undo R) := by
  obtain ⟨hs, ho⟩ := h
  obtain ⟨hnow, ht, hb, hl, hkw, hk, hm⟩ := id ho
  obtain ⟨m, m0, m1, m2, m3⟩ := id hm
  obtain ⟨h0, h1⟩ := hnow.sh
  obtain ⟨hsp, hnw⟩ := hnow.two
  rw [f_X11_undo, f_X12_undo, m1, m2]
  by_cases hz : m = 0
  · subst hz
    rw [if_neg (by decide), if_pos (show nI 0 = 0 from rfl)]
    exact fin_ref hs SqC.rf SqR.rf ho 6
  obtain ⟨j, rfl⟩ : ∃ j, m = j + 1 := ⟨m - 1, by omega⟩
  have hj3 : j < 3 := by omega
  have hmk : RelK (sI C 0 3 (nI j)) (83 + 28 * j) R (j + 1) := (m3 j (by omega)).cg (fun n k a b => ⟨by rw [gI_I, if_neg (by omega)], rfl⟩) (fun _ _ _ => rfl) (fun _ _ _ => rfl)
  obtain ⟨K, hw, hsn, hC, hR, hN, hW⟩ := id hmk
  obtain ⟨C1, e1, g⟩ := p_copyCourt (a := gR C 0 0) h0 (shC_mark hj3) (show gR C 0 0 ≠ 83 + 28 * j by omega) hC hw hW.kn
  obtain ⟨R1, f1, f2, f3⟩ := r_copies (a := j + 1) (b := 0) (by omega) (by omega) (by omega) R
  have f1' : f_X12_copies (nI (j + 1)) 0 R = some ((), R1) := f1
  have gr0 : gR (sI C 0 3 (nI j)) 0 0 = gR C 0 0 := rfl
  have eC : ∀ n k, ¬ (gR C 0 0 ≤ n ∧ n < gR C 0 0 + 28) → ¬ (n = 0 ∧ k = 3) → gI C1 n k = gI C n k ∧ gL C1 n k = gL C n k := by
    intro n k z1 z2
    refine ⟨?_, (g.1 n k z1).2⟩
    rw [(g.1 n k z1).1, gI_I, if_neg z2]
  have eR : ∀ n k, ¬ (n = 1 ∧ k < 502) → ¬ (n = 0 ∧ k = 41) → gI (sI R1 0 41 (nI j)) n k = gI R n k := by
    intro n k z1 z2
    rw [gI_I, if_neg z2, f2, if_neg (by omega)]
  have fR : ∀ n k, ¬ (n = 2 ∧ k < 23) → gL (sI R1 0 41 (nI j)) n k = gL R n k := by
    intro n k z1
    rw [gL_I, f3, if_neg (by omega)]
  have gr : ∀ n k, gR C1 n k = gR C n k := fun n k => g.2.1 n k
  have c3 : gI C1 0 3 = nI j := (g.1 _ _ (by omega)).1.trans (gI_same _ _ _ _)
  have r41 : gI R1 0 41 = nI (j + 1) := by rw [f2, if_neg (by omega)]; exact m2
  have pj : nI (j + 1) - 1 = nI j := nI_pred j
  rw [if_pos (show (0 : Int32) < nI (j + 1) from nI_lt (a := 0) (by omega) (by omega)), letF, pj, gr0, if_neg (nn h0), gI_same, p_markAt hj3, bnd_some, if_neg (nn (shC_mark hj3)), e1, bnd_some, c3]
  rw [if_neg (nI_ne0 (by omega) (by omega)), f1', bnd_some, letF, r41, pj, gI_same]
  refine fin_giv hs ⟨(eC _ _ (by omega) (by omega)).2, (eC _ _ (by omega) (by omega)).2, (eC _ _ (by omega) (by omega)).1, (eC _ _ (by omega) (by omega)).1⟩ ⟨fR _ _ (by omega), fR _ _ (by omega), eR _ _ (by omega) (by omega), eR _ _ (by omega) (by omega)⟩ ?_ _
  refine ⟨by unfold NowC; rw [gr, gr]; exact hnow, ht.cg (fun n k a b => eC n k (by omega) (by omega)) (fun n k a b => ⟨eR n k (by omega) (by omega), fR n k (by omega)⟩),
    hb.cg (eC _ _ (by omega) (by omega)).1 (fun k => (eC _ _ (by omega) (by omega)).1) (eR _ _ (by omega) (by omega)) (fun k => eR _ _ (by omega) (by omega)),
    hl.cg (eC _ _ (by omega) (by omega)).1 (fun k => (eC _ _ (by omega) (by omega)).1) (eR _ _ (by omega) (by omega)) (fun k => eR _ _ (by omega) (by omega)),
    hkw.cg (fun k => (eC _ _ (by omega) (by omega)).2), ?_, j, by omega, c3, gI_same _ _ _ _, fun i hi => ?_⟩
  · rw [gr]
    refine RelK.copied (i := j + 1) (j := 0) hw hsn hC hR hN hW g (fun k hk => ?_) (fun k hk => ?_)
    · rw [gI_I, if_neg (by omega), f2, if_pos (by omega), show 502 * 0 + k - 502 * 0 = k by omega]
    · rw [gL_I, f3, if_pos (by omega), show 23 * 0 + k - 23 * 0 = k by omega]
  · exact (m3 i (by omega)).cg (fun n k a b => eC _ _ (by omega) (by omega)) (fun k a b => eR _ _ (by omega) (by omega)) (fun k a b => fR _ _ (by omega))
end MARKS
