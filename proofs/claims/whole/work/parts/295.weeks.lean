/-! WEEKS -/
theorem IsC.cg2 {C C' : Mem} {c : Nat} {K : Kt} (h : IsC C c K) (e : ∀ n k, c ≤ n → n < c + 24 → gI C' n k = gI C n k) (hw : WFK K) : IsC C' c K := by
  obtain ⟨h0, h1, h2, h3, h4, h5, h6, h7⟩ := h
  have := hw.n2
  have := hw.n3
  exact ⟨fun k hk => (e _ _ (by omega) (by omega)).trans (h0 k hk), fun i hi => (e _ _ (by omega) (by omega)).trans (h1 i hi), fun i hi f hf => (e _ _ (by omega) (by omega)).trans (h2 i hi f hf), fun i hi f hf => (e _ _ (by omega) (by omega)).trans (h3 i hi f hf),
    fun i hi => ⟨(e _ _ (by omega) (by omega)).trans (h4 i hi).1, (e _ _ (by omega) (by omega)).trans (h4 i hi).2⟩, fun i hi => ⟨(e _ _ (by omega) (by omega)).trans (h5 i hi).1, (e _ _ (by omega) (by omega)).trans (h5 i hi).2⟩, (e _ _ (by omega) (by omega)).trans h6, (e _ _ (by omega) (by omega)).trans h7⟩
theorem IsR.cg2 {R R' : Mem} {o : Nat} {K : Kt} (h : IsR R o K) (e : ∀ k, o ≤ k → k < o + 134 → k ≠ o + 8 → gI R' 1 k = gI R 1 k) (hw : WFK K) : IsR R' o K := by
  obtain ⟨h0, h1, h2, h3, h4, h5, h6, h7⟩ := h
  have := hw.n1
  have := hw.n2
  have := hw.n3
  have := hw.n4
  have := hw.n5
  refine ⟨fun k hk => (e _ (by omega) (by omega) (by omega)).trans (h0 k hk), fun i hi => (e _ (by omega) (by omega) (by omega)).trans (h1 i hi), fun i hi => ?_, fun i hi => ?_, fun i hi => ?_, fun i hi => ?_, (e _ (by omega) (by omega) (by omega)).trans h6, (e _ (by omega) (by omega) (by omega)).trans h7⟩
  · obtain ⟨a, b, c, d, f⟩ := h2 i hi
    rw [e _ (by omega) (by omega) (by omega), e _ (by omega) (by omega) (by omega), e _ (by omega) (by omega) (by omega), e _ (by omega) (by omega) (by omega), e _ (by omega) (by omega) (by omega), e _ (by omega) (by omega) (by omega), e _ (by omega) (by omega) (by omega)]
    exact ⟨a, b, c, d, f⟩
  · obtain ⟨a, b, c, d, f⟩ := h3 i hi
    rw [e _ (by omega) (by omega) (by omega), e _ (by omega) (by omega) (by omega), e _ (by omega) (by omega) (by omega), e _ (by omega) (by omega) (by omega), e _ (by omega) (by omega) (by omega)]
    exact ⟨a, b, c, d, f⟩
  · obtain ⟨a, b⟩ := h4 i hi
    rw [e _ (by omega) (by omega) (by omega), e _ (by omega) (by omega) (by omega)]
    exact ⟨a, b⟩
  · obtain ⟨a, b⟩ := h5 i hi
    rw [e _ (by omega) (by omega) (by omega), e _ (by omega) (by omega) (by omega)]
    exact ⟨a, b⟩
theorem r_takeWeeks (R : Mem) : ∃ R', f_X12_weeks_L103 fz 134 R = some ((), R') ∧ (∀ y k, gI R' y k = if y = 1 ∧ 134 ≤ k ∧ k < 494 then gI R 1 (2008 + k) else gI R y k) ∧ ∀ y k, gL R' y k = gL R y k := by
  have key := loopI (fun fu (D : Mem) i => f_X12_weeks_L103 fu (nI i) D) 494 (fun i D => 134 ≤ i ∧ (∀ y k, gI D y k = if y = 1 ∧ 134 ≤ k ∧ k < i then gI R 1 (2008 + k) else gI R y k) ∧ ∀ y k, gL D y k = gL R y k)
    (fun r => r.1 = () ∧ (∀ y k, gI r.2 y k = if y = 1 ∧ 134 ≤ k ∧ k < 494 then gI R 1 (2008 + k) else gI R y k) ∧ ∀ y k, gL r.2 y k = gL R y k)
    (fun fu D hI => ⟨((), D), ?_, rfl, hI.2⟩)
    (fun fu D i hi hI => Or.inl ?_) 360 134 R fz (by omega) (by rw [fz_is]; omega) ⟨Nat.le_refl _, fun n k => by rw [if_neg (by omega)], fun n k => rfl⟩
  · obtain ⟨⟨u, D1⟩, e1, -, g1, l1⟩ := key
    exact ⟨D1, e1, g1, l1⟩
  · rw [f_X12_weeks_L103, if_pos (show (494 : Int32) ≤ nI 494 by decide)]
  · obtain ⟨q1, q2⟩ := r_rd (show (2008 : Int32) + nI i = nI (2008 + i) from nI_add 2008 i) (by omega)
    obtain ⟨q3, q4⟩ := r_rd (show nI i = nI i from rfl) (show i < 3548 by omega)
    obtain ⟨i1, hI1, hI2⟩ := hI
    refine ⟨sI D 1 i (gI D 1 (2008 + i)), ⟨by omega, fun y k => ?_, fun y k => hI2 y k⟩, ?_⟩
    · rw [gI_I, hI1, hI1]
      by_cases z : y = 1 ∧ k = i
      · rw [if_pos z, if_neg (by omega), if_pos (by omega), z.2]
      · rw [if_neg z]
        by_cases z2 : y = 1 ∧ 134 ≤ k ∧ k < i
        · rw [if_pos z2, if_pos (by omega)]
        · rw [if_neg z2, if_neg (by omega)]
    · rw [f_X12_weeks_L103, if_neg (show ¬ (494 : Int32) ≤ nI i from nI_ge (b := 494) hi (by omega)), if_neg q1, if_neg q3, letF, letF, q2, q4, nI_s]
section WEEKS
variable {C R : Mem}
theorem m_weeks (h : Rel C R) (a : Int32) : OK2 (f_X11_weeks a C) (f_X12_weeks a R) := by
  obtain ⟨hs, ho⟩ := h
  obtain ⟨m, m0, m1, m2, m3⟩ := ho.2.2.1
  obtain ⟨h0, h1⟩ := ho.1.sh
  obtain ⟨hsp, hnw⟩ := ho.1.two
  have no : (a < 0 ∨ nI (m + 1) ≤ a) → OK2 (f_X11_weeks a C) (f_X12_weeks a R) := by
    intro z
    have w : f_X11_within a (nI (m + 1)) C = some (0, C) := by
      rcases z with z | z
      · exact p_within_lo z C
      · exact p_within_hi z C
    rw [f_X11_weeks, m1, nI_s, w, bnd_some, if_pos rfl, f_X12_weeks, r_beginsNo m0 m2 z, bnd_some, if_pos rfl]
    exact fin_ref hs SqC.rf SqR.rf ho 1
  rcases within_nI (x := a) (n := m + 1) (by omega) with z | z | ⟨n, hn, rfl⟩
  · exact no (Or.inl z)
  · exact no (Or.inr z)
  by_cases h300 : n ≤ 300
  case neg =>
    have nb : f_X12_begins (nI n) 300 R = some (0, R) := by
      rw [f_X12_begins, if_neg (nI_pos (by omega)), m2, if_neg (nI_nlt (by omega) (by omega)), if_neg (show ¬ nI n ≤ 300 from nI_ge (a := 300) (by omega) (by omega))]
    rw [f_X11_weeks, m1, nI_s, withinT (m + 1) _ rfl (by omega) hn, bnd_some, if_neg i10, if_neg (show ¬ nI n ≤ 300 from nI_ge (a := 300) (by omega) (by omega)), f_X12_weeks, nb, bnd_some, if_pos rfl]
    exact fin_ref hs SqC.rf SqR.rf ho 1
  obtain ⟨K, hw, hst, hC, hR, hN, hW⟩ := ho.2.2.2.2.2.1
  obtain ⟨B, C1, R1, f, e, hB, b1, b2, b3, b4, b5, b6, b7, b8, b9⟩ := text_begin (C := sI (sI (sI C (gR C 0 1 + 24) 0 0) (gR C 0 1 + 24) 1 0) 16 2 0) (R := R) (m := m) (n := n) (most := 300) m0 (by omega) (by omega) (by omega) m2 (fun k hk => by rw [gI_I, if_neg (by omega), gI_I, if_neg (by omega), gI_I, if_neg (by omega)]; exact m3 k hk) ho.2.2.2.2.1
  have b2' : f_X12_begins (nI n) 300 R = some (1, R1) := b2
  have pc : PrC (gR C 0 1) C (sI (sI (sI C (gR C 0 1 + 24) 0 0) (gR C 0 1 + 24) 1 0) 16 2 0) := ⟨fun a k z1 z2 z3 => by rw [gI_I, if_neg (by omega), gI_I, if_neg (by omega), gI_I, if_neg (by omega)], fun _ _ _ _ => rfl, fun _ _ => rfl⟩
  have hd : 27 ≤ gR C 0 0 ∧ (gR C 0 0 + 28 ≤ gR C 0 1 ∨ gR C 0 1 + 28 ≤ gR C 0 0) := by omega
  have q16 : gI (sI (sI (sI R1 1 2016 0) 0 21 0) 0 22 0) 1 2016 = 0 := by rw [gI_I, if_neg (by omega), gI_I, if_neg (by omega), gI_same]
  have pcs : PrC (gR C 0 1) C C1 := pc.tr (b4.pr _)
  have r2e : ∀ a k, ¬ (a = 1 ∧ k = 2016) → ¬ (a = 0 ∧ (k = 21 ∨ k = 22)) → gI (sI (sI (sI R1 1 2016 0) 0 21 0) 0 22 0) a k = gI R1 a k := fun a k z1 z2 => by rw [gI_I, if_neg (by omega), gI_I, if_neg (by omega), gI_I, if_neg z1]
  have wk0 : WkS B n (gR C 0 1) (gR C 0 0) K C1 (sI (sI (sI R1 1 2016 0) 0 21 0) 0 22 0) f e 0 [] := by
    refine ⟨b3.setR2 (fun k z1 z2 => r2e _ _ (by omega) (by omega)) (fun k => r2e _ _ (by omega) (by omega)), ⟨hw, fun k hk => ?_, fun k hk => ?_, fun k hk k2 i hi => ?_⟩, ?_, q16, ?_, ?_, ?_, True.intro, WkI.nil, b6, b7, ?_⟩
    · exact (pcs.1 _ _ (by omega) (by omega) (by omega)).trans (hC.1 k hk)
    · rw [r2e _ _ (by omega) (by omega), b5.1 _ _ (by omega) (by omega)]; exact hR.cnt hk
    · rw [pcs.2.1 _ _ (by omega) (by omega), gL_I, gL_I, gL_I, b5.2]; exact hN k hk k2 i hi
    · rw [b4.1 _ _ (by omega), gI_I, if_neg (by omega), gI_same]; rfl
    · rw [gI_same]; rfl
    · rw [b4.1 _ _ (by omega), gI_same]; rfl
    · rw [gI_I, if_neg (by omega), gI_same]; rfl
    · rw [r2e _ _ (by omega) (by omega)]; exact b8
  obtain ⟨s, C2, R3, l1, l2, l3, l4, l5⟩ := week_loop h1 (show n ≤ 900 by omega) hB hd 60 0 f e [] C1 _ fz fz (by omega) (by rw [fz_is]; omega) (by rw [fz_is]; omega) wk0
  have l1' : f_X4_readWeeks_L20 (gR C 0 0) (gR C 0 1 + 24) fz 0 C1 = some (s, C2) := l1
  have prC : PrC (gR C 0 1) C C2 := pcs.tr l3
  have plR : TxF R1 (sI (sI (sI R1 1 2016 0) 0 21 0) 0 22 0) := ⟨fun a k z1 z2 z3 => r2e a k (by omega) (by omega), fun a k _ => rfl⟩
  have txR : TxF R R3 := (b5.tx.tr plR).tr l4.tx
  have r10 : gI R3 0 10 = 0 := by rw [l4.1 _ _ (by omega) (by omega) (by omega), r2e _ _ (by omega) (by omega)]; exact b9
  have g0 : ∀ a k, gR C2 a k = gR C a k := prC.2.2
  -- both stop
  have stop : ∀ C' R' v w, PrC (gR C 0 1) C C' → TxF R R' → gI R' 0 10 = 0 → FlT C' R' → OK2 (bnd (f_X11_textRead 0 v C') fun r M => some (r, M)) (bnd (f_X12_taken w R') fun r M => some (r, M)) := by
    intro C' R' v w y1 y2 y3 y4
    obtain ⟨k, p, k1, k9, pp, f1, f2, f3, f4⟩ := y4
    exact text_end (ho.bad y1 y2 y3) (by rw [y1.2.1 _ _ (by omega) (by omega), y2.2 _ _ (by omega)]; exact hs.2.1) (by rw [y1.2.1 _ _ (by omega) (by omega), y2.2 _ _ (by omega)]; exact hs.2.2.1) (k := k) k9 f1 f3 (f2.trans f4.symm) (Or.inl ⟨rfl, k1⟩)
  have fl18 : ∀ C' R', FlT C' R' → ¬ gI R' 0 18 = 0 := by
    intro C' R' y4
    obtain ⟨k, p, k1, k9, pp, f1, f2, f3, f4⟩ := y4
    rw [f3]
    exact fun z => by have := nI_inj (b := 0) (by omega) (by omega) z; omega
  rw [f_X11_weeks, m1, nI_s, withinT (m + 1) _ rfl (by omega) hn, bnd_some, if_neg i10, if_pos (show nI n ≤ 300 from nI_le (b := 300) h300 (by omega)), if_neg (nn h0), if_neg (nn h1), f_X4_readWeeks, f_X9_clear, letF, letF, bnd_some, letF, b1, bnd_some, l1', bnd_some, f_X12_weeks, b2', bnd_some, if_neg i10, letF, letF, letF, letF, l2, bnd_some]
  rcases l5 with ⟨rfl, fl⟩ | ⟨rfl, mm, f', e', os, wk⟩
  · rw [if_pos rfl, bnd_some, if_pos rfl, f_X11_weeks_J70, g0, if_neg (nn h0), if_neg (fl18 _ _ fl), f_X12_weeks_J77, if_neg (fl18 _ _ fl)]
    exact stop _ _ _ _ prC txR r10 fl
  obtain ⟨wT, wK, w1, w2, w3, w4, w5, w6, w7, w8, w9, w10⟩ := wk
  have q18 : gI R3 0 18 = 0 := wT.2.2.2.2
  rw [if_neg (show ¬ (1 : Nat) = 0 by decide), q18, if_pos rfl, w4, w5]
  cases os with
  | cons o os =>
    have l3 : (o :: os).length ≤ 3 := by have a := w7.2.2.2.1; have b := (w7.2.2.2.2.1 mm (Nat.le_refl _)).2; omega
    have np : ¬ nI (o :: os).length ≤ 0 := nI_ge (a := 0) (by rw [List.length_cons]; omega) (by omega)
    obtain ⟨C', R', y1, y2, y3, y4, y5⟩ := st_stp (c := gR C 0 1) wT (show n ≤ 900 by omega) hB (k := 2) (by omega) (by omega)
    have y1' : f_X7_refuse 2 C2 = some (0, C') := y1
    have y2' : f_X12_fails 2 R3 = some (0, R') := y2
    rw [if_neg np, y1', bnd_some, fin_b (Or.inl rfl), bnd_some, if_pos rfl, f_X11_weeks_J70, y4.2.2, g0, if_neg (nn h0), if_neg np, y2', bnd_some, f_X12_weeks_J77, if_neg (fl18 _ _ y3)]
    exact stop _ _ _ _ (prC.tr y4) (txR.tr y5.tx) ((y5.1 _ _ (by omega) (by omega) (by omega)).trans r10) y3
  | nil =>
    obtain ⟨R4, t1, t2, t3⟩ := r_takeWeeks (sI R3 1 8 (nI mm))
    have gs0 : gI (sI C2 (gR C 0 1 + 24) 0 1) (gR C 0 1 + 24) 0 = 1 := gI_same _ _ _ _
    have gs1 : gI (sI (sI C2 (gR C 0 1 + 24) 0 1) (gR C 0 0 + 24) 0 1) (gR C 0 1 + 24) 1 = nI (cntW (atW R3) mm) := by rw [gI_I, if_neg (by omega), gI_I, if_neg (by omega)]; exact w1
    obtain ⟨C4, u1, u2, u3, u4⟩ := p_copyRow (a := gR C 0 1 + 24 + 1) (b := gR C 0 0 + 24 + 1) (n := 150) (alC_wk h1) (alC_wk h0) (by omega) (by omega) (sI (sI (sI C2 (gR C 0 1 + 24) 0 1) (gR C 0 0 + 24) 0 1) (gR C 0 0 + 24) 1 (nI (cntW (atW R3) mm)))
    have gr4 : ∀ a k, gR C4 a k = gR C a k := fun a k => by rw [u4, gR_I, gR_I, gR_I, g0]
    have gq : ∀ a k, gR (sI C2 (gR C 0 1 + 24) 0 1) a k = gR C a k := fun a k => by rw [gR_I, g0]
    have cf : f_X9_copyFrom (gR C 0 0 + 24) (gR C 0 1 + 24) (sI C2 (gR C 0 1 + 24) 0 1) = some ((), C4) := by
      rw [f_X9_copyFrom, gs0, if_neg (by decide), letF, gs1, letF, u1, bnd_some]
    rw [if_pos (show nI ([] : List Nat).length ≤ 0 by decide), bnd_some, if_neg i10, gq, gq, if_neg (nn h0), if_neg (nn h1), cf, bnd_some, f_X11_weeks_J70, gr4, if_neg (nn h0), if_pos (show nI ([] : List Nat).length ≤ 0 by decide), f_X12_weeks_J77, q18, if_pos rfl, w2, letF, t1, bnd_some]
    have c4 : ∀ a k, ¬ (a = gR C 0 1 + 24 ∧ k = 0) → ¬ (a = gR C 0 0 + 24 ∧ k < 2) → ¬ (a = gR C 0 0 + 24 + 1) → gI C4 a k = gI C2 a k := fun a k z1 z2 z3 => by rw [u2, if_neg (by omega), gI_I, if_neg (by omega), gI_I, if_neg (by omega), gI_I, if_neg z1]
    have c4l : ∀ a k, gL C4 a k = gL C2 a k := fun a k => by rw [u3, gL_I, gL_I, gL_I]
    have r4 : ∀ a k, ¬ (a = 1 ∧ (k = 8 ∨ (134 ≤ k ∧ k < 494))) → gI R4 a k = gI R3 a k := fun a k z => by rw [t2, if_neg (by omega), gI_I, if_neg (by omega)]
    have r4l : ∀ a k, gL R4 a k = gL R3 a k := fun a k => by rw [t3, gL_I]
    have k1 : gI C4 (gR C 0 0 + 24) 1 = nI (cntW (atW R3) mm) := by rw [u2, if_neg (by omega), gI_same]
    have k0 : gI C4 (gR C 0 0 + 24) 0 = 1 := by rw [u2, if_neg (by omega), gI_I, if_neg (by omega), gI_same]
    have k8 : gI R4 1 8 = nI mm := by rw [t2, if_neg (by omega), gI_same]
    have wkp : WkP K (gI C4 (gR C 0 0 + 24) 0) (gI C4 (gR C 0 0 + 24) 1) (fun k => gI C4 (gR C 0 0 + 25) k) (gI R4 1 8) (fun k => gI R4 1 (134 + k)) := by
      rw [k0, k1, k8]
      obtain ⟨v1, v2, v3, v4, v5, v6, v7⟩ := id w7
      have base : WkP K 1 (nI (cntW (atW R3) mm)) (clW (gR C 0 1) C2) (nI mm) (atW R3) := Or.inr ⟨rfl, mm, w7.m60, rfl, v7, rfl, fun k hk => v1 k hk (by simp), v5, v4⟩
      refine base.cg (fun k hk => ?_) (fun k hk => ?_)
      · show gI C4 (gR C 0 0 + 24 + 1) k = gI C2 (gR C 0 1 + 24 + 1) k
        rw [u2, if_pos ⟨rfl, hk⟩, gI_I, if_neg (by omega), gI_I, if_neg (by omega), gI_I, if_neg (by omega)]
      · show gI R4 1 (134 + k) = gI R3 1 (2142 + k)
        rw [t2, if_pos (by omega), gI_I, if_neg (by omega), show 2008 + (134 + k) = 2142 + k by omega]
    have rk : RelK (sI C4 13 2 0) (gR C 0 0) R4 0 := by
      refine ⟨K, hw, hst, hC.cg2 (fun n k z1 z2 => ?_) hw, hR.cg2 (fun k z1 z2 z3 => ?_) hw, fun k hk k2 i hi => ?_, ?_⟩
      · rw [gI_I, if_neg (by omega), c4 _ _ (by omega) (by omega) (by omega)]; exact prC.1 _ _ (by omega) (by omega) (by omega)
      · rw [r4 _ _ (by omega)]; exact txR.1 _ _ (by omega) (by omega) (by omega)
      · have b1 : i < 6 ∧ nmB.getD k 0 + i < 23 := by
          have q := hw.1 k (by omega)
          rcases (show k = 0 ∨ k = 1 ∨ k = 3 ∨ k = 4 by omega) with rfl | rfl | rfl | rfl <;> simp [mxK] at q <;> simp [nmB] <;> omega
        rw [gL_I, c4l, r4l, prC.2.1 _ _ (by omega) (by omega), txR.2 _ _ (by omega)]; exact hN k hk k2 i hi
      · have wkr : WkP K (gI (sI C4 13 2 0) (gR C 0 0 + 24) 0) (gI (sI C4 13 2 0) (gR C 0 0 + 24) 1) (fun k => gI (sI C4 13 2 0) (gR C 0 0 + 25) k) (gI R4 1 8) (fun k => gI R4 1 (134 + k)) := by
          have z : ∀ k, gI (sI C4 13 2 0) (gR C 0 0 + 25) k = gI C4 (gR C 0 0 + 25) k := fun k => by rw [gI_I, if_neg (by omega)]
          rw [gI_I, if_neg (by omega), gI_I, if_neg (by omega)]
          exact wkp.cg (fun k _ => z k) (fun _ _ => rfl)
        have en : ∀ k, 502 * 0 + 134 + k = 134 + k := fun k => by omega
        show WkP K (gI (sI C4 13 2 0) (gR C 0 0 + 24) 0) (gI (sI C4 13 2 0) (gR C 0 0 + 24) 1) (fun k => gI (sI C4 13 2 0) (gR C 0 0 + 25) k) (gI R4 1 (502 * 0 + 8)) (fun k => gI R4 1 (502 * 0 + 134 + k))
        exact wkr
    have ei : ∀ n k, ¬ (n = 13) → ¬ (n = 16 ∨ n = 17) → ¬ (27 ≤ n ∧ n < 83) → gI (sI C4 13 2 0) n k = gI C n k ∧ gL (sI C4 13 2 0) n k = gL C n k := fun n k z1 z2 z3 =>
      ⟨by rw [gI_I, if_neg (by omega), c4 _ _ (by omega) (by omega) (by omega)]; exact prC.1 n k (by omega) z2 (by omega), by rw [gL_I, c4l]; exact prC.2.1 n k (by omega) (by omega)⟩
    have gr5 : ∀ a k, gR (sI C4 13 2 0) a k = gR C a k := fun a k => (gR_I _ _ _ _ _ _).trans (gr4 a k)
    have re : RelO (sI C4 13 2 0) R4 := by
      refine ho.re (fun n k z => ei n k (by omega) (by omega) (by omega)) (fun n k z => by rw [r4 _ _ (by omega)]; exact txR.1 n k (by omega) (by omega) (by omega)) (fun n k z => by rw [r4l]; exact txR.2 n k (by omega)) (by unfold NowC; rw [gr5, gr5]; exact ho.1) ⟨0, by omega, gI_same _ _ _ _, by rw [r4 _ _ (by omega)]; exact r10, fun k hk => by omega⟩ ?_
      rw [gr5]; exact rk
    refine text_end re ?_ ?_ (k := 0) (by omega) ?_ ?_ ?_ (Or.inr ⟨rfl, rfl, ?_⟩)
    · rw [c4l, r4l, prC.2.1 _ _ (by omega) (by omega), txR.2 _ _ (by omega)]; exact hs.2.1
    · rw [c4l, r4l, prC.2.1 _ _ (by omega) (by omega), txR.2 _ _ (by omega)]; exact hs.2.2.1
    · rw [c4 _ _ (by omega) (by omega) (by omega)]; exact w8
    · rw [r4 _ _ (by omega)]; exact q18
    · rw [c4 _ _ (by omega) (by omega) (by omega), r4 _ _ (by omega)]; exact w9.trans w10.symm
    · rw [k1, r4 _ _ (by omega)]; exact w3.symm
end WEEKS
