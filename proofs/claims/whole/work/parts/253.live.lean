/-! LIFE: live -/
theorem RelO.lived {C R C' R' : Mem} {K K' : Kt} (h : RelO C R) (hN : NmR C (gR C 0 0) R 0 K) (hW : WkR C (gR C 0 0) R 0 K) (hC : IsC C' (gR C 0 0) K') (f1 : ∀ n k, (n < gR C 0 0 ∨ gR C 0 0 + 28 ≤ n ∨ n = gR C 0 0 + 2 ∨ n = gR C 0 0 + 24 ∨ n = gR C 0 0 + 25) → ¬ n = 25 → ¬ n = 26 → gI C' n k = gI C n k) (f2 : ∀ n k, gL C' n k = gL C n k) (f3 : ∀ n k, gR C' n k = gR C n k)
    (hR : IsR R' 0 K') (g1 : ∀ n k, ¬ (n = 1 ∧ k < 134 ∧ k ≠ 8) → ¬ (n = 0 ∧ (k = 35 ∨ k = 36 ∨ k = 40)) → ¬ (n = 17 ∨ n = 18 ∨ n = 19) → gI R' n k = gI R n k) (g2 : ∀ n k, gL R' n k = gL R n k) (hw' : WFK K') (hs : ∃ n : Nat, n ≤ 9999 ∧ K' 20 1 = nI n) (hn : ∀ k, nK K' k = nK K k) (hl' : RelL C' R') : RelO C' R' := by
  obtain ⟨hnow, ht, hb, hl, hkw, -, hm⟩ := h
  obtain ⟨t1, t2⟩ := hnow.two
  have lo : 27 ≤ gR C 0 0 ∧ gR C 0 0 ≤ 55 := by omega
  refine ⟨by unfold NowC; rw [f3, f3]; exact hnow, ht.cg (fun n k a b => ⟨f1 n k (by omega) (by omega) (by omega), f2 n k⟩) (fun n k a b => ⟨g1 n k (by omega) (by omega) (by omega), g2 n k⟩),
    hb.cg (f1 _ _ (by omega) (by omega) (by omega)) (fun k => f1 _ _ (by omega) (by omega) (by omega)) (g1 _ _ (by omega) (by omega) (by omega)) (fun k => g1 _ _ (by omega) (by omega) (by omega)),
    hl', hkw.cg (fun k => f2 _ _), ?_, hm.cg (f1 _ _ (by omega) (by omega) (by omega)) (fun n k a => ⟨f1 _ _ (by omega) (by omega) (by omega), f2 _ _⟩) (g1 _ _ (by omega) (by omega) (by omega)) (fun k a b => g1 _ _ (by omega) (by omega) (by omega)) (fun k a b => g2 _ _)⟩
  rw [f3]
  refine ⟨K', hw', hs, hC, hR, fun k hk h2 i hi => ?_, ?_⟩
  · rw [f2, g2]
    rw [hn k] at hi
    exact hN k hk h2 i hi
  · have ea : (fun k => gI R' 1 (0 + 134 + k)) = fun k => gI R 1 (0 + 134 + k) := by funext k; exact g1 _ _ (by omega) (by omega) (by omega)
    have ec : (fun k => gI C' (gR C 0 0 + 25) k) = fun k => gI C (gR C 0 0 + 25) k := by funext k; exact f1 _ _ (by omega) (by omega) (by omega)
    unfold WkR at hW ⊢
    rw [Nat.mul_zero, ea, ec, f1 _ _ (by omega) (by omega) (by omega), g1 _ _ (by omega) (by omega) (by omega), f1 _ _ (by omega) (by omega) (by omega)]
    rcases hW with q | ⟨a, m, b, c, d, e, q, r⟩
    · exact Or.inl q
    · exact Or.inr ⟨a, m, b, c, d, e, fun k hk => rowW_K (q k hk) (hn 0) (hn 1) (hn 3), r⟩
theorem r_copy5 (R : Mem) : ∃ R', f_X12_live_L43 fz 0 R = some ((), R') ∧ (∀ n k, gI R' n k = if n = 19 ∧ k < 5 then gI R 18 k else gI R n k) ∧ ∀ n k, gL R' n k = gL R n k := by
  have key := loopI (fun fu (D : Mem) i => f_X12_live_L43 fu (nI i) D) 5 (fun i D => (∀ n k, gI D n k = if n = 19 ∧ k < i then gI R 18 k else gI R n k) ∧ ∀ n k, gL D n k = gL R n k)
    (fun b => b.1 = () ∧ (∀ n k, gI b.2 n k = if n = 19 ∧ k < 5 then gI R 18 k else gI R n k) ∧ ∀ n k, gL b.2 n k = gL R n k)
    (fun fu D hI => ⟨((), D), ?_, rfl, hI⟩)
    (fun fu D i hi hI => Or.inl ?_) 5 0 R fz (by omega) (by rw [fz_is]; omega) ⟨fun n k => by rw [if_neg (by omega)], fun n k => rfl⟩
  · obtain ⟨⟨u, D⟩, e1, -, e2⟩ := key
    exact ⟨D, e1, e2⟩
  · rw [f_X12_live_L43, if_pos (show (5 : Int32) ≤ nI 5 by decide)]
  · have q : ¬ (nI i < 0 ∨ 5 ≤ (nI i).toNatClampNeg) := nI_in hi (by decide)
    refine ⟨sI D 19 i (gI D 18 i), ⟨fun n k => ?_, fun n k => hI.2 n k⟩, ?_⟩
    · have e18 : gI D 18 i = gI R 18 i := by rw [hI.1, if_neg (by omega)]
      rw [gI_I, e18, hI.1]
      by_cases z : n = 19 ∧ k = i
      · rw [if_pos z, if_pos ⟨z.1, by omega⟩, z.2]
      · rw [if_neg z]
        by_cases z2 : n = 19 ∧ k < i
        · rw [if_pos z2, if_pos (by omega)]
        · rw [if_neg z2, if_neg (by omega)]
    · rw [f_X12_live_L43, if_neg (show ¬ (5 : Int32) ≤ nI i from nI_ge (b := 5) hi (by decide)), if_neg q, if_neg q, letF, letF, nI_clamp (by omega), nI_s]
theorem p_fc {C : Mem} {c : Nat} {K : Kt} (hc : shC c = 0) (h : IsC C c K) (hw : WFK K) (f : Int32) : ∃ s, f_X0_setOfFate c f C = some (s, C) ∧ ∀ M, f_J6_bitCount_0f7a4_C s M = some (nI (fcK K f), M) := by
  have hn3 := hw.n3
  obtain ⟨s, hs1, hs2⟩ := setB_nat (fun i => decide (K 14 i = f)) (n := nK K 3) (by omega)
  have hs3 : s < 1024 := Nat.lt_of_lt_of_le hs1 (Nat.le_trans (Nat.pow_le_pow_right (by decide) hn3.2) (by decide))
  have hp1 := pop_setB (fun i => decide (K 14 i = f)) (n := nK K 3) (by omega)
  refine ⟨_, p_setOfFate hc h hw f, fun M => ?_⟩
  rw [hs2] at hp1 ⊢
  rw [p_bitCount hs3, hp1]
  rfl
theorem p_keep {i : Nat} (hi : i < 5) (v : Int32) (M : Mem) : f_X2_keep (nI i) v M = some ((), sI M 26 i v) := by
  rw [f_X2_keep, p_put (n := 5) zC_26 hi (by decide), bnd_some]
section LIVE
variable {C R : Mem}
theorem m_live (h : Rel C R) (a : Int32) : OK2 (f_X11_live a C) (f_X12_live a R) := by
  obtain ⟨hs, ho⟩ := h
  obtain ⟨K, hw, hsn, hC, hR, hN, hW, h0, h1⟩ := ho.get5
  have lo := isC_lo h0
  rw [f_X11_live, f_X12_live]
  rcases ix a (n := 10000) (by decide) with hx | ⟨x, hx, rfl⟩
  · rw [withinF 10000 10000 rfl hx, bnd_some, if_pos i00, r_from0F 10000 (by decide) hx (by decide), bnd_some, if_pos i00]
    exact fin_ref hs SqC.rf SqR.rf ho 1
  rw [withinT 10000 10000 rfl (by decide) hx, bnd_some, if_neg i10, r_from0T 10000 (by decide) hx (by decide), bnd_some, if_neg i10, if_neg (nn h0)]
  have hW' := hW
  rcases hW' with ⟨w1, w2⟩ | ⟨w1, m, w2, w3, w4, w5, w6, w7, w8⟩
  · rw [w1, if_pos rfl, show gI R 1 8 = -1 from w2, if_pos rfl]
    exact fin_ref hs SqC.rf SqR.rf ho 6
  have w3' : gI R 1 8 = nI m := w3
  have w5' : gI C (gR C 0 0 + 24) 1 = nI (cntW (fun k => gI R 1 (134 + k)) m) := by
    have e : (fun k => gI R 1 (0 + 134 + k)) = fun k => gI R 1 (134 + k) := by funext k; rw [Nat.zero_add]
    rw [← e]; exact w5
  have w6' : ∀ k, k < m → rowW K (fun k => gI C (gR C 0 0 + 25) k) (fun k => gI R 1 (134 + k)) m k := by
    have e : (fun k => gI R 1 (0 + 134 + k)) = fun k => gI R 1 (134 + k) := by funext k; rw [Nat.zero_add]
    rw [← e]; exact w6
  have w7' : ∀ k, k ≤ m → 0 ≤ depW (fun k => gI R 1 (134 + k)) k ∧ depW (fun k => gI R 1 (134 + k)) k ≤ 3 := by
    have e : (fun k => gI R 1 (0 + 134 + k)) = fun k => gI R 1 (134 + k) := by funext k; rw [Nat.zero_add]
    rw [← e]; exact w7
  obtain ⟨n, C1, C', R', K', l1, l2, l3, l4, l5, l6, l7⟩ := lives2 (x := x) h0 hw hsn hC hR (by omega) w2 w3' w5' w6' w7'
  obtain ⟨v1, v2, v3, v4, v5, v6, v7, v8, v9, v10, v11, v12⟩ := l7
  obtain ⟨R3, r1, r2, r3⟩ := r_copy5 R'
  obtain ⟨sa, a1, a2⟩ := p_fc h0 hC hw 1
  obtain ⟨sb, b1, b2⟩ := p_fc h0 hC hw 2
  have g' : gR C' 0 0 = gR C 0 0 := v4.2.2.2 _ _
  have k13 : gI C (gR C 0 0) 13 = K 20 1 := hC.2.2.2.2.2.2.2
  have k13' : gI C' (gR C 0 0) 13 = K' 20 1 := v4.1.2.2.2.2.2.2.2
  have i1 : ∀ u, IsC (sI C' 26 1 u) (gR C 0 0) K' := fun u => v4.1.cg (fun p q y1 y2 => by rw [gI_I, if_neg (by omega)]) v1
  have i2 : ∀ u w, IsC (sI (sI C' 26 1 u) 26 2 w) (gR C 0 0) K' := fun u w => (i1 u).cg (fun p q y1 y2 => by rw [gI_I, if_neg (by omega)]) v1
  obtain ⟨sc, d1, d2⟩ := p_fc h0 (i1 (K' 20 1 - K 20 1)) v1 1
  obtain ⟨sd, d3, d4⟩ := p_fc h0 (i2 (K' 20 1 - K 20 1) (nI (fcK K' 1) - nI (fcK K 1))) v1 2
  have kp : ∀ (i : Nat) (z : Int32), nI i = z → i < 5 → ∀ v M, f_X2_keep z v M = some ((), sI M 26 i v) := fun i z e hi v M => by rw [← e]; exact p_keep hi v M
  have gr1 : ∀ u, gR (sI C' 26 1 u) 0 0 = gR C 0 0 := fun _ => g'
  have gr2 : ∀ u w, gR (sI (sI C' 26 1 u) 26 2 w) 0 0 = gR C 0 0 := fun _ _ => g'
  have ne : ¬ gI C (gR C 0 0 + 24) 0 = 0 := by rw [w1]; decide
  have nm : ¬ gI R 1 8 = -1 := by rw [w3']; exact nI_ne_m1 (by omega)
  rw [if_neg ne, if_neg (nn h0), letF, if_neg (nn h0), a1, bnd_some, a2, bnd_some, if_neg (nn h0), b1, bnd_some, b2, bnd_some, l2, bnd_some, l3, if_neg (nn h0), if_neg (nn h0), l5, bnd_some, g', if_neg (nn h0), k13', k13, kp 1 1 rfl (by omega), bnd_some, gr1, if_neg (nn h0), d1, bnd_some, d2, bnd_some, kp 2 2 rfl (by omega), bnd_some, gr2, if_neg (nn h0), d3, bnd_some, d4, bnd_some, kp 3 3 rfl (by omega), bnd_some, f_X2_keepSteps, kp 0 0 rfl (by omega), bnd_some, kp 4 4 rfl (by omega), bnd_some, letF, bnd_some,
    if_neg nm, l6, bnd_some, r1, bnd_some, letF]
  have oR : ∀ a k, ¬ a = 19 → ¬ (a = 0 ∧ k = 40) → gI (sI R3 0 40 1) a k = gI R' a k := fun a k z1 z2 => by
    rw [gI_I, if_neg z2, r2, if_neg (by omega)]
  have o19 : ∀ k, k < 5 → gI (sI R3 0 40 1) 19 k = gI R' 18 k := fun k hk => by
    rw [gI_I, if_neg (by omega), r2, if_pos ⟨rfl, hk⟩]
  have e4 : gI (sI (sI (sI C' 26 1 (K' 20 1 - K 20 1)) 26 2 (nI (fcK K' 1) - nI (fcK K 1))) 26 3 (nI (fcK K' 2) - nI (fcK K 2))) 25 4 = gI C' 25 4 := by
    rw [gI_I, if_neg (by omega), gI_I, if_neg (by omega), gI_I, if_neg (by omega)]
  have e5 : ∀ u, gI (sI (sI (sI (sI C' 26 1 (K' 20 1 - K 20 1)) 26 2 (nI (fcK K' 1) - nI (fcK K 1))) 26 3 (nI (fcK K' 2) - nI (fcK K 2))) 26 0 u) 25 5 = gI C' 25 5 := fun u => by
    rw [gI_I, if_neg (by omega), gI_I, if_neg (by omega), gI_I, if_neg (by omega), gI_I, if_neg (by omega)]
  rw [e4, e5]
  have o26 : ∀ a k, ¬ a = 26 → ¬ (a = 25 ∧ k = 1) → gI (sI (sI (sI (sI (sI (sI C' 26 1 (K' 20 1 - K 20 1)) 26 2 (nI (fcK K' 1) - nI (fcK K 1))) 26 3 (nI (fcK K' 2) - nI (fcK K 2))) 26 0 (gI C' 25 4)) 26 4 (gI C' 25 5)) 25 1 1) a k = gI C' a k := fun a k z1 z2 => by
    rw [gI_I, if_neg z2, gI_I, if_neg (by omega), gI_I, if_neg (by omega), gI_I, if_neg (by omega), gI_I, if_neg (by omega), gI_I, if_neg (by omega)]
  rw [o26 25 3 (by omega) (by omega), v6, oR 0 36 (by omega) (by omega), v7]
  have sqC : SqC C (sI (sI (sI (sI (sI (sI C' 26 1 (K' 20 1 - K 20 1)) 26 2 (nI (fcK K' 1) - nI (fcK K 1))) 26 3 (nI (fcK K' 2) - nI (fcK K 2))) 26 0 (gI C' 25 4)) 26 4 (gI C' 25 5)) 25 1 1) := ⟨v4.2.2.1 _ _, v4.2.2.1 _ _, (o26 0 15 (by omega) (by omega)).trans (v4.2.1 0 15 (by omega) (by omega)), (o26 0 16 (by omega) (by omega)).trans (v4.2.1 0 16 (by omega) (by omega))⟩
  have sqR : SqR R (sI R3 0 40 1) := ⟨(r3 _ _).trans (v5.2.2 _ _), (r3 _ _).trans (v5.2.2 _ _), (oR 0 16 (by omega) (by omega)).trans (v5.2.1 0 16 (by omega) (by omega) (by omega) (by omega)), (oR 0 17 (by omega) (by omega)).trans (v5.2.1 0 17 (by omega) (by omega) (by omega) (by omega))⟩
  refine fin_giv hs sqC sqR ?_ _
  refine ho.lived hN hW (v4.1.cg (fun p q y1 y2 => o26 p q (by omega) (by omega)) v1) (fun p q y1 y2 y3 => (o26 p q y3 (by omega)).trans (v4.2.1 p q y1 (by omega))) v4.2.2.1 v4.2.2.2 (v5.1.cg (fun k _ _ => oR 1 k (by omega) (by omega)) v1)
    (fun p q y1 y2 y3 => (oR p q (by omega) (by omega)).trans (v5.2.1 p q y1 (by omega) (by omega) (by omega))) (fun p q => (r3 p q).trans (v5.2.2 p q)) v1 v2 v3 ⟨⟨?_, Or.inr (gI_same _ _ _ _)⟩, fun k hk => ?_⟩
  · rw [gI_same, gI_same]
  · rw [o19 k hk]
    rcases (show k = 0 ∨ k = 1 ∨ k = 2 ∨ k = 3 ∨ k = 4 by omega) with rfl | rfl | rfl | rfl | rfl
    · rw [gI_I, if_neg (by omega), gI_I, if_neg (by omega), gI_same, v8]
    · rw [gI_I, if_neg (by omega), gI_I, if_neg (by omega), gI_I, if_neg (by omega), gI_I, if_neg (by omega), gI_I, if_neg (by omega), gI_same, v10]
    · rw [gI_I, if_neg (by omega), gI_I, if_neg (by omega), gI_I, if_neg (by omega), gI_I, if_neg (by omega), gI_same, v11]
    · rw [gI_I, if_neg (by omega), gI_I, if_neg (by omega), gI_I, if_neg (by omega), gI_same, v12]
    · rw [gI_I, if_neg (by omega), gI_same, v9]
end LIVE
