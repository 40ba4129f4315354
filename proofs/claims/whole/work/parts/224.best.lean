/-! best, bestAt -/
theorem foP_cg {C C' : Mem} {K : Kt} {W : Nat} (e : ∀ k, gI C' 22 k = gI C 22 k) (s p : Nat) : foP C' K W s p = foP C K W s p := by unfold foP; rw [e, e]
theorem foN_cg {C C' : Mem} {K : Kt} {W : Nat} (e : ∀ k, gI C' 22 k = gI C 22 k) (s : Nat) : foN C' K W s = foN C K W s := by
  unfold foN
  rw [fstB_congr (nK K 3) 0 (fun j _ _ => foP_cg e s j)]
theorem sqO_cg {C C' : Mem} {K : Kt} {W : Nat} (e : ∀ k, gI C' 22 k = gI C 22 k) : ∀ k, sqO C' K W k = sqO C K W k := by
  intro k
  induction k with
  | zero => rfl
  | succ k ih => rw [sqO, sqO, ih, foN_cg e]
theorem DI.cg {C C' R : Mem} {K : Kt} {W j : Nat} (h : DI W j K C R) (e : ∀ k, gI C' 22 k = gI C 22 k) : DI W j K C' R := by
  intro t t1 t2 t3
  obtain ⟨f, a1, a2, a3, a4⟩ := h t t1 t2 t3
  refine ⟨f, a1, by rw [e]; exact a2, a3, fun hp => ?_⟩
  obtain ⟨p, p1, p2, p3, g, p4, p5, p6⟩ := a4 hp
  exact ⟨p, p1, p2, p3, g, p4, by rw [e]; exact p5, p6⟩
theorem rows_L {C0 R : Mem} {c W : Nat} {K : Kt} (hc : shC c = 0) (hC : IsC C0 c K) (hw : WFK K) (hW : W < 2 ^ nK K 3) (hD : DI W 0 K C0 R) (hcn : gI C0 21 2 = nI (popI (nI W))) :
    ∀ d k fu C, k + d = popI (nI W) → d < fu → FoC C0 C → (∀ n x, ¬ n = 23 → gI C n x = gI C0 n x) → (∀ j, j < k → gI C 23 j = nI (foN C0 K W (sqO C0 K W j))) → ∃ C', f_X3_settle_L54 c (nI W) fu (nI (sqO C0 K W k)) (nI k) C = some ((), C') ∧ FoC C0 C' ∧ (∀ n x, ¬ n = 23 → gI C' n x = gI C0 n x) ∧ (∀ j, j < popI (nI W) → gI C' 23 j = nI (foN C0 K W (sqO C0 K W j))) := by
  have hn := hw.n3
  have h6 := pow_le6 hn.2
  have hp6 := pop_sz _ hn.2 W (by omega) hW
  intro d
  induction d with
  | zero =>
    intro k fu C h1 h2 f1 f2 f3
    obtain ⟨fu, rfl⟩ : ∃ k, fu = k + 1 := ⟨fu - 1, by omega⟩
    have e : k = popI (nI W) := by omega
    subst e
    exact ⟨C, by rw [f_X3_settle_L54, f2 _ _ (by omega), hcn, if_pos (Int32.le_refl _)], f1, f2, f3⟩
  | succ d ih =>
    intro k fu C h1 h2 f1 f2 f3
    obtain ⟨fu, rfl⟩ : ∃ k, fu = k + 1 := ⟨fu - 1, by omega⟩
    obtain ⟨s1, s2, s3⟩ := sq_in hw hW hD k (by omega)
    have e22 : ∀ x, gI C 22 x = gI C0 22 x := fun x => f2 22 x (by omega)
    have hf := p_firstOf hc (hC.fo hc hw f1) hw hW (hD.cg e22) s1 s2 (by omega)
    obtain ⟨p, p1, p2, p3, p4, p5, -⟩ := fo_ex hw hW hD s1 s2 (by omega)
    obtain ⟨o1, -, -⟩ := or_is _ s1 p (by omega)
    rw [f_X3_settle_L54, f2 _ _ (by omega), hcn, if_neg (nI_ge (by omega) (by omega)), hf, bnd_some, foN_cg e22, p_put zC_23 (show k < 6 by omega) (by decide), bnd_some, letF, letF, nI_s]
    have e : nI (sqO C0 K W k) ||| ((1 : Int32) <<< (nI (foN C0 K W (sqO C0 K W k)) &&& 31)) = nI (sqO C0 K W (k + 1)) := by rw [sqO, p5, o1]
    rw [e]
    refine ih (k + 1) fu _ (by omega) (by omega) (f1.sI _ _ _ (by omega)) (fun n x z => by rw [gI_I, if_neg (by omega)]; exact f2 n x z) (fun j hj => ?_)
    rw [gI_I]
    by_cases z : j = k
    · rw [if_pos ⟨rfl, z⟩, z]
    · rw [if_neg (by omega)]; exact f3 j (by omega)
theorem p_settle {C R : Mem} {c : Nat} {K : Kt} (hc : shC c = 0) (hC : IsC C c K) (hR : IsR R 0 K) (hw : WFK K) : ∃ W C' R', W < 2 ^ nK K 3 ∧ f_X3_settle c C = some ((), C') ∧ f_X12_laysOrders R = some (nI W, R') ∧ FoC C C' ∧ FoR R R' ∧ gI C' 21 2 = nI (popI (nI W)) ∧ DI W 0 K C' R' ∧ ∀ j, j < popI (nI W) → gI C' 23 j = nI (foN C' K W (sqO C' K W j)) := by
  have hn := hw.n3
  have h6 := pow_le6 hn.2
  obtain ⟨e1, e2⟩ := setB_val (fun i => decide (K 14 i = 0)) (n := nK K 3) (by omega)
  generalize vP (fun i => decide (K 14 i = 0)) (nK K 3) = W at e1 e2
  have h0 : FoC C (sI C 21 2 (nI (popI (nI W)))) := FoC.rf.sI _ _ _ (by omega)
  obtain ⟨C1, R1, a1, a2, a3, a4, a5, a6⟩ := lays_L hc hw (W := W) (by omega) W fz (sI C 21 2 (nI (popI (nI W)))) R (by omega) (by rw [fz_is]; omega) (hC.fo hc hw h0) hR (fun t t1 t2 t3 => by
    have := (sub_all t t1 W (by omega)).2 t2
    omega)
  have hcn : gI C1 21 2 = nI (popI (nI W)) := (a4 _ _ (by omega)).trans (gI_same _ _ _ _)
  obtain ⟨C2, b1, b2, b3, b4⟩ := rows_L hc (hC.fo hc hw (h0.tr a3)) hw e2 a6 hcn (popI (nI W)) 0 fz C1 (by omega) (by have := pop_le (nI W); rw [fz_is]; omega) FoC.rf (fun _ _ _ => rfl) (fun j hj => by omega)
  have e22 : ∀ x, gI C2 22 x = gI C1 22 x := fun x => b3 22 x (by omega)
  have b1' : f_X3_settle_L54 c (nI W) fz 0 0 C1 = some ((), C2) := b1
  refine ⟨W, C2, R1, e2, ?_, ?_, (h0.tr a3).tr b2, a5, (b3 _ _ (by omega)).trans hcn, a6.cg e22, fun j hj => by rw [sqO_cg e22, foN_cg e22]; exact b4 j hj⟩
  · rw [f_X3_settle, p_setOfFate hc hC hw, bnd_some, e1, p_bitCount (by omega), bnd_some, letF, a1, bnd_some, b1', bnd_some]
  · rw [f_X12_laysOrders, r_peopleThat hR hw (by decide), bnd_some, e1, a2, bnd_some]
theorem r_bestAt_L {C R : Mem} {W k0 : Nat} {K : Kt} (hR : IsR R 0 K) (hw : WFK K) (hW : W < 2 ^ nK K 3) (hD : DI W 0 K C R) (hk : k0 < popI (nI W)) : ∀ d i fu b4, i + d = k0 → d + 1 < fu → f_X12_bestAt_L38 (nI k0) (nI W) fu (nI (sqO C K W i)) b4 (nI i) R = some (nI (foN C K W (sqO C K W k0)), R) := by
  have hn := hw.n3
  have h6 := pow_le6 hn.2
  have hp6 := pop_sz _ hn.2 W (by omega) hW
  have one : ∀ i fu b4, i ≤ k0 → f_X12_bestAt_L38 (nI k0) (nI W) (fu + 1) (nI (sqO C K W i)) b4 (nI i) R = f_X12_bestAt_L38 (nI k0) (nI W) fu (nI (sqO C K W (i + 1))) (nI (foN C K W (sqO C K W i))) (nI (i + 1)) R := by
    intro i fu b4 hi
    obtain ⟨s1, s2, s3⟩ := sq_in hw hW hD i (by omega)
    obtain ⟨p, p1, p2, p3, p4, p5, -⟩ := fo_ex hw hW hD s1 s2 (by omega)
    obtain ⟨o1, -, -⟩ := or_is _ s1 p (by omega)
    have e : nI (sqO C K W i) ||| ((1 : Int32) <<< (nI (foN C K W (sqO C K W i)) &&& 31)) = nI (sqO C K W (i + 1)) := by rw [sqO, p5, o1]
    rw [f_X12_bestAt_L38, if_neg (nI_nlt hi (by omega)), r_bits (by omega), bnd_some, letF, hR.warm, r_first hR hw hW hD s1 s2 (by omega), bnd_some, letF, letF, nI_s, e]
  intro d
  induction d with
  | zero =>
    intro i fu b4 h1 h2
    obtain ⟨fu, rfl⟩ : ∃ k, fu = k + 1 + 1 := ⟨fu - 2, by omega⟩
    have e : i = k0 := by omega
    subst e
    rw [one i (fu + 1) b4 (Nat.le_refl _), f_X12_bestAt_L38, if_pos (nI_lt (by omega) (by omega))]
  | succ d ih =>
    intro i fu b4 h1 h2
    obtain ⟨fu, rfl⟩ : ∃ k, fu = k + 1 := ⟨fu - 1, by omega⟩
    rw [one i fu b4 (by omega)]
    exact ih (i + 1) fu _ (by omega) (by omega)
section BEST
variable {C R : Mem}
theorem m_best (h : Rel C R) : OK2 (f_X11_best C) (f_X12_best R) := by
  obtain ⟨hs, ho⟩ := h
  obtain ⟨K, hw, hC, hR, h0, h1⟩ := ho.get
  obtain ⟨W, C', R', a1, a2, a3, a4, a5, a6, a7, a8⟩ := p_settle h0 hC hR hw
  obtain ⟨f, f1, f2, f3, -⟩ := a7 0 (by decide) (sub_iff.mpr (fun i _ z => by rw [Nat.zero_testBit] at z; cases z)) (Nat.zero_le _)
  rw [f_X11_best, f_X12_best, if_neg (nn h0), a2, bnd_some, a3, bnd_some, f_X3_mostFree, show (0 : Int32) = nI 0 from rfl, p_cell zC_22 (by decide) (by decide), bnd_some, bnd_some, f2, f3]
  exact fin_giv hs a4.sq a5.sq (ho.cg a4.eq a5.eq) _
theorem m_bestAt (h : Rel C R) (a : Int32) : OK2 (f_X11_bestAt a C) (f_X12_bestAt a R) := by
  obtain ⟨hs, ho⟩ := h
  obtain ⟨K, hw, hC, hR, h0, h1⟩ := ho.get
  have hn := hw.n3
  have h6 := pow_le6 hn.2
  rw [f_X11_bestAt, f_X12_bestAt]
  by_cases ha : 0 ≤ a
  · obtain ⟨W, C', R', a1, a2, a3, a4, a5, a6, a7, a8⟩ := p_settle h0 hC hR hw
    have hp6 := pop_sz _ hn.2 W (by omega) a1
    rw [if_pos ha, if_pos ha, if_neg (nn h0), a2, bnd_some, a3, bnd_some, a6, r_bits (by omega), bnd_some]
    rcases ix a (n := popI (nI W)) (by omega) with hx | ⟨k, hk, rfl⟩
    · rw [withinF _ _ rfl hx, bnd_some, if_pos i00, if_neg (show ¬ a < nI (popI (nI W)) from ?_)]
      · exact fin_ref hs a4.sq a5.sq (ho.cg a4.eq a5.eq) 6
      · rcases hx with hx | hx
        · exact absurd ha (Int32.not_le.mpr hx)
        · exact Int32.not_lt.mpr hx
    · have r0 := r_bestAt_L (C := C') (hR.fo hw a5) hw a1 a7 hk k 0 fz (-1) (by omega) (by rw [fz_is]; omega)
      have r1 : f_X12_bestAt_L38 (nI k) (nI W) fz 0 (-1) 0 R' = some (nI (foN C' K W (sqO C' K W k)), R') := r0
      rw [withinT _ _ rfl (by omega) hk, bnd_some, if_neg i10, p_cell zC_23 (show k < 6 by omega) (by decide), bnd_some, a8 k hk, if_pos (nI_lt hk (by omega)), r1, bnd_some]
      exact fin_giv hs a4.sq a5.sq (ho.cg a4.eq a5.eq) _
  · rw [if_neg ha, if_neg ha]
    exact fin_ref hs SqC.rf SqR.rf ho 1
end BEST
