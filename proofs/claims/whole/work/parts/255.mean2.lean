/-! LIFE: mean, all lives -/
section MEAN2
variable {C R Ci Ri : Mem}
theorem mean_all (ho : RelO C R) (hk : gI C (gR C 0 0 + 24) 0 = 1) {s N : Nat} (hN : N ≤ 20) (hs : s + N ≤ 10000) : ∀ d i t fu Ci Ri, i + d = N → d < fu → t ≤ 594 * i → MI C R Ci Ri →
    ∃ T C' R', f_X11_mean_L74 (nI s) (nI N) fu (nI t) (nI i) Ci = some (nI T, C') ∧ f_X12_mean_L71 (nI s) (nI N) fu (lN t) (nI i) Ri = some (lN T, R') ∧ T ≤ 594 * N ∧ MI C R C' R' := by
  obtain ⟨h0, h1⟩ := ho.1.sh
  intro d
  induction d with
  | zero =>
    intro i t fu Ci Ri h2 h3 h4 hi
    obtain ⟨fu, rfl⟩ : ∃ k, fu = k + 1 := ⟨fu - 1, by omega⟩
    have : i = N := by omega
    subst this
    exact ⟨t, Ci, Ri, by rw [f_X11_mean_L74, if_pos (Int32.le_refl _)], by rw [f_X12_mean_L71, if_pos (Int32.le_refl _)], h4, hi⟩
  | succ d ih =>
    intro i t fu Ci Ri h2 h3 h4 hi
    obtain ⟨fu, rfl⟩ : ∃ k, fu = k + 1 := ⟨fu - 1, by omega⟩
    obtain ⟨v, M35, M38, M43, R1, R2, a1, a2, a3, a4, a5, a6, a7, a8, a9, a10, a11⟩ := mean_step ho hk hi (x := s + i) (by omega)
    obtain ⟨T, C', R', b1, b2, b3, b4⟩ := ih (i + 1) (t + v) fu M43 R2 (by omega) (by omega) (by omega) a11
    have g0 : gR Ci 0 0 = gR C 0 0 := hi.1.2 _ _
    have g1 : gR Ci 0 1 = gR C 0 1 := hi.1.2 _ _
    have n1 : ¬ nI N ≤ nI i := nI_ge (by omega) (by omega)
    have a10' : f_X12_restores (2510 : Int32) R1 = some ((), R2) := a10
    refine ⟨T, C', R', ?_, ?_, b3, b4⟩
    · rw [f_X11_mean_L74, if_neg n1, g0, g1, if_neg (nn h1), if_neg (nn h0), a2, bnd_some, nI_add, a3, bnd_some, a4, if_neg (nn h1), if_neg (nn h1), a5, bnd_some, a6, if_neg (nn h1), a7, bnd_some, letF, letF, nI_add, nI_s, b1]
    · rw [f_X12_mean_L71, if_neg n1, nI_add, a8, bnd_some, a9, bnd_some, a10', bnd_some, letF, nI_s, b2]
theorem m_mean (h : Rel C R) (a b : Int32) : OK2 (f_X11_mean a b C) (f_X12_mean a b R) := by
  obtain ⟨hs, ho⟩ := h
  obtain ⟨K, hw, hsn, hC, hR, hN, hW, h0, h1⟩ := ho.get5
  rw [f_X11_mean, f_X12_mean]
  have den : ∀ s : Int32, ¬ s = 0 → OK2 (bnd (f_X11_denied s C) fun r M => if ¬ (r = 0 ∨ r = 1) then none else some (r, M)) (bnd (f_X12_is s R) fun r M => if ¬ (r = 0 ∨ r = 1) then none else some (r, M)) := fun s z => fin_den hs SqC.rf SqR.rf ho z
  rcases ix a (n := 10000) (by decide) with hx | ⟨s, hx, rfl⟩
  · rw [withinF 10000 10000 rfl hx, bnd_some, if_pos i00, r_from0F 10000 (by decide) hx (by decide), bnd_some, if_pos i00, f_X11_mean_J25, f_X11_mean_J26, if_pos rfl]
    exact den 1 (by decide)
  rw [withinT 10000 10000 rfl (by decide) hx, bnd_some, if_neg i10, r_from0T 10000 (by decide) hx (by decide), bnd_some, if_neg i10]
  by_cases hb1 : b < 1
  · have e : b.toInt < 1 := by rw [i_lt] at hb1; exact hb1
    rw [if_pos hb1, r_isFromF (lo := 1) (hi := 20) (Or.inl e), bnd_some, if_pos i00, f_X11_mean_J25, f_X11_mean_J26, if_pos rfl]
    exact den 1 (by decide)
  by_cases hb2 : 20 < b
  · have e : 20 < b.toInt := by rw [i_lt] at hb2; exact hb2
    rw [if_neg hb1, if_pos hb2, r_isFromF (lo := 1) (hi := 20) (Or.inr e), bnd_some, if_pos i00, f_X11_mean_J25, f_X11_mean_J26, if_pos rfl]
    exact den 1 (by decide)
  have e1 : ¬ b.toInt < 1 := by rw [i_lt] at hb1; exact hb1
  have e2 : ¬ 20 < b.toInt := by rw [i_lt] at hb2; exact hb2
  obtain ⟨N, hN2, rfl⟩ : ∃ N : Nat, (1 ≤ N ∧ N ≤ 20) ∧ b = nI N := by
    refine ⟨b.toInt.toNat, by omega, ?_⟩
    apply Int32.toInt_inj.mp
    rw [nI_toInt (by omega)]
    omega
  have e3 : nI s + nI N - 1 = nI (s + N - 1) := by
    rw [nI_add]
    exact pk_sub (b := 1) (by omega)
  rw [if_neg hb1, if_neg hb2, r_isFromT (lo := 1) (hi := 20) (by show (1 : Int) ≤ _; omega) (by show _ ≤ (20 : Int); omega), bnd_some, if_neg i10, f_X11_mean_J26, if_neg i10, e3]
  by_cases hsum : s + N - 1 ≤ 9999
  · have c1 : nI (s + N - 1) ≤ (9999 : Int32) := nI_le (b := 9999) hsum (by decide)
    rw [if_pos c1, if_pos c1, if_neg (nn h0)]
    have hW' := hW
    rcases hW' with ⟨w1, w2⟩ | ⟨w1, m, w2, w3, -⟩
    · rw [w1, if_pos rfl, show gI R 1 8 = -1 from w2, if_pos rfl]
      exact den 6 (by decide)
    have ne : ¬ gI C (gR C 0 0 + 24) 0 = 0 := by rw [w1]; decide
    have nm : ¬ gI R 1 8 = -1 := by rw [show gI R 1 8 = nI m from w3]; exact nI_ne_m1 (by omega)
    obtain ⟨R1, r1, r2, r3⟩ := r_keeps (o := 2510) (by decide) (by decide) R
    have r1' : f_X12_keeps (2510 : Int32) R = some ((), R1) := r1
    have mi : MI C R C R1 := by
      refine ⟨EqC.rf, SqC.rf, fun p q z => ⟨?_, r3 p q⟩, ⟨r3 _ _, r3 _ _, ?_, ?_⟩, fun k hk => ?_⟩
      · unfold scrR at z
        rw [r2, if_neg (by omega)]
      · rw [r2, if_neg (by omega)]
      · rw [r2, if_neg (by omega)]
      · rw [r2, if_pos (by omega), show 2510 + k - 2510 = k by omega]
    obtain ⟨T, C', R', b1, b2, b3, b4⟩ := mean_all ho w1 (s := s) (N := N) (by omega) (by omega) N 0 0 fz C R1 (by omega) (by rw [fz_is]; omega) (by omega) mi
    have b1' : f_X11_mean_L74 (nI s) (nI N) fz 0 0 C = some (nI T, C') := b1
    have b2' : f_X12_mean_L71 (nI s) (nI N) fz 0 0 R1 = some (lN T, R') := b2
    rw [if_neg ne, b1', bnd_some, if_neg nm, r1', bnd_some, b2', bnd_some, nI_l (by omega), nI_l (by omega)]
    obtain ⟨i1, i2, i3, i4, -⟩ := b4
    exact fin_frac hs i2 i4 (ho.cg i1 i3) (n := T) (d := N) (m := 1) (by omega) (by omega) (by omega) (by omega) rfl rfl (by rw [Nat.one_mul]) (by rw [Nat.one_mul])
  · have c1 : ¬ nI (s + N - 1) ≤ (9999 : Int32) := nI_ge (a := 9999) (b := s + N - 1) (by omega) (by omega)
    rw [if_neg c1, if_neg c1]
    exact den 1 (by decide)
end MEAN2
