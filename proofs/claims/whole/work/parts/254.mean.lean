/-! LIFE: mean -/
def fdN (K : Kt) (p : Nat) : Nat := (K 12 p).toNatClampNeg
def fdS (K : Kt) : Nat := foldN (fun p a => a + fdN K p) (nK K 3) 0 0
theorem fdN_is {K : Kt} (hw : WFK K) {p : Nat} (hp : p < nK K 3) : K 12 p = nI (fdN K p) ∧ fdN K p ≤ 99 := by
  obtain ⟨-, ⟨f, hf, hf2⟩, -⟩ := hw.2.2.2.1 p hp
  unfold fdN
  rw [hf2, nI_clamp (by omega)]
  exact ⟨rfl, hf⟩
theorem fd_le {K : Kt} (hw : WFK K) : ∀ (d i a : Nat), i + d ≤ nK K 3 → foldN (fun p a => a + fdN K p) d i a ≤ a + 99 * d := by
  intro d
  induction d with
  | zero => intro i a _; exact Nat.le_refl _
  | succ d ih =>
    intro i a h
    have := ih (i + 1) (a + fdN K i) (by omega)
    have := (fdN_is hw (p := i) (by omega)).2
    rw [foldN]
    omega
theorem fdS_le {K : Kt} (hw : WFK K) : fdS K ≤ 594 := by
  have := fd_le hw (nK K 3) 0 0 (by omega)
  have := hw.n3
  unfold fdS
  omega
theorem p_allFed {C : Mem} {c : Nat} {K : Kt} (hc : shC c = 0) (h : IsC C c K) (hw : WFK K) : f_X0_allFed c C = some (nI (fdS K), C) := by
  have hn := hw.n3
  have key := loopN (fun fu (a : Nat) i => f_X0_allFed_L4 c fu (nI a) (nI i) C) (nK K 3) (fun p a => a + fdN K p) (fun a => some (nI a, C))
    (fun fu a => by
      try dsimp only
      rw [f_X0_allFed_L4, p_count3, bnd_some, h.1 3 (by decide), hn.1, if_pos (Int32.le_refl _)])
    (fun fu a i hi => by
      try dsimp only
      rw [f_X0_allFed_L4, p_count3, bnd_some, h.1 3 (by decide), hn.1, if_neg (nI_ge hi (by omega)), p_personAt (by omega), bnd_some, if_neg (nn (shC_per hc (by omega))), show gI C (c + 13 + 1 + i) 1 = K 12 i from h.2.2.2.1 i hi 1 (by decide), (fdN_is hw hi).1, letF, letF, nI_add, nI_s])
    (nK K 3) 0 0 fz (by omega) (by rw [fz_is]; omega)
  have key' : f_X0_allFed_L4 c fz 0 0 C = some (nI (fdS K), C) := key
  rw [f_X0_allFed, key', bnd_some]
theorem fd_shift (K : Kt) : ∀ (d i a b : Nat), foldN (fun p a => a + fdN K p) d i (a + b) = a + foldN (fun p a => a + fdN K p) d i b := by
  intro d
  induction d with
  | zero => intro i a b; rfl
  | succ d ih =>
    intro i a b
    rw [foldN, foldN, Nat.add_assoc, ih]
theorem r_allFed {R : Mem} {K : Kt} (h : IsR R 0 K) (hw : WFK K) (a1 a2 b5 : Int32) (t : Nat) : f_X12_mean_L88 a1 a2 b5 fz (lN t) 0 R = some (lN (t + fdS K), R) := by
  have hn := hw.n3
  have key := loopN (fun fu (a : Nat) i => f_X12_mean_L88 a1 a2 b5 fu (lN a) (nI i) R) (nK K 3) (fun p a => a + fdN K p) (fun a => some (lN a, R))
    (fun fu a => by
      try dsimp only
      rw [f_X12_mean_L88, h.cnt (by decide), hn.1, if_pos (Int32.le_refl _)])
    (fun fu a i hi => by
      try dsimp only
      have l1 := (fdN_is hw hi).2
      rw [f_X12_mean_L88, h.cnt (by decide), hn.1, if_neg (nI_ge hi (by omega)), r_personOf0 (by omega), bnd_some, show gI R 1 (72 + 5 * i + 0) = K 12 i from (h.per hi).1, (fdN_is hw hi).1, letF, letF, nI_l (by omega), lN_add, nI_s])
    (nK K 3) 0 t fz (by omega) (by rw [fz_is]; omega)
  have key' : f_X12_mean_L88 a1 a2 b5 fz (lN t) 0 R = some (lN (foldN (fun p a => a + fdN K p) (nK K 3) 0 t), R) := key
  have e := fd_shift K (nK K 3) 0 t 0
  rw [Nat.add_zero] at e
  rw [key', e]
  rfl
def MI (C R Ci Ri : Mem) : Prop := EqC C Ci ∧ SqC C Ci ∧ EqR R Ri ∧ SqR R Ri ∧ ∀ k, k < 134 → gI Ri 1 (2510 + k) = gI R 1 k
section MEAN
variable {C R Ci Ri : Mem}
theorem mean_step (ho : RelO C R) (hk : gI C (gR C 0 0 + 24) 0 = 1) (hi : MI C R Ci Ri) {x : Nat} (hx : x < 65536) : ∃ v M35 M38 M43 R1 R2, v ≤ 594 ∧ f_X0_copyFrom (gR C 0 1) (gR C 0 0) Ci = some ((), M35) ∧ f_X2_begin (nI x) M35 = some ((), M38) ∧ (∀ a b, gR M38 a b = gR C a b) ∧
    f_X2_runSteps 5 (gR C 0 1) 0 (gI M38 (gR C 0 1 + 24) 1) 0 M38 = some ((), M43) ∧ (∀ a b, gR M43 a b = gR C a b) ∧ f_X0_allFed (gR C 0 1) M43 = some (nI v, M43) ∧ f_X12_lives (nI x) Ri = some ((), R1) ∧ (∀ a1 a2 b5 t, f_X12_mean_L88 a1 a2 b5 fz (lN t) 0 R1 = some (lN (t + v), R1)) ∧ f_X12_restores 2510 R1 = some ((), R2) ∧ MI C R M43 R2 := by
  obtain ⟨i1, i2, i3, i4, i5⟩ := hi
  have hoi := ho.cg i1 i3
  obtain ⟨sp1, sp2⟩ := ho.1.sp
  obtain ⟨t1, t2⟩ := ho.1.two
  obtain ⟨K, hw, hsn, hC, hR, hN, hW, h0, h1⟩ := hoi.get5
  have g0 : gR Ci 0 0 = gR C 0 0 := i1.2 _ _
  have g1 : gR Ci 0 1 = gR C 0 1 := i1.2 _ _
  rw [g0] at hC hN hW h0
  rw [g1] at h1
  have lo := isC_lo h1
  have hki : gI Ci (gR C 0 0 + 24) 0 = 1 := by
    rw [(i1.1 _ _ (by unfold scrC; omega)).1]; exact hk
  obtain ⟨M35, c1, c2⟩ := p_copyCourt (a := gR C 0 1) (b := gR C 0 0) h1 h0 sp1 hC hw (Or.inr hki)
  have rk := RelK.copied (i := 0) (j := 0) hw hsn hC hR hN hW c2 (R' := Ri) (fun k _ => by rw [Nat.mul_zero]) (fun k _ => by rw [Nat.mul_zero])
  obtain ⟨K2, hw2, hsn2, hC2, hR2, hN2, hW2⟩ := rk
  have cpd := c2.2.2.1 24 0 (by omega) (by unfold cpP; omega)
  rcases hW2 with ⟨w1, w2⟩ | ⟨w1, m, w2, w3, w4, w5, w6, w7, w8⟩
  · rw [cpd, hki] at w1; exact absurd w1 (by decide)
  have ez : (fun k => gI Ri 1 (502 * 0 + 134 + k)) = fun k => gI Ri 1 (134 + k) := by funext k; rw [Nat.mul_zero, Nat.zero_add]
  rw [ez] at w5 w6 w7
  obtain ⟨n, M38, M43, R1, K', l1, l2, l3, l4, l5, l6, l7⟩ := lives2 (x := x) h1 hw2 hsn2 hC2 hR2 hx w2 w3 w5 w6 w7
  obtain ⟨v1, v2, v3, v4, v5, -⟩ := l7
  obtain ⟨R2, r1, r2, r3⟩ := r_restores (o := 2510) (by decide) (by decide) R1
  have keepR : ∀ k, k < 134 → gI R1 1 (2510 + k) = gI R 1 k := fun k hk => (v5.2.1 _ _ (by omega) (by omega) (by omega) (by omega)).trans (i5 k hk)
  have eM : ∀ a b, gR M43 a b = gR C a b := fun a b => (v4.2.2.2 a b).trans ((c2.2.1 a b).trans (i1.2 a b))
  refine ⟨fdS K', M35, M38, M43, R1, R2, fdS_le v1, c1, l2, fun a b => (l3 a b).trans ((c2.2.1 a b).trans (i1.2 a b)), l5, eM, p_allFed h1 v4.1 v1, l6, fun a1 a2 b5 t => r_allFed v5.1 v1 a1 a2 b5 t, r1, ⟨⟨fun a b z => ?_, eM⟩, ⟨?_, ?_, ?_, ?_⟩, fun a b z => ⟨?_, ?_⟩, ⟨?_, ?_, ?_, ?_⟩, fun k hk => ?_⟩⟩
  · have q := i1.1 a b z
    unfold scrC at z
    exact ⟨(v4.2.1 a b (by omega) (by omega)).trans ((c2.1 a b (by omega)).1.trans q.1), (v4.2.2.1 a b).trans ((c2.1 a b (by omega)).2.trans q.2)⟩
  · exact (v4.2.2.1 _ _).trans ((c2.1 _ _ (by omega)).2.trans i2.1)
  · exact (v4.2.2.1 _ _).trans ((c2.1 _ _ (by omega)).2.trans i2.2.1)
  · exact (v4.2.1 _ _ (by omega) (by omega)).trans ((c2.1 _ _ (by omega)).1.trans i2.2.2.1)
  · exact (v4.2.1 _ _ (by omega) (by omega)).trans ((c2.1 _ _ (by omega)).1.trans i2.2.2.2)
  · rw [r2]
    by_cases y : a = 1 ∧ b < 134
    · rw [if_pos y, keepR b y.2, y.1]
    · have q := (i3 a b z).1
      unfold scrR at z
      rw [if_neg y, v5.2.1 a b (by omega) (by omega) (by omega) (by omega), q]
  · exact (r3 a b).trans ((v5.2.2 a b).trans (i3 a b z).2)
  · exact (r3 _ _).trans ((v5.2.2 _ _).trans i4.1)
  · exact (r3 _ _).trans ((v5.2.2 _ _).trans i4.2.1)
  · rw [r2, if_neg (by omega), v5.2.1 _ _ (by omega) (by omega) (by omega) (by omega)]; exact i4.2.2.1
  · rw [r2, if_neg (by omega), v5.2.1 _ _ (by omega) (by omega) (by omega) (by omega)]; exact i4.2.2.2
  · rw [r2, if_neg (by omega), keepR k hk]
end MEAN
