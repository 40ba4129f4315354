/-! reach, idle, tells, mute: the answers -/
theorem WsC.eq {C C' : Mem} {F G : Nat → Nat} {U : Nat} (h : WsC C C' F G U) : EqC C C' := ⟨fun n k z => ⟨h.1.1 n k (by unfold scrC at z; omega), h.1.2.1 n k⟩, h.1.2.2⟩
theorem WsC.sq {C C' : Mem} {F G : Nat → Nat} {U : Nat} (h : WsC C C' F G U) : SqC C C' := ⟨h.1.2.1 _ _, h.1.2.1 _ _, h.1.1 _ _ (by omega), h.1.1 _ _ (by omega)⟩
theorem WrR.eq {R R' : Mem} {F G : Nat → Nat} (h : WrR R R' F G) : EqR R R' := fun n k z => ⟨h.1.1 n k (by unfold scrR at z; omega), h.1.2 n k⟩
theorem WrR.sq {R R' : Mem} {F G : Nat → Nat} (h : WrR R R' F G) : SqR R R' := ⟨h.1.2 _ _, h.1.2 _ _, h.1.1 _ _ (by omega), h.1.1 _ _ (by omega)⟩
theorem r_lays {R : Mem} {K : Kt} (hR : IsR R 0 K) (hw : WFK K) : ∃ R', f_X12_laysWorlds R = some ((), R') ∧ WrR R R' (tA K) (tG K) := by
  obtain ⟨R', a1, a2⟩ := r_laysWorlds hR hw
  exact ⟨R', a1, a2.fn (fun r _ => ⟨(tot_A K r).symm, (tot_G K r).symm⟩)⟩
theorem set_le {m n : Nat} (h : nI m = 0) (hm : m < 2 ^ 31) : m = 0 := by
  by_cases z : m = 0
  · exact z
  · exact absurd h (nI_ne0 (by omega) hm)
section REACH
variable {C R : Mem}
theorem m_reach (h : Rel C R) (a : Int32) : OK2 (f_X11_reach a C) (f_X12_reach a R) := by
  obtain ⟨hs, ho⟩ := h
  obtain ⟨K, hw, hC, hR, h0, h1⟩ := ho.get
  have hn := hw.n2
  rw [f_X11_reach, f_X12_reach, if_neg (nn h0)]
  rcases ix a (n := nK K 2) (by omega) with hx | ⟨j, hj, rfl⟩
  · rw [hasF 2 2 rfl hC hw (by decide) hx, bnd_some, if_pos i00, r_isF isRuleE hR hw (by decide) hx, bnd_some, if_pos i00]
    exact fin_ref hs SqC.rf SqR.rf ho 1
  obtain ⟨C', a1, a2⟩ := p_countIn h0 hC hw
  obtain ⟨R', b1, b2⟩ := r_lays hR hw
  obtain ⟨q1, q2⟩ := ni_rd (j := j) (by omega)
  rw [hasT 2 2 rfl hC hw (by decide) hj, bnd_some, if_neg i10, if_neg (nn h0), a1, bnd_some, p_cell zC_19 (by omega) (by decide), bnd_some, (a2.2.1 j (by omega)).1, r_isT isRuleE hR hw (by decide) hj, bnd_some, if_neg i10, b1, bnd_some, if_neg q1, q2, (b2.2 j (by omega)).1]
  exact fin_giv hs a2.sq b2.sq (ho.cg a2.eq b2.eq) _
theorem m_idle (h : Rel C R) : OK2 (f_X11_idle C) (f_X12_idle R) := by
  obtain ⟨hs, ho⟩ := h
  obtain ⟨K, hw, hC, hR, h0, h1⟩ := ho.get
  have hn := hw.n2
  obtain ⟨C', a1, a2⟩ := p_countIn h0 hC hw
  obtain ⟨R', b1, b2⟩ := r_lays hR hw
  have hC' := a2.isC hC h0 hw
  have hR' := b2.isR hR hw
  have g0 : gR C' 0 0 = gR C 0 0 := a2.1.2.2 _ _
  have k1 := loopN (fun fu a i => f_X11_idle_L15 fu a (nI i) C') (nK K 2) (fun i a => if decide (tA K i = 0) = true then a ||| ((1 : Int32) <<< (nI i &&& 31)) else a) (fun a => some (a, C'))
    (fun fu a => by
      try dsimp only
      rw [f_X11_idle_L15, g0, if_neg (nn h0), p_count2, bnd_some, hC'.1 2 (by decide), hn.1, if_pos (Int32.le_refl _)])
    (fun fu a i hi => by
      have le := tA_le K hw i
      try dsimp only
      rw [f_X11_idle_L15, g0, if_neg (nn h0), p_count2, bnd_some, hC'.1 2 (by decide), hn.1, if_neg (nI_ge hi (by omega)), p_cell zC_19 (by omega) (by decide), bnd_some, (a2.2.1 i (by omega)).1]
      by_cases z : tA K i = 0
      · rw [z, if_pos (show nI 0 = 0 from rfl), letF, letF, nI_s, if_pos (by decide)]
      · rw [if_neg (nI_ne0 (by omega) (by omega)), letF, nI_s, if_neg (by rw [decide_eq_false z]; decide)])
    (nK K 2) 0 0 fz (by omega) (by rw [fz_is]; omega)
  have k2 := loopN (fun fu a i => f_X12_idle_L8 fu a (nI i) R') (nK K 2) (fun i a => if decide (tA K i = 0) = true then a ||| ((1 : Int32) <<< (nI i &&& 31)) else a) (fun a => some (a, R'))
    (fun fu a => by
      try dsimp only
      rw [f_X12_idle_L8, hR'.cnt (by decide), hn.1, if_pos (Int32.le_refl _)])
    (fun fu a i hi => by
      have le := tA_le K hw i
      obtain ⟨q1, q2⟩ := ni_rd (j := i) (by omega)
      try dsimp only
      rw [f_X12_idle_L8, hR'.cnt (by decide), hn.1, if_neg (nI_ge hi (by omega)), if_neg q1, q2, (b2.2 i (by omega)).1]
      by_cases z : tA K i = 0
      · rw [z, if_pos (show nI 0 = 0 from rfl), letF, letF, nI_s, if_pos (by decide)]
      · rw [if_neg (nI_ne0 (by omega) (by omega)), letF, letF, nI_s, or0, if_neg (by rw [decide_eq_false z]; decide)])
    (nK K 2) 0 0 fz (by omega) (by rw [fz_is]; omega)
  have k1' : f_X11_idle_L15 fz 0 0 C' = _ := k1
  have k2' : f_X12_idle_L8 fz 0 0 R' = _ := k2
  rw [f_X11_idle, f_X12_idle, if_neg (nn h0), a1, bnd_some, k1', bnd_some, b1, bnd_some, k2', bnd_some]
  exact fin_giv hs a2.sq b2.sq (ho.cg a2.eq b2.eq) _
theorem m_mute (h : Rel C R) : OK2 (f_X11_mute C) (f_X12_mute R) := by
  obtain ⟨hs, ho⟩ := h
  obtain ⟨K, hw, hC, hR, h0, h1⟩ := ho.get
  obtain ⟨C', a1, a2⟩ := p_countIn h0 hC hw
  obtain ⟨R', b1, b2⟩ := r_lays hR hw
  rw [f_X11_mute, f_X12_mute, if_neg (nn h0), a1, bnd_some, a2.2.2, b1, bnd_some, (b2.2 8 (by decide)).1]
  exact fin_giv hs a2.sq b2.sq (ho.cg a2.eq b2.eq) _
theorem m_tells (h : Rel C R) (a : Int32) : OK2 (f_X11_tells a C) (f_X12_tells a R) := by
  obtain ⟨hs, ho⟩ := h
  obtain ⟨K, hw, hC, hR, h0, h1⟩ := ho.get
  have hn := hw.n2
  have hn1 := hw.n1
  rw [f_X11_tells, f_X12_tells, if_neg (nn h0)]
  rcases ix a (n := nK K 1) (by omega) with hx | ⟨c, hc, rfl⟩
  · rw [hasF 1 1 rfl hC hw (by decide) hx, bnd_some, if_pos i00, r_isF isCueE hR hw (by decide) hx, bnd_some, if_pos i00]
    exact fin_den hs SqC.rf SqR.rf ho (by decide)
  obtain ⟨C', a1, a2⟩ := p_countIn h0 hC hw
  obtain ⟨R', b1, b2⟩ := r_lays hR hw
  have hC' := a2.isC hC h0 hw
  have hR' := b2.isR hR hw
  have g0 : gR C' 0 0 = gR C 0 0 := a2.1.2.2 _ _
  have k1 := loopN (fun fu (s : Nat × Nat) i => f_X11_tells_L36 (nI c) fu (nI s.1) (nI s.2) (nI i) C') (nK K 2) (fun i s => if K 2 i = nI c then (s.1 + tA K i, s.2 + tG K i) else s) (fun s => some ((nI s.1, nI s.2), C'))
    (fun fu a => by
      try dsimp only
      rw [f_X11_tells_L36, g0, if_neg (nn h0), p_count2, bnd_some, hC'.1 2 (by decide), hn.1, if_pos (Int32.le_refl _)])
    (fun fu a i hi => by
      try dsimp only
      rw [f_X11_tells_L36, g0, if_neg (nn h0), p_count2, bnd_some, hC'.1 2 (by decide), hn.1, if_neg (nI_ge hi (by omega)), g0, if_neg (nn h0), p_ruleAt (by omega), bnd_some, if_neg (nn (shC_rule h0 (by omega))), hC'.2.2.1 i hi 0 (by decide), show K (2 + 0) i = K 2 i from rfl]
      by_cases z : K 2 i = nI c
      · rw [if_pos z, p_cell zC_19 (by omega) (by decide), bnd_some, (a2.2.1 i (by omega)).1, letF, p_cell zC_20 (by omega) (by decide), bnd_some, (a2.2.1 i (by omega)).2, letF, letF, nI_s, nI_add, nI_add, if_pos z]
      · rw [if_neg z, letF, nI_s, if_neg z])
    (nK K 2) 0 (0, 0) fz (by omega) (by rw [fz_is]; omega)
  have k2 := loopN (fun fu (s : Nat × Nat) i => f_X12_tells_L25 (nI c) fu (nI s.1) (nI s.2) (nI i) R') (nK K 2) (fun i s => if K 2 i = nI c then (s.1 + tA K i, s.2 + tG K i) else s) (fun s => some ((nI s.1, nI s.2), R'))
    (fun fu a => by
      try dsimp only
      rw [f_X12_tells_L25, hR'.cnt (by decide), hn.1, if_pos (Int32.le_refl _)])
    (fun fu a i hi => by
      obtain ⟨q1, q2⟩ := ni_rd (j := i) (by omega)
      have q1' : ¬ (nI i < 0 ∨ 9 ≤ i) := fun z => z.elim (nI_pos (by omega)) (by omega)
      try dsimp only
      rw [f_X12_tells_L25, hR'.cnt (by decide), hn.1, if_neg (nI_ge hi (by omega)), r_ruleOf0 (by omega), bnd_some, (hR'.rule hi).1]
      by_cases z : K 2 i = nI c
      · rw [if_pos z, if_neg q1, letF, if_neg q1, letF, q2, (b2.2 i (by omega)).1, (b2.2 i (by omega)).2, letF, nI_s, nI_add, nI_add, if_pos z]
      · rw [if_neg z, letF, nI_s, if_neg z])
    (nK K 2) 0 (0, 0) fz (by omega) (by rw [fz_is]; omega)
  have bnd : ∀ d i (s : Nat × Nat), i + d ≤ 8 → s.1 ≤ 13440 * i → s.2 ≤ s.1 → (foldN (fun i (s : Nat × Nat) => if K 2 i = nI c then (s.1 + tA K i, s.2 + tG K i) else s) d i s).1 ≤ 13440 * 8 ∧ (foldN (fun i (s : Nat × Nat) => if K 2 i = nI c then (s.1 + tA K i, s.2 + tG K i) else s) d i s).2 ≤ (foldN (fun i (s : Nat × Nat) => if K 2 i = nI c then (s.1 + tA K i, s.2 + tG K i) else s) d i s).1 := by
    intro d
    induction d with
    | zero => intro i s h1 h2 h3; exact ⟨by show s.1 ≤ _; omega, h3⟩
    | succ d ih =>
      intro i s h1 h2 h3
      rw [foldN]
      have l1 := tA_le K hw i
      have l2 := tG_le K hw i
      refine ih (i + 1) _ (by omega) ?_ ?_
      · split
        · show s.1 + tA K i ≤ _; omega
        · omega
      · split
        · show s.2 + tG K i ≤ s.1 + tA K i; omega
        · exact h3
  obtain ⟨l1, l2⟩ := bnd (nK K 2) 0 (0, 0) (by omega) (Nat.zero_le _) (Nat.le_refl _)
  generalize foldN (fun i (s : Nat × Nat) => if K 2 i = nI c then (s.1 + tA K i, s.2 + tG K i) else s) (nK K 2) 0 (0, 0) = t at k1 k2 l1 l2
  have k1' : f_X11_tells_L36 (nI c) fz 0 0 0 C' = some ((nI t.1, nI t.2), C') := k1
  have k2' : f_X12_tells_L25 (nI c) fz 0 0 0 R' = some ((nI t.1, nI t.2), R') := k2
  rw [hasT 1 1 rfl hC hw (by decide) hc, bnd_some, if_neg i10, if_neg (nn h0), a1, bnd_some, k1', bnd_some, r_isT isCueE hR hw (by decide) hc, bnd_some, if_neg i10, b1, bnd_some, k2', bnd_some]
  by_cases z : t.1 = 0
  · rw [z, if_pos (show nI 0 = 0 from rfl), if_pos (show nI 0 = 0 from rfl)]
    exact fin_den hs a2.sq b2.sq (ho.cg a2.eq b2.eq) (by decide)
  · rw [if_neg (nI_ne0 (by omega) (by omega)), if_neg (nI_ne0 (by omega) (by omega))]
    exact fin_frac hs a2.sq b2.sq (ho.cg a2.eq b2.eq) (n := t.2) (d := t.1) (m := 1) (by omega) (by decide) (by omega) (by omega) (nI_l (by omega)) (nI_l (by omega)) (by rw [Nat.one_mul]; exact nI_l (by omega)) (by rw [Nat.one_mul]; exact nI_l (by omega))
end REACH
