/-! GAMES: the reference, level by level -/
def cdx (P S x : Nat) : Nat := if x = P * (1 + S) then 36 else x / (1 + S) * 6 + x % (1 + S)
theorem cd_tbl : ∀ P, P ≤ 6 → ∀ S, S ≤ 5 → (List.range' 0 37).filter (fun m => decide (m = 36) || (decide (m / 6 < P) && decide (m % 6 ≤ S))) = (List.range' 0 (P * (1 + S) + 1)).map (cdx P S) := by decide +kernel
def cdK (K : Kt) (x : Nat) : Nat := cdx (nK K 3) (nK K 0) x
def dnK (K : Kt) : Nat := nK K 3 * (1 + nK K 0)
def rvF (K : Kt) (x d : Nat) : List Nat := (List.range' x d).filter (fun x => lgm K (cdK K x))
theorem dn_le {K : Kt} (hw : WFK K) : dnK K ≤ 36 := by
  have := hw.n3
  have := hw.n0
  unfold dnK
  exact Nat.mul_le_mul (show nK K 3 ≤ 6 by omega) (show 1 + nK K 0 ≤ 6 by omega)
theorem mv_rv {K : Kt} (hw : WFK K) : mvF K 0 37 = (rvF K 0 (dnK K + 1)).map (cdK K) := by
  have h3 := hw.n3
  have h0 := hw.n0
  have e : (List.range' 0 37).filter (lgm K) = ((List.range' 0 37).filter (fun m => decide (m = 36) || (decide (m / 6 < nK K 3) && decide (m % 6 ≤ nK K 0)))).filter (lgm K) := by
    rw [List.filter_filter]
    refine List.filter_congr (fun m _ => ?_)
    cases h : lgm K m with
    | false => rfl
    | true =>
      unfold lgm at h
      rw [Bool.or_eq_true] at h
      rw [Bool.true_and]
      rcases h with h | h
      · rw [h]; rfl
      · obtain ⟨a, b, c⟩ := leg_p h
        rw [decide_eq_true a, decide_eq_true c]; simp
  unfold mvF rvF
  rw [e, cd_tbl _ h3.2 _ h0.2, List.filter_map]
  rfl
theorem rvF_s (K : Kt) (x d : Nat) : rvF K x (d + 1) = if lgm K (cdK K x) = true then x :: rvF K (x + 1) d else rvF K (x + 1) d := by
  unfold rvF
  rw [List.range'_succ, List.filter_cons]
theorem cd_in {K : Kt} (hw : WFK K) {x : Nat} (hx : x < dnK K) : ¬ x = nK K 3 * (1 + nK K 0) ∧ cdK K x = x / (1 + nK K 0) * 6 + x % (1 + nK K 0) ∧ x / (1 + nK K 0) < nK K 3 ∧ x % (1 + nK K 0) ≤ nK K 0 ∧ cdK K x < 36 ∧ cdK K x / 6 = x / (1 + nK K 0) ∧ cdK K x % 6 = x % (1 + nK K 0) := by
  have h3 := hw.n3
  have h0 := hw.n0
  unfold dnK at hx
  have n1 : ¬ x = nK K 3 * (1 + nK K 0) := by omega
  have p1 : x / (1 + nK K 0) < nK K 3 := Nat.div_lt_of_lt_mul (by rw [Nat.mul_comm]; exact hx)
  have p2 : x % (1 + nK K 0) < 1 + nK K 0 := Nat.mod_lt _ (by omega)
  have e : cdK K x = x / (1 + nK K 0) * 6 + x % (1 + nK K 0) := by unfold cdK cdx; rw [if_neg n1]
  generalize x / (1 + nK K 0) = p at *
  generalize x % (1 + nK K 0) = r at *
  exact ⟨n1, e, p1, by omega, by omega, by omega, by omega⟩
theorem r_deeds {R : Mem} {K : Kt} (hR : IsR R 0 K) (hw : WFK K) : f_X12_deeds R = some (nI (dnK K), R) := by
  rw [f_X12_deeds, hR.cnt (by decide), hR.cnt (by decide), hw.n3.1, hw.n0.1, litI, nI_add, pk_mul]
  rfl
theorem r_deed {R0 R : Mem} {K : Kt} (h : InR R0 K R) (hw : WFK K) {x : Nat} (hx : x ≤ dnK K) : (lgm K (cdK K x) = false ∧ f_X12_doesDeed (nI x) R = some (0, R)) ∨ (lgm K (cdK K x) = true ∧ ∃ R', f_X12_doesDeed (nI x) R = some (1, R') ∧ InR R0 (apK K (cdK K x)) R') := by
  have h3 := hw.n3
  have h0 := hw.n0
  have hd := dn_le hw
  rw [f_X12_doesDeed, r_deeds h.1 hw, bnd_some]
  by_cases z : x = dnK K
  · have e : cdK K x = 36 := by unfold cdK cdx; rw [if_pos (show x = nK K 3 * (1 + nK K 0) from z)]
    rw [if_pos (by rw [z]), e]
    refine Or.inr ⟨rfl, R, rfl, ?_⟩
    unfold apK
    rw [if_pos rfl]
    exact h
  · obtain ⟨n1, e, p1, p2, e36, e6, e7⟩ := cd_in hw (x := x) (by omega)
    have s1 : (1 : Int32) + gI R 1 0 = nI (1 + nK K 0) := by rw [h.1.cnt (by decide), h0.1]; exact nI_add 1 _
    have d1 : nI x / nI (1 + nK K 0) = nI (x / (1 + nK K 0)) := pk_div (by omega) (by omega) (by omega)
    have d2 : nI x - nI x / nI (1 + nK K 0) * nI (1 + nK K 0) = nI (x % (1 + nK K 0)) := pk_rem (by omega) (by omega) (by omega)
    have nz : ¬ nI (1 + nK K 0) = 0 := nI_ne0 (by omega) (by omega)
    have hleg : lgm K (cdK K x) = if x % (1 + nK K 0) = 0 then decide (¬ K 12 (x / (1 + nK K 0)) = 99) else true := by
      unfold lgm legB
      rw [decide_eq_false (show ¬ cdK K x = 36 by omega), e6, e7, decide_eq_true p1, Bool.false_or, Bool.true_and]
      by_cases y : x % (1 + nK K 0) = 0
      · rw [if_pos y, if_pos y]
      · rw [if_neg y, if_neg y, decide_eq_true p2]
    have hap : apK K (cdK K x) = if x % (1 + nK K 0) = 0 then upK K 12 (x / (1 + nK K 0)) (K 12 (x / (1 + nK K 0)) + 1) else upK K 13 (x / (1 + nK K 0)) (xorS (K 13 (x / (1 + nK K 0))) (x % (1 + nK K 0) - 1)) := by
      unfold apK
      rw [if_neg (show ¬ cdK K x = 36 by omega), e6, e7]
    rw [if_neg (fun q => z (nI_inj (by omega) (by omega) q)), s1, if_neg nz, letF, if_neg nz, letF, d2, d1, hleg, hap]
    generalize x / (1 + nK K 0) = p at *
    generalize x % (1 + nK K 0) = r at *
    by_cases y : r = 0
    · subst y
      rw [if_pos rfl, if_pos rfl, if_neg (by decide)]
      obtain ⟨-, ⟨f, hf, hf2⟩, -⟩ := hw.2.2.2.1 p p1
      rcases r_meals h hw p1 1 with ⟨m1, m2⟩ | ⟨m1, R', m2, m3⟩
      · refine Or.inl ⟨by rw [m1]; rfl, ?_⟩
        rw [m2, bnd_some, if_neg (nn (Or.inl rfl))]
      · have f99 : f ≠ 99 := fun q => m1 (by rw [hf2, q]; rfl)
        have em : mnI 99 (K 12 p + 1) = K 12 p + 1 := by
          rw [hf2, nI_s]
          unfold mnI
          rcases Nat.lt_or_ge (f + 1) 99 with y9 | y9
          · rw [if_pos (show nI (f + 1) < (99 : Int32) from nI_lt (b := 99) y9 (by decide))]
          · rw [if_neg (show ¬ nI (f + 1) < (99 : Int32) from nI_nlt (b := 99) y9 (by omega)), show f + 1 = 99 by omega]
            rfl
        refine Or.inr ⟨decide_eq_true m1, R', ?_, by rw [em] at m3; exact m3⟩
        rw [m2, bnd_some, if_neg (nn (Or.inr rfl))]
    · have e1 : nI r - 1 = nI (r - 1) := pk_sub (b := 1) (by omega)
      rw [if_neg y, if_neg y, e1, if_pos (nI_pos' (by omega)), r_personOf1 (by omega), bnd_some, (h.1.per p1).2.1, r_isIn, bnd_some]
      cases q : inS (K 13 p) (nI (r - 1)) with
      | false =>
        rcases r_scents h hw p1 (r - 1) 1 with ⟨m1, -⟩ | ⟨m1, R', m2, m3⟩
        · rw [q] at m1; exact absurd m1 (by decide)
        · rw [bI_f, if_pos i00, m2, bnd_some, if_neg (nn (Or.inr rfl))]
          exact Or.inr ⟨rfl, R', rfl, m3⟩
      | true =>
        rcases r_scents h hw p1 (r - 1) 0 with ⟨m1, -⟩ | ⟨m1, R', m2, m3⟩
        · rw [q] at m1; exact absurd m1 (by decide)
        · rw [bI_t, if_neg i10, m2, bnd_some, if_neg (nn (Or.inr rfl))]
          exact Or.inr ⟨rfl, R', rfl, m3⟩
theorem iI_p1 (a : Int) : iI a + 1 = iI (a + 1) := by
  have h : (1 : Int32) = iI 1 := by decide
  rw [h, iI_add]
theorem iI_pm (a : Int) : iI a + -1 = iI (a + -1) := by
  have h : (-1 : Int32) = iI (-1) := by decide
  rw [h, iI_add]
theorem iI_p0 (a : Int) : iI a + 0 = iI (a + 0) := by
  have h : (0 : Int32) = iI 0 := by decide
  rw [h, iI_add]
theorem r_standing {R : Mem} {K : Kt} (hR : IsR R 0 K) (hw : WFK K) : f_X12_standing R = some (iI (stK K), R) := by
  have hn := hw.n3
  obtain ⟨wm, hw9, hwm⟩ := hw.2.2.2.2.2.2.1
  have key := loopN (fun fu (a : Int) i => f_X12_standing_L4 fu (iI a) (nI i) R) (nK K 3) (fun p a => a + wvI (mnK K p)) (fun a => some (iI a, R))
    (fun fu a => by
      try dsimp only
      rw [f_X12_standing_L4, hR.cnt (by decide), hn.1, if_pos (Int32.le_refl _)])
    (fun fu a i hi => by
      try dsimp only
      rw [f_X12_standing_L4, hR.cnt (by decide), hn.1, if_neg (nI_ge hi (by omega)), hR.warm, r_senseFor hR hw hi hwm hw9, bnd_some, show psenseK K i (K 20 0) = mnK K i from rfl]
      unfold wvI
      by_cases y : mnK K i = 2
      · rw [if_pos y, if_pos y, letF, letF, nI_s, iI_p1]
      · rw [if_neg y, if_neg y]
        by_cases y2 : mnK K i = 1
        · rw [if_pos y2, if_pos y2, letF, letF, nI_s, iI_pm]
        · rw [if_neg y2, if_neg y2, letF, letF, nI_s, iI_p0])
    (nK K 3) 0 0 fz (by omega) (by rw [fz_is]; omega)
  have key' : f_X12_standing_L4 fz 0 0 R = some (iI (stK K), R) := key
  rw [f_X12_standing, key', bnd_some]
/-- what a level holds as the best -/
def StR (R : Mem) (l : Nat) (st : Option (Int × Nat)) : Prop := match st with
  | none => gI R 16 l = -1
  | some s => gI R 16 l = nI s.2 ∧ gI R 15 l = iI s.1 ∧ -6 ≤ s.1 ∧ s.1 ≤ 6 ∧ s.2 ≤ 36
def seO (b : Bool) (st : Option (Int × Nat)) (v : Int) (y : Nat) : Option (Int × Nat) := match st with
  | none => some (v, y)
  | some s => if (if b = true then s.1 < v else v < s.1) then some (v, y) else some s
theorem lv_rd {l : Nat} (h : l < 4) : ¬ (nI l < 0 ∨ 4 ≤ (nI l).toNatClampNeg) ∧ (nI l).toNatClampNeg = l := ⟨nI_in h (by decide), nI_clamp (by omega)⟩
theorem r_settles {R : Mem} {l y : Nat} {v : Int} {st : Option (Int × Nat)} (hl : l < 4) (h14 : gI R 14 l = nI y) (hy : y ≤ 36) (hs : StR R l st) (h1 : -6 ≤ v) (h2 : v ≤ 6) : ∃ R', f_X12_settles (nI l) (iI v) R = some ((), R') ∧ StR R' l (seO (decide (l % 2 = 0)) st v y) ∧ (∀ n k, ¬ ((n = 15 ∨ n = 16) ∧ k = l) → gI R' n k = gI R n k) ∧ ∀ n k, gL R' n k = gL R n k := by
  obtain ⟨q1, q2⟩ := lv_rd hl
  have q1' : ¬ (nI l < 0 ∨ 4 ≤ l) := fun z => z.elim (nI_pos (by omega)) (by omega)
  have take : f_X12_settles_J50 (nI l) (iI v) R = some ((), sI (sI R 15 l (iI v)) 16 l (nI y)) := by
    rw [f_X12_settles_J50, if_neg q1, letF, if_neg q1, if_neg q1, letF, q2, gI_I, if_neg (by omega), h14]
  have took : StR (sI (sI R 15 l (iI v)) 16 l (nI y)) l (some (v, y)) := ⟨gI_same _ _ _ _, by rw [gI_I, if_neg (by omega), gI_same], h1, h2, hy⟩
  have fr : (∀ n k, ¬ ((n = 15 ∨ n = 16) ∧ k = l) → gI (sI (sI R 15 l (iI v)) 16 l (nI y)) n k = gI R n k) ∧ ∀ n k, gL (sI (sI R 15 l (iI v)) 16 l (nI y)) n k = gL R n k := ⟨fun n k z => by rw [gI_I, if_neg (by omega), gI_I, if_neg (by omega)], fun _ _ => rfl⟩
  have ev : nI l - nI l / 2 * 2 = nI (l % 2) := par2 (by omega)
  rw [f_X12_settles, if_neg q1, q2]
  cases st with
  | none =>
    have hs' : gI R 16 l = -1 := hs
    rw [hs', if_pos rfl, f_X12_settles_J15, if_neg i10, take]
    exact ⟨_, rfl, took, fr⟩
  | some s =>
    obtain ⟨a1, a2, a3, a4, a5⟩ : gI R 16 l = nI s.2 ∧ gI R 15 l = iI s.1 ∧ -6 ≤ s.1 ∧ s.1 ≤ 6 ∧ s.2 ≤ 36 := hs
    have stay : StR R l (some s) := ⟨a1, a2, a3, a4, a5⟩
    rw [a1, if_neg (nI_ne_m1 (by omega)), f_X12_settles_J15, if_pos i00, ev]
    unfold seO
    by_cases z : l % 2 = 0
    · rw [z, if_pos (show nI 0 = 0 from rfl), if_neg q1, q2, a2]
      simp only [decide_true, if_true]
      by_cases z2 : s.1 < v
      · rw [if_pos ((iI_lt (by omega) (by omega) (by omega) (by omega)).mpr z2), if_pos z2, take]
        exact ⟨_, rfl, took, fr⟩
      · rw [if_neg (fun q => z2 ((iI_lt (by omega) (by omega) (by omega) (by omega)).mp q)), if_neg z2]
        exact ⟨R, rfl, stay, fun _ _ _ => rfl, fun _ _ => rfl⟩
    · rw [if_neg (nI_ne0 (show 0 < l % 2 by omega) (by omega)), if_neg q1, q2, a2, decide_eq_false z]
      simp only [Bool.false_eq_true, if_false]
      by_cases z2 : v < s.1
      · rw [if_pos ((iI_lt (by omega) (by omega) (by omega) (by omega)).mpr z2), if_pos z2, take]
        exact ⟨_, rfl, took, fr⟩
      · rw [if_neg (fun q => z2 ((iI_lt (by omega) (by omega) (by omega) (by omega)).mp q)), if_neg z2]
        exact ⟨R, rfl, stay, fun _ _ _ => rfl, fun _ _ => rfl⟩
