/-! SWORN, POWER -/
theorem pop_full : ∀ k, k ≤ 6 → popI (nI (2 ^ k - 1)) = k := by decide +kernel
theorem pop_sz : ∀ n, n ≤ 6 → ∀ s, s < 64 → s < 2 ^ n → popI (nI s) ≤ n := by decide +kernel
theorem pop_out : ∀ n, n ≤ 6 → ∀ s, s < 64 → s < 2 ^ n → ∀ a, a < n → s.testBit a = false → popI (nI s) ≤ n - 1 := by decide +kernel
def swI (k n i : Nat) (bc br : Int32) (w : Int64) : Prop := (bc = br ∧ (∃ b, b < 2 ^ n ∧ bc = nI b ∧ popI (nI b) = k) ∧ ∃ x, x ≤ 2 ^ 30 ∧ w = lN x) ∨ (bc = 0 ∧ br = -1 ∧ w = -1 ∧ ∀ j, 1 ≤ j → j < i → ¬ popI (nI j) = k)
theorem sworn_L {C R : Mem} {K : Kt} (h0 : shC (gR C 0 0) = 0) (hC : IsC C (gR C 0 0) K) (hR : IsR R 0 K) (hw : WFK K) {k : Nat} (hk : k ≤ 6) : ∀ d i fu bc br w, i + d = 2 ^ nK K 4 → 1 ≤ i → d < fu → swI k (nK K 4) i bc br w → ∃ bc' br' w', f_X11_sworn_L45 (nI k) fu bc w (nI i) C = some (bc', C) ∧ f_X12_sworn_L27 (nI k) fu br w (nI i) R = some (br', R) ∧ swI k (nK K 4) (2 ^ nK K 4) bc' br' w' := by
  have hn := hw.n4
  have h6 := pow_le6 hn.2
  intro d
  induction d with
  | zero =>
    intro i fu bc br w hi h1 hf hI
    obtain ⟨fu, rfl⟩ : ∃ k, fu = k + 1 := ⟨fu - 1, by omega⟩
    have e : i = 2 ^ nK K 4 := by omega
    subst e
    refine ⟨bc, br, w, ?_, ?_, hI⟩
    · rw [f_X11_sworn_L45, if_neg (nn h0), p_count4, bnd_some, hC.1 4 (by decide), hn.1, p_setOfAll, bnd_some, set_is (by omega), if_pos (nI_lt (by omega) (by omega))]
    · rw [f_X12_sworn_L27, hR.cnt (by decide), hn.1, shl_is _ (by omega), if_pos (Int32.le_refl _)]
  | succ d ih =>
    intro i fu bc br w hi h1 hf hI
    obtain ⟨fu, rfl⟩ : ∃ k, fu = k + 1 := ⟨fu - 1, by omega⟩
    have hp := pop_le (nI i)
    have hRN := RN_le hw i
    have hsz := pop_sz _ hn.2 i (by omega) (by omega)
    rw [f_X11_sworn_L45, if_neg (nn h0), p_count4, bnd_some, hC.1 4 (by decide), hn.1, p_setOfAll, bnd_some, set_is (by omega), if_neg (nI_nlt (by omega) (by omega)), p_bitCount (by omega), bnd_some]
    rw [f_X12_sworn_L27, hR.cnt (by decide), hn.1, shl_is _ (by omega), if_neg (nI_ge (by omega) (by omega)), r_bits (by omega), bnd_some]
    by_cases e : popI (nI i) = k
    · have e3 : nI (popI (nI i)) = nI k := by rw [e]
      rw [if_pos e3, if_neg (nn h0), p_rightWeight h0 hC hw (by omega), bnd_some, f_X11_sworn_J85, if_pos e3, r_rightOf hR hw (by omega), bnd_some]
      by_cases z : w < lN (RN K i)
      · rw [if_neg (by rw [lg_cmp_le]; exact Int64.not_le.mpr z), if_pos (by rw [lg_cmp_gt]; exact z), letF, letF, nI_s]
        exact ih (i + 1) fu _ _ _ (by omega) (by omega) (by omega) (Or.inl ⟨rfl, ⟨i, by omega, rfl, e⟩, RN K i, hRN, rfl⟩)
      · rw [if_pos (by rw [lg_cmp_le]; exact Int64.not_lt.mp z), if_neg (by rw [lg_cmp_gt]; exact z), letF, letF, nI_s]
        refine ih (i + 1) fu _ _ _ (by omega) (by omega) (by omega) ?_
        rcases hI with hI | ⟨-, -, rfl, -⟩
        · exact Or.inl hI
        · refine absurd ?_ z
          rw [l_lt, pk_lT (by omega), show (-1 : Int64).toInt = -1 from by decide]
          omega
    · have e2 : ¬ nI (popI (nI i)) = nI k := fun z => e (nI_inj (by omega) (by omega) z)
      have zm : (-1 : Int64) ≤ w := by
        rcases hI with ⟨-, -, x, hx, rfl⟩ | ⟨-, -, rfl, -⟩
        · rw [l_le, pk_lT (by omega), show (-1 : Int64).toInt = -1 from by decide]
          omega
        · exact Int64.le_refl _
      rw [if_neg e2, f_X11_sworn_J85, if_pos (by rw [lg_cmp_le]; exact zm), if_neg e2, letF, letF, nI_s]
      refine ih (i + 1) fu _ _ _ (by omega) (by omega) (by omega) ?_
      rcases hI with hI | ⟨a, b, c, hj⟩
      · exact Or.inl hI
      · refine Or.inr ⟨a, b, c, fun j j1 j2 => ?_⟩
        by_cases ej : j = i
        · rw [ej]; exact e
        · exact hj j j1 (by omega)
section SWORN
variable {C R : Mem}
theorem m_sworn (h : Rel C R) (a : Int32) : OK2 (f_X11_sworn a C) (f_X12_sworn a R) := by
  obtain ⟨hs, ho⟩ := h
  obtain ⟨K, hw, hC, hR, h0, h1⟩ := ho.get
  have hn := hw.n4
  have h6 := pow_le6 hn.2
  have hpos : 0 < 2 ^ nK K 4 := Nat.pow_pos (by decide)
  rw [f_X11_sworn, f_X12_sworn]
  by_cases ha : a < 1
  · rw [if_pos ha, r_isFromF (Or.inl (by rw [i_lt] at ha; exact ha)), bnd_some, if_pos i00]
    exact fin_ref hs SqC.rf SqR.rf ho 1
  rw [if_neg ha]
  have va : 1 ≤ a.toInt := by rw [i_lt] at ha; simp at ha; omega
  by_cases hb : a ≤ 6
  rotate_left
  · rw [if_neg hb, r_isFromF (Or.inr (by rw [i_le] at hb; simp at hb ⊢; omega)), bnd_some, if_pos i00]
    exact fin_ref hs SqC.rf SqR.rf ho 1
  have vb : a.toInt ≤ 6 := by rw [i_le] at hb; exact hb
  obtain ⟨k, hk, rfl⟩ := i_of (x := a) (n := 7) (by omega) (by omega) (by omega)
  rw [nI_toInt (by omega)] at va
  obtain ⟨bc, br, w, e1, e2, e3⟩ := sworn_L h0 hC hR hw (k := k) (by omega) (2 ^ nK K 4 - 1) 1 fz 0 (-1) (-1) (by omega) (by omega) (by rw [fz_is]; omega) (Or.inr ⟨rfl, rfl, rfl, fun j j1 j2 => by omega⟩)
  have e1' : f_X11_sworn_L45 (nI k) fz 0 (-1) 1 C = some (bc, C) := e1
  have e2' : f_X12_sworn_L27 (nI k) fz (-1) (-1) 1 R = some (br, R) := e2
  rw [if_pos hb, if_neg (nn h0), p_count4, bnd_some, hC.1 4 (by decide), hn.1, r_isFromT (by rw [nI_toInt (by omega)]; exact va) (by exact vb), bnd_some, if_neg i10, e2', bnd_some]
  by_cases hkn : k ≤ nK K 4
  · rw [if_pos (nI_le hkn (by omega)), e1', bnd_some]
    rcases e3 with ⟨e4, ⟨b, hb1, hb2, hb3⟩, -⟩ | ⟨-, -, -, hj⟩
    · refine fin_orN hs SqC.rf SqR.rf ho _ ?_
      rw [← e4, hb2, if_neg (nI_ne_m1 (by omega))]
    · refine absurd (pop_full k (by omega)) (hj (2 ^ k - 1) ?_ ?_)
      · have : 2 ^ 1 ≤ 2 ^ k := Nat.pow_le_pow_right (by decide) (by omega)
        omega
      · have h1 : 2 ^ k ≤ 2 ^ nK K 4 := Nat.pow_le_pow_right (by decide) hkn
        have h2 : 0 < 2 ^ k := Nat.pow_pos (by decide)
        omega
  · rw [if_neg (nI_ge (by omega) (by omega))]
    rcases e3 with ⟨e4, ⟨b, hb1, hb2, hb3⟩, -⟩ | ⟨-, e5, -, -⟩
    · have := pop_sz _ hn.2 b (by omega) hb1
      omega
    · rw [e5]
      refine fin_orN hs SqC.rf SqR.rf ho _ ?_
      rw [if_pos rfl]
end SWORN
def ordN (p : Nat) : Nat := foldN (fun i a => a * (i + 2)) (p - 1) 0 1
theorem ordN_le : ∀ p, p ≤ 6 → 0 < ordN p ∧ ordN p ≤ 720 := by decide +kernel
theorem p_ordersOf {p : Nat} (hp : p ≤ 6) (C : Mem) : f_X11_ordersOf (nI p) C = some (nI (ordN p), C) := by
  have key := loopN (fun fu a i => f_X11_ordersOf_L4 (nI p) fu (nI a) (nI (i + 2)) C) (p - 1) (fun i a => a * (i + 2)) (fun a => some (nI a, C))
    (fun fu a => by
      try dsimp only
      rw [f_X11_ordersOf_L4, if_pos (nI_lt (by omega) (by omega))])
    (fun fu a i hi => by
      try dsimp only
      rw [f_X11_ordersOf_L4, if_neg (nI_nlt (by omega) (by omega)), if_neg (show ¬ (6 : Int32) < nI (i + 2) from nI_nlt (a := 6) (by omega) (by omega)), letF, letF, pk_mul, nI_s])
    (p - 1) 0 1 fz (by omega) (by rw [fz_is]; omega)
  have key' : f_X11_ordersOf_L4 (nI p) fz 1 2 C = some (nI (ordN p), C) := key
  rw [f_X11_ordersOf, key', bnd_some]
theorem r_orders {p : Nat} (hp : p ≤ 6) (R : Mem) : f_X12_orders (nI p) R = some (lN (ordN p), R) := by
  have key := loopN (fun fu a i => f_X12_orders_L4 (nI p) fu (lN a) (nI (i + 2)) R) (p - 1) (fun i a => a * (i + 2)) (fun a => some (lN a, R))
    (fun fu a => by
      try dsimp only
      rw [f_X12_orders_L4, if_pos (nI_lt (by omega) (by omega))])
    (fun fu a i hi => by
      try dsimp only
      rw [f_X12_orders_L4, if_neg (nI_nlt (by omega) (by omega)), letF, letF, nI_l (by omega), l_mul, nI_s])
    (p - 1) 0 1 fz (by omega) (by rw [fz_is]; omega)
  have key' : f_X12_orders_L4 (nI p) fz 1 2 R = some (lN (ordN p), R) := key
  rw [f_X12_orders, key', bnd_some]
/-- votes with one reader more -/
theorem votS_or {K : Kt} (hw : WFK K) {s a : Nat} (hs : s < 64) (ha : a < nK K 4) (hb : s.testBit a = false) : votS K (nI s ||| ((1 : Int32) <<< (nI a &&& 31))) = nI (vS K s + vN K a) := by
  have hn := hw.n4
  have step1 : votS K (nI s ||| ((1 : Int32) <<< (nI a &&& 31))) = nI (foldN (fun j x => x + if (s.testBit j || decide (j = a)) = true then vN K j else 0) (nK K 4) 0 0) := by
    refine fold_nI (nK K 4) 0 0 (fun j x h1 h2 => ?_)
    rw [inS_bt _ (by omega), b_or, bt_one (by omega), bt_nI (by omega), (vN_is hw (by omega)).1]
    by_cases z : (s.testBit j || decide (j = a)) = true
    · rw [if_pos z, if_pos z, nI_add]
    · rw [if_neg z, if_neg z]; exact nI_add x 0
  have key : ∀ d i x y, y = x + (if a < i then vN K a else 0) → foldN (fun j x => x + if (s.testBit j || decide (j = a)) = true then vN K j else 0) d i y = foldN (fun j x => x + if s.testBit j = true then vN K j else 0) d i x + (if a < i + d then vN K a else 0) := by
    intro d
    induction d with
    | zero => intro i x y e; exact e
    | succ d ih =>
      intro i x y e
      rw [foldN, foldN, show i + (d + 1) = i + 1 + d by omega]
      refine ih (i + 1) _ _ ?_
      subst e
      by_cases z : i = a
      · subst z
        have q1 : ¬ i < i := by omega
        have q2 : i < i + 1 := by omega
        rw [hb, if_neg q1, if_pos q2]
        simp
      · have q0 : decide (i = a) = false := decide_eq_false z
        rw [q0, Bool.or_false]
        by_cases z2 : a < i
        · have q2 : a < i + 1 := by omega
          rw [if_pos z2, if_pos q2]
          omega
        · have q2 : ¬ a < i + 1 := by omega
          rw [if_neg z2, if_neg q2]
          omega
  rw [step1, key (nK K 4) 0 0 0 (by simp), Nat.zero_add, if_pos ha]
  rfl
theorem votA_is {K : Kt} (hw : WFK K) : votA K = nI (vS K (2 ^ nK K 4 - 1)) := by
  have hn := hw.n4
  have h6 := pow_le6 hn.2
  rw [← votS_all hw, hn.1, set_is (by omega), votS_nI hw (by omega)]
def pwT (K : Kt) (a s : Nat) : Nat := if s.testBit a = true then 0 else if vS K (2 ^ nK K 4 - 1) < 2 * vS K s then 0 else if 2 * (vS K s + vN K a) ≤ vS K (2 ^ nK K 4 - 1) then 0 else ordN (popI (nI s)) * ordN (nK K 4 - 1 - popI (nI s))
theorem pwT_le {K : Kt} (hw : WFK K) (a : Nat) {s : Nat} (hs : s < 2 ^ nK K 4) : pwT K a s ≤ 720 * 720 := by
  have hn := hw.n4
  have h6 := pow_le6 hn.2
  have hp := pop_sz _ hn.2 s (by omega) hs
  have h1 := (ordN_le (popI (nI s)) (by omega)).2
  have h2 := (ordN_le (nK K 4 - 1 - popI (nI s)) (by omega)).2
  unfold pwT
  split
  · omega
  · split
    · omega
    · split
      · omega
      · exact Nat.mul_le_mul h1 h2
theorem power_C {C : Mem} {K : Kt} (h0 : shC (gR C 0 0) = 0) (hC : IsC C (gR C 0 0) K) (hw : WFK K) {a : Nat} (ha : a < nK K 4) : f_X11_power_L45 (nI a) (nI (nK K 4)) (nI (vS K (2 ^ nK K 4 - 1))) fz 0 0 C = some (nI (foldN (fun s x => x + pwT K a s) (2 ^ nK K 4) 0 0), C) := by
  have hn := hw.n4
  have h6 := pow_le6 hn.2
  have hpos : 0 < 2 ^ nK K 4 := Nat.pow_pos (by decide)
  have hV := vS_le hw (2 ^ nK K 4 - 1)
  have hA := (vN_is hw ha).2.2
  have key := loopN (fun fu x i => f_X11_power_L45 (nI a) (nI (nK K 4)) (nI (vS K (2 ^ nK K 4 - 1))) fu (nI x) (nI i) C) (2 ^ nK K 4) (fun s x => x + pwT K a s) (fun x => some (nI x, C))
    (fun fu x => by
      try dsimp only
      rw [f_X11_power_L45, p_setOfAll, bnd_some, set_is (by omega), if_pos (nI_lt (by omega) (by omega))])
    (fun fu x i hi => by
      have hI := vS_le hw i
      try dsimp only
      rw [f_X11_power_L45, p_setOfAll, bnd_some, set_is (by omega), if_neg (nI_nlt (by omega) (by omega)), p_isIn, bnd_some, inS_nI (by omega) (by omega), pwT]
      cases e : i.testBit a with
      | true => rw [bI_t, if_neg i10, f_X11_power_J101, f_X11_power_J102, if_pos i00, letF, nI_s, if_pos rfl, Nat.add_zero x]
      | false =>
        rw [bI_f, if_pos i00, if_neg (nn h0), p_votesOf h0 hC hw, bnd_some, votS_nI hw (by omega), show (2 : Int32) * nI (vS K i) = nI (2 * vS K i) from pk_mul 2 _, if_neg (show ¬ false = true by decide)]
        by_cases z : vS K (2 ^ nK K 4 - 1) < 2 * vS K i
        · rw [if_pos (nI_lt z (by omega)), f_X11_power_J101, f_X11_power_J102, if_pos i00, letF, nI_s, if_pos z, Nat.add_zero x]
        · rw [if_neg (nI_nlt (by omega) (by omega)), if_neg (nn h0), p_votesOf h0 hC hw, bnd_some, votS_or hw (by omega) ha e, show (2 : Int32) * nI (vS K i + vN K a) = nI (2 * (vS K i + vN K a)) from pk_mul 2 _, if_neg z]
          by_cases z2 : 2 * (vS K i + vN K a) ≤ vS K (2 ^ nK K 4 - 1)
          · rw [if_pos (nI_le z2 (by omega)), f_X11_power_J101, f_X11_power_J102, if_pos i00, letF, nI_s, if_pos z2, Nat.add_zero x]
          · have hp := pop_out _ hn.2 i (by omega) hi a ha e
            rw [if_neg (nI_ge (by omega) (by omega)), f_X11_power_J102, if_neg i10, p_bitCount (by omega), bnd_some, p_ordersOf (by omega), bnd_some, show nI (nK K 4) - 1 = nI (nK K 4 - 1) from pk_sub (b := 1) (by omega), pk_sub hp, p_ordersOf (by omega), bnd_some, letF, letF, pk_mul, nI_add, nI_s, if_neg z2])
    (2 ^ nK K 4) 0 0 fz (by omega) (by rw [fz_is]; omega)
  exact key
theorem power_R {R : Mem} {K : Kt} (hR : IsR R 0 K) (hw : WFK K) {a : Nat} (ha : a < nK K 4) : f_X12_power_L26 (nI a) (nI (nK K 4)) fz 0 0 R = some (lN (foldN (fun s x => x + pwT K a s) (2 ^ nK K 4) 0 0), R) := by
  have hn := hw.n4
  have h6 := pow_le6 hn.2
  have hV := vS_le hw (2 ^ nK K 4 - 1)
  obtain ⟨hA1, -, hA⟩ := vN_is hw ha
  have inner : ∀ (b3 : Int64) (s : Nat), s < 2 ^ nK K 4 → f_X12_power_L53 (nI a) (nI (nK K 4)) b3 (nI s) fz 0 0 R = some (nI (vS K s), R) := by
    intro b3 s hs
    have key := loopN (fun fu x i => f_X12_power_L53 (nI a) (nI (nK K 4)) b3 (nI s) fu (nI x) (nI i) R) (nK K 4) (fun i x => x + if s.testBit i = true then vN K i else 0) (fun x => some (nI x, R))
      (fun fu x => by
        try dsimp only
        rw [f_X12_power_L53, if_pos (Int32.le_refl _)])
      (fun fu x i hi => by
        try dsimp only
        rw [f_X12_power_L53, if_neg (nI_ge hi (by omega)), r_isIn, bnd_some, inS_nI (by omega) (by omega)]
        cases e : s.testBit i with
        | false => rw [bI_f, if_pos i00, letF, letF, nI_s, if_neg (by decide), show nI x + 0 = nI (x + 0) from nI_add x 0]
        | true => rw [bI_t, if_neg i10, r_votesOf hR hi (by omega), bnd_some, letF, letF, nI_s, (vN_is hw hi).1, nI_add, if_pos rfl])
      (nK K 4) 0 0 fz (by omega) (by rw [fz_is]; omega)
    exact key
  have key := loopN (fun fu x i => f_X12_power_L26 (nI a) (nI (nK K 4)) fu (lN x) (nI i) R) (2 ^ nK K 4) (fun s x => x + pwT K a s) (fun x => some (lN x, R))
    (fun fu x => by
      try dsimp only
      rw [f_X12_power_L26, shl_is _ (by omega), if_pos (Int32.le_refl _)])
    (fun fu x i hi => by
      have hI := vS_le hw i
      have a0 : lN x + 0 = lN (x + 0) := l_add x 0
      try dsimp only
      rw [f_X12_power_L26, shl_is _ (by omega), if_neg (nI_ge hi (by omega)), r_isIn, bnd_some, inS_nI (by omega) (by omega), pwT]
      cases e : i.testBit a with
      | true => rw [bI_t, if_neg i10, letF, nI_s, if_pos rfl, Nat.add_zero x]
      | false =>
        rw [bI_f, if_pos i00, inner _ i hi, bnd_some, r_allVotes hR hw, bnd_some, votA_is hw, show (2 : Int32) * nI (vS K i) = nI (2 * vS K i) from pk_mul 2 _, if_neg (show ¬ false = true by decide)]
        by_cases z : vS K (2 ^ nK K 4 - 1) < 2 * vS K i
        · rw [if_pos (nI_lt z (by omega)), f_X12_power_J123, f_X12_power_J124, if_pos i00, letF, letF, nI_s, if_pos z, a0]
        · rw [if_neg (nI_nlt (by omega) (by omega)), r_votesOf hR ha (by omega), bnd_some, r_allVotes hR hw, bnd_some, votA_is hw, hA1, nI_add, show (2 : Int32) * nI (vS K i + vN K a) = nI (2 * (vS K i + vN K a)) from pk_mul 2 _, if_neg z]
          by_cases z2 : 2 * (vS K i + vN K a) ≤ vS K (2 ^ nK K 4 - 1)
          · rw [if_pos (nI_le z2 (by omega)), f_X12_power_J123, f_X12_power_J124, if_pos i00, letF, letF, nI_s, if_pos z2, a0]
          · have hp := pop_out _ hn.2 i (by omega) hi a ha e
            rw [if_neg (nI_ge (by omega) (by omega)), f_X12_power_J124, if_neg i10, r_bits (by omega), bnd_some, r_orders (by omega), bnd_some, r_bits (by omega), bnd_some, show nI (nK K 4) - 1 = nI (nK K 4 - 1) from pk_sub (b := 1) (by omega), pk_sub hp, r_orders (by omega), bnd_some, letF, letF, l_mul, l_add, nI_s, if_neg z2])
    (2 ^ nK K 4) 0 0 fz (by omega) (by rw [fz_is]; omega)
  exact key
section POWER
variable {C R : Mem}
theorem m_power (h : Rel C R) (a : Int32) : OK2 (f_X11_power a C) (f_X12_power a R) := by
  obtain ⟨hs, ho⟩ := h
  obtain ⟨K, hw, hC, hR, h0, h1⟩ := ho.get
  have hn := hw.n4
  have h6 := pow_le6 hn.2
  have hpos : 0 < 2 ^ nK K 4 := Nat.pow_pos (by decide)
  rw [f_X11_power, f_X12_power, if_neg (nn h0)]
  rcases ix a (n := nK K 4) (by omega) with hx | ⟨j, hj, rfl⟩
  · rw [hasF 4 4 rfl hC hw (by decide) hx, bnd_some, if_pos i00, r_isF isReaderE hR hw (by decide) hx, bnd_some, if_pos i00]
    exact fin_den hs SqC.rf SqR.rf ho (by decide)
  have hsum := fold_le (g := fun s x => x + pwT K j s) (720 * 720) (2 ^ nK K 4) 0 0 (fun i x q1 q2 => by
    have := pwT_le hw j (s := i) (by omega)
    try dsimp only
    omega)
  have hsum2 : foldN (fun s x => x + pwT K j s) (2 ^ nK K 4) 0 0 ≤ 2 ^ 30 := by
    refine Nat.le_trans hsum ?_
    rw [Nat.zero_add]
    exact Nat.le_trans (Nat.mul_le_mul_left _ h6) (by decide)
  obtain ⟨o1, o2⟩ := ordN_le (nK K 4) hn.2
  rw [hasT 4 4 rfl hC hw (by decide) hj, bnd_some, if_neg i10, if_neg (nn h0), p_count4, bnd_some, if_neg (nn h0), hC.1 4 (by decide), hn.1, p_setOfAll, bnd_some, p_votesOf h0 hC hw, bnd_some, set_is (by omega), votS_nI hw (by omega), power_C h0 hC hw hj, bnd_some, p_ordersOf hn.2, bnd_some]
  rw [r_isT isReaderE hR hw (by decide) hj, bnd_some, if_neg i10, letF, hR.cnt (by decide), hn.1, power_R hR hw hj, bnd_some, r_orders hn.2, bnd_some]
  exact fin_frac hs SqC.rf SqR.rf ho (n := foldN (fun s x => x + pwT K j s) (2 ^ nK K 4) 0 0) (d := ordN (nK K 4)) (m := 1) o1 (by decide) (by omega) (by omega) (nI_l (by omega)) (nI_l (by omega)) (by rw [Nat.one_mul]) (by rw [Nat.one_mul])
end POWER
