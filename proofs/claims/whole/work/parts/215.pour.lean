/-! POUR -/
/-- one number put into a place of a tray, on both sides -/
theorem RelT.put {C R : Mem} (h : RelT C R) {j s k : Nat} (hj : j < 4) (hk : k < 60) (hs : s < 4) (x3 : gI C (5 + 2 * j) 0 = nI s) (v : Int64) (hv : cutS s v = v) : RelT (sL C (5 + 2 * j + 1) k v) (sL R 5 (60 * j + k) v) := by
  intro i hi
  rcases h i hi with ⟨x, y⟩ | ⟨s2, n2, y1, y2, y3, y4, y5, y6, y7⟩
  · exact Or.inl ⟨x, y⟩
  · refine Or.inr ⟨s2, n2, y1, y2, y3, y4, y5, y6, fun k2 hk2 => ?_⟩
    rw [gL_L, gL_L]
    by_cases z : i = j ∧ k2 = k
    · obtain ⟨rfl, rfl⟩ := z
      have es : s2 = s := nI_inj (by omega) (by omega) (y3.symm.trans x3)
      rw [if_pos (by omega), if_pos (by omega), es]
      exact ⟨rfl, hv⟩
    · rw [if_neg (by omega), if_neg (by omega)]
      exact y7 k2 hk2
def PoI (C0 R0 C R : Mem) : Prop := FrTC C0 C ∧ FrTR R0 R ∧ RelT C R ∧ (∀ n k, gI C n k = gI C0 n k) ∧ ∀ n k, gI R n k = gI R0 n k
theorem pour_L {C0 R0 : Mem} {i j s n1 n2 f t m : Nat} (hi : i < 4) (hj : j < 4) (hs : s < 4) (h1 : n1 ≤ 60) (h2 : n2 ≤ 60) (hf : f + m ≤ n1) (ht : t + m ≤ n2)
    (a1 : gI C0 (5 + 2 * i) 0 = nI s) (a2 : gI C0 (5 + 2 * j) 0 = nI s) (b1 : gI C0 (5 + 2 * i) 1 = nI n1) :
    ∀ d x fu C R, x + d = m → d < fu → PoI C0 R0 C R → ∃ C' R', f_X8_takeRun_L3 (5 + 2 * j) (5 + 2 * i) (nI f) (nI t) (nI m) fu (nI x) C = some ((), C') ∧ f_X12_pour_L118 (nI i) (nI f) (nI j) (nI t) (nI m) fu (nI x) R = some ((), R') ∧ PoI C0 R0 C' R' := by
  intro d
  induction d with
  | zero =>
    intro x fu C R q1 q2 hI
    obtain ⟨fu, rfl⟩ : ∃ k, fu = k + 1 := ⟨fu - 1, by omega⟩
    have e : x = m := by omega
    subst e
    exact ⟨C, R, by rw [f_X8_takeRun_L3, if_pos (Int32.le_refl _)], by rw [f_X12_pour_L118, if_pos (Int32.le_refl _)], hI⟩
  | succ d ih =>
    intro x fu C R q1 q2 hI
    obtain ⟨fu, rfl⟩ : ∃ k, fu = k + 1 := ⟨fu - 1, by omega⟩
    have step : ∀ y, y < m → ∃ C' R', f_X8_takeRun_J27 (f_X8_takeRun_L3 (5 + 2 * j) (5 + 2 * i) (nI f) (nI t) (nI m) fu) (5 + 2 * j) (5 + 2 * i) (nI f) (nI t) (nI m) (nI x) (nI y) C = some ((), C') ∧ f_X12_pour_J143 (f_X12_pour_L118 (nI i) (nI f) (nI j) (nI t) (nI m) fu) (nI i) (nI f) (nI j) (nI t) (nI m) (nI x) (nI y) R = some ((), R') ∧ PoI C0 R0 C' R' := by
      intro y hy
      obtain ⟨g1, g2, g3, g4, g5⟩ := hI
      have qf : ¬ (nI (f + y) < 0 ∨ 60 ≤ (nI (f + y)).toNatClampNeg) := nI_in (by omega) (by omega)
      have qt : ¬ (nI (t + y) < 0 ∨ 60 ≤ (nI (t + y)).toNatClampNeg) := nI_in (by omega) (by omega)
      obtain ⟨u1, u2⟩ := tr_rd (e := 60 * nI i + nI f + nI y) (j := 60 * i + (f + y)) (by rw [rowT, nI_add]; congr 1; omega) (by omega)
      obtain ⟨u3, u4⟩ := tr_rd (e := 60 * nI j + nI t + nI y) (j := 60 * j + (t + y)) (by rw [rowT, nI_add]; congr 1; omega) (by omega)
      have y3 : gI C (5 + 2 * j) 0 = nI s := (g4 _ _).trans a2
      have hv : gL C (5 + 2 * i + 1) (f + y) = gL R 5 (60 * i + (f + y)) ∧ cutS s (gL C (5 + 2 * i + 1) (f + y)) = gL C (5 + 2 * i + 1) (f + y) := by
        rcases g3 i hi with ⟨z, -⟩ | ⟨s2, m2, z1, z2, z3, z4, z5, z6, z7⟩
        · exact absurd (z.symm.trans ((g4 _ _).trans a1)).symm (nI_ne_m1 (by omega))
        · have es : s2 = s := nI_inj (by omega) (by omega) (z3.symm.trans ((g4 _ _).trans a1))
          have em : m2 = n1 := nI_inj (by omega) (by omega) (z5.symm.trans ((g4 _ _).trans b1))
          rw [← es, show 5 + 2 * i + 1 = 6 + 2 * i from by omega]
          exact z7 (f + y) (by omega)
      rw [f_X8_takeRun_J27, f_X12_pour_J143, nI_add, nI_add, f_X8_numberAt, withinT 60 60 rfl (by decide) (by omega), bnd_some, if_neg i10, if_neg qf, bnd_some, f_X8_putNumber, withinT 60 60 rfl (by decide) (by omega), bnd_some, if_neg i10, cut_cls j hs y3, bnd_some, if_neg qt, letF, bnd_some, letF, nI_clamp (by omega), nI_clamp (by omega), hv.2]
      rw [if_neg u1, if_neg u3, letF, letF, u2, u4, ← hv.1, nI_s]
      exact ih (x + 1) fu _ _ (by omega) (by omega) ⟨g1.sL _ _ _ (by omega), g2.sL _ _ _ (by omega), g3.put hj (by omega) hs y3 _ hv.2, fun n k => g4 n k, fun n k => g5 n k⟩
    have em : nI m - 1 - nI x = nI (m - 1 - x) := by rw [show nI m - 1 = nI (m - 1) from pk_sub (b := 1) (by omega), pk_sub (by omega)]
    have nx : ¬ nI m ≤ nI x := nI_ge (by omega) (by omega)
    rw [f_X8_takeRun_L3, if_neg nx, f_X12_pour_L118, if_neg nx, em]
    by_cases z : nI t ≤ nI f
    · rw [if_pos z, if_pos z]; exact step x (by omega)
    · rw [if_neg z, if_neg z]; exact step (m - 1 - x) (by omega)
theorem run_c {x y : Int32} {n : Nat} (hn : n ≤ 60) : (0 < lg_cmp (x.toInt64 + y.toInt64) ((nI n).toInt64)) ↔ (n : Int) < x.toInt + y.toInt := by
  rw [lg_cmp_gt, l_lt, lg_i2l_add, l_i, nI_toInt (by omega)]
theorem run_s {x : Int32} (hx : ¬ x < 0) {n : Nat} (hn : n ≤ 60) : (nI n - x).toInt = (n : Int) - x.toInt := by
  have h1 := x.toInt_lt
  rw [i_lt] at hx
  simp at hx
  rw [Int32.toInt_sub, nI_toInt (by omega), Int.bmod_def]
  omega
theorem run_r {x y : Int32} (hx : ¬ x < 0) {n : Nat} (hn : n ≤ 60) : (nI n - x < y) ↔ (n : Int) < x.toInt + y.toInt := by
  rw [i_lt, run_s hx hn]; omega
theorem run_r2 {x y : Int32} (hx : ¬ x < 0) {n : Nat} (hn : n ≤ 60) : (y ≤ nI n - x) ↔ x.toInt + y.toInt ≤ (n : Int) := by
  rw [i_le, run_s hx hn]; omega
theorem p_hasRun {C : Mem} {i n : Nat} (hn : n ≤ 60) (h : gI C (5 + 2 * i) 1 = nI n) (x y : Int32) : f_X8_hasRun (5 + 2 * i) x y C = some (bI (decide (x.toInt + y.toInt ≤ (n : Int))), C) := by
  rw [f_X8_hasRun, h]
  by_cases z : x.toInt + y.toInt ≤ (n : Int)
  · rw [if_neg (fun q => by have := (run_c hn).mp q; omega), decide_eq_true z]; rfl
  · rw [if_pos ((run_c hn).mpr (by omega)), decide_eq_false z]; rfl
section POUR
variable {C R : Mem}
theorem m_pour (h : Rel C R) (a b d e m : Int32) : OK2 (f_X11_pour a b d e m C) (f_X12_pour a b d e m R) := by
  obtain ⟨hs, ho⟩ := h
  rw [f_X11_pour, f_X12_pour]
  rcases ix a (n := 4) (by decide) with hx | ⟨i, hi, rfl⟩
  · rw [withinF 4 4 rfl hx, bnd_some, if_pos i00, r_isTrayF hx, bnd_some, if_pos i00]
    exact fin_den hs SqC.rf SqR.rf ho (by decide)
  rw [withinT 4 4 rfl (by decide) hi, bnd_some, if_neg i10, r_isTrayT hi, bnd_some, if_neg i10]
  rcases ix d (n := 4) (by decide) with hx | ⟨j, hj, rfl⟩
  · rw [withinF 4 4 rfl hx, bnd_some, if_pos i00, r_isTrayF hx, bnd_some, if_pos i00]
    exact fin_den hs SqC.rf SqR.rf ho (by decide)
  rw [withinT 4 4 rfl (by decide) hj, bnd_some, if_neg i10, r_isTrayT hj, bnd_some, if_neg i10]
  by_cases hb : b < 0
  · rw [if_pos hb, if_pos hb]
    exact fin_den hs SqC.rf SqR.rf ho (by decide)
  rw [if_neg hb, if_neg hb]
  by_cases he : e < 0
  · rw [if_pos he, if_pos he]
    exact fin_den hs SqC.rf SqR.rf ho (by decide)
  rw [if_neg he, if_neg he]
  by_cases hm : 0 ≤ m
  rotate_left
  · rw [if_neg hm, if_neg hm]
    exact fin_den hs SqC.rf SqR.rf ho (by decide)
  have qi : ¬ (nI i < 0 ∨ 4 ≤ (nI i).toNatClampNeg) := nI_in hi (by decide)
  have qj : ¬ (nI j < 0 ∨ 4 ≤ (nI j).toNatClampNeg) := nI_in hj (by decide)
  have ci : (nI i).toNatClampNeg = i := nI_clamp (by omega)
  have cj : (nI j).toNatClampNeg = j := nI_clamp (by omega)
  rw [if_pos hm, if_pos hm, p_trayAt hi, bnd_some, if_neg (nn (shC_tray hi)), p_trayAt hj, bnd_some, if_neg (nn (shC_tray hj)), f_X8_isMissing, if_neg qi]
  rcases ho.2.1 i hi with ⟨x, y⟩ | ⟨s, n1, s1, s2, s3, s4, s5, s6, -⟩
  · rw [if_pos x, bnd_some, if_neg i10, if_pos (by rw [ci]; exact y)]
    exact fin_den hs SqC.rf SqR.rf ho (by decide)
  rw [if_neg (by rw [s3]; exact nI_ne_m1 (by omega)), bnd_some, if_pos i00, if_neg (by rw [ci, s6]; exact nI_ne_m1 (by omega)), f_X8_isMissing, if_neg qj]
  rcases ho.2.1 j hj with ⟨x, y⟩ | ⟨t, n2, t1, t2, t3, t4, t5, t6, -⟩
  · rw [if_pos x, bnd_some, if_neg i10, if_pos (by rw [cj]; exact y)]
    exact fin_den hs SqC.rf SqR.rf ho (by decide)
  have mj : ¬ gI R 4 (nI j).toNatClampNeg = -1 := by rw [cj, t6]; exact nI_ne_m1 (by omega)
  rw [if_neg (by rw [t3]; exact nI_ne_m1 (by omega)), bnd_some, if_pos i00, if_neg mj, if_neg qi, if_neg qj]
  by_cases hst : s = t
  rotate_left
  · have hst2 : ¬ nI s = nI t := fun z => hst (nI_inj (by omega) (by omega) z)
    rw [if_neg (by rw [s3, t3]; exact hst2), if_neg (by rw [ci, cj, s4, t4]; exact hst2)]
    exact fin_den hs SqC.rf SqR.rf ho (by decide)
  subst hst
  rw [if_pos (by rw [s3, t3]), if_pos (by rw [ci, cj, s4, t4]), p_hasRun s2 s5, bnd_some, if_neg qi, ci, s6]
  by_cases z1 : b.toInt + m.toInt ≤ (n1 : Int)
  rotate_left
  · rw [decide_eq_false z1, bI_f, if_pos i00, if_pos ((run_r hb s2).mpr (by omega))]
    exact fin_den hs SqC.rf SqR.rf ho (by decide)
  rw [decide_eq_true z1, bI_t, if_neg i10, if_neg (fun q => by have := (run_r hb s2).mp q; omega), p_hasRun t2 t5, bnd_some, if_neg qj, cj, t6]
  by_cases z2 : e.toInt + m.toInt ≤ (n2 : Int)
  rotate_left
  · rw [decide_eq_false z2, bI_f, if_pos i00, if_neg (fun q => z2 ((run_r2 he t2).mp q))]
    exact fin_den hs SqC.rf SqR.rf ho (by decide)
  rw [decide_eq_true z2, bI_t, if_neg i10, if_pos ((run_r2 he t2).mpr z2), f_X8_takeRun]
  have vb : 0 ≤ b.toInt := by rw [i_lt] at hb; simp at hb; omega
  have ve : 0 ≤ e.toInt := by rw [i_lt] at he; simp at he; omega
  have vm : 0 ≤ m.toInt := by rw [i_le] at hm; simp at hm; omega
  obtain ⟨f, hf, rfl⟩ := i_of (x := b) (n := 61) vb (by omega) (by decide)
  obtain ⟨g, hg, rfl⟩ := i_of (x := e) (n := 61) ve (by omega) (by decide)
  obtain ⟨k, hk, rfl⟩ := i_of (x := m) (n := 61) vm (by omega) (by decide)
  rw [nI_toInt (by omega), nI_toInt (by omega)] at z1 z2
  obtain ⟨C', R', g1, g2, g3, g4, g5, -⟩ := pour_L (C0 := C) (R0 := R) hi hj s1 s2 t2 (f := f) (t := g) (m := k) (by omega) (by omega) s3 t3 s5 k 0 fz C R (by omega) (by rw [fz_is]; omega) ⟨FrTC.rf, FrTR.rf, ho.2.1, fun _ _ => rfl, fun _ _ => rfl⟩
  have g1' : f_X8_takeRun_L3 (5 + 2 * j) (5 + 2 * i) (nI f) (nI g) (nI k) fz 0 C = some ((), C') := g1
  have g2' : f_X12_pour_L118 (nI i) (nI f) (nI j) (nI g) (nI k) fz 0 R = some ((), R') := g2
  rw [g1', bnd_some, bnd_some, g2', bnd_some]
  exact fin_don hs g3.sq g4.sq (ho.trays g3 g4 g5)
end POUR
