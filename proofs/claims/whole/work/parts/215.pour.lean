/-! POUR -/
/-- one number put into a place of a tray, on both sides -/
theorem RelT.put {C R : Mem} (h : RelT C R) {j s k : Nat} (hj : j < 4) (hk : k < 60) (hs : s < 4) (x3 : gI C (5 + 2 * j) 0 = nI s) (v : Int64) (hv : cutS s v = v) : RelT (sL C (5 + 2 * j + 1) k v) (sL R 5 (60 * j + k) v) := by
  intro i hi
  rcases h i hi with ⟨x, y⟩ | ⟨s2, n2, y1, y2, y3, y4, y5, y6, y7⟩
  · exact Or.inl ⟨x, y⟩
  · refine Or.inr ⟨s2, n2, y1, y2, y3, y4, y5, y6, fun k2 hk2 => ?_⟩
    rw [gL_L, gL_L]
    by_cases z : i = j ∧ k2 = k
    · obtain ⟨rfl, rfl⟩ := z
      have es : s2 = s := nI_inj (by omega) (by omega) (y3.symm.trans x3)
      rw [if_pos (by omega), if_pos (by omega), es]
      exact ⟨rfl, hv⟩
    · rw [if_neg (by omega), if_neg (by omega)]
      exact y7 k2 hk2
def PoI (C0 R0 C R : Mem) : Prop := FrTC C0 C ∧ FrTR R0 R ∧ RelT C R ∧ (∀ n k, gI C n k = gI C0 n k) ∧ ∀ n k, gI R n k = gI R0 n k
theorem pour_L {C0 R0 : Mem} {i j s n1 n2 f t m : Nat} (hi : i < 4) (hj : j < 4) (hs : s < 4) (h1 : n1 ≤ 60) (h2 : n2 ≤ 60) (hf : f + m ≤ n1) (ht : t + m ≤ n2)
    (a1 : gI C0 (5 + 2 * i) 0 = nI s) (a2 : gI C0 (5 + 2 * j) 0 = nI s) (b1 : gI C0 (5 + 2 * i) 1 = nI n1) :
    ∀ d x fu C R, x + d = m → d < fu → PoI C0 R0 C R → ∃ C' R', f_X8_takeRun_L3 (5 + 2 * j) (5 + 2 * i) (nI f) (nI t) (nI m) fu (nI x) C = some ((), C') ∧ f_X12_pour_L118 (nI i) (nI f) (nI j) (nI t) (nI m) fu (nI x) R = some ((), R') ∧ PoI C0 R0 C' R' := by
  intro d
  induction d with
  | zero =>
    intro x fu C R q1 q2 hI
    obtain ⟨fu, rfl⟩ : ∃ k, fu = k + 1 := ⟨fu - 1, by omega⟩
    have e : x = m := by omega
    subst e
    exact ⟨C, R, by rw [f_X8_takeRun_L3, if_pos (Int32.le_refl _)], by rw [f_X12_pour_L118, if_pos (Int32.le_refl _)], hI⟩
  | succ d ih =>
    intro x fu C R q1 q2 hI
    obtain ⟨fu, rfl⟩ : ∃ k, fu = k + 1 := ⟨fu - 1, by omega⟩
    have step : ∀ y, y < m → ∃ C' R', f_X8_takeRun_J27 (f_X8_takeRun_L3 (5 + 2 * j) (5 + 2 * i) (nI f) (nI t) (nI m) fu) (5 + 2 * j) (5 + 2 * i) (nI f) (nI t) (nI m) (nI x) (nI y) C = some ((), C') ∧ f_X12_pour_J143 (f_X12_pour_L118 (nI i) (nI f) (nI j) (nI t) (nI m) fu) (nI i) (nI f) (nI j) (nI t) (nI m) (nI x) (nI y) R = some ((), R') ∧ PoI C0 R0 C' R' := by
      intro y hy
      obtain ⟨g1, g2, g3, g4, g5⟩ := hI
      have qf : ¬ (nI (f + y) < 0 ∨ 60 ≤ (nI (f + y)).toNatClampNeg) := nI_in (by omega) (by omega)
      have qt : ¬ (nI (t + y) < 0 ∨ 60 ≤ (nI (t + y)).toNatClampNeg) := nI_in (by omega) (by omega)
      obtain ⟨u1, u2⟩ := tr_rd (e := 60 * nI i + nI f + nI y) (j := 60 * i + (f + y)) (by rw [rowT, nI_add]; congr 1; omega) (by omega)
      obtain ⟨u3, u4⟩ := tr_rd (e := 60 * nI j + nI t + nI y) (j := 60 * j + (t + y)) (by rw [rowT, nI_add]; congr 1; omega) (by omega)
      have y3 : gI C (5 + 2 * j) 0 = nI s := (g4 _ _).trans a2
      have hv : gL C (5 + 2 * i + 1) (f + y) = gL R 5 (60 * i + (f + y)) ∧ cutS s (gL C (5 + 2 * i + 1) (f + y)) = gL C (5 + 2 * i + 1) (f + y) := by
        rcases g3 i hi with ⟨z, -⟩ | ⟨s2, m2, z1, z2, z3, z4, z5, z6, z7⟩
        · exact absurd (z.symm.trans ((g4 _ _).trans a1)).symm (nI_ne_m1 (by omega))
        · have es : s2 = s := nI_inj (by omega) (by omega) (z3.symm.trans ((g4 _ _).trans a1))
          have em : m2 = n1 := nI_inj (by omega) (by omega) (z5.symm.trans ((g4 _ _).trans b1))
          rw [← es, show 5 + 2 * i + 1 = 6 + 2 * i from by omega]
          exact z7 (f + y) (by omega)
      rw [f_X8_takeRun_J27, f_X12_pour_J143, nI_add, nI_add, f_X8_numberAt, withinT 60 60 rfl (by decide) (by omega), bnd_some, if_neg i10, if_neg qf, bnd_some, f_X8_putNumber, withinT 60 60 rfl (by decide) (by omega), bnd_some, if_neg i10, cut_cls j hs y3, bnd_some, if_neg qt, letF, bnd_some, letF, nI_clamp (by omega), nI_clamp (by omega), hv.2]
      rw [if_neg u1, if_neg u3, letF, letF, u2, u4, ← hv.1, nI_s]
      exact ih (x + 1) fu _ _ (by omega) (by omega) ⟨g1.sL _ _ _ (by omega), g2.sL _ _ _ (by omega), g3.put hj (by omega) hs y3 _ hv.2, fun n k => g4 n k, fun n k => g5 n k⟩
    have em : nI m - 1 - nI x = nI (m - 1 - x) := by rw [show nI m - 1 = nI (m - 1) from pk_sub (b := 1) (by omega), pk_sub (by omega)]
    have nx : ¬ nI m ≤ nI x := nI_ge (by omega) (by omega)
    rw [f_X8_takeRun_L3, if_neg nx, f_X12_pour_L118, if_neg nx, em]
    by_cases z : nI t ≤ nI f
    · rw [if_pos z, if_pos z]; exact step x (by omega)
    · rw [if_neg z, if_neg z]; exact step (m - 1 - x) (by omega)
