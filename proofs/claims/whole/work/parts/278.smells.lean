/-! TEXTS: the SMELLS of a PERSON -/
def pc5 (s : Nat) : Nat := (if s.testBit 0 = true then 1 else 0) + (if s.testBit 1 = true then 1 else 0) + (if s.testBit 2 = true then 1 else 0) + (if s.testBit 3 = true then 1 else 0) + (if s.testBit 4 = true then 1 else 0)
theorem sm_tab : ∀ s, s < 32 → ∀ k, k < 5 → ((nI s >>> (nI k &&& 31)) &&& (1 : Int32)) = (if s.testBit k = true then 1 else 0) ∧ (nI s ||| ((1 : Int32) <<< (nI k &&& 31))) = nI (s ||| 2 ^ k) ∧ (s ||| 2 ^ k) < 32 ∧ (s.testBit k = false → pc5 (s ||| 2 ^ k) = pc5 s + 1) ∧ (pc5 s = 5 → s.testBit k = true) := by decide +kernel
section SMELLS
variable {B : Nat → Nat} {n c x : Nat} {C0 R0 : Mem} {K : Kt}
theorem in_smells (X : Cx B n c 3 x) (hw : WFK K) (iC : IsC C0 c K) (iR : IsR R0 2008 K) (iN : NmR C0 c R0 4 K) (q1 : Int32) : ∀ d i s fu fu2 C R, d + i = 5 → i = pc5 s → s < 32 → d < fu → d < fu2 → InS B n c 3 x C0 R0 C R → gI C (c + 13 + 1 + x) 2 = nI s →
    ∃ st C' R' s', f_X4_readSmells_L2 (c + 13 + 1 + x) c fu (nI i) C = some (st, C') ∧ f_X12_smellsTo_L2 q1 fu2 (nI s) R = some ((st, nI s'), R') ∧ InS B n c 3 x C0 R0 C' R' ∧ s' < 32 ∧ (st = 0 ∨ st = 1 ∨ (st = 2 ∧ gI C' (c + 13 + 1 + x) 2 = nI s')) ∧
      (∀ a j, a ≠ 13 → ¬ (a = c + 13 + 1 + x ∧ j = 2) → gI C' a j = gI C a j) ∧ (∀ j, gI R' 1 j = gI R 1 j) ∧ (∀ a j, a ≠ 13 → gL C' a j = gL C a j) ∧ ∀ a j, gL R' a j = gL R a j := by
  have hc := X.2.2.2.2
  have lo := isC_lo hc
  have mx := mxC X.2.2.1 X.2.2.2.1
  have w0 := hw.n0.2
  intro d
  induction d with
  | zero =>
    intro i s fu fu2 C R h1 h2 h3 h4 h5 h hs
    obtain ⟨fu, rfl⟩ : ∃ k, fu = k + 1 := ⟨fu - 1, by omega⟩
    obtain ⟨fu2, rfl⟩ : ∃ k, fu2 = k + 1 := ⟨fu2 - 1, by omega⟩
    obtain ⟨f, e, sT⟩ := h.1
    rw [f_X4_readSmells_L2, if_neg (show ¬ (5 : Int32) < nI i from nI_nlt (b := i) (a := 5) (by omega) (by omega)), f_X12_smellsTo_L2]
    rcases st_isName X.1 X.2.1 sT with ⟨b1, b2, b3, b4, b5, b6, b7, b8, b9⟩ | ⟨b1, b2⟩
    · have cn := in_cnt X h hw iC iR (k := 0) (by omega) (by omega)
      have cn' : gI R 1 2008 = nI (nK K 0) := cn.2
      obtain ⟨r, y1, y2, y3⟩ := find2w (C := C) (c := c) (kd := 0) (base := 92) (cnt := nK K 0) X.1 X.2.1 sT.2.1 (Nat.le_of_lt b3) b4 b5 b8 b9 b6 (by omega) (by omega) (by omega) cn.1 (in_nm X h hw iN (k := 0) (base := 92) (Or.inl ⟨rfl, rfl⟩) (by omega))
      have y1' : f_X0_numberOf c 0 (lN (code27 (wrd B f (e - f)))) C = some (r, C) := y1
      have y2' : f_X12_findHere 92 (nI (nK K 0)) R = some (r, R) := y2
      rw [if_pos b1, b7, y1', bnd_some, b2, bnd_some, if_neg i10, cn', y2', bnd_some]
      rcases y3 with rfl | ⟨k, k1, rfl⟩
      · rw [if_pos rfl, if_pos rfl]
        exact ⟨0, C, R, s, rfl, rfl, h, h3, Or.inl rfl, fun _ _ _ _ => rfl, fun _ => rfl, fun _ _ _ => rfl, fun _ _ => rfl⟩
      · obtain ⟨m1, m2, m3, m4, m5⟩ := sm_tab s h3 k (by omega)
        have tb := m5 (by omega)
        rw [if_neg (nI_ne_m1 (by omega)), if_neg (nI_ne_m1 (by omega)), p_isIn, bnd_some, hs, m1, tb, if_pos rfl, if_pos rfl, inS, m1, tb, if_pos rfl, if_neg (by decide)]
        exact ⟨1, C, R, s, rfl, rfl, h, h3, Or.inr (Or.inl rfl), fun _ _ _ _ => rfl, fun _ => rfl, fun _ _ _ => rfl, fun _ _ => rfl⟩
    · rw [if_neg b1, b2, bnd_some, if_pos rfl]
      exact ⟨2, C, R, s, rfl, rfl, h, h3, Or.inr (Or.inr ⟨rfl, hs⟩), fun _ _ _ _ => rfl, fun _ => rfl, fun _ _ _ => rfl, fun _ _ => rfl⟩
  | succ d ih =>
    intro i s fu fu2 C R h1 h2 h3 h4 h5 h hs
    obtain ⟨fu, rfl⟩ : ∃ k, fu = k + 1 := ⟨fu - 1, by omega⟩
    obtain ⟨fu2, rfl⟩ : ∃ k, fu2 = k + 1 := ⟨fu2 - 1, by omega⟩
    obtain ⟨f, e, sT⟩ := h.1
    rw [f_X4_readSmells_L2, if_neg (show ¬ (5 : Int32) < nI i from nI_nlt (b := i) (a := 5) (by omega) (by omega)), f_X12_smellsTo_L2]
    rcases st_isName X.1 X.2.1 sT with ⟨b1, b2, b3, b4, b5, b6, b7, b8, b9⟩ | ⟨b1, b2⟩
    · have cn := in_cnt X h hw iC iR (k := 0) (by omega) (by omega)
      have cn' : gI R 1 2008 = nI (nK K 0) := cn.2
      obtain ⟨r, y1, y2, y3⟩ := find2w (C := C) (c := c) (kd := 0) (base := 92) (cnt := nK K 0) X.1 X.2.1 sT.2.1 (Nat.le_of_lt b3) b4 b5 b8 b9 b6 (by omega) (by omega) (by omega) cn.1 (in_nm X h hw iN (k := 0) (base := 92) (Or.inl ⟨rfl, rfl⟩) (by omega))
      have y1' : f_X0_numberOf c 0 (lN (code27 (wrd B f (e - f)))) C = some (r, C) := y1
      have y2' : f_X12_findHere 92 (nI (nK K 0)) R = some (r, R) := y2
      rw [if_pos b1, b7, y1', bnd_some, b2, bnd_some, if_neg i10, cn', y2', bnd_some]
      rcases y3 with rfl | ⟨k, k1, rfl⟩
      · rw [if_pos rfl, if_pos rfl]
        exact ⟨0, C, R, s, rfl, rfl, h, h3, Or.inl rfl, fun _ _ _ _ => rfl, fun _ => rfl, fun _ _ _ => rfl, fun _ _ => rfl⟩
      · obtain ⟨m1, m2, m3, m4, m5⟩ := sm_tab s h3 k (by omega)
        rw [if_neg (nI_ne_m1 (by omega)), if_neg (nI_ne_m1 (by omega)), p_isIn, bnd_some, hs, m1, inS, m1]
        cases tb : s.testBit k with
        | true =>
          rw [if_pos rfl, if_neg (by decide), if_pos rfl]
          exact ⟨1, C, R, s, rfl, rfl, h, h3, Or.inr (Or.inl rfl), fun _ _ _ _ => rfl, fun _ => rfl, fun _ _ _ => rfl, fun _ _ => rfl⟩
        | false =>
          have nr : nrC c 3 x (c + 13 + 1 + x) 2 := Or.inr (Or.inr (Or.inl ⟨rfl, rfl⟩))
          obtain ⟨C1, R1, a1, a2, a3, a4, a5⟩ := in_go X (h.wC X (nI (s ||| 2 ^ k)) (Or.inr (Or.inr nr)))
          have hs1 : gI C1 (c + 13 + 1 + x) 2 = nI (s ||| 2 ^ k) := by rw [a4.1 _ _ (by omega), gI_same]
          obtain ⟨st, C', R', s', g1, g2, g3, g4, g5, g6, g7, g8, g9⟩ := ih (i + 1) (s ||| 2 ^ k) fu fu2 C1 R1 (by omega) (by rw [m4 tb, h2]) m3 (by omega) (by omega) a3 hs1
          rw [if_neg (show ¬ false = true by decide), if_pos (by decide), if_neg (show ¬ (0 : Int32) = 1 by decide), m2, letF, a1, bnd_some, letF, nI_s, letF, a2, bnd_some]
          refine ⟨st, C', R', s', g1, g2, g3, g4, g5, fun a j y1 y2 => ?_, fun j => ?_, fun a j y => ?_, fun a j => ?_⟩
          · rw [g6 a j y1 y2, a4.1 _ _ (by omega), gI_I, if_neg (by omega)]
          · rw [g7, a5.1 _ _ (by omega)]
          · rw [g8 a j y, a4.2.1 _ _ (by omega), gL_I]
          · rw [g9, a5.2]
    · rw [if_neg b1, b2, bnd_some, if_pos rfl]
      exact ⟨2, C, R, s, rfl, rfl, h, h3, Or.inr (Or.inr ⟨rfl, hs⟩), fun _ _ _ _ => rfl, fun _ => rfl, fun _ _ _ => rfl, fun _ _ => rfl⟩
end SMELLS
