/-! TEXTS: a RULE whole -/
section RULEQ
variable {B : Nat → Nat} {n c x : Nat} {C0 R0 C R : Mem} {K : Kt}
theorem part2 (X : Cx B n c 2 x) (h : InS B n c 2 x C0 R0 C R) (hw : WFK K) (iC : IsC C0 c K) (iR : IsR R0 2008 K) (iN : NmR C0 c R0 4 K) (hx : x = nK K 2) (gC : GoC C0 C) (gR : GoR R0 R) (ha : f_X12_ahead R0 = some ((), R)) :
    Par c C0 R0 (f_X4_readPart 2 c C) (f_X12_aRule R0) (EndP B n c 2 x K C0 R0) := by
  have hc := X.2.2.2.2
  have lo := isC_lo hc
  have mx := mxC X.2.2.1 X.2.2.2.1
  have r0 : gI R0 1 (2008 + 2) = nI x := by rw [iR.1 2 X.2.2.1, (hw.nk X.2.2.1).1, hx]
  have r0' : gI R0 1 2010 = nI x := r0
  have c0 : gI C0 (c + 1) 2 = nI x := by rw [iC.1 2 X.2.2.1, (hw.nk X.2.2.1).1, hx]
  have full : f_X12_isFull 2 8 R0 = some (bI (decide (x = 8)), R0) := r_full (k := 2) (most := 8) (by omega) r0 (by omega) (by omega)
  have e8 : (2008 : Int32) + ((16 : Int32) + (7 : Int32) * nI x) = nI (2024 + 7 * x) := by rw [litI, litI, litI, pk_mul, nI_add, nI_add]; exact congrArg nI (show 2008 + (16 + 7 * x) = 2024 + 7 * x by omega)
  have ct := (in_cnt X h hw iC iR (k := 1) (by omega) (by omega)).2
  have ct' : gI R 1 2009 = nI (nK K 1) := ct
  have nr : ∀ j, 2024 + 7 * x ≤ j → j < 2031 + 7 * x → nrR 2 x j := fun j y1 y2 => Or.inr (Or.inr (Or.inl ⟨rfl, y1, y2⟩))
  have nm := in_name X h hw iC iR iN (k := 1) (base := 97) (q := 2024 + 7 * x) (Or.inr (Or.inl ⟨rfl, rfl⟩)) (by omega) (nr _ (by omega) (by omega))
  rw [f_X4_readPart, if_neg (show ¬ (2 : Int32) = 0 by decide), if_neg (show ¬ (2 : Int32) = 1 by decide), if_pos rfl, f_X12_aRule, full, bnd_some, decide_eq_false (show ¬ x = 8 by omega), if_pos bI_f, f_X12_ruleRow, bnd_some, r0', e8, letF, ha, bnd_some, ct']
  refine nm.b (fun M => if_pos rfl) (fun M => if_pos rfl) fun C1 R1 ⟨p1, v, v1, v2, v3⟩ => ?_
  obtain ⟨s1, s2, s3⟩ := (go16 v2)
  obtain ⟨t1, t2, t3⟩ := (go1 v3)
  rw [if_neg i10, if_neg i10]
  refine Par.bC ?_
  have c1 : gI C1 (c + 1) 2 = nI x := by rw [s1 _ _ (by omega) (by omega), gC.1 _ _ (by omega)]; exact c0
  have ao : f_X0_addOne c 2 C1 = some (nI x, sI C1 (c + 1) 2 (nI (x + 1))) := by
    have q : f_X0_countOf c 2 C1 = some (gI C1 (c + 1) 2, C1) := p_countOf (k := 2) (by omega) C1
    have w := p_put (i := 2) (alC_cnt hc) (by omega) (by decide) (nI (x + 1)) C1
    have w' : f_X11_put (c + 1) 2 (nI (x + 1)) C1 = some ((), sI C1 (c + 1) 2 (nI (x + 1))) := w
    rw [f_X0_addOne, q, bnd_some, c1, nI_s, w', bnd_some]
  have s2' : gI (sI C1 (c + 1) 2 (nI (x + 1))) 16 3 = nI v := by rw [gI_I, if_neg (by omega)]; exact s2
  rw [f_X4_readRule, ao, bnd_some, p_ruleAt (by omega), bnd_some, if_neg (by rw [shC_rule hc (by omega)]; decide), s2', f_X6_renew]
  have nc : ∀ j, nrC c 2 x (c + 4 + 1 + x) j := fun j => Or.inr (Or.inl ⟨rfl, rfl⟩)
  have nc' : ∀ j, c + 4 + 1 + x = 16 ∨ (c + 4 + 1 + x = c + 1 ∧ j = 2) ∨ nrC c 2 x (c + 4 + 1 + x) j := fun j => Or.inr (Or.inr (nc j))
  rw [letF, letF, letF, letF, letF, letF, letF, letF, letF, bnd_some]
  have h2 := p1.wC X (a := c + 1) (j := 2) (nI (x + 1)) (Or.inr (Or.inl ⟨rfl, rfl⟩))
  have h3 := ((((((((h2.wC X (nI v) (nc' 0)).wC X 0 (nc' 1)).wC X (-1) (nc' 2)).wC X (-1) (nc' 3)).wC X 0 (nc' 4)).wC X 99 (nc' 5)).wC X (-1) (nc' 6)).wC X 0 (nc' 7)).wC X 9 (nc' 8)
  have f0 : ∀ a j, ¬ a = c + 4 + 1 + x → gI (sI (sI (sI (sI (sI (sI (sI (sI (sI (sI C1 (c + 1) 2 (nI (x + 1))) (c + 4 + 1 + x) 0 (nI v)) (c + 4 + 1 + x) 1 0) (c + 4 + 1 + x) 2 (-1)) (c + 4 + 1 + x) 3 (-1)) (c + 4 + 1 + x) 4 0) (c + 4 + 1 + x) 5 99) (c + 4 + 1 + x) 6 (-1)) (c + 4 + 1 + x) 7 0) (c + 4 + 1 + x) 8 9) a j = gI (sI C1 (c + 1) 2 (nI (x + 1))) a j := fun a j y => by
    iterate 9 rw [gI_I, if_neg (fun z => y z.1)]
  have fv : gI (sI (sI (sI (sI (sI (sI (sI (sI (sI (sI C1 (c + 1) 2 (nI (x + 1))) (c + 4 + 1 + x) 0 (nI v)) (c + 4 + 1 + x) 1 0) (c + 4 + 1 + x) 2 (-1)) (c + 4 + 1 + x) 3 (-1)) (c + 4 + 1 + x) 4 0) (c + 4 + 1 + x) 5 99) (c + 4 + 1 + x) 6 (-1)) (c + 4 + 1 + x) 7 0) (c + 4 + 1 + x) 8 9) (c + 4 + 1 + x) = fun j => if j = 8 then 9 else if j = 7 then 0 else if j = 6 then -1 else if j = 5 then 99 else if j = 4 then 0 else if j = 3 then -1 else if j = 2 then -1 else if j = 1 then 0 else if j = 0 then nI v else gI (sI C1 (c + 1) 2 (nI (x + 1))) (c + 4 + 1 + x) j := by
    funext j
    simp only [gI_I, true_and]
  generalize (sI (sI (sI (sI (sI (sI (sI (sI (sI (sI C1 (c + 1) 2 (nI (x + 1))) (c + 4 + 1 + x) 0 (nI v)) (c + 4 + 1 + x) 1 0) (c + 4 + 1 + x) 2 (-1)) (c + 4 + 1 + x) 3 (-1)) (c + 4 + 1 + x) 4 0) (c + 4 + 1 + x) 5 99) (c + 4 + 1 + x) 6 (-1)) (c + 4 + 1 + x) 7 0) (c + 4 + 1 + x) 8 9) = C3 at h3 f0 fv ⊢
  obtain ⟨g, w, g1, g2, g3⟩ := in_guilt X h3
  have b3 : ∀ j, gI C3 (c + 4 + 1 + x) j = if j = 8 then 9 else if j = 7 then 0 else if j = 6 then -1 else if j = 5 then 99 else if j = 4 then 0 else if j = 3 then -1 else if j = 2 then -1 else if j = 1 then 0 else if j = 0 then nI v else gI (sI C1 (c + 1) 2 (nI (x + 1))) (c + 4 + 1 + x) j := fun j => by rw [fv]
  have ec : gI C3 (c + 1) 2 = nI (x + 1) := by rw [f0 _ _ (by omega), gI_same]
  have rx : gI R1 1 2010 = nI x := by rw [t1 _ (by omega), gR.1 _ _ (by omega)]; exact r0'
  rw [g1, bnd_some, letF, gI_same, g2, bnd_some]
  have e1 : nI (2024 + 7 * x) + (1 : Int32) = nI (2024 + 7 * x + 1) := nI_add _ 1
  obtain ⟨z1, z2⟩ := r_rd (e := nI (2024 + 7 * x + 1)) (j := 2024 + 7 * x + 1) rfl (by omega)
  -- the guilt on both sides is m
  have go : ∀ m : Nat, m ≤ 2 → g = nI m → Par c C0 R0 (if nI m = 0 then f_X4_readRule_J40 c (c + 4 + 1 + x) (sI C3 (c + 4 + 1 + x) 1 (nI m)) else bnd (f_X7_goOn (sI C3 (c + 4 + 1 + x) 1 (nI m))) fun _ M17 => f_X4_readRule_J40 c (c + 4 + 1 + x) M17) (f_X12_aRule_J92 (nI (2024 + 7 * x)) (nI (2024 + 7 * x + 1)) (nI m) R1) (EndP B n c 2 x K C0 R0) := by
    intro m hm e
    have h4 := (h3.wC X (nI m) (nc' 1)).wR (nI m) (nr (2024 + 7 * x + 1) (by omega) (by omega))
    have rl : ∀ C4 R4, GoC (sI C3 (c + 4 + 1 + x) 1 (nI m)) C4 → GoR (sI R1 1 (2024 + 7 * x + 1) (nI m)) R4 → RlB c x v m C4 R4 ∧ (gI C4 (c + 4 + 1 + x) 3 = -1 ∧ gI C4 (c + 4 + 1 + x) 4 = 0 ∧ gI C4 (c + 4 + 1 + x) 5 = 99) ∧ (gI C4 (c + 4 + 1 + x) 6 = -1 ∧ gI C4 (c + 4 + 1 + x) 7 = 0 ∧ gI C4 (c + 4 + 1 + x) 8 = 9) := by
      intro C4 R4 y1 y2
      obtain ⟨u1, u2, u3⟩ := (go1 y2)
      have cc : ∀ j, ¬ j = 1 → gI C4 (c + 4 + 1 + x) j = gI C3 (c + 4 + 1 + x) j := fun j y => by rw [y1.1 _ _ (by omega), gI_I, if_neg (by omega)]
      refine ⟨⟨?_, ?_, ?_, u2, ?_, ?_, ?_⟩, ⟨?_, ?_, ?_⟩, ?_, ?_, ?_⟩
      · rw [cc _ (by omega), b3]; rfl
      · rw [u1 _ (by omega)]; exact t2
      · rw [y1.1 _ _ (by omega), gI_same]
      · rw [cc _ (by omega), b3]; rfl
      · rw [y1.1 _ _ (by omega), gI_I, if_neg (by omega)]; exact ec
      · rw [u1 _ (by omega)]; exact rx
      all_goals rw [cc _ (by omega), b3]; rfl
    rw [f_X12_aRule_J92, if_neg z1, z2, letF, e1, if_neg z1, z2, gI_same]
    by_cases zm : m = 0
    · subst zm
      obtain ⟨q1, q2, q3⟩ := rl _ _ GoC.rf GoR.rf
      rw [if_pos (show nI 0 = (0 : Int32) from rfl), if_pos (show nI 0 ≤ (0 : Int32) by decide)]
      exact rule_a X h4 hw iC iR iN v1 hm q1 q2 q3
    · rw [if_neg (show ¬ nI m = 0 from fun q => zm (nI_inj (b := 0) (by omega) (by omega) q)), if_neg (show ¬ nI m ≤ (0 : Int32) from nI_ge (a := 0) (by omega) (by omega))]
      obtain ⟨C4, R4, a1, a2, a3, a4, a5⟩ := in_go X h4
      obtain ⟨q1, q2, q3⟩ := rl _ _ a4 a5
      rw [a1, bnd_some, a2, bnd_some]
      exact rule_a X a3 hw iC iR iN v1 hm q1 q2 q3
  rcases g3 with ⟨rfl, rfl⟩ | ⟨rfl, rfl⟩ | ⟨rfl, rfl, -⟩ | ⟨rfl, -, -, w8, w9⟩
  · rw [if_pos rfl, e1]; exact go 1 (by omega) rfl
  · rw [if_neg (show ¬ (9 : Int32) = 8 by decide), if_pos rfl, e1]; exact go 2 (by omega) rfl
  · rw [if_neg (show ¬ (7 : Int32) = 8 by decide), if_neg (show ¬ (7 : Int32) = 9 by decide), e1]; exact go 0 (by omega) rfl
  · rw [if_neg w8, if_neg w9, e1]; exact go 0 (by omega) rfl
end RULEQ
