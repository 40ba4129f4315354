/-! TEXTS: PEOPLE -/
def PeB (c x : Nat) (C R : Mem) : Prop := gI C (c + 1) 3 = nI (x + 1) ∧ gI R 1 2011 = nI x ∧ nmOK (gL C (c + 2) (3 * 6 + x)) (gL R 2 (92 + nmB.getD 3 0 + x)) ∧ (gI C (c + 13 + 1 + x) 3 = 0 ∧ gI R 1 (2080 + 5 * x + 2) = 0) ∧ (gI C (c + 13 + 1 + x) 4 = 0 ∧ gI R 1 (2080 + 5 * x + 4) = 0)
def PeG (c x : Nat) (C R : Mem) : Prop := (gI C (c + 13 + 1 + x) 0 = 1 ∧ gI R 1 (2080 + 5 * x + 3) = 1) ∨ (gI C (c + 13 + 1 + x) 0 = 2 ∧ gI R 1 (2080 + 5 * x + 3) = 0)
def PeF (c x : Nat) (C R : Mem) : Prop := ∃ m : Nat, m ≤ 99 ∧ gI C (c + 13 + 1 + x) 1 = nI m ∧ gI R 1 (2080 + 5 * x) = nI m
def PeS (c x : Nat) (C R : Mem) : Prop := ∃ m : Nat, m < 32 ∧ gI C (c + 13 + 1 + x) 2 = nI m ∧ gI R 1 (2080 + 5 * x + 1) = nI m
theorem PeB.cg {c x : Nat} {C R C' R' : Mem} (hc : shC c = 0) (h : PeB c x C R) (e1 : ∀ a j, a ≠ 13 → a ≠ 16 → ¬ (a = c + 13 + 1 + x ∧ j < 3) → gI C' a j = gI C a j) (e2 : ∀ j, j ≠ 2080 + 5 * x → j ≠ 2080 + 5 * x + 1 → j ≠ 2080 + 5 * x + 3 → gI R' 1 j = gI R 1 j) (e3 : ∀ a j, a ≠ 13 → gL C' a j = gL C a j) (e4 : ∀ a j, gL R' a j = gL R a j) : PeB c x C' R' := by
  obtain ⟨a, b, d, ⟨f1, f2⟩, f3, f4⟩ := h
  have lo := isC_lo hc
  exact ⟨(e1 _ _ (by omega) (by omega) (by omega)).trans a, (e2 _ (by omega) (by omega) (by omega)).trans b, by rw [e3 _ _ (by omega), e4]; exact d, ⟨(e1 _ _ (by omega) (by omega) (by omega)).trans f1, (e2 _ (by omega) (by omega) (by omega)).trans f2⟩, (e1 _ _ (by omega) (by omega) (by omega)).trans f3, (e2 _ (by omega) (by omega) (by omega)).trans f4⟩
section PERS
variable {B : Nat → Nat} {n c x : Nat} {C0 R0 C R : Mem} {K : Kt}
theorem pers_end (X : Cx B n c 3 x) (h : InS B n c 3 x C0 R0 C R) (b : PeB c x C R) (g : PeG c x C R) (f : PeF c x C R) (s : PeS c x C R) : Par c C0 R0 (some (1, C)) (f_X12_aPerson_J95 R) (EndP B n c 3 x K C0 R0) := by
  obtain ⟨b1, b2, b3, b4, b5⟩ := b
  have mx := mxC X.2.2.1 X.2.2.2.1
  rw [f_X12_aPerson_J95, letF, b2, nI_s]
  have kp : ∀ j, j ≠ 2011 → gI (sI R 1 2011 (nI (x + 1))) 1 j = gI R 1 j := fun j y => by rw [gI_I, if_neg (by omega)]
  refine Par.ok ⟨h.wR _ (Or.inl rfl), b1, gI_same _ _ _ _, fun _ _ => b3, by omega, by omega, fun _ => ?_, by omega, by omega⟩
  rw [kp _ (by omega), kp _ (by omega), kp _ (by omega), kp _ (by omega), kp _ (by omega)]
  exact ⟨g, f, s, b4, b5⟩
theorem pers_c (X : Cx B n c 3 x) (h : InS B n c 3 x C0 R0 C R) (hw : WFK K) (iC : IsC C0 c K) (iR : IsR R0 2008 K) (iN : NmR C0 c R0 4 K) (b : PeB c x C R) (g : PeG c x C R) (f : PeF c x C R) (s : gI C (c + 13 + 1 + x) 2 = 0 ∧ gI R 1 (2080 + 5 * x + 1) = 0) :
    Par c C0 R0 (f_X4_readPerson_J56 c (c + 13 + 1 + x) C) (f_X12_aPerson_J74 (nI (2080 + 5 * x)) R) (EndP B n c 3 x K C0 R0) := by
  have hc := X.2.2.2.2
  have lo := isC_lo hc
  have mx := mxC X.2.2.1 X.2.2.2.1
  rw [f_X4_readPerson_J56, f_X12_aPerson_J74]
  rcases in_skip X h (t := 12) (by omega) with ⟨a1, a2⟩ | ⟨C1, R1, a1, a2, a3, a4, a5⟩
  · have a1' : f_X4_skip 12 C = some (0, C) := a1
    have a2' : f_X12_isThere 12 R = some (0, R) := a2
    rw [a1', bnd_some, if_pos rfl, a2', bnd_some, if_pos rfl]
    exact pers_end X h b g f ⟨0, by omega, s.1, s.2⟩
  · have a1' : f_X4_skip 12 C = some (1, C1) := a1
    have a2' : f_X12_isThere 12 R = some (1, R1) := a2
    have e1 : nI (2080 + 5 * x) + (1 : Int32) = nI (2080 + 5 * x + 1) := nI_add _ 1
    obtain ⟨z1, z2⟩ := r_rd (e := nI (2080 + 5 * x + 1)) (j := 2080 + 5 * x + 1) rfl (by omega)
    rw [a1', bnd_some, if_neg i10, a2', bnd_some, if_neg i10, e1, f_X4_readSmells, f_X12_smellsTo]
    have ck : ∀ a j, a ≠ 13 → gI C1 a j = gI C a j := fun a j y => a4.1 a j (by omega)
    obtain ⟨st, C2, R2, s', p1, p2, p3, p4, p5, p6, p7, p8, p9⟩ := in_smells X hw iC iR iN (nI (2080 + 5 * x + 1)) 5 0 0 fz fz C1 R1 (by omega) (by decide) (by omega) (by rw [fz_is]; omega) (by rw [fz_is]; omega) a3 (by rw [ck _ _ (by omega)]; exact s.1)
    have p1' : f_X4_readSmells_L2 (c + 13 + 1 + x) c fz 0 C1 = some (st, C2) := p1
    have p2' : f_X12_smellsTo_L2 (nI (2080 + 5 * x + 1)) fz 0 R1 = some ((st, nI s'), R2) := p2
    rw [p1', bnd_some, p2', bnd_some]
    rcases p5 with rfl | rfl | ⟨rfl, p5⟩
    · rw [if_pos rfl, if_pos rfl]
      exact Par.b (in_fail X p3 (k := 3) (by omega) (by omega) (Q := fun _ _ => False)) (fun M => if_pos rfl) (fun M => if_pos rfl) fun _ _ y => absurd y (fun z => z)
    · rw [if_neg (show ¬ (1 : Nat) = 0 by decide), if_pos rfl, if_neg (show ¬ (1 : Nat) = 0 by decide), if_pos rfl]
      exact Par.b (in_fail X p3 (k := 5) (by omega) (by omega) (Q := fun _ _ => False)) (fun M => if_pos rfl) (fun M => if_pos rfl) fun _ _ y => absurd y (fun z => z)
    · rw [if_neg (show ¬ (2 : Nat) = 0 by decide), if_neg (show ¬ (2 : Nat) = 1 by decide), bnd_some, if_neg i10, if_neg (show ¬ (2 : Nat) = 0 by decide), if_neg (show ¬ (2 : Nat) = 1 by decide), if_neg z1, z2, letF, bnd_some, if_neg i10]
      have nr : nrR 3 x (2080 + 5 * x + 1) := Or.inr (Or.inr (Or.inr (Or.inl ⟨rfl, by omega, by omega⟩)))
      have kc : ∀ a j, a ≠ 13 → ¬ (a = c + 13 + 1 + x ∧ j = 2) → gI C2 a j = gI C a j := fun a j y1 y2 => (p6 a j y1 y2).trans (ck a j y1)
      have kr : ∀ j, j ≠ 2080 + 5 * x + 1 → gI (sI R2 1 (2080 + 5 * x + 1) (nI s')) 1 j = gI R 1 j := fun j y => by rw [gI_I, if_neg (by omega), p7, a5.1 _ _ (by omega)]
      refine pers_end X (p3.wR _ nr) (b.cg hc (fun a j y1 y2 y3 => kc a j y1 (by omega)) (fun j y1 y2 y3 => kr j y2) (fun a j y => (p8 a j y).trans (a4.2.1 a j (by omega))) (fun a j => ((gL_I _ _ _ _ _ _).trans (p9 a j)).trans (a5.2 a j))) ?_ ?_ ⟨s', p4, p5, gI_same _ _ _ _⟩
      · unfold PeG
        rw [kc _ _ (by omega) (by omega), kr _ (by omega)]; exact g
      · unfold PeF
        rw [kc _ _ (by omega) (by omega), kr _ (by omega)]; exact f
theorem pers_b (X : Cx B n c 3 x) (h : InS B n c 3 x C0 R0 C R) (hw : WFK K) (iC : IsC C0 c K) (iR : IsR R0 2008 K) (iN : NmR C0 c R0 4 K) {m : Nat} (hm : m = 0 ∨ m = 1) (b : PeB c x C R) (g : (gI C (c + 13 + 1 + x) 0 = 1 ∧ m = 1) ∨ (gI C (c + 13 + 1 + x) 0 = 2 ∧ m = 0)) (f : gI C (c + 13 + 1 + x) 1 = 0 ∧ gI R 1 (2080 + 5 * x) = 0) (s : gI C (c + 13 + 1 + x) 2 = 0 ∧ gI R 1 (2080 + 5 * x + 1) = 0) :
    Par c C0 R0 (f_X4_readPerson_J27 c (c + 13 + 1 + x) C) (f_X12_aPerson_J51 (nI (2080 + 5 * x)) (nI (2080 + 5 * x + 3)) (nI m) R) (EndP B n c 3 x K C0 R0) := by
  have hc := X.2.2.2.2
  have lo := isC_lo hc
  have mx := mxC X.2.2.1 X.2.2.2.1
  obtain ⟨z1, z2⟩ := r_rd (e := nI (2080 + 5 * x + 3)) (j := 2080 + 5 * x + 3) rfl (by omega)
  have nr : ∀ j, 2080 + 5 * x ≤ j → j < 2085 + 5 * x → nrR 3 x j := fun j y1 y2 => Or.inr (Or.inr (Or.inr (Or.inl ⟨rfl, y1, y2⟩)))
  have h1 := h.wR (nI m) (nr (2080 + 5 * x + 3) (by omega) (by omega))
  rw [f_X4_readPerson_J27, f_X12_aPerson_J51, if_neg z1, z2, letF]
  have fin : ∀ C2 R2, InS B n c 3 x C0 R0 C2 R2 → (∀ a j, a ≠ 13 → a ≠ 16 → ¬ (a = c + 13 + 1 + x ∧ j = 1) → gI C2 a j = gI C a j) → (∀ j, j ≠ 2080 + 5 * x → j ≠ 2080 + 5 * x + 3 → gI R2 1 j = gI R 1 j) → gI R2 1 (2080 + 5 * x + 3) = nI m → (∀ a j, a ≠ 13 → gL C2 a j = gL C a j) → (∀ a j, gL R2 a j = gL R a j) → PeF c x C2 R2 →
      Par c C0 R0 (f_X4_readPerson_J56 c (c + 13 + 1 + x) C2) (f_X12_aPerson_J74 (nI (2080 + 5 * x)) R2) (EndP B n c 3 x K C0 R0) := by
    intro C2 R2 p1 p2 p3 p4 p5 p6 p7
    refine pers_c X p1 hw iC iR iN (b.cg hc (fun a j y1 y2 y3 => p2 a j y1 y2 (by omega)) (fun j y1 y2 y3 => p3 j y1 y3) p5 p6) ?_ p7 ⟨?_, ?_⟩
    · unfold PeG
      rw [p2 _ _ (by omega) (by omega) (by omega), p4]
      rcases g with ⟨g1, rfl⟩ | ⟨g1, rfl⟩
      · exact Or.inl ⟨g1, rfl⟩
      · exact Or.inr ⟨g1, rfl⟩
    · rw [p2 _ _ (by omega) (by omega) (by omega)]; exact s.1
    · rw [p3 _ (by omega) (by omega)]; exact s.2
  rcases in_skip X h1 (t := 10) (by omega) with ⟨a1, a2⟩ | ⟨C1, R1, a1, a2, a3, a4, a5⟩
  · have a1' : f_X4_skip 10 C = some (0, C) := a1
    have a2' : f_X12_isThere 10 (sI R 1 (2080 + 5 * x + 3) (nI m)) = some (0, sI R 1 (2080 + 5 * x + 3) (nI m)) := a2
    rw [a1', bnd_some, if_pos rfl, a2', bnd_some, if_pos rfl]
    refine fin _ _ h1 (fun _ _ _ _ _ => rfl) (fun j y1 y2 => by rw [gI_I, if_neg (by omega)]) (gI_same _ _ _ _) (fun _ _ _ => rfl) (fun _ _ => rfl) ⟨0, by omega, f.1, ?_⟩
    rw [gI_I, if_neg (by omega)]; exact f.2
  · have a1' : f_X4_skip 10 C = some (1, C1) := a1
    have a2' : f_X12_isThere 10 (sI R 1 (2080 + 5 * x + 3) (nI m)) = some (1, R1) := a2
    rw [a1', bnd_some, if_neg i10, a2', bnd_some, if_neg i10]
    refine (in_num X a3 (lo := 0) (hi := 99) (q := 2080 + 5 * x) (by omega) (by omega) (nr _ (by omega) (by omega))).b (fun M => if_pos rfl) (fun M => if_pos rfl) fun C2 R2 ⟨p1, v, v1, v2, v3, v4⟩ => ?_
    obtain ⟨s1, s2, s3⟩ := (go16 v3)
    obtain ⟨t1, t2, t3⟩ := (go1 v4)
    rw [if_neg i10, if_neg i10, letF, s2]
    refine fin _ _ (p1.wC X _ (Or.inr (Or.inr (Or.inr (Or.inr (Or.inl ⟨rfl, rfl⟩)))))) (fun a j y1 y2 y3 => ?_) (fun j y1 y2 => ?_) ?_ (fun a j y => ?_) (fun a j => ?_) ⟨v, v2, gI_same _ _ _ _, t2⟩
    · rw [gI_I, if_neg (by omega), s1 a j y1 y2, a4.1 _ _ (by omega)]
    · rw [t1 j y1, a5.1 _ _ (by omega), gI_I, if_neg (by omega)]
    · rw [t1 _ (by omega), a5.1 _ _ (by omega), gI_same]
    · rw [gL_I, s3 a j y, a4.2.1 _ _ (by omega)]
    · rw [t3, a5.2, gL_I]
theorem part3 (X : Cx B n c 3 x) (h : InS B n c 3 x C0 R0 C R) (hw : WFK K) (iC : IsC C0 c K) (iR : IsR R0 2008 K) (iN : NmR C0 c R0 4 K) (iZ : ∀ g, g < 5 → gI R0 1 (2080 + 5 * x + g) = 0) (hx : x = nK K 3) (gC : GoC C0 C) (gR : GoR R0 R) (ha : f_X12_ahead R0 = some ((), R)) :
    Par c C0 R0 (f_X4_readPart 3 c C) (f_X12_aPerson R0) (EndP B n c 3 x K C0 R0) := by
  have hc := X.2.2.2.2
  have lo := isC_lo hc
  have mx := mxC X.2.2.1 X.2.2.2.1
  have r0 : gI R0 1 2011 = nI x := by rw [hx]; exact (iR.1 3 (by omega)).trans (hw.nk (k := 3) (by omega)).1
  have hnew := in_new X h hw iC iR iN hx gC gR ha (most := 6) (sort := 11) (Or.inr (Or.inr (Or.inl ⟨rfl, rfl, rfl⟩)))
  have e8 : (2008 : Int32) + ((72 : Int32) + (5 : Int32) * nI x) = nI (2080 + 5 * x) := by rw [litI, litI, litI, pk_mul, nI_add, nI_add]; exact congrArg nI (show 2008 + (72 + 5 * x) = 2080 + 5 * x by omega)
  have e3 : nI (2080 + 5 * x) + (3 : Int32) = nI (2080 + 5 * x + 3) := nI_add _ 3
  rw [f_X4_readPart, if_neg (show ¬ (3 : Int32) = 0 by decide), if_neg (show ¬ (3 : Int32) = 1 by decide), if_neg (show ¬ (3 : Int32) = 2 by decide), if_pos rfl, f_X12_aPerson, f_X12_personRow, bnd_some, r0, e8, letF, e3]
  refine hnew.b (fun M => if_pos rfl) (fun M => if_pos rfl) fun C1 R1 ⟨q1, q2, q3, q4, q5⟩ => ?_
  rw [if_neg i10, if_neg i10]
  refine Par.bC ?_
  rw [f_X4_readPerson, q4, p_personAt (by omega), bnd_some, if_neg (by rw [shC_per hc (by omega)]; decide), f_X5_renew, letF, letF, letF, letF, letF, bnd_some]
  have nc : ∀ j, c + 13 + 1 + x = 16 ∨ (c + 13 + 1 + x = c + 1 ∧ j = 3) ∨ nrC c 3 x (c + 13 + 1 + x) j := fun j => Or.inr (Or.inr (Or.inr (Or.inr (Or.inl ⟨rfl, rfl⟩))))
  have h3 := ((((q1.wC X 2 (nc 0)).wC X 0 (nc 1)).wC X 0 (nc 2)).wC X 0 (nc 3)).wC X 0 (nc 4)
  have f0 : ∀ a j, ¬ a = c + 13 + 1 + x → gI (sI (sI (sI (sI (sI C1 (c + 13 + 1 + x) 0 2) (c + 13 + 1 + x) 1 0) (c + 13 + 1 + x) 2 0) (c + 13 + 1 + x) 3 0) (c + 13 + 1 + x) 4 0) a j = gI C1 a j := fun a j y => by
    iterate 5 rw [gI_I, if_neg (fun z => y z.1)]
  have fv : gI (sI (sI (sI (sI (sI C1 (c + 13 + 1 + x) 0 2) (c + 13 + 1 + x) 1 0) (c + 13 + 1 + x) 2 0) (c + 13 + 1 + x) 3 0) (c + 13 + 1 + x) 4 0) (c + 13 + 1 + x) = fun j => if j = 4 then 0 else if j = 3 then 0 else if j = 2 then 0 else if j = 1 then 0 else if j = 0 then 2 else gI C1 (c + 13 + 1 + x) j := by
    funext j
    simp only [gI_I, true_and]
  have fl : ∀ a j, gL (sI (sI (sI (sI (sI C1 (c + 13 + 1 + x) 0 2) (c + 13 + 1 + x) 1 0) (c + 13 + 1 + x) 2 0) (c + 13 + 1 + x) 3 0) (c + 13 + 1 + x) 4 0) a j = gL C1 a j := fun _ _ => rfl
  generalize (sI (sI (sI (sI (sI C1 (c + 13 + 1 + x) 0 2) (c + 13 + 1 + x) 1 0) (c + 13 + 1 + x) 2 0) (c + 13 + 1 + x) 3 0) (c + 13 + 1 + x) 4 0) = C3 at h3 f0 fv fl ⊢
  have b3 : ∀ j, gI C3 (c + 13 + 1 + x) j = if j = 4 then 0 else if j = 3 then 0 else if j = 2 then 0 else if j = 1 then 0 else if j = 0 then 2 else gI C1 (c + 13 + 1 + x) j := fun j => by rw [fv]
  have rz : ∀ g, g < 5 → gI R1 1 (2080 + 5 * x + g) = 0 := fun g hg => (q5 _).trans (iZ g hg)
  have pb : PeB c x C3 R1 := ⟨by rw [f0 _ _ (by omega)]; exact q2, by rw [q5]; exact r0, by rw [fl]; exact q3, ⟨by rw [b3]; rfl, rz 2 (by omega)⟩, by rw [b3]; rfl, rz 4 (by omega)⟩
  rcases in_skip X h3 (t := 7) (by omega) with ⟨a1, a2⟩ | ⟨C4, R4, a1, a2, a3, a4, a5⟩
  · have a1' : f_X4_skip 7 C3 = some (0, C3) := a1
    have a2' : f_X12_isThere 8 R1 = some (0, R1) := a2
    rw [a1', bnd_some, if_pos rfl, a2', bnd_some, if_pos rfl]
    exact pers_b X h3 hw iC iR iN (m := 0) (Or.inl rfl) pb (Or.inr ⟨by rw [b3]; rfl, rfl⟩) ⟨by rw [b3]; rfl, rz 0 (by omega)⟩ ⟨by rw [b3]; rfl, rz 1 (by omega)⟩
  · have a1' : f_X4_skip 7 C3 = some (1, C4) := a1
    have a2' : f_X12_isThere 8 R1 = some (1, R4) := a2
    rw [a1', bnd_some, if_neg i10, a2', bnd_some, if_neg i10, letF]
    have kc : ∀ a j, a ≠ 13 → ¬ (a = c + 13 + 1 + x ∧ j = 0) → gI (sI C4 (c + 13 + 1 + x) 0 1) a j = gI C3 a j := fun a j y1 y2 => by rw [gI_I, if_neg (by omega), a4.1 _ _ (by omega)]
    have kr : ∀ j, gI R4 1 j = gI R1 1 j := fun j => a5.1 _ _ (by omega)
    refine pers_b X (a3.wC X 1 (nc 0)) hw iC iR iN (m := 1) (Or.inr rfl) (pb.cg hc (fun a j y1 y2 y3 => kc a j y1 (by omega)) (fun j _ _ _ => kr j) (fun a j y => ?_) (fun a j => a5.2 a j)) (Or.inl ⟨gI_same _ _ _ _, rfl⟩) ⟨?_, ?_⟩ ⟨?_, ?_⟩
    · rw [gL_I, a4.2.1 _ _ (by omega)]
    · rw [kc _ _ (by omega) (by omega), b3]; rfl
    · rw [kr]; exact rz 0 (by omega)
    · rw [kc _ _ (by omega) (by omega), b3]; rfl
    · rw [kr]; exact rz 1 (by omega)
end PERS
