/-! TEXTS: RULES -/
section AGAINST
variable {B : Nat → Nat} {n c kd x : Nat} {C0 R0 C R : Mem} {K : Kt}
theorem in_against (X : Cx B n c kd x) (h : InS B n c kd x C0 R0 C R) {t most q : Nat} (ht : t = 10 ∨ t = 11) (hm : most ≤ 99) (hq : nrR kd x q) (hq1 : nrR kd x (q + 1)) {A D E : Mem → Rs Int32} {Q : Mem → Mem → Prop}
    (no : ∀ C' R', InS B n c kd x C0 R0 C' R' → (∀ a j, a ≠ 13 → a ≠ 16 → gI C' a j = gI C a j) → (∀ j, j ≠ q → j ≠ q + 1 → gI R' 1 j = gI R 1 j) → gI R' 1 q = 0 → Par c C0 R0 (A C') (E R') Q)
    (yes : ∀ C' R', InS B n c kd x C0 R0 C' R' → (∀ a j, a ≠ 13 → a ≠ 16 → gI C' a j = gI C a j) → (∀ j, j ≠ q → j ≠ q + 1 → gI R' 1 j = gI R 1 j) → cmpR most (gI R' 1 q) (gI R' 1 (q + 1)) (gI C' 16 3) (gI C' 16 4) (gI C' 16 5) → Par c C0 R0 (D C') (E R') Q) :
    Par c C0 R0 (bnd (f_X4_skip (nI t) C) fun r M => if r = 0 then A M else (bnd (f_X4_takeCompare (nI most) M) fun r M => if r = 0 then some ((0 : Int32), M) else D M)) (bnd (f_X12_against (nI t) (nI q) (nI most) R) fun r M => if r = 0 then some ((0 : Int32), M) else E M) Q := by
  have ql := nrR_lt X hq
  obtain ⟨z1, z2⟩ := r_rd (e := nI q) (j := q) rfl (by omega)
  have ek : nI t = nI (kwP.getD t 0) := by rcases ht with rfl | rfl <;> rfl
  have h1 := h.wR 0 hq
  rw [f_X12_against, if_neg z1, z2, letF]
  rcases in_skip X h1 (t := t) (by omega) with ⟨a1, a2⟩ | ⟨C1, R1, a1, a2, a3, a4, a5⟩
  · rw [a1, bnd_some, if_pos rfl, ek, a2, bnd_some, if_pos rfl, bnd_some, if_neg i10]
    exact no _ _ h1 (fun _ _ _ _ => rfl) (fun j y1 y2 => by rw [gI_I, if_neg (by omega)]) (gI_same _ _ _ _)
  · rw [a1, bnd_some, if_neg i10, ek, a2, bnd_some, if_neg i10]
    have F : ∀ M, f_X12_against_J50 (nI q) (nI most) M = letF (sI M 1 q (gI M 0 15)) fun M24 => bnd (f_X12_ahead M24) fun _ M26 => bnd (f_X12_number (nI (q + 1)) (nI 0) (nI most) M26) fun r28 M29 => if ¬ (r28 = 0 ∨ r28 = 1) then none else some (r28, M29) := fun M => by
      rw [f_X12_against_J50, if_neg z1, z2, nI_s]; rfl
    refine (in_cmp X a3 hm hq hq1 (by omega) F).b (fun M => if_pos rfl) (fun M => if_pos rfl) fun C2 R2 ⟨p1, ⟨v, lo, hi, p2, p3, p4, p5⟩, p6, p7⟩ => ?_
    rw [if_neg i10, if_neg i10]
    refine yes C2 R2 p1 (fun a j y1 y2 => (p6 a j y1 y2).trans (a4.1 a j (by omega))) (fun j y1 y2 => ?_) ?_
    · rw [p7 j y1 y2, a5.1 _ _ (by omega), gI_I, if_neg (by omega)]
    · rw [p3, p4, p5]; exact p2
end AGAINST
def RlB (c x v g : Nat) (C R : Mem) : Prop := gI C (c + 4 + 1 + x) 0 = nI v ∧ gI R 1 (2024 + 7 * x) = nI v ∧ gI C (c + 4 + 1 + x) 1 = nI g ∧ gI R 1 (2024 + 7 * x + 1) = nI g ∧ gI C (c + 4 + 1 + x) 2 = -1 ∧ gI C (c + 1) 2 = nI (x + 1) ∧ gI R 1 2010 = nI x
theorem RlB.cg {c x v g : Nat} {C R C' R' : Mem} (hc : shC c = 0) (h : RlB c x v g C R) (e1 : ∀ a j, a ≠ 13 → a ≠ 16 → ¬ (a = c + 4 + 1 + x ∧ 3 ≤ j) → gI C' a j = gI C a j) (e2 : ∀ j, ¬ (2024 + 7 * x + 2 ≤ j) → gI R' 1 j = gI R 1 j) : RlB c x v g C' R' := by
  obtain ⟨a, b, d, f, g1, g2, g3⟩ := h
  have lo := isC_lo hc
  exact ⟨(e1 _ _ (by omega) (by omega) (by omega)).trans a, (e2 _ (by omega)).trans b, (e1 _ _ (by omega) (by omega) (by omega)).trans d, (e2 _ (by omega)).trans f, (e1 _ _ (by omega) (by omega) (by omega)).trans g1, (e1 _ _ (by omega) (by omega) (by omega)).trans g2, (e2 _ (by omega)).trans g3⟩
section RULEP
variable {B : Nat → Nat} {n c x v g : Nat} {C0 R0 C R : Mem} {K : Kt}
theorem rule_c (X : Cx B n c 2 x) (h : InS B n c 2 x C0 R0 C R) (hw : WFK K) (iC : IsC C0 c K) (iR : IsR R0 2008 K) (iN : NmR C0 c R0 4 K) (hv : v < nK K 1) (hg : g ≤ 2) (rl : RlB c x v g C R)
    (m1 : cmpR 99 (gI R 1 (2024 + 7 * x + 2)) (gI R 1 (2024 + 7 * x + 3)) (gI C (c + 4 + 1 + x) 3) (gI C (c + 4 + 1 + x) 4) (gI C (c + 4 + 1 + x) 5))
    (m2 : cmpR 9 (gI R 1 (2024 + 7 * x + 4)) (gI R 1 (2024 + 7 * x + 5)) (gI C (c + 4 + 1 + x) 6) (gI C (c + 4 + 1 + x) 7) (gI C (c + 4 + 1 + x) 8)) :
    Par c C0 R0 (f_X4_readRule_J128 c (c + 4 + 1 + x) C) (if (nI (2024 + 7 * x) + (6 : Int32)) < 0 ∨ 3548 ≤ ((nI (2024 + 7 * x) + (6 : Int32))).toNatClampNeg then none else letF (sI R 1 ((nI (2024 + 7 * x) + (6 : Int32))).toNatClampNeg (-1 : Int32)) fun M41 => bnd (f_X12_isThere (12 : Int32) M41) fun r42 M43 => if r42 = 0 then (f_X12_aRule_J180 M43) else (bnd (f_X12_oldOne (92 : Int32) ((gI M43 1 2008)) ((nI (2024 + 7 * x) + (6 : Int32))) M43) fun r46 M47 => if r46 = 0 then (some ((0 : Int32), M47)) else (f_X12_aRule_J180 M47))) (EndP B n c 2 x K C0 R0) := by
  have lo := isC_lo X.2.2.2.2
  have mx := mxC X.2.2.1 X.2.2.2.1
  obtain ⟨l0, l1, l2, l3, l4, l5, l6⟩ := rl
  have e6 : nI (2024 + 7 * x) + (6 : Int32) = nI (2024 + 7 * x + 6) := nI_add _ 6
  obtain ⟨z1, z2⟩ := r_rd (e := nI (2024 + 7 * x + 6)) (j := 2024 + 7 * x + 6) rfl (by omega)
  have nr : nrR 2 x (2024 + 7 * x + 6) := Or.inr (Or.inr (Or.inl ⟨rfl, by omega, by omega⟩))
  have h1 := h.wR (-1) nr
  rw [e6, if_neg z1, z2, letF, f_X4_readRule_J128]
  rcases in_skip X h1 (t := 12) (by omega) with ⟨a1, a2⟩ | ⟨C1, R1, a1, a2, a3, a4, a5⟩
  · have a1' : f_X4_skip 12 C = some (0, C) := a1
    have a2' : f_X12_isThere 12 (sI R 1 (2024 + 7 * x + 6) (-1)) = some (0, sI R 1 (2024 + 7 * x + 6) (-1)) := a2
    rw [a1', bnd_some, if_pos rfl, a2', bnd_some, if_pos rfl, f_X12_aRule_J180, letF, show gI (sI R 1 (2024 + 7 * x + 6) (-1)) 1 2010 = nI x by rw [gI_I, if_neg (by omega)]; exact l6, nI_s]
    refine Par.ok ⟨h1.wR _ (Or.inl rfl), l5, gI_same _ _ _ _, fun y => absurd rfl y, by omega, fun _ => ⟨⟨v, hv, l0, ?_⟩, ⟨g, hg, l2, ?_⟩, Or.inl ⟨l4, ?_⟩, ?_, ?_⟩, by omega, by omega, by omega⟩
    · rw [gI_I, if_neg (by omega), gI_I, if_neg (by omega)]; exact l1
    · rw [gI_I, if_neg (by omega), gI_I, if_neg (by omega)]; exact l3
    · rw [gI_I, if_neg (by omega), gI_same]
    · rw [gI_I, if_neg (by omega), gI_I, if_neg (by omega), gI_I, if_neg (by omega), gI_I, if_neg (by omega)]; exact m1
    · rw [gI_I, if_neg (by omega), gI_I, if_neg (by omega), gI_I, if_neg (by omega), gI_I, if_neg (by omega)]; exact m2
  · have a1' : f_X4_skip 12 C = some (1, C1) := a1
    have a2' : f_X12_isThere 12 (sI R 1 (2024 + 7 * x + 6) (-1)) = some (1, R1) := a2
    have nm := in_name X a3 hw iC iR iN (k := 0) (base := 92) (q := 2024 + 7 * x + 6) (Or.inl ⟨rfl, rfl⟩) (by omega) nr
    have ct := (in_cnt X a3 hw iC iR (k := 0) (by omega) (by omega)).2
    have ct' : gI R1 1 2008 = nI (nK K 0) := ct
    rw [a1', bnd_some, if_neg i10, a2', bnd_some, if_neg i10, ct']
    refine nm.b (fun M => if_pos rfl) (fun M => if_pos rfl) fun C2 R2 ⟨p1, w, w1, w2, w3⟩ => ?_
    obtain ⟨s1, s2, s3⟩ := (go16 w2)
    obtain ⟨t1, t2, t3⟩ := (go1 w3)
    have rk : ∀ j, j ≠ 2024 + 7 * x + 6 → gI R2 1 j = gI R 1 j := fun j y => by rw [t1 j y, a5.1 _ _ (by omega), gI_I, if_neg (by omega)]
    have ck : ∀ a j, a ≠ 13 → a ≠ 16 → gI C2 a j = gI C a j := fun a j y1 y2 => by rw [s1 a j y1 y2, a4.1 _ _ (by omega)]
    rw [if_neg i10, if_neg i10, letF, s2, f_X12_aRule_J180, letF, show gI R2 1 2010 = nI x by rw [rk _ (by omega)]; exact l6, nI_s]
    refine Par.ok ⟨(p1.wC X _ (Or.inr (Or.inr (Or.inr (Or.inl ⟨rfl, rfl⟩))))).wR _ (Or.inl rfl), ?_, gI_same _ _ _ _, fun y => absurd rfl y, by omega, fun _ => ⟨⟨v, hv, ?_, ?_⟩, ⟨g, hg, ?_, ?_⟩, Or.inr ⟨w, w1, gI_same _ _ _ _, ?_⟩, ?_, ?_⟩, by omega, by omega, by omega⟩
    · rw [gI_I, if_neg (by omega), ck _ _ (by omega) (by omega)]; exact l5
    · rw [gI_I, if_neg (by omega), ck _ _ (by omega) (by omega)]; exact l0
    · rw [gI_I, if_neg (by omega), rk _ (by omega)]; exact l1
    · rw [gI_I, if_neg (by omega), ck _ _ (by omega) (by omega)]; exact l2
    · rw [gI_I, if_neg (by omega), rk _ (by omega)]; exact l3
    · rw [gI_I, if_neg (by omega)]; exact t2
    · rw [gI_I, if_neg (by omega), rk _ (by omega), gI_I, if_neg (by omega), rk _ (by omega), gI_I, if_neg (by omega), ck _ _ (by omega) (by omega), gI_I, if_neg (by omega), ck _ _ (by omega) (by omega), gI_I, if_neg (by omega), ck _ _ (by omega) (by omega)]; exact m1
    · rw [gI_I, if_neg (by omega), rk _ (by omega), gI_I, if_neg (by omega), rk _ (by omega), gI_I, if_neg (by omega), ck _ _ (by omega) (by omega), gI_I, if_neg (by omega), ck _ _ (by omega) (by omega), gI_I, if_neg (by omega), ck _ _ (by omega) (by omega)]; exact m2
theorem rule_b (X : Cx B n c 2 x) (h : InS B n c 2 x C0 R0 C R) (hw : WFK K) (iC : IsC C0 c K) (iR : IsR R0 2008 K) (iN : NmR C0 c R0 4 K) (hv : v < nK K 1) (hg : g ≤ 2) (rl : RlB c x v g C R)
    (m1 : cmpR 99 (gI R 1 (2024 + 7 * x + 2)) (gI R 1 (2024 + 7 * x + 3)) (gI C (c + 4 + 1 + x) 3) (gI C (c + 4 + 1 + x) 4) (gI C (c + 4 + 1 + x) 5))
    (i6 : gI C (c + 4 + 1 + x) 6 = -1 ∧ gI C (c + 4 + 1 + x) 7 = 0 ∧ gI C (c + 4 + 1 + x) 8 = 9) :
    Par c C0 R0 (f_X4_readRule_J84 c (c + 4 + 1 + x) C) (bnd (f_X12_against (11 : Int32) ((nI (2024 + 7 * x) + (4 : Int32))) (9 : Int32) R) fun r36 M37 => if r36 = 0 then (some ((0 : Int32), M37)) else (if (nI (2024 + 7 * x) + (6 : Int32)) < 0 ∨ 3548 ≤ ((nI (2024 + 7 * x) + (6 : Int32))).toNatClampNeg then none else letF (sI M37 1 ((nI (2024 + 7 * x) + (6 : Int32))).toNatClampNeg (-1 : Int32)) fun M41 => bnd (f_X12_isThere (12 : Int32) M41) fun r42 M43 => if r42 = 0 then (f_X12_aRule_J180 M43) else (bnd (f_X12_oldOne (92 : Int32) ((gI M43 1 2008)) ((nI (2024 + 7 * x) + (6 : Int32))) M43) fun r46 M47 => if r46 = 0 then (some ((0 : Int32), M47)) else (f_X12_aRule_J180 M47)))) (EndP B n c 2 x K C0 R0) := by
  have lo := isC_lo X.2.2.2.2
  have mx := mxC X.2.2.1 X.2.2.2.1
  have e4 : nI (2024 + 7 * x) + (4 : Int32) = nI (2024 + 7 * x + 4) := nI_add _ 4
  rw [f_X4_readRule_J84, e4]
  refine in_against X h (t := 11) (most := 9) (q := 2024 + 7 * x + 4) (Or.inr rfl) (by omega) (Or.inr (Or.inr (Or.inl ⟨rfl, by omega, by omega⟩))) (Or.inr (Or.inr (Or.inl ⟨rfl, by omega, by omega⟩))) (fun C1 R1 p1 p2 p3 p4 => ?_) (fun C1 R1 p1 p2 p3 p4 => ?_)
  · refine rule_c X p1 hw iC iR iN hv hg (rl.cg X.2.2.2.2 (fun a j y1 y2 _ => p2 a j y1 y2) (fun j y => p3 j (by omega) (by omega))) ?_ ?_
    · rw [p3 _ (by omega) (by omega), p3 _ (by omega) (by omega), p2 _ _ (by omega) (by omega), p2 _ _ (by omega) (by omega), p2 _ _ (by omega) (by omega)]; exact m1
    · rw [p4, p2 _ _ (by omega) (by omega), p2 _ _ (by omega) (by omega), p2 _ _ (by omega) (by omega)]
      exact Or.inl ⟨rfl, i6.1, i6.2.1, i6.2.2⟩
  · rw [letF, letF, letF]
    have g4 : gI (sI C1 (c + 4 + 1 + x) 6 (gI C1 16 3)) 16 4 = gI C1 16 4 := by rw [gI_I, if_neg (by omega)]
    have g5 : gI (sI (sI C1 (c + 4 + 1 + x) 6 (gI C1 16 3)) (c + 4 + 1 + x) 7 (gI C1 16 4)) 16 5 = gI C1 16 5 := by rw [gI_I, if_neg (by omega), gI_I, if_neg (by omega)]
    rw [g4, g5]
    have fr : ∀ a j, ¬ (a = c + 4 + 1 + x ∧ 6 ≤ j) → gI (sI (sI (sI C1 (c + 4 + 1 + x) 6 (gI C1 16 3)) (c + 4 + 1 + x) 7 (gI C1 16 4)) (c + 4 + 1 + x) 8 (gI C1 16 5)) a j = gI C1 a j := fun a j y => by rw [gI_I, if_neg (by omega), gI_I, if_neg (by omega), gI_I, if_neg (by omega)]
    have nc : ∀ j, nrC c 2 x (c + 4 + 1 + x) j := fun j => Or.inr (Or.inl ⟨rfl, rfl⟩)
    refine rule_c X (((p1.wC X _ (Or.inr (Or.inr (nc 6)))).wC X _ (Or.inr (Or.inr (nc 7)))).wC X _ (Or.inr (Or.inr (nc 8)))) hw iC iR iN hv hg (rl.cg X.2.2.2.2 (fun a j y1 y2 y3 => (fr a j (by omega)).trans (p2 a j y1 y2)) (fun j y => p3 j (by omega) (by omega))) ?_ ?_
    · rw [p3 _ (by omega) (by omega), p3 _ (by omega) (by omega), fr _ _ (by omega), fr _ _ (by omega), fr _ _ (by omega), p2 _ _ (by omega) (by omega), p2 _ _ (by omega) (by omega), p2 _ _ (by omega) (by omega)]; exact m1
    · rw [gI_I _ _ _ _ 6, if_neg (by omega), gI_I _ _ _ _ 6, if_neg (by omega), gI_same, gI_I _ _ _ _ 7, if_neg (by omega), gI_same, gI_same]
      exact p4
theorem rule_a (X : Cx B n c 2 x) (h : InS B n c 2 x C0 R0 C R) (hw : WFK K) (iC : IsC C0 c K) (iR : IsR R0 2008 K) (iN : NmR C0 c R0 4 K) (hv : v < nK K 1) (hg : g ≤ 2) (rl : RlB c x v g C R)
    (i3 : gI C (c + 4 + 1 + x) 3 = -1 ∧ gI C (c + 4 + 1 + x) 4 = 0 ∧ gI C (c + 4 + 1 + x) 5 = 99) (i6 : gI C (c + 4 + 1 + x) 6 = -1 ∧ gI C (c + 4 + 1 + x) 7 = 0 ∧ gI C (c + 4 + 1 + x) 8 = 9) :
    Par c C0 R0 (f_X4_readRule_J40 c (c + 4 + 1 + x) C) (f_X12_aRule_J108 (nI (2024 + 7 * x)) R) (EndP B n c 2 x K C0 R0) := by
  have lo := isC_lo X.2.2.2.2
  have mx := mxC X.2.2.1 X.2.2.2.1
  have e2 : nI (2024 + 7 * x) + (2 : Int32) = nI (2024 + 7 * x + 2) := nI_add _ 2
  rw [f_X4_readRule_J40, f_X12_aRule_J108, e2]
  refine in_against X h (t := 10) (most := 99) (q := 2024 + 7 * x + 2) (Or.inl rfl) (by omega) (Or.inr (Or.inr (Or.inl ⟨rfl, by omega, by omega⟩))) (Or.inr (Or.inr (Or.inl ⟨rfl, by omega, by omega⟩))) (fun C1 R1 p1 p2 p3 p4 => ?_) (fun C1 R1 p1 p2 p3 p4 => ?_)
  · refine rule_b X p1 hw iC iR iN hv hg (rl.cg X.2.2.2.2 (fun a j y1 y2 _ => p2 a j y1 y2) (fun j y => p3 j (by omega) (by omega))) ?_ ?_
    · rw [p4, p2 _ _ (by omega) (by omega), p2 _ _ (by omega) (by omega), p2 _ _ (by omega) (by omega)]
      exact Or.inl ⟨rfl, i3.1, i3.2.1, i3.2.2⟩
    · rw [p2 _ _ (by omega) (by omega), p2 _ _ (by omega) (by omega), p2 _ _ (by omega) (by omega)]; exact i6
  · rw [letF, letF, letF]
    have g4 : gI (sI C1 (c + 4 + 1 + x) 3 (gI C1 16 3)) 16 4 = gI C1 16 4 := by rw [gI_I, if_neg (by omega)]
    have g5 : gI (sI (sI C1 (c + 4 + 1 + x) 3 (gI C1 16 3)) (c + 4 + 1 + x) 4 (gI C1 16 4)) 16 5 = gI C1 16 5 := by rw [gI_I, if_neg (by omega), gI_I, if_neg (by omega)]
    rw [g4, g5]
    have fr : ∀ a j, ¬ (a = c + 4 + 1 + x ∧ 3 ≤ j ∧ j ≤ 5) → gI (sI (sI (sI C1 (c + 4 + 1 + x) 3 (gI C1 16 3)) (c + 4 + 1 + x) 4 (gI C1 16 4)) (c + 4 + 1 + x) 5 (gI C1 16 5)) a j = gI C1 a j := fun a j y => by rw [gI_I, if_neg (by omega), gI_I, if_neg (by omega), gI_I, if_neg (by omega)]
    have nc : ∀ j, nrC c 2 x (c + 4 + 1 + x) j := fun j => Or.inr (Or.inl ⟨rfl, rfl⟩)
    refine rule_b X (((p1.wC X _ (Or.inr (Or.inr (nc 3)))).wC X _ (Or.inr (Or.inr (nc 4)))).wC X _ (Or.inr (Or.inr (nc 5)))) hw iC iR iN hv hg (rl.cg X.2.2.2.2 (fun a j y1 y2 y3 => (fr a j (by omega)).trans (p2 a j y1 y2)) (fun j y => p3 j (by omega) (by omega))) ?_ ?_
    · rw [gI_I _ _ _ _ 3, if_neg (by omega), gI_I _ _ _ _ 3, if_neg (by omega), gI_same, gI_I _ _ _ _ 4, if_neg (by omega), gI_same, gI_same]
      exact p4
    · rw [fr _ _ (by omega), fr _ _ (by omega), fr _ _ (by omega), p2 _ _ (by omega) (by omega), p2 _ _ (by omega) (by omega), p2 _ _ (by omega) (by omega)]; exact i6
end RULEP
