/-! WEEKS: a STEP begins, in both -/
def StkW (C R : Mem) (at_ : Nat → Int32) : List Nat → Prop
  | [] => True
  | o :: os => gI R 8 os.length = nI o ∧ gI C 17 os.length = nI (cntW at_ o) ∧ StkW C R at_ os
theorem StkW.cg {C R C' R' : Mem} {at_ at' : Nat → Int32} : ∀ {os : List Nat}, StkW C R at_ os → (∀ i, i < os.length → gI R' 8 i = gI R 8 i) → (∀ i, i < os.length → gI C' 17 i = gI C 17 i) → (∀ o, o ∈ os → cntW at' o = cntW at_ o) → StkW C' R' at' os := by
  intro os
  induction os with
  | nil => intro _ _ _ _; exact True.intro
  | cons o os ih =>
    intro h e1 e2 e3
    obtain ⟨h1, h2, h3⟩ := h
    exact ⟨(e1 _ (by rw [List.length_cons]; omega)).trans h1, by rw [e2 _ (by rw [List.length_cons]; omega), e3 o List.mem_cons_self]; exact h2, ih h3 (fun i hi => e1 i (by rw [List.length_cons]; omega)) (fun i hi => e2 i (by rw [List.length_cons]; omega)) (fun x hx => e3 x (List.mem_cons_of_mem _ hx))⟩
def atW (R : Mem) : Nat → Int32 := fun k => gI R 1 (2142 + k)
def clW (c : Nat) (C : Mem) : Nat → Int32 := fun k => gI C (c + 24 + 1) k
/-- at a STEP's border -/
def WkS (B : Nat → Nat) (n c d : Nat) (K : Kt) (C R : Mem) (f e m : Nat) (os : List Nat) : Prop :=
  StT B n C R f e ∧ CrtW K d C R ∧ gI C (c + 24) 1 = nI (cntW (atW R) m) ∧ gI R 1 2016 = nI m ∧ gI R 0 22 = nI (cntW (atW R) m) ∧ gI C 16 2 = nI os.length ∧ gI R 0 21 = nI os.length ∧ StkW C R (atW R) os ∧ WkI K (clW c C) (atW R) m os ∧ gI C 13 9 = 0 ∧ gI C 13 10 = -1 ∧ gI R 0 17 = -1
theorem r_zero5 {R : Mem} {q : Nat} (hq : q + 6 < 3548) (b1 b2 b4 : Int32) : ∃ R', f_X12_weekStep_L147 b1 b2 (nI q) b4 fz 1 R = some ((), R') ∧ (∀ y k, gI R' y k = if y = 1 ∧ q + 1 ≤ k ∧ k < q + 6 then 0 else gI R y k) ∧ ∀ y k, gL R' y k = gL R y k := by
  have key := loopI (fun fu (D : Mem) i => f_X12_weekStep_L147 b1 b2 (nI q) b4 fu (nI i) D) 6 (fun i D => 1 ≤ i ∧ (∀ y k, gI D y k = if y = 1 ∧ q + 1 ≤ k ∧ k < q + i then 0 else gI R y k) ∧ ∀ y k, gL D y k = gL R y k)
    (fun r => r.1 = () ∧ (∀ y k, gI r.2 y k = if y = 1 ∧ q + 1 ≤ k ∧ k < q + 6 then 0 else gI R y k) ∧ ∀ y k, gL r.2 y k = gL R y k)
    (fun fu D hI => ⟨((), D), ?_, rfl, hI.2⟩)
    (fun fu D i hi hI => Or.inl ?_) 5 1 R fz (by omega) (by rw [fz_is]; omega) ⟨Nat.le_refl _, fun n k => by rw [if_neg (by omega)], fun n k => rfl⟩
  · obtain ⟨⟨u, D⟩, e1, -, e2⟩ := key
    exact ⟨D, e1, e2⟩
  · rw [f_X12_weekStep_L147, if_pos (show (6 : Int32) ≤ nI 6 by decide)]
  · obtain ⟨q1, q2⟩ := r_rd (e := nI q + nI i) (j := q + i) (nI_add q i) (by omega)
    obtain ⟨i1, hI1, hI2⟩ := hI
    refine ⟨sI D 1 (q + i) 0, ⟨by omega, fun y k => ?_, fun y k => hI2 y k⟩, ?_⟩
    · rw [gI_I, hI1]
      by_cases z : y = 1 ∧ k = q + i
      · rw [if_pos z, if_pos (by omega)]
      · rw [if_neg z]
        by_cases z2 : y = 1 ∧ q + 1 ≤ k ∧ k < q + i
        · rw [if_pos z2, if_pos (by omega)]
        · rw [if_neg z2, if_neg (by omega)]
    · rw [f_X12_weekStep_L147, if_neg (show ¬ (6 : Int32) ≤ nI i from nI_ge (b := 6) hi (by omega)), if_neg q1, letF, letF, q2, nI_s]
/-- what a beginning STEP changes -/
def BwC (w s : Nat) (C C' : Mem) : Prop := (∀ a j, ¬ (a = 13 ∧ (j = 4 ∨ j = 5 ∨ j = 6 ∨ j = 8)) → ¬ (a = 16) → ¬ (a = 17) → ¬ (a = w ∧ j = 1) → ¬ (a = w + 1 ∧ 5 * s ≤ j ∧ j < 5 * s + 5) → gI C' a j = gI C a j) ∧ (∀ a j, ¬ (a = 13 ∧ j = 7) → gL C' a j = gL C a j) ∧ ∀ a j, gR C' a j = gR C a j
def BwR (m : Nat) (R R' : Mem) : Prop := (∀ a j, ¬ (a = 0 ∧ (j = 12 ∨ j = 13 ∨ j = 14 ∨ j = 15 ∨ j = 21 ∨ j = 22)) → ¬ a = 8 → ¬ (a = 1 ∧ (j = 2016 ∨ (2142 + 6 * m ≤ j ∧ j < 2148 + 6 * m))) → gI R' a j = gI R a j) ∧ ∀ a j, gL R' a j = gL R a j
theorem BwC.fb {w s : Nat} {C C1 C2 : Mem} (h : BwC w s C C1) (g : FbC w s C1 C2) : BwC w s C C2 := ⟨fun a j z1 z2 z3 z4 z5 => (g.1 a j z1 (by omega) z5).trans (h.1 a j z1 z2 z3 z4 z5), fun a j z => (g.2.1 a j z).trans (h.2.1 a j z), fun a j => (g.2.2 a j).trans (h.2.2 a j)⟩
theorem BwR.fb {m : Nat} {R R1 R2 : Mem} (h : BwR m R R1) (g : FbR m R1 R2) : BwR m R R2 := ⟨fun a j z1 z2 z3 => (g.1 a j (by omega) (by omega)).trans (h.1 a j z1 z2 z3), fun a j => (g.2 a j).trans (h.2 a j)⟩
theorem BwC.go {w s : Nat} {C C1 C2 : Mem} (h : BwC w s C C1) (g : GoC C1 C2) : BwC w s C C2 := ⟨fun a j z1 z2 z3 z4 z5 => (g.1 a j z1).trans (h.1 a j z1 z2 z3 z4 z5), fun a j z => (g.2.1 a j z).trans (h.2.1 a j z), fun a j => (g.2.2 a j).trans (h.2.2 a j)⟩
theorem BwR.go {m : Nat} {R R1 R2 : Mem} (h : BwR m R R1) (g : GoR R1 R2) : BwR m R R2 := ⟨fun a j z1 z2 z3 => (g.1 a j (by omega)).trans (h.1 a j z1 z2 z3), fun a j => (g.2 a j).trans (h.2 a j)⟩
theorem BwC.pr {c w s : Nat} {C C' : Mem} (h : BwC w s C C') (hw : w = c + 24) : PrC c C C' := ⟨fun a j z1 z2 z3 => h.1 a j (by omega) (by omega) (by omega) (by omega) (by omega), fun a j z1 z2 => h.2.1 a j z1, h.2.2⟩
theorem BwR.pr {m : Nat} {R R' : Mem} (h : BwR m R R') (hm : m < 60) : PrR R R' := ⟨fun a j z1 z2 z3 => h.1 a j (by omega) z3 (by omega), fun a j z => h.2 a j⟩
theorem CrtW.bw {K : Kt} {c d w s m : Nat} {C R C' R' : Mem} (h : CrtW K d C R) (fc : BwC w s C C') (fr : BwR m R R') (hw : w = c + 24) (hc : 27 ≤ c) (hd : 27 ≤ d ∧ (d + 28 ≤ c ∨ c + 28 ≤ d)) : CrtW K d C' R' := by
  obtain ⟨h1, h2, h3, h4⟩ := h
  exact ⟨h1, fun k hk => (fc.1 _ _ (by omega) (by omega) (by omega) (by omega) (by omega)).trans (h2 k hk), fun k hk => (fr.1 _ _ (by omega) (by omega) (by omega)).trans (h3 k hk), fun k hk k2 i hi => by rw [fc.2.1 _ _ (by omega), fr.2]; exact h4 k hk k2 i hi⟩
section BEGW
variable {B : Nat → Nat} {n c d : Nat} {C R : Mem} {K : Kt} {f e m : Nat} {os : List Nat}
/-- the class begins a STEP -/
theorem c_begin (hc : shC c = 0) {t s l : Nat} (ht : 15 ≤ t) (ht2 : t ≤ 24) (hs : s < 30) (cs : gI C (c + 24) 1 = nI s) (cl : gI C 16 2 = nI l) {o : Bool} (ho : o = (decide (t = 22) || decide (t = 23))) (hl : o = true → l < 3) :
    f_X4_beginStep (nI t) (c + 24) C = bnd (f_X7_goOn (if o = true then sI (sI (sI (sI C (c + 24) 1 (nI (s + 1))) (c + 24 + 1) (5 * s) (nI t)) 17 l (nI s)) 16 2 (nI (l + 1)) else sI (sI C (c + 24) 1 (nI (s + 1))) (c + 24 + 1) (5 * s) (nI t))) fun _ M => some (1, M) := by
  have lo := isC_lo hc
  have pc : ∀ (v : Int32) (D : Mem), f_X9_putCell (c + 24) (nI s) 0 v D = some ((), sI D (c + 24 + 1) (5 * s) v) := by
    intro v D
    have e : nI s * 5 + (0 : Int32) = nI (5 * s) := by rw [litI, litI, pk_mul, nI_add, Nat.mul_comm]; rfl
    rw [f_X9_putCell, e, p_put (n := 150) (alC_wk hc) (by omega) (by decide), bnd_some]
  have j80 : ∀ x : Int32, (x = 0 ∨ (x = 1 ∧ l < 3)) → f_X4_beginStep_J80 (nI t) (c + 24) x C = bnd (f_X7_goOn (if x = 1 then sI (sI (sI (sI C (c + 24) 1 (nI (s + 1))) (c + 24 + 1) (5 * s) (nI t)) 17 l (nI s)) 16 2 (nI (l + 1)) else sI (sI C (c + 24) 1 (nI (s + 1))) (c + 24 + 1) (5 * s) (nI t))) fun _ M => some (1, M) := by
    intro x hx
    rw [f_X4_beginStep_J80, cs, letF, nI_s, letF, pc, bnd_some]
    rcases hx with rfl | ⟨rfl, hl⟩
    · rw [if_pos rfl, if_neg (by decide)]
    · have g2 : gI (sI (sI C (c + 24) 1 (nI (s + 1))) (c + 24 + 1) (5 * s) (nI t)) 16 2 = nI l := by rw [gI_I, if_neg (by omega), gI_I, if_neg (by omega)]; exact cl
      have g3 : gI (sI (sI (sI C (c + 24) 1 (nI (s + 1))) (c + 24 + 1) (5 * s) (nI t)) 17 l (nI s)) 16 2 = nI l := by rw [gI_I, if_neg (by omega)]; exact g2
      rw [if_neg i10, if_pos rfl, g2, p_put zC_17 hl (by decide), bnd_some, g3, nI_s, letF]
  rw [f_X4_beginStep, if_neg (show ¬ nI t < 15 from nI_nlt (a := t) (b := 15) ht (by omega)), if_pos (show nI t ≤ 24 from nI_le (b := 24) ht2 (by omega)), cs, if_pos (show nI s < 30 from nI_lt (b := 30) hs (by omega))]
  by_cases z22 : t = 22
  · subst z22
    have ho' : o = true := ho
    subst ho'
    rw [if_pos (show nI 22 = 22 from rfl), f_X4_beginStep_J52, f_X4_beginStep_J57, if_neg i10, cl, if_pos (show nI l < 3 from nI_lt (b := 3) (hl rfl) (by omega)), j80 1 (Or.inr ⟨rfl, hl rfl⟩), if_pos rfl, if_pos rfl]
  · rw [if_neg (show ¬ nI t = 22 from fun q => z22 (nI_inj (b := 22) (by omega) (by omega) q))]
    by_cases z23 : t = 23
    · subst z23
      have ho' : o = true := ho
      subst ho'
      rw [if_pos (show nI 23 = 23 from rfl), f_X4_beginStep_J52, f_X4_beginStep_J57, if_neg i10, cl, if_pos (show nI l < 3 from nI_lt (b := 3) (hl rfl) (by omega)), j80 1 (Or.inr ⟨rfl, hl rfl⟩), if_pos rfl, if_pos rfl]
    · have ho' : o = false := by rw [ho, decide_eq_false z22, decide_eq_false z23]; rfl
      subst ho'
      rw [if_neg (show ¬ nI t = 23 from fun q => z23 (nI_inj (b := 23) (by omega) (by omega) q)), f_X4_beginStep_J57, if_pos rfl, j80 0 (Or.inl rfl), if_neg (by decide), if_neg (by decide)]
end BEGW
