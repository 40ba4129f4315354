/-! TEXTS: inside a part of a court -/
def nrC (c kd x a j : Nat) : Prop := (kd = 1 ∧ a = c + 3 ∧ j = x) ∨ (kd = 2 ∧ a = c + 4 + 1 + x) ∨ (kd = 3 ∧ a = c + 13 + 1 + x) ∨ (kd = 4 ∧ (a = c + 20 ∨ a = c + 21) ∧ j = x) ∨ (kd = 5 ∧ (a = c + 22 ∨ a = c + 23) ∧ j = x)
def nrR (kd x j : Nat) : Prop := j = 2008 + kd ∨ (kd = 1 ∧ j = 2018 + x) ∨ (kd = 2 ∧ 2024 + 7 * x ≤ j ∧ j < 2031 + 7 * x) ∨ (kd = 3 ∧ 2080 + 5 * x ≤ j ∧ j < 2085 + 5 * x) ∨ (kd = 4 ∧ 2110 + 2 * x ≤ j ∧ j < 2112 + 2 * x) ∨ (kd = 5 ∧ 2122 + 2 * x ≤ j ∧ j < 2124 + 2 * x)
def FnC (c kd x : Nat) (C0 C : Mem) : Prop := (∀ a j, ¬ (a = 13 ∧ (j = 4 ∨ j = 5 ∨ j = 6 ∨ j = 8)) → ¬ a = 16 → ¬ (a = c + 1 ∧ j = kd) → ¬ nrC c kd x a j → gI C a j = gI C0 a j) ∧ (∀ a j, ¬ (a = 13 ∧ j = 7) → ¬ (kd ≠ 2 ∧ kd ≠ 5 ∧ a = c + 2 ∧ j = kd * 6 + x) → gL C a j = gL C0 a j) ∧ ∀ a j, gR C a j = gR C0 a j
def FnR (kd x : Nat) (R0 R : Mem) : Prop := (∀ a j, ¬ (a = 0 ∧ (j = 12 ∨ j = 13 ∨ j = 14 ∨ j = 15)) → ¬ (a = 1 ∧ nrR kd x j) → gI R a j = gI R0 a j) ∧ ∀ a j, ¬ (kd ≠ 2 ∧ kd ≠ 5 ∧ a = 2 ∧ j = 92 + nmB.getD kd 0 + x) → gL R a j = gL R0 a j
theorem mxC {kd x : Nat} (hk : kd < 6) (hx : x < mxK.getD kd 0) : (kd = 0 ∧ x < 5) ∨ (kd = 1 ∧ x < 6) ∨ (kd = 2 ∧ x < 8) ∨ (kd = 3 ∧ x < 6) ∨ (kd = 4 ∧ x < 6) ∨ (kd = 5 ∧ x < 10) := by
  rcases (show kd = 0 ∨ kd = 1 ∨ kd = 2 ∨ kd = 3 ∨ kd = 4 ∨ kd = 5 by omega) with rfl | rfl | rfl | rfl | rfl | rfl
  · exact Or.inl ⟨rfl, hx⟩
  · exact Or.inr (Or.inl ⟨rfl, hx⟩)
  · exact Or.inr (Or.inr (Or.inl ⟨rfl, hx⟩))
  · exact Or.inr (Or.inr (Or.inr (Or.inl ⟨rfl, hx⟩)))
  · exact Or.inr (Or.inr (Or.inr (Or.inr (Or.inl ⟨rfl, hx⟩))))
  · exact Or.inr (Or.inr (Or.inr (Or.inr (Or.inr ⟨rfl, hx⟩))))
theorem nmC (kd : Nat) : (kd = 0 → nmB.getD kd 0 = 0) ∧ (kd = 1 → nmB.getD kd 0 = 5) ∧ (kd = 3 → nmB.getD kd 0 = 11) ∧ (kd = 4 → nmB.getD kd 0 = 17) := ⟨fun h => by rw [h]; rfl, fun h => by rw [h]; rfl, fun h => by rw [h]; rfl, fun h => by rw [h]; rfl⟩
theorem FnC.rf {c kd x : Nat} {C : Mem} : FnC c kd x C C := ⟨fun _ _ _ _ _ _ => rfl, fun _ _ _ _ => rfl, fun _ _ => rfl⟩
theorem FnR.rf {kd x : Nat} {R : Mem} : FnR kd x R R := ⟨fun _ _ _ _ => rfl, fun _ _ _ => rfl⟩
theorem FnC.go {c kd x : Nat} {C0 C C' : Mem} (h : FnC c kd x C0 C) (g : GoC C C') : FnC c kd x C0 C' := ⟨fun a j z1 z2 z3 z4 => (g.1 a j (by omega)).trans (h.1 a j z1 z2 z3 z4), fun a j z1 z2 => (g.2.1 a j z1).trans (h.2.1 a j z1 z2), fun a j => (g.2.2 a j).trans (h.2.2 a j)⟩
theorem FnR.go {kd x : Nat} {R0 R R' : Mem} (h : FnR kd x R0 R) (g : GoR R R') : FnR kd x R0 R' := ⟨fun a j z1 z2 => (g.1 a j (by omega)).trans (h.1 a j z1 z2), fun a j z => (g.2 a j).trans (h.2 a j z)⟩
theorem FnC.sI {c kd x : Nat} {C0 C : Mem} (h : FnC c kd x C0 C) {a j : Nat} (v : Int32) (w : a = 16 ∨ (a = c + 1 ∧ j = kd) ∨ nrC c kd x a j) : FnC c kd x C0 (sI C a j v) :=
  ⟨fun a1 j1 z1 z2 z3 z4 => by rw [gI_I, if_neg (fun q => by obtain ⟨rfl, rfl⟩ := q; rcases w with w | w | w; exact z2 w; exact z3 w; exact z4 w)]; exact h.1 a1 j1 z1 z2 z3 z4, fun a1 j1 z1 z2 => h.2.1 a1 j1 z1 z2, h.2.2⟩
theorem FnR.sI {kd x : Nat} {R0 R : Mem} (h : FnR kd x R0 R) {j : Nat} (v : Int32) (w : nrR kd x j) : FnR kd x R0 (sI R 1 j v) :=
  ⟨fun a1 j1 z1 z2 => by rw [gI_I, if_neg (fun q => by obtain ⟨rfl, rfl⟩ := q; exact z2 ⟨rfl, w⟩)]; exact h.1 a1 j1 z1 z2, h.2⟩
theorem FnC.pr {c kd x : Nat} {C0 C : Mem} (h : FnC c kd x C0 C) (hk : kd < 6) (hx : x < mxK.getD kd 0) : PrC c C0 C := by
  have mx := mxC hk hx
  exact ⟨fun a j z1 z2 z3 => h.1 a j (by omega) (by omega) (by omega) (by unfold nrC; omega), fun a j z1 z2 => h.2.1 a j z1 (by omega), h.2.2⟩
theorem FnR.pr {kd x : Nat} {R0 R : Mem} (h : FnR kd x R0 R) (hk : kd < 6) (hx : x < mxK.getD kd 0) : PrR R0 R := by
  have mx := mxC hk hx
  obtain ⟨n0, n1, n3, n4⟩ := nmC kd
  refine ⟨fun a j z1 z2 z3 => h.1 a j (by omega) (by unfold nrR; omega), fun a j z => h.2 a j ?_⟩
  rintro ⟨y1, y2, y3, y4⟩
  rcases mx with ⟨m1, m2⟩ | ⟨m1, m2⟩ | ⟨m1, m2⟩ | ⟨m1, m2⟩ | ⟨m1, m2⟩ | ⟨m1, m2⟩
  · rw [n0 m1] at y4; omega
  · rw [n1 m1] at y4; omega
  · exact y1 m1
  · rw [n3 m1] at y4; omega
  · rw [n4 m1] at y4; omega
  · exact y2 m1
/-- at a part's border -/
def PtI (B : Nat → Nat) (n c : Nat) (C R : Mem) (f e : Nat) (K : Kt) : Prop := StT B n C R f e ∧ WFK K ∧ IsC C c K ∧ IsR R 2008 K ∧ NmR C c R 4 K ∧ (∀ i, nK K 3 ≤ i → i < 6 → ∀ g, g < 5 → gI R 1 (2080 + 5 * i + g) = 0) ∧ K 20 1 = 0 ∧ gI C (c + 24) 0 = 0 ∧ gI R 1 2016 = -1 ∧ gI C 13 9 = 0 ∧ gI C 13 10 = -1 ∧ gI R 0 17 = -1
/-- the new row, on both sides -/
def RowOK (c kd x : Nat) (K : Kt) (C R : Mem) : Prop :=
  (kd = 1 → ∃ n : Nat, n ≤ 2 ∧ gI C (c + 3) x = nI n ∧ gI R 1 (2018 + x) = nI n) ∧
  (kd = 2 → (∃ n : Nat, n < nK K 1 ∧ gI C (c + 4 + 1 + x) 0 = nI n ∧ gI R 1 (2024 + 7 * x) = nI n) ∧ (∃ n : Nat, n ≤ 2 ∧ gI C (c + 4 + 1 + x) 1 = nI n ∧ gI R 1 (2024 + 7 * x + 1) = nI n) ∧
    ((gI C (c + 4 + 1 + x) 2 = -1 ∧ gI R 1 (2024 + 7 * x + 6) = -1) ∨ ∃ n : Nat, n < nK K 0 ∧ gI C (c + 4 + 1 + x) 2 = nI n ∧ gI R 1 (2024 + 7 * x + 6) = nI n) ∧
    cmpR 99 (gI R 1 (2024 + 7 * x + 2)) (gI R 1 (2024 + 7 * x + 3)) (gI C (c + 4 + 1 + x) 3) (gI C (c + 4 + 1 + x) 4) (gI C (c + 4 + 1 + x) 5) ∧
    cmpR 9 (gI R 1 (2024 + 7 * x + 4)) (gI R 1 (2024 + 7 * x + 5)) (gI C (c + 4 + 1 + x) 6) (gI C (c + 4 + 1 + x) 7) (gI C (c + 4 + 1 + x) 8)) ∧
  (kd = 3 → ((gI C (c + 13 + 1 + x) 0 = 1 ∧ gI R 1 (2080 + 5 * x + 3) = 1) ∨ (gI C (c + 13 + 1 + x) 0 = 2 ∧ gI R 1 (2080 + 5 * x + 3) = 0)) ∧ (∃ n : Nat, n ≤ 99 ∧ gI C (c + 13 + 1 + x) 1 = nI n ∧ gI R 1 (2080 + 5 * x) = nI n) ∧
    (∃ n : Nat, n < 32 ∧ gI C (c + 13 + 1 + x) 2 = nI n ∧ gI R 1 (2080 + 5 * x + 1) = nI n) ∧ (gI C (c + 13 + 1 + x) 3 = 0 ∧ gI R 1 (2080 + 5 * x + 2) = 0) ∧ (gI C (c + 13 + 1 + x) 4 = 0 ∧ gI R 1 (2080 + 5 * x + 4) = 0)) ∧
  (kd = 4 → (∃ n : Nat, n ≤ 16 ∧ gI C (c + 20) x = nI n ∧ gI R 1 (2110 + 2 * x) = nI n) ∧ ∃ n : Nat, 1 ≤ n ∧ n ≤ 9 ∧ gI C (c + 21) x = nI n ∧ gI R 1 (2110 + 2 * x + 1) = nI n) ∧
  (kd = 5 → (∃ n : Nat, n < nK K 3 ∧ gI C (c + 22) x = nI n ∧ gI R 1 (2122 + 2 * x) = nI n) ∧ ((gI C (c + 23) x = 1 ∧ gI R 1 (2122 + 2 * x + 1) = 1) ∨ (gI C (c + 23) x = 2 ∧ gI R 1 (2122 + 2 * x + 1) = 2)))
def newV (c kd x : Nat) (C : Mem) (a : Nat) : Int32 :=
  if kd = 1 then gI C (c + 3) x else if kd = 2 then gI C (c + 4 + 1 + x) (a - 2) else if kd = 3 then gI C (c + 13 + 1 + x) (a - 11) else if kd = 4 then (if a = 16 then gI C (c + 20) x else gI C (c + 21) x) else if a = 18 then gI C (c + 22) x else gI C (c + 23) x
section GROWP
variable {B : Nat → Nat} {n c : Nat} {C0 R0 C R : Mem} {K : Kt}
theorem PtI.grow {f0 e0 f e kd : Nat} (hc : shC c = 0) (h : PtI B n c C0 R0 f0 e0 K) (hs : StT B n C R f e) (hk : kd < 6) (hx : nK K kd < mxK.getD kd 0) (hC : FnC c kd (nK K kd) C0 C) (hR : FnR kd (nK K kd) R0 R)
    (c1 : gI C (c + 1) kd = nI (nK K kd + 1)) (r1 : gI R 1 (2008 + kd) = nI (nK K kd + 1)) (nm : kd ≠ 2 → kd ≠ 5 → nmOK (gL C (c + 2) (kd * 6 + nK K kd)) (gL R 2 (92 + nmB.getD kd 0 + nK K kd))) (ro : RowOK c kd (nK K kd) K C R) :
    PtI B n c C R f e (grK K kd (newV c kd (nK K kd) C)) := by
  obtain ⟨-, hw, iC, iR, iN, iZ, k21, k24, k16, k9, k10, k17⟩ := h
  have lo := isC_lo hc
  have mx := mxC hk hx
  have m10 : nK K kd < 10 := by omega
  have n1 := hw.n1.2
  have n2 := hw.n2.2
  have n3 := hw.n3.2
  have n4 := hw.n4.2
  have n5 := hw.n5.2
  refine ⟨hs, ?_, ?_, ?_, ?_, fun i i1 i2 g hg => ?_, ?_, ?_, ?_, ?_, ?_, ?_⟩
  · refine hw.grow hk hx (fun z => ?_) (fun z => ?_) (fun z => ?_) (fun z => ?_) (fun z => ?_)
    · obtain ⟨m, p, q, -⟩ := ro.1 z
      exact ⟨m, p, by unfold newV; rw [if_pos z]; exact q⟩
    · obtain ⟨⟨a, a1, a2, -⟩, ⟨b, b1, b2, -⟩, d, -⟩ := ro.2.1 z
      have q : ∀ g, newV c kd (nK K kd) C g = gI C (c + 4 + 1 + nK K kd) (g - 2) := fun g => by unfold newV; rw [if_neg (by omega), if_pos z]
      rw [q, q, q]
      exact ⟨⟨a, a1, a2⟩, ⟨b, b1, b2⟩, d.imp (fun w => w.1) (fun ⟨w, w1, w2, _⟩ => ⟨w, w1, w2⟩)⟩
    · obtain ⟨a, ⟨b, b1, b2, -⟩, ⟨d, d1, d2, -⟩, ⟨w, -⟩, -⟩ := ro.2.2.1 z
      have q : ∀ g, newV c kd (nK K kd) C g = gI C (c + 13 + 1 + nK K kd) (g - 11) := fun g => by unfold newV; rw [if_neg (by omega), if_neg (by omega), if_pos z]
      rw [q, q, q, q]
      exact ⟨a.imp (fun w => w.1) (fun w => w.1), ⟨b, b1, b2⟩, ⟨d, d1, d2⟩, 0, by omega, w⟩
    · obtain ⟨⟨a, a1, a2, -⟩, b, b1, b2, b3, -⟩ := ro.2.2.2.1 z
      have q : ∀ g, newV c kd (nK K kd) C g = if g = 16 then gI C (c + 20) (nK K kd) else gI C (c + 21) (nK K kd) := fun g => by unfold newV; rw [if_neg (by omega), if_neg (by omega), if_neg (by omega), if_pos z]
      rw [q, q]
      exact ⟨⟨a, a1, a2⟩, b, b1, b2, b3⟩
    · obtain ⟨⟨a, a1, a2, -⟩, b⟩ := ro.2.2.2.2 z
      have q : ∀ g, newV c kd (nK K kd) C g = if g = 18 then gI C (c + 22) (nK K kd) else gI C (c + 23) (nK K kd) := fun g => by unfold newV; rw [if_neg (by omega), if_neg (by omega), if_neg (by omega), if_neg (by omega)]
      rw [q, q]
      exact ⟨⟨a, a1, a2⟩, b.imp (fun w => w.1) (fun w => w.1)⟩
  · refine iC.grow m10 (by omega) (by omega) c1 (fun k z => hC.1 _ _ (by omega) (by omega) (by omega) (by unfold nrC; omega)) (fun m j z1 z2 z3 z4 => hC.1 _ _ (by omega) (by omega) (by omega) z4) hw (fun z => ?_) (fun z g hg => ?_) (fun z g hg => ?_) (fun z => ?_) (fun z => ?_) hk
    · unfold newV; rw [if_pos z]
    · unfold newV; rw [if_neg (by omega), if_pos z, Nat.add_sub_cancel_left]
    · unfold newV; rw [if_neg (by omega), if_neg (by omega), if_pos z, Nat.add_sub_cancel_left]
    · unfold newV; rw [if_neg (by omega), if_neg (by omega), if_neg (by omega), if_pos z, if_pos rfl, if_neg (by omega), if_neg (by omega), if_neg (by omega), if_pos z, if_neg (by omega)]; exact ⟨rfl, rfl⟩
    · unfold newV; rw [if_neg (by omega), if_neg (by omega), if_neg (by omega), if_neg (by omega), if_pos rfl, if_neg (by omega), if_neg (by omega), if_neg (by omega), if_neg (by omega), if_neg (by omega)]; exact ⟨rfl, rfl⟩
  · refine iR.grow hw hk hx r1 (fun j z1 z2 z3 => hR.1 _ _ (by omega) (fun q => z3 (by unfold nrR at q; omega))) (fun z => ?_) (fun z => ?_) (fun z => ?_) (fun z => ?_) (fun z => ?_)
    · obtain ⟨m, p, q, q2⟩ := ro.1 z
      unfold newV; rw [if_pos z, q]; exact q2
    · obtain ⟨⟨a, a1, a2, a3⟩, ⟨b, b1, b2, b3⟩, d, g1, g2⟩ := ro.2.1 z
      have q : ∀ g, newV c kd (nK K kd) C g = gI C (c + 4 + 1 + nK K kd) (g - 2) := fun g => by unfold newV; rw [if_neg (by omega), if_pos z]
      rw [q, q, q, q, q, q, q, q, q]
      exact ⟨a3.trans a2.symm, b3.trans b2.symm, by rcases d with ⟨d1, d2⟩ | ⟨w, w1, w2, w3⟩; exact d2.trans d1.symm; exact w3.trans w2.symm, g1, g2⟩
    · obtain ⟨a, ⟨b, b1, b2, b3⟩, ⟨d, d1, d2, d3⟩, ⟨w, w2⟩, u, u2⟩ := ro.2.2.1 z
      have q : ∀ g, newV c kd (nK K kd) C g = gI C (c + 13 + 1 + nK K kd) (g - 11) := fun g => by unfold newV; rw [if_neg (by omega), if_neg (by omega), if_pos z]
      rw [q, q, q, q, q]
      refine ⟨b3.trans b2.symm, d3.trans d2.symm, w2.trans w.symm, ?_, u2.trans u.symm⟩
      rcases a with ⟨a1, a2⟩ | ⟨a1, a2⟩
      · exact a2.trans (by rw [a1]; decide)
      · exact a2.trans (by rw [a1]; decide)
    · obtain ⟨⟨a, a1, a2, a3⟩, b, b1, b2, b3, b4⟩ := ro.2.2.2.1 z
      have q : ∀ g, newV c kd (nK K kd) C g = if g = 16 then gI C (c + 20) (nK K kd) else gI C (c + 21) (nK K kd) := fun g => by unfold newV; rw [if_neg (by omega), if_neg (by omega), if_neg (by omega), if_pos z]
      rw [q, q]
      exact ⟨a3.trans a2.symm, b4.trans b3.symm⟩
    · obtain ⟨⟨a, a1, a2, a3⟩, b⟩ := ro.2.2.2.2 z
      have q : ∀ g, newV c kd (nK K kd) C g = if g = 18 then gI C (c + 22) (nK K kd) else gI C (c + 23) (nK K kd) := fun g => by unfold newV; rw [if_neg (by omega), if_neg (by omega), if_neg (by omega), if_neg (by omega)]
      rw [q, q]
      refine ⟨a3.trans a2.symm, ?_⟩
      rcases b with ⟨b1, b2⟩ | ⟨b1, b2⟩ <;> exact b2.trans b1.symm
  · exact iN.grow hw m10 (fun j z => hC.2.1 _ _ (by omega) (fun q => z ⟨q.1, q.2.1, q.2.2.2⟩)) (fun j z => hR.2 _ _ (fun q => z ⟨q.1, q.2.1, q.2.2.2⟩)) hk hx nm
  · rw [grK_nk m10] at i1
    have : nK K 3 ≤ i ∧ ¬ (kd = 3 ∧ i = nK K kd) := by
      by_cases z : 3 = kd
      · subst z; rw [if_pos rfl] at i1; omega
      · rw [if_neg z] at i1; omega
    refine Eq.trans (hR.1 _ _ (by omega) (fun q => ?_)) (iZ i this.1 i2 g hg)
    unfold nrR at q
    by_cases z : kd = 3
    · subst z; rw [if_pos rfl] at i1; omega
    · omega
  · rw [grK_o (a := 20) (by omega) (by rw [show fld 20 = 9 from rfl]; omega)]; exact k21
  · exact (hC.1 _ _ (by omega) (by omega) (by omega) (by unfold nrC; omega)).trans k24
  · exact (hR.1 _ _ (by omega) (by unfold nrR; omega)).trans k16
  · exact (hC.1 _ _ (by omega) (by omega) (by omega) (by unfold nrC; omega)).trans k9
  · exact (hC.1 _ _ (by omega) (by omega) (by omega) (by unfold nrC; omega)).trans k10
  · exact (hR.1 _ _ (by omega) (by unfold nrR; omega)).trans k17
end GROWP
