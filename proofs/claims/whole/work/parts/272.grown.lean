/-! TEXTS: a court of the reference, one thing more; its values; its NAMES -/
section GROWN
variable {K : Kt} {kd : Nat} {v : Nat → Int32}
theorem IsR.grow {R R' : Mem} {o : Nat} (h : IsR R o K) (hw : WFK K) (hkd : kd < 6) (hm : nK K kd < mxK.getD kd 0) (e0 : gI R' 1 (o + kd) = nI (nK K kd + 1))
    (e : ∀ j, o ≤ j → j < o + 134 → ¬ (j = o + kd ∨ (kd = 1 ∧ j = o + 10 + nK K kd) ∨ (kd = 2 ∧ o + 16 + 7 * nK K kd ≤ j ∧ j < o + 23 + 7 * nK K kd) ∨ (kd = 3 ∧ o + 72 + 5 * nK K kd ≤ j ∧ j < o + 77 + 5 * nK K kd) ∨ (kd = 4 ∧ o + 102 + 2 * nK K kd ≤ j ∧ j < o + 104 + 2 * nK K kd) ∨ (kd = 5 ∧ o + 114 + 2 * nK K kd ≤ j ∧ j < o + 116 + 2 * nK K kd)) → gI R' 1 j = gI R 1 j)
    (n1 : kd = 1 → gI R' 1 (o + 10 + nK K kd) = v 1)
    (n2 : kd = 2 → gI R' 1 (o + 16 + 7 * nK K kd) = v 2 ∧ gI R' 1 (o + 16 + 7 * nK K kd + 1) = v 3 ∧ gI R' 1 (o + 16 + 7 * nK K kd + 6) = v 4 ∧ cmpR 99 (gI R' 1 (o + 16 + 7 * nK K kd + 2)) (gI R' 1 (o + 16 + 7 * nK K kd + 3)) (v 5) (v 6) (v 7) ∧ cmpR 9 (gI R' 1 (o + 16 + 7 * nK K kd + 4)) (gI R' 1 (o + 16 + 7 * nK K kd + 5)) (v 8) (v 9) (v 10))
    (n3 : kd = 3 → gI R' 1 (o + 72 + 5 * nK K kd) = v 12 ∧ gI R' 1 (o + 72 + 5 * nK K kd + 1) = v 13 ∧ gI R' 1 (o + 72 + 5 * nK K kd + 2) = v 14 ∧ gI R' 1 (o + 72 + 5 * nK K kd + 3) = 2 - v 11 ∧ gI R' 1 (o + 72 + 5 * nK K kd + 4) = v 15)
    (n4 : kd = 4 → gI R' 1 (o + 102 + 2 * nK K kd) = v 16 ∧ gI R' 1 (o + 102 + 2 * nK K kd + 1) = v 17)
    (n5 : kd = 5 → gI R' 1 (o + 114 + 2 * nK K kd) = v 18 ∧ gI R' 1 (o + 114 + 2 * nK K kd + 1) = v 19) : IsR R' o (grK K kd v) := by
  obtain ⟨h0, h1, h2, h3, h4, h5, h6, h7⟩ := h
  have x1 := hw.n1.2
  have x2 := hw.n2.2
  have x3 := hw.n3.2
  have x4 := hw.n4.2
  have x5 := hw.n5.2
  have mx : kd = 0 ∧ nK K kd < 5 ∨ kd = 1 ∧ nK K kd < 6 ∨ kd = 2 ∧ nK K kd < 8 ∨ kd = 3 ∧ nK K kd < 6 ∨ kd = 4 ∧ nK K kd < 6 ∨ kd = 5 ∧ nK K kd < 10 := by
    rcases (show kd = 0 ∨ kd = 1 ∨ kd = 2 ∨ kd = 3 ∨ kd = 4 ∨ kd = 5 by omega) with rfl | rfl | rfl | rfl | rfl | rfl
    · exact Or.inl ⟨rfl, hm⟩
    · exact Or.inr (Or.inl ⟨rfl, hm⟩)
    · exact Or.inr (Or.inr (Or.inl ⟨rfl, hm⟩))
    · exact Or.inr (Or.inr (Or.inr (Or.inl ⟨rfl, hm⟩)))
    · exact Or.inr (Or.inr (Or.inr (Or.inr (Or.inl ⟨rfl, hm⟩))))
    · exact Or.inr (Or.inr (Or.inr (Or.inr (Or.inr ⟨rfl, hm⟩))))
  have hm' : nK K kd < 10 := by omega
  have F : ∀ a, (2 ≤ a ∧ a ≤ 10 → fld a = 2) ∧ (11 ≤ a ∧ a ≤ 15 → fld a = 3) ∧ (a = 1 → fld a = 1) ∧ (a = 16 ∨ a = 17 → fld a = 4) ∧ (a = 18 ∨ a = 19 → fld a = 5) ∧ (a = 20 → fld a = 9) := by
    intro a
    unfold fld
    refine ⟨fun z => ?_, fun z => ?_, fun z => ?_, fun z => ?_, fun z => ?_, fun z => ?_⟩ <;> split <;> (try split) <;> (try split) <;> (try split) <;> (try split) <;> omega
  have G : ∀ a i, a ≠ 0 → (i < nK K (fld a) ∧ ¬ (fld a = kd ∧ i = nK K kd)) → grK K kd v a i = K a i := fun a i z1 z2 => grK_o z1 z2.2
  have F1 := (F 1).2.2.1 rfl
  have F20 := (F 20).2.2.2.2.2 rfl
  have F2 : ∀ a, 2 ≤ a → a ≤ 10 → fld a = 2 := fun a p q => (F a).1 ⟨p, q⟩
  have F3 : ∀ a, 11 ≤ a → a ≤ 15 → fld a = 3 := fun a p q => (F a).2.1 ⟨p, q⟩
  have F4 : ∀ a, 16 ≤ a → a ≤ 17 → fld a = 4 := fun a p q => (F a).2.2.2.1 (by omega)
  have F5 : ∀ a, 18 ≤ a → a ≤ 19 → fld a = 5 := fun a p q => (F a).2.2.2.2.1 (by omega)
  refine ⟨fun k hk => ?_, fun i hi => ?_, fun i hi => ?_, fun i hi => ?_, fun i hi => ?_, fun i hi => ?_, ?_, ?_⟩
  · by_cases z : k = kd
    · subst z; rw [e0, grK_0]
    · rw [e _ (by omega) (by omega) (by omega), grK_k z]; exact h0 k hk
  · rcases gr_ix hm' hi with ⟨a, b⟩ | ⟨a, b⟩
    · rw [e _ (by omega) (by omega) (by omega), grK_o (a := 1) (by omega) (by rw [F1]; omega)]; exact h1 i a
    · subst b; rw [n1 a.symm, grK_n (a := 1) (by omega) (F1.trans a)]
  · rcases gr_ix hm' hi with ⟨a, b⟩ | ⟨a, b⟩
    · have q : ∀ f, 2 ≤ f → f ≤ 10 → grK K kd v f i = K f i := fun f p1 p2 => grK_o (by omega) (by rw [F2 f p1 p2]; omega)
      rw [e _ (by omega) (by omega) (by omega), e _ (by omega) (by omega) (by omega), e _ (by omega) (by omega) (by omega), e _ (by omega) (by omega) (by omega), e _ (by omega) (by omega) (by omega), e _ (by omega) (by omega) (by omega), e _ (by omega) (by omega) (by omega),
        q 2 (by omega) (by omega), q 3 (by omega) (by omega), q 4 (by omega) (by omega), q 5 (by omega) (by omega), q 6 (by omega) (by omega), q 7 (by omega) (by omega), q 8 (by omega) (by omega), q 9 (by omega) (by omega), q 10 (by omega) (by omega)]
      exact h2 i a
    · have q : ∀ f, 2 ≤ f → f ≤ 10 → grK K kd v f i = v f := fun f p1 p2 => by rw [b]; exact grK_n (by omega) ((F2 f p1 p2).trans a)
      rw [q 2 (by omega) (by omega), q 3 (by omega) (by omega), q 4 (by omega) (by omega), q 5 (by omega) (by omega), q 6 (by omega) (by omega), q 7 (by omega) (by omega), q 8 (by omega) (by omega), q 9 (by omega) (by omega), q 10 (by omega) (by omega), b]
      exact n2 a.symm
  · rcases gr_ix hm' hi with ⟨a, b⟩ | ⟨a, b⟩
    · have q : ∀ f, 11 ≤ f → f ≤ 15 → grK K kd v f i = K f i := fun f p1 p2 => grK_o (by omega) (by rw [F3 f p1 p2]; omega)
      rw [e _ (by omega) (by omega) (by omega), e _ (by omega) (by omega) (by omega), e _ (by omega) (by omega) (by omega), e _ (by omega) (by omega) (by omega), e _ (by omega) (by omega) (by omega),
        q 11 (by omega) (by omega), q 12 (by omega) (by omega), q 13 (by omega) (by omega), q 14 (by omega) (by omega), q 15 (by omega) (by omega)]
      exact h3 i a
    · have q : ∀ f, 11 ≤ f → f ≤ 15 → grK K kd v f i = v f := fun f p1 p2 => by rw [b]; exact grK_n (by omega) ((F3 f p1 p2).trans a)
      rw [q 11 (by omega) (by omega), q 12 (by omega) (by omega), q 13 (by omega) (by omega), q 14 (by omega) (by omega), q 15 (by omega) (by omega), b]
      exact n3 a.symm
  · rcases gr_ix hm' hi with ⟨a, b⟩ | ⟨a, b⟩
    · have q : ∀ f, 16 ≤ f → f ≤ 17 → grK K kd v f i = K f i := fun f p1 p2 => grK_o (by omega) (by rw [F4 f p1 p2]; omega)
      rw [e _ (by omega) (by omega) (by omega), e _ (by omega) (by omega) (by omega), q 16 (by omega) (by omega), q 17 (by omega) (by omega)]
      exact h4 i a
    · have q : ∀ f, 16 ≤ f → f ≤ 17 → grK K kd v f i = v f := fun f p1 p2 => by rw [b]; exact grK_n (by omega) ((F4 f p1 p2).trans a)
      rw [q 16 (by omega) (by omega), q 17 (by omega) (by omega), b]
      exact n4 a.symm
  · rcases gr_ix hm' hi with ⟨a, b⟩ | ⟨a, b⟩
    · have q : ∀ f, 18 ≤ f → f ≤ 19 → grK K kd v f i = K f i := fun f p1 p2 => grK_o (by omega) (by rw [F5 f p1 p2]; omega)
      rw [e _ (by omega) (by omega) (by omega), e _ (by omega) (by omega) (by omega), q 18 (by omega) (by omega), q 19 (by omega) (by omega)]
      exact h5 i a
    · have q : ∀ f, 18 ≤ f → f ≤ 19 → grK K kd v f i = v f := fun f p1 p2 => by rw [b]; exact grK_n (by omega) ((F5 f p1 p2).trans a)
      rw [q 18 (by omega) (by omega), q 19 (by omega) (by omega), b]
      exact n5 a.symm
  · rw [e _ (by omega) (by omega) (by omega), grK_o (a := 20) (by omega) (by rw [F20]; omega)]; exact h6
  · rw [e _ (by omega) (by omega) (by omega), grK_o (a := 20) (by omega) (by rw [F20]; omega)]; exact h7
theorem WFK.grow (hw : WFK K) (hkd : kd < 6) (hm : nK K kd < mxK.getD kd 0)
    (n1 : kd = 1 → ∃ n : Nat, n ≤ 2 ∧ v 1 = nI n)
    (n2 : kd = 2 → (∃ n : Nat, n < nK K 1 ∧ v 2 = nI n) ∧ (∃ n : Nat, n ≤ 2 ∧ v 3 = nI n) ∧ (v 4 = -1 ∨ ∃ n : Nat, n < nK K 0 ∧ v 4 = nI n))
    (n3 : kd = 3 → (v 11 = 1 ∨ v 11 = 2) ∧ (∃ n : Nat, n ≤ 99 ∧ v 12 = nI n) ∧ (∃ n : Nat, n < 32 ∧ v 13 = nI n) ∧ (∃ n : Nat, n ≤ 2 ∧ v 14 = nI n))
    (n4 : kd = 4 → (∃ n : Nat, n ≤ 16 ∧ v 16 = nI n) ∧ ∃ n : Nat, 1 ≤ n ∧ n ≤ 9 ∧ v 17 = nI n)
    (n5 : kd = 5 → (∃ n : Nat, n < nK K 3 ∧ v 18 = nI n) ∧ (v 19 = 1 ∨ v 19 = 2)) : WFK (grK K kd v) := by
  obtain ⟨h0, h1, h2, h3, h4, h5, h6, h7⟩ := hw
  have mx : nK K kd < 10 := by
    have : mxK.getD kd 0 ≤ 10 := (by decide : ∀ k, k < 6 → mxK.getD k 0 ≤ 10) kd hkd
    omega
  have le : ∀ k, nK K k ≤ nK (grK K kd v) k := by
    intro k
    rw [grK_nk mx]
    split
    · rename_i z; subst z; omega
    · exact Nat.le_refl _
  have F2 : ∀ a, 2 ≤ a → a ≤ 10 → fld a = 2 := fun a p q => by unfold fld; rw [if_neg (by omega), if_pos (by omega)]
  have F3 : ∀ a, 11 ≤ a → a ≤ 15 → fld a = 3 := fun a p q => by unfold fld; rw [if_neg (by omega), if_neg (by omega), if_pos (by omega)]
  have F4 : ∀ a, 16 ≤ a → a ≤ 17 → fld a = 4 := fun a p q => by unfold fld; rw [if_neg (by omega), if_neg (by omega), if_neg (by omega), if_pos (by omega)]
  have F5 : ∀ a, 18 ≤ a → a ≤ 19 → fld a = 5 := fun a p q => by unfold fld; rw [if_neg (by omega), if_neg (by omega), if_neg (by omega), if_neg (by omega), if_pos (by omega)]
  refine ⟨fun k hk => ?_, fun i hi => ?_, fun i hi => ?_, fun i hi => ?_, fun i hi => ?_, fun i hi => ?_, ?_, ?_⟩
  · rw [grK_nk mx]
    by_cases z : k = kd
    · subst z; rw [if_pos rfl, grK_0]; exact ⟨rfl, hm⟩
    · rw [if_neg z, grK_k z]; exact h0 k hk
  · rcases gr_ix mx hi with ⟨a, b⟩ | ⟨a, b⟩
    · rw [grK_o (a := 1) (by omega) (by rw [show fld 1 = 1 from rfl]; omega)]; exact h1 i a
    · rw [b, grK_n (a := 1) (by omega) (show fld 1 = kd from a)]; exact n1 a.symm
  · rcases gr_ix mx hi with ⟨a, b⟩ | ⟨a, b⟩
    · have q : ∀ f, 2 ≤ f → f ≤ 10 → grK K kd v f i = K f i := fun f p1 p2 => grK_o (by omega) (by rw [F2 f p1 p2]; omega)
      rw [q 2 (by omega) (by omega), q 3 (by omega) (by omega), q 4 (by omega) (by omega)]
      obtain ⟨⟨x, x1, x2⟩, y, w⟩ := h2 i a
      exact ⟨⟨x, Nat.lt_of_lt_of_le x1 (le 1), x2⟩, y, w.imp id (fun ⟨u, u1, u2⟩ => ⟨u, Nat.lt_of_lt_of_le u1 (le 0), u2⟩)⟩
    · have q : ∀ f, 2 ≤ f → f ≤ 10 → grK K kd v f i = v f := fun f p1 p2 => by rw [b]; exact grK_n (by omega) ((F2 f p1 p2).trans a)
      rw [q 2 (by omega) (by omega), q 3 (by omega) (by omega), q 4 (by omega) (by omega)]
      obtain ⟨⟨x, x1, x2⟩, y, w⟩ := n2 a.symm
      exact ⟨⟨x, Nat.lt_of_lt_of_le x1 (le 1), x2⟩, y, w.imp id (fun ⟨u, u1, u2⟩ => ⟨u, Nat.lt_of_lt_of_le u1 (le 0), u2⟩)⟩
  · rcases gr_ix mx hi with ⟨a, b⟩ | ⟨a, b⟩
    · have q : ∀ f, 11 ≤ f → f ≤ 15 → grK K kd v f i = K f i := fun f p1 p2 => grK_o (by omega) (by rw [F3 f p1 p2]; omega)
      rw [q 11 (by omega) (by omega), q 12 (by omega) (by omega), q 13 (by omega) (by omega), q 14 (by omega) (by omega)]
      exact h3 i a
    · have q : ∀ f, 11 ≤ f → f ≤ 15 → grK K kd v f i = v f := fun f p1 p2 => by rw [b]; exact grK_n (by omega) ((F3 f p1 p2).trans a)
      rw [q 11 (by omega) (by omega), q 12 (by omega) (by omega), q 13 (by omega) (by omega), q 14 (by omega) (by omega)]
      exact n3 a.symm
  · rcases gr_ix mx hi with ⟨a, b⟩ | ⟨a, b⟩
    · have q : ∀ f, 16 ≤ f → f ≤ 17 → grK K kd v f i = K f i := fun f p1 p2 => grK_o (by omega) (by rw [F4 f p1 p2]; omega)
      rw [q 16 (by omega) (by omega), q 17 (by omega) (by omega)]
      exact h4 i a
    · have q : ∀ f, 16 ≤ f → f ≤ 17 → grK K kd v f i = v f := fun f p1 p2 => by rw [b]; exact grK_n (by omega) ((F4 f p1 p2).trans a)
      rw [q 16 (by omega) (by omega), q 17 (by omega) (by omega)]
      exact n4 a.symm
  · rcases gr_ix mx hi with ⟨a, b⟩ | ⟨a, b⟩
    · have q : ∀ f, 18 ≤ f → f ≤ 19 → grK K kd v f i = K f i := fun f p1 p2 => grK_o (by omega) (by rw [F5 f p1 p2]; omega)
      rw [q 18 (by omega) (by omega), q 19 (by omega) (by omega)]
      obtain ⟨⟨x, x1, x2⟩, y⟩ := h5 i a
      exact ⟨⟨x, Nat.lt_of_lt_of_le x1 (le 3), x2⟩, y⟩
    · have q : ∀ f, 18 ≤ f → f ≤ 19 → grK K kd v f i = v f := fun f p1 p2 => by rw [b]; exact grK_n (by omega) ((F5 f p1 p2).trans a)
      rw [q 18 (by omega) (by omega), q 19 (by omega) (by omega)]
      obtain ⟨⟨x, x1, x2⟩, y⟩ := n5 a.symm
      exact ⟨⟨x, Nat.lt_of_lt_of_le x1 (le 3), x2⟩, y⟩
  · rw [grK_o (a := 20) (by omega) (by rw [show fld 20 = 9 from rfl]; omega)]; exact h6
  · rw [grK_o (a := 20) (by omega) (by rw [show fld 20 = 9 from rfl]; omega)]; exact h7
theorem NmR.grow {C C' R R' : Mem} {c : Nat} (h : NmR C c R 4 K) (hw : WFK K) (hm : nK K kd < 10) (e1 : ∀ j, ¬ (kd ≠ 2 ∧ kd ≠ 5 ∧ j = kd * 6 + nK K kd) → gL C' (c + 2) j = gL C (c + 2) j) (e2 : ∀ j, ¬ (kd ≠ 2 ∧ kd ≠ 5 ∧ j = 92 + nmB.getD kd 0 + nK K kd) → gL R' 2 j = gL R 2 j) (hkd : kd < 6) (hmx : nK K kd < mxK.getD kd 0)
    (nw : kd ≠ 2 → kd ≠ 5 → nmOK (gL C' (c + 2) (kd * 6 + nK K kd)) (gL R' 2 (92 + nmB.getD kd 0 + nK K kd))) : NmR C' c R' 4 (grK K kd v) := by
  intro k hk k2 i hi
  have b0 : nmB.getD 0 0 = 0 := rfl
  have b1 : nmB.getD 1 0 = 5 := rfl
  have b3 : nmB.getD 3 0 = 11 := rfl
  have b4 : nmB.getD 4 0 = 17 := rfl
  have m0 : mxK.getD 0 0 = 5 := rfl
  have m1 : mxK.getD 1 0 = 6 := rfl
  have m3 : mxK.getD 3 0 = 6 := rfl
  have m4 : mxK.getD 4 0 = 6 := rfl
  have w0 := hw.n0.2
  have w1 := hw.n1.2
  have w3 := hw.n3.2
  have w4 := hw.n4.2
  rcases gr_ix hm hi with ⟨a, b⟩ | ⟨a, b⟩
  · have q := h k hk k2 i a
    have z1 : ¬ (kd ≠ 2 ∧ kd ≠ 5 ∧ k * 6 + i = kd * 6 + nK K kd) := by
      rintro ⟨y1, y2, y3⟩
      rcases (show kd = 0 ∨ kd = 1 ∨ kd = 3 ∨ kd = 4 by omega) with rfl | rfl | rfl | rfl <;> rcases (show k = 0 ∨ k = 1 ∨ k = 3 ∨ k = 4 by omega) with rfl | rfl | rfl | rfl <;> omega
    have z2 : ¬ (kd ≠ 2 ∧ kd ≠ 5 ∧ 23 * 4 + nmB.getD k 0 + i = 92 + nmB.getD kd 0 + nK K kd) := by
      rintro ⟨y1, y2, y3⟩
      rcases (show kd = 0 ∨ kd = 1 ∨ kd = 3 ∨ kd = 4 by omega) with rfl | rfl | rfl | rfl <;> rcases (show k = 0 ∨ k = 1 ∨ k = 3 ∨ k = 4 by omega) with rfl | rfl | rfl | rfl <;> simp only [b0, b1, b3, b4] at y3 <;> omega
    rw [e1 _ z1, e2 _ z2]
    exact q
  · subst a
    subst b
    exact nw k2 (by omega)
end GROWN
