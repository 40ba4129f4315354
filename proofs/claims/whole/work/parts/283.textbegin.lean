/-! TEXTS: a text begins, in both -/
def BgC (C C' : Mem) : Prop := (∀ a k, ¬ (a = 13 ∧ k ≠ 2) → gI C' a k = gI C a k) ∧ (∀ a k, ¬ (a = 13 ∧ k = 7) → gL C' a k = gL C a k) ∧ ∀ a k, gR C' a k = gR C a k
def BgR (R R' : Mem) : Prop := (∀ a k, ¬ (a = 0 ∧ 10 ≤ k ∧ k ≤ 19 ∧ k ≠ 16) → ¬ a = 7 → gI R' a k = gI R a k) ∧ ∀ a k, gL R' a k = gL R a k
theorem r_texts {R : Mem} {n : Nat} (hn : n ≤ 900) : ∃ R', f_X12_begins_L26 (nI n) fz 0 R = some ((), R') ∧ (∀ y k, gI R' y k = if y = 7 ∧ k < n then vp_nar .byte (gI R 6 k) else gI R y k) ∧ ∀ y k, gL R' y k = gL R y k := by
  have key := loopI (fun fu (D : Mem) i => f_X12_begins_L26 (nI n) fu (nI i) D) n (fun i D => (∀ y k, gI D y k = if y = 7 ∧ k < i then vp_nar .byte (gI R 6 k) else gI R y k) ∧ ∀ y k, gL D y k = gL R y k)
    (fun r => r.1 = () ∧ (∀ y k, gI r.2 y k = if y = 7 ∧ k < n then vp_nar .byte (gI R 6 k) else gI R y k) ∧ ∀ y k, gL r.2 y k = gL R y k)
    (fun fu D hI => ⟨((), D), ?_, rfl, hI⟩)
    (fun fu D i hi hI => Or.inl ?_) n 0 R fz (by omega) (by rw [fz_is]; omega) ⟨fun n k => by rw [if_neg (by omega)], fun n k => rfl⟩
  · obtain ⟨⟨u, D⟩, e1, -, e2⟩ := key
    exact ⟨D, e1, e2⟩
  · rw [f_X12_begins_L26, if_pos (Int32.le_refl _)]
  · have q : ¬ (nI i < 0 ∨ 900 ≤ (nI i).toNatClampNeg) := nI_in (by omega) (by omega)
    refine ⟨sI D 7 i (vp_nar .byte (gI R 6 i)), ⟨fun y k => ?_, fun y k => hI.2 y k⟩, ?_⟩
    · rw [gI_I, hI.1]
      by_cases z : y = 7 ∧ k = i
      · rw [if_pos z, if_pos (by omega), z.2]
      · rw [if_neg z]
        by_cases z2 : y = 7 ∧ k < i
        · rw [if_pos z2, if_pos (by omega)]
        · rw [if_neg z2, if_neg (by omega)]
    · rw [f_X12_begins_L26, if_neg (show ¬ nI n ≤ nI i from nI_ge hi (by omega)), if_neg q, if_neg q, letF, letF, nI_clamp (by omega), nI_s, hI.1 6 i, if_neg (by omega)]
theorem r_plain (R : Mem) : ∃ R', f_X12_plain 2008 R = some ((), R') ∧ (∀ y k, gI R' y k = if y = 1 ∧ 2008 ≤ k ∧ k < 2510 then (if k = 2016 then -1 else 0) else gI R y k) ∧ ∀ y k, gL R' y k = gL R y k := by
  have key := loopI (fun fu (D : Mem) i => f_X12_plain_L2 2008 fu (nI i) D) 502 (fun i D => (∀ y k, gI D y k = if y = 1 ∧ 2008 ≤ k ∧ k < 2008 + i then 0 else gI R y k) ∧ ∀ y k, gL D y k = gL R y k)
    (fun r => r.1 = () ∧ (∀ y k, gI r.2 y k = if y = 1 ∧ 2008 ≤ k ∧ k < 2510 then 0 else gI R y k) ∧ ∀ y k, gL r.2 y k = gL R y k)
    (fun fu D hI => ⟨((), D), ?_, rfl, hI⟩)
    (fun fu D i hi hI => Or.inl ?_) 502 0 R fz (by omega) (by rw [fz_is]; omega) ⟨fun n k => by rw [if_neg (by omega)], fun n k => rfl⟩
  · obtain ⟨⟨u, D⟩, e1, -, e2, e3⟩ := key
    have e1' : f_X12_plain_L2 2008 fz 0 R = some (u, D) := e1
    have q : ¬ (((2008 : Int32) + (8 : Int32)) < 0 ∨ 3548 ≤ (((2008 : Int32) + (8 : Int32))).toNatClampNeg) := by decide
    refine ⟨sI D 1 2016 (-1), by rw [f_X12_plain, e1', bnd_some, if_neg q, letF]; rfl, fun y k => ?_, e3⟩
    rw [gI_I, e2]
    by_cases z : y = 1 ∧ k = 2016
    · rw [if_pos z, if_pos (by omega), if_pos z.2]
    · rw [if_neg z]
      by_cases z2 : y = 1 ∧ 2008 ≤ k ∧ k < 2510
      · rw [if_pos z2, if_pos z2, if_neg (by omega)]
      · rw [if_neg z2, if_neg z2]
  · rw [f_X12_plain_L2, if_pos (show (502 : Int32) ≤ nI 502 by decide)]
  · obtain ⟨q1, q2⟩ := r_rd (e := (2008 : Int32) + nI i) (j := 2008 + i) (nI_add 2008 i) (by omega)
    refine ⟨sI D 1 (2008 + i) 0, ⟨fun y k => ?_, fun y k => hI.2 y k⟩, ?_⟩
    · rw [gI_I, hI.1]
      by_cases z : y = 1 ∧ k = 2008 + i
      · rw [if_pos z, if_pos (by omega)]
      · rw [if_neg z]
        by_cases z2 : y = 1 ∧ 2008 ≤ k ∧ k < 2008 + i
        · rw [if_pos z2, if_pos (by omega)]
        · rw [if_neg z2, if_neg (by omega)]
    · rw [f_X12_plain_L2, if_neg (show ¬ (502 : Int32) ≤ nI i from nI_ge (b := 502) hi (by omega)), if_neg q1, letF, letF, q2, nI_s]
theorem p_clear {c : Nat} (C : Mem) : ∃ C', f_X0_clear c C = some ((), C') ∧ (∀ y k, gI C' y k = if (y = c + 1 ∧ k < 6) ∨ (y = c + 24 ∧ k < 2) ∨ (y = c ∧ (k = 12 ∨ k = 13)) then 0 else gI C y k) ∧ (∀ y k, gL C' y k = gL C y k) ∧ ∀ y k, gR C' y k = gR C y k := by
  have key := loopI (fun fu (D : Mem) i => f_X0_clear_L2 c fu (nI i) D) 6 (fun i D => (∀ y k, gI D y k = if y = c + 1 ∧ k < i then 0 else gI C y k) ∧ (∀ y k, gL D y k = gL C y k) ∧ ∀ y k, gR D y k = gR C y k)
    (fun r => r.1 = () ∧ (∀ y k, gI r.2 y k = if y = c + 1 ∧ k < 6 then 0 else gI C y k) ∧ (∀ y k, gL r.2 y k = gL C y k) ∧ ∀ y k, gR r.2 y k = gR C y k)
    (fun fu D hI => ⟨((), D), ?_, rfl, hI⟩)
    (fun fu D i hi hI => Or.inl ?_) 6 0 C fz (by omega) (by rw [fz_is]; omega) ⟨fun n k => by rw [if_neg (by omega)], fun n k => rfl, fun n k => rfl⟩
  · obtain ⟨⟨u, D⟩, e1, -, e2, e3, e4⟩ := key
    have e1' : f_X0_clear_L2 c fz 0 C = some (u, D) := e1
    refine ⟨sI (sI (sI (sI D (c + 24) 0 0) (c + 24) 1 0) c 12 0) c 13 0, by rw [f_X0_clear, e1', bnd_some, f_X9_clear, letF, letF, bnd_some, letF, letF], fun y k => ?_, e3, e4⟩
    rw [gI_I, gI_I, gI_I, gI_I, e2]
    by_cases z : (y = c + 1 ∧ k < 6) ∨ (y = c + 24 ∧ k < 2) ∨ (y = c ∧ (k = 12 ∨ k = 13))
    · rw [if_pos z]
      split
      · rfl
      split
      · rfl
      split
      · rfl
      split
      · rfl
      rw [if_pos (by omega)]
    · rw [if_neg z, if_neg (by omega), if_neg (by omega), if_neg (by omega), if_neg (by omega), if_neg (by omega)]
  · rw [f_X0_clear_L2, if_pos (show (6 : Int32) ≤ nI 6 by decide)]
  · have q : ¬ (nI i < 0 ∨ 6 ≤ (nI i).toNatClampNeg) := nI_in hi (by omega)
    refine ⟨sI D (c + 1) i 0, ⟨fun y k => ?_, fun y k => hI.2.1 y k, fun y k => hI.2.2 y k⟩, ?_⟩
    · rw [gI_I, hI.1]
      by_cases z : y = c + 1 ∧ k = i
      · rw [if_pos z, if_pos (by omega)]
      · rw [if_neg z]
        by_cases z2 : y = c + 1 ∧ k < i
        · rw [if_pos z2, if_pos (by omega)]
        · rw [if_neg z2, if_neg (by omega)]
    · rw [f_X0_clear_L2, if_neg (show ¬ (6 : Int32) ≤ nI i from nI_ge (b := 6) hi (by omega)), if_neg q, letF, letF, nI_clamp (by omega), nI_s]
/-- both begin -/
theorem text_begin {C R : Mem} {m n most : Nat} (hm : m ≤ 900) (hnm : n ≤ m) (hmost : n ≤ most) (hmo : most ≤ 900) (hT : gI R 0 10 = nI m) (hb : ∀ k, k < m → ∃ b : Nat, b < 256 ∧ gI C 14 k = nI b ∧ gI R 6 k &&& 255 = nI b) (hkw : KwC C) :
    ∃ (B : Nat → Nat) (C' R' : Mem) (f e : Nat), (∀ k, B k < 256) ∧ f_X7_begin (nI n) C = some ((), C') ∧ f_X12_begins (nI n) (nI most) R = some (1, R') ∧ StT B n C' R' f e ∧ BgC C C' ∧ BgR R R' ∧ gI C' 13 9 = 0 ∧ gI C' 13 10 = -1 ∧ gI R' 0 17 = -1 ∧ gI R' 0 10 = 0 := by
  obtain ⟨R1, t1, t2, t3⟩ := r_texts (R := sI R 0 11 (nI n)) (n := n) (by omega)
  have hB : ∀ k, (fun k => (gI C 14 k).toNatClampNeg % 256) k < 256 := fun k => Nat.mod_lt _ (by omega)
  have Bk : ∀ k, k < n → gI C 14 k = nI ((fun k => (gI C 14 k).toNatClampNeg % 256) k) ∧ gI R 6 k &&& 255 = nI ((fun k => (gI C 14 k).toNatClampNeg % 256) k) := by
    intro k hk
    obtain ⟨b, b1, b2, b3⟩ := hb k (by omega)
    have : (fun k => (gI C 14 k).toNatClampNeg % 256) k = b := by
      show (gI C 14 k).toNatClampNeg % 256 = b
      rw [b2, nI_clamp (by omega), Nat.mod_eq_of_lt b1]
    rw [this]
    exact ⟨b2, b3⟩
  generalize (fun k => (gI C 14 k).toNatClampNeg % 256) = B at hB Bk
  have tC : TxC B n (sI (sI (sI (sI C 13 3 (nI n)) 13 4 0) 13 9 0) 13 10 (-1)) := by
    refine ⟨?_, fun k hk => ?_⟩
    · rw [gI_I, if_neg (by omega), gI_I, if_neg (by omega), gI_I, if_neg (by omega), gI_same]
    · rw [gI_I, if_neg (by omega), gI_I, if_neg (by omega), gI_I, if_neg (by omega), gI_I, if_neg (by omega)]; exact (Bk k hk).1
  have tR : TxR B n (sI (sI (sI (sI (sI R1 0 10 0) 0 18 0) 0 17 (-1)) 0 14 0) 0 19 0) := by
    refine ⟨?_, fun k hk => ?_⟩
    · rw [gI_I, if_neg (by omega), gI_I, if_neg (by omega), gI_I, if_neg (by omega), gI_I, if_neg (by omega), gI_I, if_neg (by omega), t2, if_neg (by omega), gI_same]
    · rw [gI_I, if_neg (by omega), gI_I, if_neg (by omega), gI_I, if_neg (by omega), gI_I, if_neg (by omega), gI_I, if_neg (by omega), t2, if_pos ⟨rfl, hk⟩, gI_I, if_neg (by omega), vp_nar_byte, bp_b]; exact (Bk k hk).2
  have kC : KwC (sI (sI (sI (sI C 13 3 (nI n)) 13 4 0) 13 9 0) 13 10 (-1)) := hkw
  obtain ⟨C', R', f, e, a1, a2, a3, a4, a5, -⟩ := tk_go (e0 := 0) (by omega) hB tC tR kC (by omega) (by rw [gI_I, if_neg (by omega), gI_I, if_neg (by omega), gI_same]; rfl) (by rw [gI_I, if_neg (by omega), gI_same]; rfl)
  refine ⟨B, C', R', f, e, hB, ?_, ?_, ⟨⟨?_, fun k hk => ?_⟩, ⟨?_, fun k hk => ?_⟩, kC.cg (fun k => a4.2.1 _ _ (by omega)), a3, ?_⟩, ⟨fun a k z => ?_, fun a k z => ?_, fun a k => ?_⟩, ⟨fun a k z1 z2 => ?_, fun a k => ?_⟩, ?_, ?_, ?_, ?_⟩
  · rw [f_X7_begin, letF, letF, letF, letF, a1, bnd_some]
  · rw [f_X12_begins, if_neg (nI_pos (by omega)), hT, if_neg (nI_nlt hnm (by omega)), if_pos (nI_le hmost (by omega)), letF, t1, bnd_some, letF, letF, letF, letF, letF, a2, bnd_some]
  · rw [a4.1 _ _ (by omega)]; exact tC.1
  · rw [a4.1 _ _ (by omega)]; exact tC.2 k hk
  · rw [a5.1 _ _ (by omega)]; exact tR.1
  · rw [a5.1 _ _ (by omega)]; exact tR.2 k hk
  · rw [a5.1 _ _ (by omega), gI_I, if_neg (by omega), gI_I, if_neg (by omega), gI_I, if_neg (by omega), gI_same]
  · rw [a4.1 _ _ (by omega), gI_I, if_neg (by omega), gI_I, if_neg (by omega), gI_I, if_neg (by omega), gI_I, if_neg (by omega)]
  · rw [a4.2.1 _ _ z]; rfl
  · rw [a4.2.2]; rfl
  · rw [a5.1 _ _ (by omega), gI_I, if_neg (by omega), gI_I, if_neg (by omega), gI_I, if_neg (by omega), gI_I, if_neg (by omega), gI_I, if_neg (by omega), t2, if_neg (by omega), gI_I, if_neg (by omega)]
  · rw [a5.2, gL_I, gL_I, gL_I, gL_I, gL_I, t3, gL_I]
  · rw [a4.1 _ _ (by omega), gI_I, if_neg (by omega), gI_same]
  · rw [a4.1 _ _ (by omega), gI_same]
  · rw [a5.1 _ _ (by omega), gI_I, if_neg (by omega), gI_I, if_neg (by omega), gI_same]
  · rw [a5.1 _ _ (by omega), gI_I, if_neg (by omega), gI_I, if_neg (by omega), gI_I, if_neg (by omega), gI_I, if_neg (by omega), gI_same]
