/-! TEXTS: a text ends, in both -/
theorem RelO.re {C C' R R' : Mem} (h : RelO C R) (e : ∀ n k, (5 ≤ n ∧ n ≤ 12) ∨ n = 15 ∨ (n = 25 ∧ k = 1) ∨ n = 26 ∨ (n = 0 ∧ k = 3) ∨ 83 ≤ n → gI C' n k = gI C n k ∧ gL C' n k = gL C n k)
    (f : ∀ n k, (3 ≤ n ∧ n ≤ 5) ∨ (n = 0 ∧ (k = 40 ∨ k = 41)) ∨ n = 19 ∨ (n = 1 ∧ 502 ≤ k ∧ k < 2008) → gI R' n k = gI R n k) (g : ∀ n k, (3 ≤ n ∧ n ≤ 5) ∨ (n = 2 ∧ 23 ≤ k ∧ k < 92) → gL R' n k = gL R n k) (hn : NowC C') (hb : RelB C' R') (hk : RelK C' (gR C' 0 0) R' 0) : RelO C' R' := by
  obtain ⟨-, ht, -, hl, hkw, -, hm⟩ := h
  exact ⟨hn, ht.cg (fun n k a b => e n k (by omega)) (fun n k a b => ⟨f n k (by omega), g n k (by omega)⟩), hb, hl.cg (e _ _ (by omega)).1 (fun k => (e _ _ (by omega)).1) (f _ _ (by omega)) (fun k => f _ _ (by omega)), hkw.cg (fun k => (e _ _ (by omega)).2), hk,
    hm.cg (e _ _ (by omega)).1 (fun n k a => e n k (by omega)) (f _ _ (by omega)) (fun k a b => f _ _ (by omega)) (fun k a b => g _ _ (by omega))⟩
/-- what reading a text may change -/
def TxF (R R' : Mem) : Prop := (∀ a k, ¬ (a = 0 ∧ 10 ≤ k ∧ k ≤ 22 ∧ k ≠ 16) → ¬ (a = 1 ∧ 2008 ≤ k ∧ k < 2510) → ¬ (a = 7 ∨ a = 8) → gI R' a k = gI R a k) ∧ ∀ a k, ¬ (a = 2 ∧ 92 ≤ k ∧ k < 115) → gL R' a k = gL R a k
theorem BgC.pr {C C' : Mem} (c : Nat) (h : BgC C C') : PrC c C C' := ⟨fun a k z1 z2 z3 => h.1 a k z1, fun a k z1 z2 => h.2.1 a k z1, h.2.2⟩
theorem BgR.tx {R R' : Mem} (h : BgR R R') : TxF R R' := ⟨fun a k z1 z2 z3 => h.1 a k (by omega) (by omega), fun a k z => h.2 a k⟩
theorem PrR.tx {R R' : Mem} (h : PrR R R') : TxF R R' := ⟨fun a k z1 z2 z3 => h.1 a k (by omega) z2 (by omega), fun a k z => h.2 a k z⟩
theorem TxF.tr {R R1 R2 : Mem} (h : TxF R R1) (g : TxF R1 R2) : TxF R R2 := ⟨fun a k x y z => (g.1 a k x y z).trans (h.1 a k x y z), fun a k x => (g.2 a k x).trans (h.2 a k x)⟩
/-- a text refused: all stands as it stood but the tape -/
theorem RelO.bad {C C' R R' : Mem} (h : RelO C R) (e : PrC (gR C 0 1) C C') (f : TxF R R') (r10 : gI R' 0 10 = 0) : RelO (sI C' 13 2 0) R' := by
  obtain ⟨hsp, hnw⟩ := h.1.two
  have gr : ∀ a k, gR (sI C' 13 2 0) a k = gR C a k := fun a k => e.2.2 a k
  have ei : ∀ n k, ¬ (n = 13) → ¬ (n = 16 ∨ n = 17) → ¬ (gR C 0 1 ≤ n ∧ n < gR C 0 1 + 28) → gI (sI C' 13 2 0) n k = gI C n k ∧ gL (sI C' 13 2 0) n k = gL C n k := fun n k z1 z2 z3 =>
    ⟨by rw [gI_I, if_neg (by omega)]; exact e.1 n k (by omega) z2 z3, by rw [gL_I]; exact e.2.1 n k (by omega) (by omega)⟩
  refine h.re (fun n k z => ei n k (by omega) (by omega) (by omega)) (fun n k z => f.1 n k (by omega) (by omega) (by omega)) (fun n k z => f.2 n k (by omega)) (by unfold NowC; rw [gr, gr]; exact h.1) ⟨0, by omega, gI_same _ _ _ _, r10, fun k hk => by omega⟩ ?_
  rw [gr]
  exact h.2.2.2.2.2.1.cg (fun n k a b => ei n k (by omega) (by omega) (by omega)) (fun k a b => f.1 _ _ (by omega) (by omega) (by omega)) (fun k a b => f.2 _ _ (by omega))
theorem text_end {C' R' : Mem} (ho : RelO (sI C' 13 2 0) R') (ht : gL C' 0 13 = gL R' 0 3) (hb : gL C' 0 14 = gL R' 0 4) {b v w : Int32} {k : Nat} (hk : k ≤ 9) (hc9 : gI C' 13 9 = nI k) (hr18 : gI R' 0 18 = nI k) (hp : gI C' 13 10 = gI R' 0 17) (hbk : (b = 0 ∧ 1 ≤ k) ∨ (b = 1 ∧ k = 0 ∧ v = w)) :
    OK2 (bnd (f_X11_textRead b v C') fun r M => some (r, M)) (bnd (f_X12_taken w R') fun r M => some (r, M)) := by
  have g9 : gI (sI C' 13 2 0) 13 9 = nI k := by rw [gI_I, if_neg (by omega)]; exact hc9
  have g10 : gI (sI (sI C' 13 2 0) 0 15 (nI k)) 13 10 = gI R' 0 17 := by rw [gI_I, if_neg (by omega), gI_I, if_neg (by omega)]; exact hp
  have r18 : gI (sI R' 0 16 (nI k)) 0 18 = nI k := by rw [gI_I, if_neg (by omega)]; exact hr18
  have ho3 : RelO (sI (sI (sI C' 13 2 0) 0 15 (nI k)) 0 16 (gI R' 0 17)) (sI R' 0 16 (nI k)) :=
    ho.cg ((EqC.sI _ _ _ (by unfold scrC; omega)).tr (EqC.sI _ _ _ (by unfold scrC; omega))) (EqR.sI _ _ _ (by unfold scrR; omega))
  have fin : ∀ s : Int32, Rel (sI (sI (sI (sI C' 13 2 0) 0 15 (nI k)) 0 16 (gI R' 0 17)) 0 12 s) (sI (sI R' 0 16 (nI k)) 0 2 s) := fun s => by
    refine ⟨⟨?_, ?_, ?_, ?_, ?_⟩, ho3.st s⟩
    · rw [gI_same, gI_same]
    · exact ht
    · exact hb
    · rw [gI_I, if_neg (by omega), gI_I, if_neg (by omega), gI_same, gI_I, if_neg (by omega), gI_same]
    · rw [gI_I, if_neg (by omega), gI_same, gI_I, if_neg (by omega), gI_I, if_neg (by omega)]
  rw [f_X11_textRead, letF, g9, letF, g10, letF, f_X12_taken, hr18, letF, r18]
  rcases hbk with ⟨rfl, k1⟩ | ⟨rfl, rfl, rfl⟩
  · rw [if_pos rfl, if_neg (show ¬ nI k ≤ (0 : Int32) from nI_ge (a := 0) (by omega) (by omega))]
    exact ⟨-1, _, _, rfl, rfl, fin 9⟩
  · rw [if_neg i10, if_pos (show nI 0 ≤ (0 : Int32) by decide)]
    exact ⟨v, _, _, rfl, rfl, fin 0⟩
theorem r_takeSlot (R : Mem) : ∃ R1 R', f_X12_court_L54 fz 0 R = some ((), R1) ∧ f_X12_court_L85 fz 0 R1 = some ((), R') ∧ (∀ y k, gI R' y k = if y = 1 ∧ k < 502 then gI R 1 (2008 + k) else gI R y k) ∧ ∀ y k, gL R' y k = if y = 2 ∧ k < 23 then gL R 2 (92 + k) else gL R y k := by
  have key1 := loopI (fun fu (D : Mem) i => f_X12_court_L54 fu (nI i) D) 502 (fun i D => (∀ y k, gI D y k = if y = 1 ∧ k < i then gI R 1 (2008 + k) else gI R y k) ∧ ∀ y k, gL D y k = gL R y k)
    (fun r => r.1 = () ∧ (∀ y k, gI r.2 y k = if y = 1 ∧ k < 502 then gI R 1 (2008 + k) else gI R y k) ∧ ∀ y k, gL r.2 y k = gL R y k)
    (fun fu D hI => ⟨((), D), ?_, rfl, hI⟩)
    (fun fu D i hi hI => Or.inl ?_) 502 0 R fz (by omega) (by rw [fz_is]; omega) ⟨fun n k => by rw [if_neg (by omega)], fun n k => rfl⟩
  · obtain ⟨⟨u, D1⟩, e1, -, g1, l1⟩ := key1
    have key2 := loopI (fun fu (D : Mem) i => f_X12_court_L85 fu (nI i) D) 23 (fun i D => (∀ y k, gI D y k = gI D1 y k) ∧ ∀ y k, gL D y k = if y = 2 ∧ k < i then gL R 2 (92 + k) else gL R y k)
      (fun r => r.1 = () ∧ (∀ y k, gI r.2 y k = gI D1 y k) ∧ ∀ y k, gL r.2 y k = if y = 2 ∧ k < 23 then gL R 2 (92 + k) else gL R y k)
      (fun fu D hI => ⟨((), D), ?_, rfl, hI⟩)
      (fun fu D i hi hI => Or.inl ?_) 23 0 D1 fz (by omega) (by rw [fz_is]; omega) ⟨fun n k => rfl, fun n k => by rw [if_neg (by omega)]; exact l1 n k⟩
    · obtain ⟨⟨u2, D2⟩, e2, -, g2, l2⟩ := key2
      exact ⟨D1, D2, e1, e2, fun y k => (g2 y k).trans (g1 y k), l2⟩
    · rw [f_X12_court_L85, if_pos (show (23 : Int32) ≤ nI 23 by decide)]
    · obtain ⟨q1, q2⟩ := nm_rd (show (92 : Int32) + nI i = nI (92 + i) from nI_add 92 i) (by omega)
      obtain ⟨q3, q4⟩ := nm_rd (show nI i = nI i from rfl) (by omega)
      refine ⟨sL D 2 i (gL D 2 (92 + i)), ⟨fun y k => hI.1 y k, fun y k => ?_⟩, ?_⟩
      · rw [gL_L, hI.2, hI.2]
        by_cases z : y = 2 ∧ k = i
        · rw [if_pos z, if_neg (by omega), if_pos (by omega), z.2]
        · rw [if_neg z]
          by_cases z2 : y = 2 ∧ k < i
          · rw [if_pos z2, if_pos (by omega)]
          · rw [if_neg z2, if_neg (by omega)]
      · rw [f_X12_court_L85, if_neg (show ¬ (23 : Int32) ≤ nI i from nI_ge (b := 23) hi (by decide)), if_neg q1, if_neg q3, letF, letF, q2, q4, nI_s]
  · rw [f_X12_court_L54, if_pos (show (502 : Int32) ≤ nI 502 by decide)]
  · obtain ⟨q1, q2⟩ := r_rd (show (2008 : Int32) + nI i = nI (2008 + i) from nI_add 2008 i) (by omega)
    obtain ⟨q3, q4⟩ := r_rd (show nI i = nI i from rfl) (show i < 3548 by omega)
    refine ⟨sI D 1 i (gI D 1 (2008 + i)), ⟨fun y k => ?_, fun y k => hI.2 y k⟩, ?_⟩
    · rw [gI_I, hI.1, hI.1]
      by_cases z : y = 1 ∧ k = i
      · rw [if_pos z, if_neg (by omega), if_pos (by omega), z.2]
      · rw [if_neg z]
        by_cases z2 : y = 1 ∧ k < i
        · rw [if_pos z2, if_pos (by omega)]
        · rw [if_neg z2, if_neg (by omega)]
    · rw [f_X12_court_L54, if_neg (show ¬ (502 : Int32) ≤ nI i from nI_ge (b := 502) hi (by decide)), if_neg q1, if_neg q3, letF, letF, q2, q4, nI_s]
/-- which lengths are refused -/
theorem r_beginsNo {R : Mem} {a : Int32} {m : Nat} (hm : m ≤ 900) (hT : gI R 0 10 = nI m) (h : a < 0 ∨ nI (m + 1) ≤ a) (most : Int32) : f_X12_begins a most R = some (0, R) := by
  rw [f_X12_begins]
  by_cases z : a < 0
  · rw [if_pos z]
  · rw [if_neg z, hT, if_pos]
    rcases h with h | h
    · exact absurd h z
    · rw [i_le, nI_toInt (by omega)] at h
      rw [i_lt, nI_toInt (by omega)]
      omega
