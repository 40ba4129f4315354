/-! THE RELATION of the class's memory and the reference's -/
def code27 (w : List Nat) : Nat := w.foldl (fun a x => a * 27 + (x - 96)) 0
def code256 (w : List Nat) : Nat := w.foldl (fun a x => a * 256 + x) 0
/-- one NAME, as the class and the reference code it -/
def nmOK (a b : Int64) : Prop := ∃ w : List Nat, 1 ≤ w.length ∧ w.length ≤ 8 ∧ (∀ x ∈ w, 97 ≤ x ∧ x ≤ 122) ∧ a = lN (code27 w) ∧ b = lN (code256 w)
def nmB : List Nat := [0, 5, 0, 11, 17]
def NmR (C : Mem) (c : Nat) (R : Mem) (j : Nat) (K : Kt) : Prop := ∀ k, k < 5 → k ≠ 2 → ∀ i, i < nK K k → nmOK (gL C (c + 2) (k * 6 + i)) (gL R 2 (23 * j + nmB.getD k 0 + i))
/-- how many rows ahead of row k are no ends -/
def cntW (at_ : Nat → Int32) : Nat → Nat
  | 0 => 0
  | k + 1 => cntW at_ k + if at_ (6 * k) = 24 then 0 else 1
/-- a row of the reference's WEEKS and the class's STEP -/
def rowW (K : Kt) (cl : Nat → Int32) (at_ : Nat → Int32) (m k : Nat) : Prop :=
  (at_ (6 * k) = 24 ∧ ∃ o, o < k ∧ at_ (6 * k + 4) = nI o ∧ at_ (6 * o + 4) = nI k ∧ (at_ (6 * o) = 23 ∨ ∃ t : Nat, 2200 ≤ t ∧ t < 2300 ∧ at_ (6 * o) = nI t)) ∨
  (∃ s, s = cntW at_ k ∧ s < 30 ∧
    ((∃ kd : Nat, 15 ≤ kd ∧ kd ≤ 21 ∧ at_ (6 * k) = nI kd ∧ cl (5 * s) = nI kd ∧
        ((kd = 15 ∧ ∃ p, p < nK K 3 ∧ at_ (6 * k + 1) = nI p ∧ cl (5 * s + 2) = nI p) ∨ kd = 16 ∨
         (kd = 17 ∧ ∃ p, p < nK K 3 ∧ at_ (6 * k + 1) = nI p ∧ cl (5 * s + 2) = nI p ∧ ∃ n, 1 ≤ n ∧ n ≤ 9 ∧ at_ (6 * k + 2) = nI n ∧ cl (5 * s + 3) = nI n) ∨
         ((kd = 18 ∨ kd = 19) ∧ ∃ p, p < nK K 3 ∧ at_ (6 * k + 1) = nI p ∧ cl (5 * s + 2) = nI p ∧ ∃ n, n < nK K 0 ∧ at_ (6 * k + 2) = nI n ∧ cl (5 * s + 3) = nI n) ∨ kd = 20 ∨ kd = 21)) ∨
     (at_ (6 * k) = 25 ∧ cl (5 * s) = 24) ∨
     (∃ p, k < p ∧ p < m ∧ at_ (6 * k + 4) = nI p ∧ at_ (6 * p) = 24 ∧ at_ (6 * p + 4) = nI k ∧ cl (5 * s + 4) = nI (cntW at_ p) ∧
        (∀ j o, k < j → j < p → at_ (6 * j) = 24 → at_ (6 * j + 4) = nI o → o < m → k < o) ∧
        ((at_ (6 * k) = 23 ∧ cl (5 * s) = 23 ∧ ∃ n, 1 ≤ n ∧ n ≤ 99 ∧ at_ (6 * k + 1) = nI n ∧ cl (5 * s + 2) = nI n) ∨
         (cl (5 * s) = 22 ∧
           ((at_ (6 * k) = 2226 ∧ cl (5 * s + 1) = 25 ∧ ∃ q, q < nK K 3 ∧ at_ (6 * k + 1) = nI q ∧ cl (5 * s + 2) = nI q ∧ ∃ n, n < nK K 1 ∧ at_ (6 * k + 2) = nI n ∧ cl (5 * s + 3) = nI n) ∨
            (at_ (6 * k) = 2227 ∧ cl (5 * s + 1) = 26 ∧ ∃ q, q < nK K 3 ∧ at_ (6 * k + 1) = nI q ∧ cl (5 * s + 2) = nI q) ∨
            (at_ (6 * k) = 2228 ∧ cl (5 * s + 1) = 27 ∧ ∃ q, q < nK K 3 ∧ at_ (6 * k + 1) = nI q ∧ cl (5 * s + 2) = nI q) ∨
            (at_ (6 * k) = 2211 ∧ cl (5 * s + 1) = 11 ∧ ¬ at_ (6 * k + 5) = 0 ∧ ∃ x, cmpR 9 (at_ (6 * k + 5)) (at_ (6 * k + 2)) x (cl (5 * s + 2)) (cl (5 * s + 3)))))))))
/-- open rows ahead of row k that aren't ended yet -/
def depW (at_ : Nat → Int32) : Nat → Int
  | 0 => 0
  | k + 1 => depW at_ k + if at_ (6 * k) = 24 then -1 else if at_ (6 * k) = 23 ∨ 2200 ≤ (at_ (6 * k)).toInt then 1 else 0
def WkR (C : Mem) (c : Nat) (R : Mem) (o : Nat) (K : Kt) : Prop :=
  (gI C (c + 24) 0 = 0 ∧ gI R 1 (o + 8) = -1) ∨
  (gI C (c + 24) 0 = 1 ∧ ∃ m : Nat, m ≤ 60 ∧ gI R 1 (o + 8) = nI m ∧ cntW (fun k => gI R 1 (o + 134 + k)) m ≤ 30 ∧ gI C (c + 24) 1 = nI (cntW (fun k => gI R 1 (o + 134 + k)) m) ∧
    (∀ k, k < m → rowW K (fun k => gI C (c + 25) k) (fun k => gI R 1 (o + 134 + k)) m k) ∧ (∀ k, k ≤ m → 0 ≤ depW (fun k => gI R 1 (o + 134 + k)) k ∧ depW (fun k => gI R 1 (o + 134 + k)) k ≤ 3) ∧ depW (fun k => gI R 1 (o + 134 + k)) m = 0)
/-- a court of the class and a slot of the reference that hold the same -/
def RelK (C : Mem) (c : Nat) (R : Mem) (j : Nat) : Prop := ∃ K : Kt, WFK K ∧ (∃ n : Nat, n ≤ 9999 ∧ K 20 1 = nI n) ∧ IsC C c K ∧ IsR R (502 * j) K ∧ NmR C c R j K ∧ WkR C c R (502 * j) K
def cutS (s : Nat) (a : Int64) : Int64 := if s = 0 then a.toInt32.toInt8.toInt32.toInt64 else if s = 1 then a.toInt32.toInt16.toInt32.toInt64 else if s = 2 then a.toInt32.toInt64 else a
def RelT (C R : Mem) : Prop := ∀ i, i < 4 → (gI C (5 + 2 * i) 0 = -1 ∧ gI R 4 i = -1) ∨ ∃ s n : Nat, s < 4 ∧ n ≤ 60 ∧ gI C (5 + 2 * i) 0 = nI s ∧ gI R 3 i = nI s ∧ gI C (5 + 2 * i) 1 = nI n ∧ gI R 4 i = nI n ∧ ∀ k, k < n → gL C (6 + 2 * i) k = gL R 5 (60 * i + k) ∧ cutS s (gL C (6 + 2 * i) k) = gL C (6 + 2 * i) k
def RelB (C R : Mem) : Prop := ∃ n : Nat, n ≤ 900 ∧ gI C 13 2 = nI n ∧ gI R 0 10 = nI n ∧ ∀ k, k < n → ∃ b : Nat, b < 256 ∧ gI C 14 k = nI b ∧ gI R 6 k &&& 255 = nI b
def kwL : List (List Nat) := [[115, 109, 101, 108, 108], [115, 105, 103, 110], [114, 117, 108, 101], [112, 101, 114, 115, 111, 110], [114, 101, 97, 100, 101, 114], [119, 111, 114, 100], [109, 101, 97, 110, 115], [103, 117, 105, 108, 116, 121], [99, 108, 101, 97, 110], [110, 111, 116, 104, 105, 110, 103], [102, 101, 100], [119, 97, 114, 109], [115, 109, 101, 108, 108, 115], [115, 108, 105, 112, 115], [118, 111, 116, 101, 115], [115, 105, 116], [116, 101, 114, 109], [102, 101, 101, 100], [114, 117, 98], [119, 97, 115, 104], [110, 105, 103, 104, 116], [97, 110, 121], [119, 104, 101, 110], [108, 111, 111, 112], [115, 116, 111, 112], [115, 104, 111, 119, 115], [104, 101, 108, 100], [102, 114, 101, 101], [101, 110, 100]]
def RelL (C R : Mem) : Prop := (gI C 25 1 = gI R 0 40 ∧ (gI C 25 1 = 0 ∨ gI C 25 1 = 1)) ∧ ∀ k, k < 5 → gI C 26 k = gI R 19 k
def RelS (C R : Mem) : Prop := gI C 0 12 = gI R 0 2 ∧ gL C 0 13 = gL R 0 3 ∧ gL C 0 14 = gL R 0 4 ∧ gI C 0 15 = gI R 0 16 ∧ gI C 0 16 = gI R 0 17
def RelM (C R : Mem) : Prop := ∃ m : Nat, m ≤ 3 ∧ gI C 0 3 = nI m ∧ gI R 0 41 = nI m ∧ ∀ j, j < m → RelK C (83 + 28 * j) R (j + 1)
def NowC (C : Mem) : Prop := (gR C 0 0 = 27 ∧ gR C 0 1 = 55) ∨ (gR C 0 0 = 55 ∧ gR C 0 1 = 27)
def KwC (C : Mem) : Prop := ∀ i, i < 29 → gL C 15 i = lN (code27 (kwL.getD i []))
def RelO (C R : Mem) : Prop := NowC C ∧ RelT C R ∧ RelB C R ∧ RelL C R ∧ KwC C ∧ RelK C (gR C 0 0) R 0 ∧ RelM C R
def Rel (C R : Mem) : Prop := RelS C R ∧ RelO C R
/-- what of the class's memory is of no account: scratch -/
def scrC (sp n k : Nat) : Prop := (n = 13 ∧ k ≠ 2) ∨ (16 ≤ n ∧ n ≤ 24) ∨ (n = 25 ∧ k ≠ 1) ∨ (sp ≤ n ∧ n < sp + 28) ∨ (n = 0 ∧ 12 ≤ k)
def EqC (C C' : Mem) : Prop := (∀ n k, ¬ scrC (gR C 0 1) n k → gI C' n k = gI C n k ∧ gL C' n k = gL C n k) ∧ ∀ n k, gR C' n k = gR C n k
def scrR (n k : Nat) : Prop := (n = 0 ∧ ¬ (k = 10 ∨ k = 40 ∨ k = 41)) ∨ (n = 1 ∧ 2008 ≤ k) ∨ (n = 2 ∧ 92 ≤ k) ∨ (7 ≤ n ∧ n ≤ 18)
def EqR (R R' : Mem) : Prop := ∀ n k, ¬ scrR n k → gI R' n k = gI R n k ∧ gL R' n k = gL R n k
theorem EqC.rf {C : Mem} : EqC C C := ⟨fun _ _ _ => ⟨rfl, rfl⟩, fun _ _ => rfl⟩
theorem EqR.rf {R : Mem} : EqR R R := fun _ _ _ => ⟨rfl, rfl⟩
theorem EqC.tr {C C1 C2 : Mem} (h : EqC C C1) (h2 : EqC C1 C2) : EqC C C2 := by
  refine ⟨fun n k hs => ?_, fun n k => (h2.2 n k).trans (h.2 n k)⟩
  have e := h2.1 n k (by rw [h.2]; exact hs)
  have e1 := h.1 n k hs
  exact ⟨e.1.trans e1.1, e.2.trans e1.2⟩
theorem EqR.tr {R R1 R2 : Mem} (h : EqR R R1) (h2 : EqR R1 R2) : EqR R R2 := fun n k hs => ⟨((h2 n k hs).1).trans (h n k hs).1, ((h2 n k hs).2).trans (h n k hs).2⟩
theorem IsC.cg {C C' : Mem} {c : Nat} {K : Kt} (h : IsC C c K) (e : ∀ n k, c ≤ n → n < c + 28 → gI C' n k = gI C n k) (hw : WFK K) : IsC C' c K := by
  obtain ⟨h0, h1, h2, h3, h4, h5, h6, h7⟩ := h
  have := hw.n2
  have := hw.n3
  exact ⟨fun k hk => (e _ _ (by omega) (by omega)).trans (h0 k hk), fun i hi => (e _ _ (by omega) (by omega)).trans (h1 i hi), fun i hi f hf => (e _ _ (by omega) (by omega)).trans (h2 i hi f hf), fun i hi f hf => (e _ _ (by omega) (by omega)).trans (h3 i hi f hf),
    fun i hi => ⟨(e _ _ (by omega) (by omega)).trans (h4 i hi).1, (e _ _ (by omega) (by omega)).trans (h4 i hi).2⟩, fun i hi => ⟨(e _ _ (by omega) (by omega)).trans (h5 i hi).1, (e _ _ (by omega) (by omega)).trans (h5 i hi).2⟩, (e _ _ (by omega) (by omega)).trans h6, (e _ _ (by omega) (by omega)).trans h7⟩
theorem IsR.cg {R R' : Mem} {o : Nat} {K : Kt} (h : IsR R o K) (e : ∀ k, o ≤ k → k < o + 134 → gI R' 1 k = gI R 1 k) (hw : WFK K) : IsR R' o K := by
  obtain ⟨h0, h1, h2, h3, h4, h5, h6, h7⟩ := h
  have := hw.n1
  have := hw.n2
  have := hw.n3
  have := hw.n4
  have := hw.n5
  refine ⟨fun k hk => (e _ (by omega) (by omega)).trans (h0 k hk), fun i hi => (e _ (by omega) (by omega)).trans (h1 i hi), fun i hi => ?_, fun i hi => ?_, fun i hi => ?_, fun i hi => ?_, (e _ (by omega) (by omega)).trans h6, (e _ (by omega) (by omega)).trans h7⟩
  · obtain ⟨a, b, c, d, f⟩ := h2 i hi
    rw [e _ (by omega) (by omega), e _ (by omega) (by omega), e _ (by omega) (by omega), e _ (by omega) (by omega), e _ (by omega) (by omega), e _ (by omega) (by omega), e _ (by omega) (by omega)]
    exact ⟨a, b, c, d, f⟩
  · obtain ⟨a, b, c, d, f⟩ := h3 i hi
    rw [e _ (by omega) (by omega), e _ (by omega) (by omega), e _ (by omega) (by omega), e _ (by omega) (by omega), e _ (by omega) (by omega)]
    exact ⟨a, b, c, d, f⟩
  · obtain ⟨a, b⟩ := h4 i hi
    rw [e _ (by omega) (by omega), e _ (by omega) (by omega)]
    exact ⟨a, b⟩
  · obtain ⟨a, b⟩ := h5 i hi
    rw [e _ (by omega) (by omega), e _ (by omega) (by omega)]
    exact ⟨a, b⟩
theorem RelK.cg {C C' : Mem} {c : Nat} {R R' : Mem} {j : Nat} (h : RelK C c R j) (e : ∀ n k, c ≤ n → n < c + 28 → gI C' n k = gI C n k ∧ gL C' n k = gL C n k) (f : ∀ k, 502 * j ≤ k → k < 502 * j + 494 → gI R' 1 k = gI R 1 k) (g : ∀ k, 23 * j ≤ k → k < 23 * j + 23 → gL R' 2 k = gL R 2 k) : RelK C' c R' j := by
  obtain ⟨K, hw, hst, h1, h2, h3, h4⟩ := h
  refine ⟨K, hw, hst, h1.cg (fun n k a b => (e n k a b).1) hw, h2.cg (fun k a b => f k a (by omega)) hw, fun k hk h2 i hi => ?_, ?_⟩
  · have b1 : i < 6 ∧ nmB.getD k 0 + i < 23 := by
      have q := hw.1 k (by omega)
      rcases (show k = 0 ∨ k = 1 ∨ k = 3 ∨ k = 4 by omega) with rfl | rfl | rfl | rfl <;> simp [mxK] at q <;> simp [nmB] <;> omega
    rw [(e _ _ (by omega) (by omega)).2, g _ (by omega) (by omega)]
    exact h3 k hk h2 i hi
  · rcases h4 with ⟨a, b⟩ | ⟨a, m, h5, h6, h7, h8, h9, h10, h11⟩
    · exact Or.inl ⟨by rw [(e _ _ (by omega) (by omega)).1]; exact a, by rw [f _ (by omega) (by omega)]; exact b⟩
    · refine Or.inr ⟨by rw [(e _ _ (by omega) (by omega)).1]; exact a, m, h5, by rw [f _ (by omega) (by omega)]; exact h6, ?_⟩
      have ec : (fun k => gI C' (c + 25) k) = fun k => gI C (c + 25) k := by funext k; exact (e _ _ (by omega) (by omega)).1
      rw [ec, (e _ _ (by omega) (by omega)).1]
      have e1 : ∀ k, k < 360 → gI R' 1 (502 * j + 134 + k) = gI R 1 (502 * j + 134 + k) := fun k hk => f _ (by omega) (by omega)
      have ecnt : ∀ k, k ≤ 60 → cntW (fun k => gI R' 1 (502 * j + 134 + k)) k = cntW (fun k => gI R 1 (502 * j + 134 + k)) k := by
        intro k
        induction k with
        | zero => intro _; rfl
        | succ k ih => intro hk; rw [cntW, cntW, ih (by omega)]; rw [e1 _ (by omega)]
      have edep : ∀ k, k ≤ 60 → depW (fun k => gI R' 1 (502 * j + 134 + k)) k = depW (fun k => gI R 1 (502 * j + 134 + k)) k := by
        intro k
        induction k with
        | zero => intro _; rfl
        | succ k ih => intro hk; rw [depW, depW, ih (by omega)]; rw [e1 _ (by omega)]
      rw [ecnt m h5]
      refine ⟨h7, h8, fun k hk => ?_, fun k hk => by rw [edep k (by omega)]; exact h10 k hk, by rw [edep m h5]; exact h11⟩
      have q := h9 k hk
      unfold rowW at q ⊢
      dsimp only at q ⊢
      rw [ecnt k (by omega), e1 _ (by omega), e1 _ (by omega), e1 _ (by omega), e1 _ (by omega), e1 _ (by omega)]
      rcases q with ⟨q1, o, q2, q3, q4, q5⟩ | ⟨s, q1, q2, q3⟩
      · exact Or.inl ⟨q1, o, q2, q3, by rw [e1 _ (by omega)]; exact q4, by rw [e1 _ (by omega)]; exact q5⟩
      · refine Or.inr ⟨s, q1, q2, ?_⟩
        rcases q3 with q3 | q3 | ⟨p, w1, w2, w3, w4, w5, w6, w7, w8⟩
        · exact Or.inl q3
        · exact Or.inr (Or.inl q3)
        · refine Or.inr (Or.inr ⟨p, w1, w2, w3, by rw [e1 _ (by omega)]; exact w4, by rw [e1 _ (by omega)]; exact w5, by rw [ecnt p (by omega)]; exact w6, fun i o z1 z2 z3 z4 z5 => ?_, w8⟩)
          rw [e1 _ (by omega)] at z3 z4
          exact w7 i o z1 z2 z3 z4 z5
theorem RelT.cg {C C' R R' : Mem} (h : RelT C R) (e : ∀ n k, 5 ≤ n → n ≤ 12 → gI C' n k = gI C n k ∧ gL C' n k = gL C n k) (f : ∀ n k, 3 ≤ n → n ≤ 5 → gI R' n k = gI R n k ∧ gL R' n k = gL R n k) : RelT C' R' := by
  intro i hi
  rcases h i hi with ⟨a, b⟩ | ⟨s, n, a, b, c, d, g, h2, h3⟩
  · exact Or.inl ⟨by rw [(e _ _ (by omega) (by omega)).1]; exact a, by rw [(f _ _ (by omega) (by omega)).1]; exact b⟩
  · refine Or.inr ⟨s, n, a, b, ?_, ?_, ?_, ?_, fun k hk => ?_⟩
    · rw [(e _ _ (by omega) (by omega)).1]; exact c
    · rw [(f _ _ (by omega) (by omega)).1]; exact d
    · rw [(e _ _ (by omega) (by omega)).1]; exact g
    · rw [(f _ _ (by omega) (by omega)).1]; exact h2
    · rw [(e _ _ (by omega) (by omega)).2, (f _ _ (by omega) (by omega)).2]; exact h3 k hk
theorem RelB.cg {C C' R R' : Mem} (h : RelB C R) (e : gI C' 13 2 = gI C 13 2) (e2 : ∀ k, gI C' 14 k = gI C 14 k) (f : gI R' 0 10 = gI R 0 10) (f2 : ∀ k, gI R' 6 k = gI R 6 k) : RelB C' R' := by
  obtain ⟨n, a, b, c, d⟩ := h
  exact ⟨n, a, by rw [e]; exact b, by rw [f]; exact c, fun k hk => by rw [e2, f2]; exact d k hk⟩
theorem RelL.cg {C C' R R' : Mem} (h : RelL C R) (e : gI C' 25 1 = gI C 25 1) (e2 : ∀ k, gI C' 26 k = gI C 26 k) (f : gI R' 0 40 = gI R 0 40) (f2 : ∀ k, gI R' 19 k = gI R 19 k) : RelL C' R' := by
  obtain ⟨a, b⟩ := h
  exact ⟨by rw [e, f]; exact a, fun k hk => by rw [e2, f2]; exact b k hk⟩
theorem KwC.cg {C C' : Mem} (h : KwC C) (e : ∀ k, gL C' 15 k = gL C 15 k) : KwC C' := fun i hi => by rw [e]; exact h i hi
theorem RelM.cg {C C' R R' : Mem} (h : RelM C R) (e0 : gI C' 0 3 = gI C 0 3) (e : ∀ n k, 83 ≤ n → gI C' n k = gI C n k ∧ gL C' n k = gL C n k) (f0 : gI R' 0 41 = gI R 0 41) (f : ∀ k, 502 ≤ k → k < 2008 → gI R' 1 k = gI R 1 k) (g : ∀ k, 23 ≤ k → k < 92 → gL R' 2 k = gL R 2 k) : RelM C' R' := by
  obtain ⟨m, a, b, c, d⟩ := h
  exact ⟨m, a, by rw [e0]; exact b, by rw [f0]; exact c, fun j hj => (d j hj).cg (fun n k a b => e n k (by omega)) (fun k a b => f k (by omega) (by omega)) (fun k a b => g k (by omega) (by omega))⟩
theorem NowC.two {C : Mem} (h : NowC C) : (gR C 0 1 = 27 ∨ gR C 0 1 = 55) ∧ gR C 0 0 + gR C 0 1 = 82 := by
  rcases h with ⟨a, b⟩ | ⟨a, b⟩ <;> rw [a, b] <;> simp
theorem RelO.cg {C C' R R' : Mem} (h : RelO C R) (e : EqC C C') (f : EqR R R') : RelO C' R' := by
  obtain ⟨hn, ht, hb, hl, hkw, hk, hm⟩ := h
  obtain ⟨e1, e2⟩ := e
  obtain ⟨hsp, hnw⟩ := hn.two
  refine ⟨by unfold NowC; rw [e2, e2]; exact hn, ht.cg (fun n k a b => e1 n k (by unfold scrC; omega)) (fun n k a b => f n k (by unfold scrR; omega)),
    hb.cg (e1 _ _ (by unfold scrC; omega)).1 (fun k => (e1 _ _ (by unfold scrC; omega)).1) (f _ _ (by unfold scrR; omega)).1 (fun k => (f _ _ (by unfold scrR; omega)).1),
    hl.cg (e1 _ _ (by unfold scrC; omega)).1 (fun k => (e1 _ _ (by unfold scrC; omega)).1) (f _ _ (by unfold scrR; omega)).1 (fun k => (f _ _ (by unfold scrR; omega)).1),
    hkw.cg (fun k => (e1 _ _ (by unfold scrC; omega)).2), ?_, hm.cg (e1 _ _ (by unfold scrC; omega)).1 (fun n k a => e1 _ _ (by unfold scrC; omega)) (f _ _ (by unfold scrR; omega)).1 (fun k a b => (f _ _ (by unfold scrR; omega)).1) (fun k a b => (f _ _ (by unfold scrR; omega)).2)⟩
  rw [e2]
  exact hk.cg (fun n k a b => e1 _ _ (by unfold scrC; omega)) (fun k a b => (f _ _ (by unfold scrR; omega)).1) (fun k a b => (f _ _ (by unfold scrR; omega)).2)
/-- both sides answer alike, and stay related -/
def OK2 {α : Type} (x y : Rs α) : Prop := ∃ (r : α) (C' R' : Mem), x = some (r, C') ∧ y = some (r, R') ∧ Rel C' R'
theorem EqC.sI {C : Mem} (n k : Nat) (v : Int32) (h : scrC (gR C 0 1) n k) : EqC C (sI C n k v) := ⟨fun a b hs => ⟨by rw [gI_I, if_neg (fun z => hs (by rw [z.1, z.2]; exact h))], rfl⟩, fun _ _ => rfl⟩
theorem EqC.sL {C : Mem} (n k : Nat) (v : Int64) (h : scrC (gR C 0 1) n k) : EqC C (sL C n k v) := ⟨fun a b hs => ⟨rfl, by rw [gL_L, if_neg (fun z => hs (by rw [z.1, z.2]; exact h))]⟩, fun _ _ => rfl⟩
theorem EqR.sI {R : Mem} (n k : Nat) (v : Int32) (h : scrR n k) : EqR R (sI R n k v) := fun a b hs => ⟨by rw [gI_I, if_neg (fun z => hs (by rw [z.1, z.2]; exact h))], rfl⟩
theorem EqR.sL {R : Mem} (n k : Nat) (v : Int64) (h : scrR n k) : EqR R (sL R n k v) := fun a b hs => ⟨rfl, by rw [gL_L, if_neg (fun z => hs (by rw [z.1, z.2]; exact h))]⟩
theorem RelO.st {C R : Mem} (h : RelO C R) (s : Int32) : RelO (sI C 0 12 s) (sI R 0 2 s) := h.cg (EqC.sI _ _ _ (by unfold scrC; omega)) (EqR.sI _ _ _ (by unfold scrR; omega))
/-- what of RelS a change keeps but the STATUS -/
def SqC (C C' : Mem) : Prop := gL C' 0 13 = gL C 0 13 ∧ gL C' 0 14 = gL C 0 14 ∧ gI C' 0 15 = gI C 0 15 ∧ gI C' 0 16 = gI C 0 16
def SqR (R R' : Mem) : Prop := gL R' 0 3 = gL R 0 3 ∧ gL R' 0 4 = gL R 0 4 ∧ gI R' 0 16 = gI R 0 16 ∧ gI R' 0 17 = gI R 0 17
theorem SqC.rf {C : Mem} : SqC C C := ⟨rfl, rfl, rfl, rfl⟩
theorem SqR.rf {R : Mem} : SqR R R := ⟨rfl, rfl, rfl, rfl⟩
theorem SqC.tr {C C1 C2 : Mem} (h : SqC C C1) (g : SqC C1 C2) : SqC C C2 := ⟨g.1.trans h.1, g.2.1.trans h.2.1, g.2.2.1.trans h.2.2.1, g.2.2.2.trans h.2.2.2⟩
theorem SqR.tr {C C1 C2 : Mem} (h : SqR C C1) (g : SqR C1 C2) : SqR C C2 := ⟨g.1.trans h.1, g.2.1.trans h.2.1, g.2.2.1.trans h.2.2.1, g.2.2.2.trans h.2.2.2⟩
theorem Rel.st {C C' R R' : Mem} (h : RelS C R) (e : SqC C C') (f : SqR R R') (ho : RelO C' R') (s : Int32) : Rel (sI C' 0 12 s) (sI R' 0 2 s) := by
  obtain ⟨-, b, c, d, g⟩ := h
  obtain ⟨e1, e2, e3, e4⟩ := e
  obtain ⟨f1, f2, f3, f4⟩ := f
  refine ⟨⟨?_, ?_, ?_, ?_, ?_⟩, ho.st s⟩
  · simp [gI_I]
  · rw [gL_I, gL_I, e1, f1]; exact b
  · rw [gL_I, gL_I, e2, f2]; exact c
  · simp [gI_I]; rw [e3, f3]; exact d
  · simp [gI_I]; rw [e4, f4]; exact g
/-- the four ways to end -/
theorem fin_ref {C C' R R' : Mem} (h : RelS C R) (e : SqC C C') (f : SqR R R') (ho : RelO C' R') (s : Int32) : OK2 (bnd (f_X11_refused s C') fun r M => some (r, M)) (bnd (f_X12_refuse s R') fun r M => some (r, M)) := ⟨-1, _, _, rfl, rfl, Rel.st h e f ho s⟩
theorem fin_giv {C C' R R' : Mem} (h : RelS C R) (e : SqC C C') (f : SqR R R') (ho : RelO C' R') (v : Int32) : OK2 (bnd (f_X11_given v C') fun r M => some (r, M)) (bnd (f_X12_gives v R') fun r M => some (r, M)) := ⟨v, _, _, rfl, rfl, Rel.st h e f ho 0⟩
theorem fin_den {C C' R R' : Mem} (h : RelS C R) (e : SqC C C') (f : SqR R R') (ho : RelO C' R') {s : Int32} (hs : ¬ s = 0) : OK2 (bnd (f_X11_denied s C') fun r M => if ¬ (r = 0 ∨ r = 1) then none else some (r, M)) (bnd (f_X12_is s R') fun r M => if ¬ (r = 0 ∨ r = 1) then none else some (r, M)) := by
  refine ⟨0, sI C' 0 12 s, sI R' 0 2 s, ?_, ?_, Rel.st h e f ho s⟩
  · rfl
  · rw [f_X12_is, letF, if_neg hs]; rfl
theorem fin_don {C C' R R' : Mem} (h : RelS C R) (e : SqC C C') (f : SqR R R') (ho : RelO C' R') : OK2 (bnd (f_X11_done C') fun r M => if ¬ (r = 0 ∨ r = 1) then none else some (r, M)) (bnd (f_X12_is 0 R') fun r M => if ¬ (r = 0 ∨ r = 1) then none else some (r, M)) := by
  refine ⟨1, sI C' 0 12 0, sI R' 0 2 0, ?_, ?_, Rel.st h e f ho 0⟩
  · rfl
  · rfl
