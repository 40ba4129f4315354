/-! RULES: rule, enact, repeal -/
theorem nI_s (a : Nat) : nI a + 1 = nI (a + 1) := by rw [litI, nI_add]
theorem rowE (a : Nat) : (16 : Int32) + 7 * nI a = nI (16 + 7 * a) := by rw [litI, litI, pk_mul, nI_add]
theorem cmpR.c0 {most : Nat} {s n a b d : Int32} (h : cmpR most s n a b d) : (s = 0 ∧ a = -1) ∨ (¬ s = 0 ∧ n = a ∧ ∃ m : Nat, m ≤ most ∧ a = nI m) := by
  rcases h with ⟨rfl, h, -, -⟩ | ⟨m, h0, h1, h2, h3⟩
  · exact Or.inl ⟨rfl, h⟩
  · refine Or.inr ⟨?_, by rw [h1, h2], m, h0, h2⟩
    rcases h3 with ⟨e, -⟩ | ⟨e, -⟩ | ⟨e, -⟩ <;> rw [e] <;> decide
/-- a court whose rules alone are others -/
theorem rowsK {K K' : Kt} {m : Nat} (h2 : K' 0 2 = nI m) (hK : ∀ a b, ¬ (a = 0 ∧ b = 2) → ¬ (2 ≤ a ∧ a ≤ 10) → K' a b = K a b) (hm : m ≤ 8) : nK K' 2 = m ∧ ∀ k, k ≠ 2 → nK K' k = nK K k := by
  unfold nK
  exact ⟨by rw [h2, nI_clamp (by omega)], fun k hk => by rw [hK 0 k (by omega) (by omega)]⟩
theorem IsC.rows {C C' : Mem} {c m : Nat} {K K' : Kt} (h : IsC C c K) (hw : WFK K) (h2 : K' 0 2 = nI m) (hK : ∀ a b, ¬ (a = 0 ∧ b = 2) → ¬ (2 ≤ a ∧ a ≤ 10) → K' a b = K a b) (hm : m ≤ 8)
    (e1 : gI C' (c + 1) 2 = nI m) (e2 : ∀ i, i < m → ∀ f, f < 9 → gI C' (c + 4 + 1 + i) f = K' (2 + f) i) (e3 : ∀ n k, ¬ (n = c + 1 ∧ k = 2) → ¬ (c + 5 ≤ n ∧ n < c + 13) → gI C' n k = gI C n k) : IsC C' c K' := by
  obtain ⟨q1, q2⟩ := rowsK h2 hK hm
  have hn3 := hw.n3
  obtain ⟨h0, h1, -, h3, h4, h5, h6, h7⟩ := h
  refine ⟨fun k hk => ?_, fun i hi => ?_, fun i hi f hf => e2 i (by omega) f hf, fun i hi f hf => ?_, fun i hi => ⟨?_, ?_⟩, fun i hi => ⟨?_, ?_⟩, ?_, ?_⟩
  · by_cases hk2 : k = 2
    · subst hk2; rw [e1, h2]
    · rw [e3 _ _ (by omega) (by omega), hK _ _ (by omega) (by omega)]; exact h0 k hk
  all_goals (try rw [q2 _ (by decide)] at hi)
  · rw [e3 _ _ (by omega) (by omega), hK _ _ (by omega) (by omega)]; exact h1 i hi
  · rw [e3 _ _ (by omega) (by omega), hK _ _ (by omega) (by omega)]; exact h3 i hi f hf
  · rw [e3 _ _ (by omega) (by omega), hK _ _ (by omega) (by omega)]; exact (h4 i hi).1
  · rw [e3 _ _ (by omega) (by omega), hK _ _ (by omega) (by omega)]; exact (h4 i hi).2
  · rw [e3 _ _ (by omega) (by omega), hK _ _ (by omega) (by omega)]; exact (h5 i hi).1
  · rw [e3 _ _ (by omega) (by omega), hK _ _ (by omega) (by omega)]; exact (h5 i hi).2
  · rw [e3 _ _ (by omega) (by omega), hK _ _ (by omega) (by omega)]; exact h6
  · rw [e3 _ _ (by omega) (by omega), hK _ _ (by omega) (by omega)]; exact h7
def isRow (R : Mem) (o : Nat) (K : Kt) (i : Nat) : Prop := gI R 1 (o + 16 + 7 * i) = K 2 i ∧ gI R 1 (o + 16 + 7 * i + 1) = K 3 i ∧ gI R 1 (o + 16 + 7 * i + 6) = K 4 i ∧
    cmpR 99 (gI R 1 (o + 16 + 7 * i + 2)) (gI R 1 (o + 16 + 7 * i + 3)) (K 5 i) (K 6 i) (K 7 i) ∧ cmpR 9 (gI R 1 (o + 16 + 7 * i + 4)) (gI R 1 (o + 16 + 7 * i + 5)) (K 8 i) (K 9 i) (K 10 i)
theorem IsR.rows {R R' : Mem} {m : Nat} {K K' : Kt} (h : IsR R 0 K) (hw : WFK K) (h2 : K' 0 2 = nI m) (hK : ∀ a b, ¬ (a = 0 ∧ b = 2) → ¬ (2 ≤ a ∧ a ≤ 10) → K' a b = K a b) (hm : m ≤ 8)
    (e1 : gI R' 1 2 = nI m) (e2 : ∀ i, i < m → isRow R' 0 K' i) (e3 : ∀ k, ¬ k = 2 → ¬ (16 ≤ k ∧ k < 72) → gI R' 1 k = gI R 1 k) : IsR R' 0 K' := by
  obtain ⟨q1, q2⟩ := rowsK h2 hK hm
  have hn1 := hw.n1
  have hn3 := hw.n3
  obtain ⟨h0, h1, -, h3, h4, h5, h6, h7⟩ := h
  refine ⟨fun k hk => ?_, fun i hi => ?_, fun i hi => e2 i (by omega), fun i hi => ?_, fun i hi => ?_, fun i hi => ?_, ?_, ?_⟩
  · by_cases hk2 : k = 2
    · subst hk2; rw [Nat.zero_add, e1, h2]
    · rw [e3 _ (by omega) (by omega), hK _ _ (by omega) (by omega)]; exact h0 k hk
  all_goals (try rw [q2 _ (by decide)] at hi)
  · rw [e3 _ (by omega) (by omega), hK _ _ (by omega) (by omega)]; exact h1 i hi
  · rw [e3 _ (by omega) (by omega), e3 _ (by omega) (by omega), e3 _ (by omega) (by omega), e3 _ (by omega) (by omega), e3 _ (by omega) (by omega), hK 12 _ (by omega) (by omega), hK 13 _ (by omega) (by omega), hK 14 _ (by omega) (by omega), hK 11 _ (by omega) (by omega), hK 15 _ (by omega) (by omega)]; exact h3 i hi
  · rw [e3 _ (by omega) (by omega), e3 _ (by omega) (by omega), hK 16 _ (by omega) (by omega), hK 17 _ (by omega) (by omega)]; exact h4 i hi
  · rw [e3 _ (by omega) (by omega), e3 _ (by omega) (by omega), hK 18 _ (by omega) (by omega), hK 19 _ (by omega) (by omega)]; exact h5 i hi
  · rw [e3 _ (by omega) (by omega), hK _ _ (by omega) (by omega)]; exact h6
  · rw [e3 _ (by omega) (by omega), hK _ _ (by omega) (by omega)]; exact h7
def okRow (K : Kt) (i : Nat) : Prop := (∃ n : Nat, n < nK K 1 ∧ K 2 i = nI n) ∧ (∃ n : Nat, n ≤ 2 ∧ K 3 i = nI n) ∧ (K 4 i = -1 ∨ ∃ n : Nat, n < nK K 0 ∧ K 4 i = nI n)
theorem WFK.rows {K K' : Kt} {m : Nat} (hw : WFK K) (h2 : K' 0 2 = nI m) (hK : ∀ a b, ¬ (a = 0 ∧ b = 2) → ¬ (2 ≤ a ∧ a ≤ 10) → K' a b = K a b) (hm : m ≤ 8) (e2 : ∀ i, i < m → okRow K' i) : WFK K' := by
  obtain ⟨q1, q2⟩ := rowsK h2 hK hm
  obtain ⟨h0, h1, -, h3, h4, h5, h6, h7⟩ := hw
  refine ⟨fun k hk => ?_, fun i hi => ?_, fun i hi => e2 i (by omega), fun i hi => ?_, fun i hi => ?_, fun i hi => ?_, ?_, ?_⟩
  · by_cases hk2 : k = 2
    · subst hk2; rw [q1, h2]; exact ⟨rfl, hm⟩
    · rw [hK _ _ (by omega) (by omega), q2 k hk2]; exact h0 k hk
  all_goals (try rw [q2 _ (by decide)] at hi)
  · rw [hK _ _ (by omega) (by omega)]; exact h1 i hi
  · rw [hK 11 _ (by omega) (by omega), hK 12 _ (by omega) (by omega), hK 13 _ (by omega) (by omega), hK 14 _ (by omega) (by omega)]; exact h3 i hi
  · rw [hK 16 _ (by omega) (by omega), hK 17 _ (by omega) (by omega)]; exact h4 i hi
  · rw [hK 18 _ (by omega) (by omega), hK 19 _ (by omega) (by omega), q2 3 (by decide)]; exact h5 i hi
  · rw [hK _ _ (by omega) (by omega)]; exact h6
  · rw [hK _ _ (by omega) (by omega)]; exact h7
/-- ENACT -/
def rowV (cue guilt smell : Int32) (a : Nat) : Int32 := if a = 2 then cue else if a = 3 then guilt else if a = 4 then smell else if a = 7 then nI 99 else if a = 10 then nI 9 else if a = 5 ∨ a = 8 then -1 else nI 0
def enaK (K : Kt) (cue guilt smell : Int32) : Kt := fun a b => if a = 0 ∧ b = 2 then nI (nK K 2 + 1) else if 2 ≤ a ∧ a ≤ 10 ∧ b = nK K 2 then rowV cue guilt smell a else K a b
theorem enaK_2 (K : Kt) (x y z : Int32) : enaK K x y z 0 2 = nI (nK K 2 + 1) := rfl
theorem enaK_K (K : Kt) (x y z : Int32) : ∀ a b, ¬ (a = 0 ∧ b = 2) → ¬ (2 ≤ a ∧ a ≤ 10) → enaK K x y z a b = K a b := fun a b h1 h2 => by
  unfold enaK; rw [if_neg h1, if_neg (by omega)]
theorem enaK_r (K : Kt) (x y z : Int32) {a b : Nat} (h1 : 2 ≤ a ∧ a ≤ 10) (h2 : b < nK K 2) : enaK K x y z a b = K a b := by
  unfold enaK; rw [if_neg (by omega), if_neg (by omega)]
theorem enaK_n (K : Kt) (x y z : Int32) {a : Nat} (h1 : 2 ≤ a ∧ a ≤ 10) : enaK K x y z a (nK K 2) = rowV x y z a := by
  unfold enaK; rw [if_neg (by omega), if_pos ⟨h1.1, h1.2, rfl⟩]
theorem enaK_wf {K : Kt} (hw : WFK K) (hm : nK K 2 < 8) {c g : Nat} {x : Int32} (hc : c < nK K 1) (hg : g ≤ 2) (hx : x = -1 ∨ ∃ n : Nat, n < nK K 0 ∧ x = nI n) : WFK (enaK K (nI c) (nI g) x) := by
  obtain ⟨q1, q2⟩ := rowsK (enaK_2 K (nI c) (nI g) x) (enaK_K K (nI c) (nI g) x) (by omega)
  refine hw.rows (enaK_2 _ _ _ _) (enaK_K _ _ _ _) (by omega) fun i hi => ?_
  unfold okRow
  rw [q2 0 (by decide), q2 1 (by decide)]
  by_cases e : i = nK K 2
  · subst e
    rw [enaK_n _ _ _ _ (by omega), enaK_n _ _ _ _ (by omega), enaK_n _ _ _ _ (by omega)]
    exact ⟨⟨c, hc, rfl⟩, ⟨g, hg, rfl⟩, hx⟩
  · rw [enaK_r _ _ _ _ (by omega) (by omega), enaK_r _ _ _ _ (by omega) (by omega), enaK_r _ _ _ _ (by omega) (by omega)]
    exact hw.2.2.1 i (by omega)
theorem p_enact {C : Mem} {c : Nat} {K : Kt} (hc : shC c = 0) (h : IsC C c K) (hw : WFK K) (hm : nK K 2 < 8) (x y z : Int32) (C' : Mem)
    (e : C' = sI (sI (sI (sI (sI (sI (sI (sI (sI (sI (sI (sI C (c + 1) 2 (nI (nK K 2) + 1)) (c + 4 + 1 + nK K 2) 0 x) (c + 4 + 1 + nK K 2) 1 0) (c + 4 + 1 + nK K 2) 2 (-1)) (c + 4 + 1 + nK K 2) 3 (-1)) (c + 4 + 1 + nK K 2) 4 0) (c + 4 + 1 + nK K 2) 5 99) (c + 4 + 1 + nK K 2) 6 (-1)) (c + 4 + 1 + nK K 2) 7 0) (c + 4 + 1 + nK K 2) 8 9) (c + 4 + 1 + nK K 2) 1 y) (c + 4 + 1 + nK K 2) 2 z) : InC C c (enaK K x y z) C' := by
  have lo := isC_lo hc
  subst e
  refine ⟨h.rows hw (enaK_2 _ _ _ _) (enaK_K _ _ _ _) (by omega) ?_ (fun i hi f hf => ?_) (fun n k h1 h2 => ?_), ?_⟩
  · repeat rw [gI_I, if_neg (by omega)]
    rw [gI_I, if_pos ⟨rfl, rfl⟩, litI, nI_add]
  · by_cases hi2 : i = nK K 2
    · subst hi2
      rw [enaK_n _ _ _ _ (by omega)]
      match f, hf with
      | 0, _ => (repeat rw [gI_I, if_neg (by omega)]); rw [gI_I, if_pos ⟨rfl, rfl⟩]; rfl
      | 1, _ => rw [gI_I, if_neg (by omega), gI_I, if_pos ⟨rfl, rfl⟩]; rfl
      | 2, _ => rw [gI_I, if_pos ⟨rfl, rfl⟩]; rfl
      | 3, _ => (repeat rw [gI_I, if_neg (by omega)]); rw [gI_I, if_pos ⟨rfl, rfl⟩]; rfl
      | 4, _ => (repeat rw [gI_I, if_neg (by omega)]); rw [gI_I, if_pos ⟨rfl, rfl⟩]; rfl
      | 5, _ => (repeat rw [gI_I, if_neg (by omega)]); rw [gI_I, if_pos ⟨rfl, rfl⟩]; rfl
      | 6, _ => (repeat rw [gI_I, if_neg (by omega)]); rw [gI_I, if_pos ⟨rfl, rfl⟩]; rfl
      | 7, _ => (repeat rw [gI_I, if_neg (by omega)]); rw [gI_I, if_pos ⟨rfl, rfl⟩]; rfl
      | 8, _ => (repeat rw [gI_I, if_neg (by omega)]); rw [gI_I, if_pos ⟨rfl, rfl⟩]; rfl
    · rw [enaK_r _ _ _ _ (by omega) (by omega)]
      repeat rw [gI_I, if_neg (by omega)]
      exact h.2.2.1 i (by omega) f hf
  · repeat rw [gI_I, if_neg (by omega)]
  · have hz : ∀ (D : Mem) (k : Nat) (v : Int32), FrC C D c → FrC C (sI D (c + 4 + 1 + nK K 2) k v) c := fun D k v h => h.sI _ _ _ (by omega)
    repeat apply hz
    exact FrC.rf.sI _ _ _ (by omega)
theorem r_enactL (a1 a2 a3 : Int32) {R : Mem} {m : Nat} (hm : m < 8) :
    ∃ R', f_X12_enact_L73 a1 a2 a3 (nI m) fz 0 R = some ((), R') ∧ (∀ n k, gI R' n k = if n = 1 ∧ 16 + 7 * m ≤ k ∧ k < 16 + 7 * m + 7 then 0 else gI R n k) ∧ (∀ n k, gL R' n k = gL R n k) := by
  have key := loopI (fun fu (D : Mem) i => f_X12_enact_L73 a1 a2 a3 (nI m) fu (nI i) D) 7 (fun i D => (∀ n k, gI D n k = if n = 1 ∧ 16 + 7 * m ≤ k ∧ k < 16 + 7 * m + i then 0 else gI R n k) ∧ ∀ n k, gL D n k = gL R n k)
    (fun b => b.1 = () ∧ (∀ n k, gI b.2 n k = if n = 1 ∧ 16 + 7 * m ≤ k ∧ k < 16 + 7 * m + 7 then 0 else gI R n k) ∧ ∀ n k, gL b.2 n k = gL R n k)
    (fun fu D hI => ⟨((), D), by rw [f_X12_enact_L73, if_pos (show (7 : Int32) ≤ nI 7 by decide)], rfl, hI⟩)
    (fun fu D i hi hI => Or.inl ⟨sI D 1 (16 + 7 * m + i) 0, ⟨fun n k => ?_, fun n k => hI.2 n k⟩, ?_⟩) 7 0 R fz (by omega) (by decide) ⟨fun n k => by rw [if_neg (by omega)], fun n k => rfl⟩
  · obtain ⟨⟨u, D⟩, e1, -, e2, e3⟩ := key
    exact ⟨D, e1, e2, e3⟩
  · rw [gI_I, hI.1]
    by_cases z : n = 1 ∧ k = 16 + 7 * m + i
    · rw [if_pos z, if_pos (by omega)]
    · rw [if_neg z]
      by_cases z2 : n = 1 ∧ 16 + 7 * m ≤ k ∧ k < 16 + 7 * m + i
      · rw [if_pos z2, if_pos (by omega)]
      · rw [if_neg z2, if_neg (by omega)]
  · obtain ⟨q1, q2⟩ := r_rd (e := 16 + 7 * nI m + nI i) (j := 16 + 7 * m + i) (by rw [litI, litI, pk_mul, nI_add, nI_add]) (by omega)
    rw [f_X12_enact_L73, if_neg (show ¬ (7 : Int32) ≤ nI i from nI_ge (b := 7) hi (by decide)), f_X12_ruleRow, bnd_some, if_neg q1, letF, letF, q2, show nI i + 1 = nI (i + 1) from by rw [litI, nI_add]]
theorem r_enact {R : Mem} {K : Kt} (h : IsR R 0 K) (hw : WFK K) (hm : nK K 2 < 8) (x y z : Int32) {D R' : Mem} (hD : ∀ n k, gI D n k = if n = 1 ∧ 16 + 7 * nK K 2 ≤ k ∧ k < 16 + 7 * nK K 2 + 7 then 0 else gI (sI R 1 2 (nI (nK K 2) + 1)) n k) (hD2 : ∀ n k, gL D n k = gL R n k)
    (e : R' = sI (sI (sI D 1 (16 + 7 * nK K 2) x) 1 (16 + 7 * nK K 2 + 1) y) 1 (16 + 7 * nK K 2 + 6) z) : InR R (enaK K x y z) R' := by
  subst e
  have out : ∀ n k, ¬ (n = 1 ∧ 16 + 7 * nK K 2 ≤ k ∧ k < 16 + 7 * nK K 2 + 7) → gI (sI (sI (sI D 1 (16 + 7 * nK K 2) x) 1 (16 + 7 * nK K 2 + 1) y) 1 (16 + 7 * nK K 2 + 6) z) n k = gI (sI R 1 2 (nI (nK K 2) + 1)) n k := fun n k z => by
    rw [gI_I, if_neg (by omega), gI_I, if_neg (by omega), gI_I, if_neg (by omega), hD, if_neg z]
  refine ⟨h.rows hw (enaK_2 _ _ _ _) (enaK_K _ _ _ _) (by omega) ?_ (fun i hi => ?_) (fun k h1 h2 => ?_), fun n k hz => ?_, fun n k => hD2 n k⟩
  · rw [out _ _ (by omega), gI_I, if_pos ⟨rfl, rfl⟩, litI, nI_add]
  · unfold isRow
    by_cases hi2 : i = nK K 2
    · subst hi2
      refine ⟨?_, ?_, ?_, Or.inl ⟨?_, ?_, ?_, ?_⟩, Or.inl ⟨?_, ?_, ?_, ?_⟩⟩
      all_goals (try rw [enaK_n _ _ _ _ (by omega)])
      · rw [gI_I, if_neg (by omega), gI_I, if_neg (by omega), gI_I, if_pos (by omega)]; rfl
      · rw [gI_I, if_neg (by omega), gI_I, if_pos (by omega)]; rfl
      · rw [gI_I, if_pos (by omega)]; rfl
      · rw [gI_I, if_neg (by omega), gI_I, if_neg (by omega), gI_I, if_neg (by omega), hD, if_pos (by omega)]
      · rfl
      · rfl
      · rfl
      · rw [gI_I, if_neg (by omega), gI_I, if_neg (by omega), gI_I, if_neg (by omega), hD, if_pos (by omega)]
      · rfl
      · rfl
      · rfl
    · have q := h.2.2.1 i (by omega)
      rw [out _ _ (by omega), out _ _ (by omega), out _ _ (by omega), out _ _ (by omega), out _ _ (by omega), out _ _ (by omega), out _ _ (by omega), gI_I, if_neg (by omega), gI_I, if_neg (by omega), gI_I, if_neg (by omega), gI_I, if_neg (by omega), gI_I, if_neg (by omega), gI_I, if_neg (by omega), gI_I, if_neg (by omega)]
      rw [enaK_r _ _ _ _ (by omega) (by omega), enaK_r _ _ _ _ (by omega) (by omega), enaK_r _ _ _ _ (by omega) (by omega), enaK_r _ _ _ _ (by omega) (by omega), enaK_r _ _ _ _ (by omega) (by omega), enaK_r _ _ _ _ (by omega) (by omega), enaK_r _ _ _ _ (by omega) (by omega), enaK_r _ _ _ _ (by omega) (by omega), enaK_r _ _ _ _ (by omega) (by omega)]
      exact q
  · rw [out _ _ (by omega), gI_I, if_neg (by omega)]
  · rw [out _ _ (by omega), gI_I, if_neg (by omega)]
/-- REPEAL -/
def repK (K : Kt) (r : Nat) : Kt := fun a b => if a = 0 ∧ b = 2 then nI (nK K 2 - 1) else if 2 ≤ a ∧ a ≤ 10 ∧ r ≤ b then K a (b + 1) else K a b
theorem repK_2 (K : Kt) (r : Nat) : repK K r 0 2 = nI (nK K 2 - 1) := rfl
theorem repK_K (K : Kt) (r : Nat) : ∀ a b, ¬ (a = 0 ∧ b = 2) → ¬ (2 ≤ a ∧ a ≤ 10) → repK K r a b = K a b := fun a b h1 h2 => by
  unfold repK; rw [if_neg h1, if_neg (by omega)]
theorem repK_r (K : Kt) (r : Nat) {a b : Nat} (h1 : 2 ≤ a ∧ a ≤ 10) : repK K r a b = K a (if r ≤ b then b + 1 else b) := by
  unfold repK; rw [if_neg (by omega)]
  by_cases h : r ≤ b
  · rw [if_pos ⟨h1.1, h1.2, h⟩, if_pos h]
  · rw [if_neg (by omega), if_neg h]
theorem repK_wf {K : Kt} (hw : WFK K) {r : Nat} (hr : r < nK K 2) : WFK (repK K r) := by
  have hn2 := hw.n2
  obtain ⟨q1, q2⟩ := rowsK (repK_2 K r) (repK_K K r) (by omega)
  refine hw.rows (repK_2 _ _) (repK_K _ _) (by omega) fun i hi => ?_
  unfold okRow
  rw [q2 0 (by decide), q2 1 (by decide), repK_r _ _ (by omega), repK_r _ _ (by omega), repK_r _ _ (by omega)]
  exact hw.2.2.1 _ (by split <;> omega)
theorem p_copyRule (a b : Nat) (M : Mem) (hab : a ≠ b) : ∃ M', f_X6_copyFrom a b M = some ((), M') ∧ (∀ n k, gI M' n k = if n = a ∧ k < 9 then gI M b k else gI M n k) ∧ (∀ n k, gL M' n k = gL M n k) ∧ ∀ n k, gR M' n k = gR M n k := by
  refine ⟨_, rfl, fun n k => ?_, fun n k => rfl, fun n k => rfl⟩
  by_cases hn : n = a ∧ k < 9
  · obtain ⟨rfl, hk⟩ := hn
    rw [if_pos ⟨rfl, hk⟩]
    match k, hk with
    | 0, _ => (repeat rw [gI_I, if_neg (by omega)]); rw [gI_I, if_pos ⟨rfl, rfl⟩]
    | 1, _ => (repeat rw [gI_I, if_neg (by omega)]); rw [gI_I, if_pos ⟨rfl, rfl⟩]; (repeat rw [gI_I, if_neg (by omega)])
    | 2, _ => (repeat rw [gI_I, if_neg (by omega)]); rw [gI_I, if_pos ⟨rfl, rfl⟩]; (repeat rw [gI_I, if_neg (by omega)])
    | 3, _ => (repeat rw [gI_I, if_neg (by omega)]); rw [gI_I, if_pos ⟨rfl, rfl⟩]; (repeat rw [gI_I, if_neg (by omega)])
    | 4, _ => (repeat rw [gI_I, if_neg (by omega)]); rw [gI_I, if_pos ⟨rfl, rfl⟩]; (repeat rw [gI_I, if_neg (by omega)])
    | 5, _ => (repeat rw [gI_I, if_neg (by omega)]); rw [gI_I, if_pos ⟨rfl, rfl⟩]; (repeat rw [gI_I, if_neg (by omega)])
    | 6, _ => (repeat rw [gI_I, if_neg (by omega)]); rw [gI_I, if_pos ⟨rfl, rfl⟩]; (repeat rw [gI_I, if_neg (by omega)])
    | 7, _ => (repeat rw [gI_I, if_neg (by omega)]); rw [gI_I, if_pos ⟨rfl, rfl⟩]; (repeat rw [gI_I, if_neg (by omega)])
    | 8, _ => (repeat rw [gI_I, if_neg (by omega)]); rw [gI_I, if_pos ⟨rfl, rfl⟩]; (repeat rw [gI_I, if_neg (by omega)])
  · rw [if_neg hn]
    repeat rw [gI_I, if_neg (by omega)]
theorem p_dropRule {C : Mem} {c : Nat} {K : Kt} (hc : shC c = 0) (h : IsC C c K) (hw : WFK K) {r : Nat} (hr : r < nK K 2) : ∃ C', f_X0_dropRule c (nI r) C = some ((), C') ∧ InC C c (repK K r) C' := by
  have hn2 := hw.n2
  have lo := isC_lo hc
  have key := loopI (fun fu (D : Mem) i => f_X0_dropRule_L2 c fu (nI i) D) (nK K 2 - 1) (fun i D => ((∀ n k, gI D n k = if c + 5 + r ≤ n ∧ n < c + 5 + i ∧ k < 9 then gI C (n + 1) k else gI C n k) ∧ (∀ n k, gL D n k = gL C n k) ∧ ∀ n k, gR D n k = gR C n k) ∧ r ≤ i)
    (fun b => b.1 = () ∧ (∀ n k, gI b.2 n k = if c + 5 + r ≤ n ∧ n < c + 5 + (nK K 2 - 1) ∧ k < 9 then gI C (n + 1) k else gI C n k) ∧ (∀ n k, gL b.2 n k = gL C n k) ∧ ∀ n k, gR b.2 n k = gR C n k)
    (fun fu D hI => ⟨((), D), ?_, rfl, hI.1⟩)
    (fun fu D i hi hI => Or.inl ?_) (nK K 2 - 1 - r) r C fz (by omega) (by rw [fz_is]; omega) ⟨⟨fun n k => by rw [if_neg (by omega)], fun n k => rfl, fun n k => rfl⟩, Nat.le_refl _⟩
  · obtain ⟨⟨u, D⟩, e1, -, e2, e3, e4⟩ := key
    have cn : gI D (c + 1) 2 = nI (nK K 2) := by rw [e2, if_neg (by omega), h.1 2 (by decide), hn2.1]
    refine ⟨sI D (c + 1) 2 (nI (nK K 2) - 1), ?_, h.rows hw (repK_2 _ _) (repK_K _ _) (by omega) ?_ (fun i hi f hf => ?_) (fun n k h1 h2 => ?_), fun n k hz => ?_, fun n k => e3 n k, fun n k => e4 n k⟩
    · rw [f_X0_dropRule, e1, bnd_some, p_count2, bnd_some, cn, show (2 : Int32) = nI 2 from rfl, p_put (n := 6) (kC_0_0 hc).2 (by omega) (by decide), bnd_some]
    · rw [gI_I, if_pos ⟨rfl, rfl⟩]; exact pk_sub (b := 1) (by omega)
    · rw [gI_I, if_neg (by omega), e2, repK_r _ _ (by omega)]
      by_cases z : r ≤ i
      · rw [if_pos (by omega), if_pos z, ← h.2.2.1 (i + 1) (by omega) f hf]; rfl
      · rw [if_neg (by omega), if_neg z, h.2.2.1 i (by omega) f hf]
    · rw [gI_I, if_neg (by omega), e2, if_neg (by omega)]
    · rw [gI_I, if_neg (by omega), e2, if_neg (by omega)]
  · have cn : gI D (c + 1) 2 = nI (nK K 2) := by rw [hI.1.1, if_neg (by omega), h.1 2 (by decide), hn2.1]
    rw [f_X0_dropRule_L2, p_count2, bnd_some, cn, nI_s, if_pos (nI_le (by omega) (by omega))]
  · have cn : gI D (c + 1) 2 = nI (nK K 2) := by rw [hI.1.1, if_neg (by omega), h.1 2 (by decide), hn2.1]
    obtain ⟨M', f1, f2, f3, f4⟩ := p_copyRule (c + 4 + 1 + i) (c + 4 + 1 + (i + 1)) D (by omega)
    refine ⟨M', ⟨⟨fun n k => ?_, fun n k => (f3 n k).trans (hI.1.2.1 n k), fun n k => (f4 n k).trans (hI.1.2.2 n k)⟩, by omega⟩, ?_⟩
    · have hri := hI.2
      rw [f2, hI.1.1, hI.1.1]
      by_cases z : n = c + 4 + 1 + i ∧ k < 9
      · obtain ⟨rfl, hk⟩ := z
        rw [if_pos ⟨rfl, hk⟩, if_neg (by omega), if_pos (by omega)]; rfl
      · rw [if_neg z]
        by_cases z2 : c + 5 + r ≤ n ∧ n < c + 5 + i ∧ k < 9
        · rw [if_pos z2, if_pos (by omega)]
        · rw [if_neg z2, if_neg (by omega)]
    · rw [f_X0_dropRule_L2, p_count2, bnd_some, cn, nI_s, if_neg (nI_ge (by omega) (by omega)), p_ruleAt (by omega), bnd_some, if_neg (nn (shC_rule hc (by omega))), p_ruleAt (by omega), bnd_some, if_neg (nn (shC_rule hc (by omega))), f1, bnd_some, letF]
theorem r_repealL {R : Mem} {K : Kt} (h : IsR R 0 K) (hw : WFK K) {r : Nat} (hr : r < nK K 2) : ∃ R', f_X12_repeal_L29 fz (nI (16 + 7 * r)) (sI R 1 2 (nI (nK K 2) - 1)) = some ((), R') ∧ InR R (repK K r) R' := by
  have hn2 := hw.n2
  have em : nI (nK K 2) - 1 = nI (nK K 2 - 1) := pk_sub (b := 1) (by omega)
  rw [em]
  have key := loopI (fun fu (D : Mem) i => f_X12_repeal_L29 fu (nI i) D) (16 + 7 * (nK K 2 - 1)) (fun i D => ((∀ n k, gI D n k = if n = 1 ∧ 16 + 7 * r ≤ k ∧ k < i then gI (sI R 1 2 (nI (nK K 2 - 1))) n (k + 7) else gI (sI R 1 2 (nI (nK K 2 - 1))) n k) ∧ (∀ n k, gL D n k = gL R n k)) ∧ 16 + 7 * r ≤ i)
    (fun b => b.1 = () ∧ (∀ n k, gI b.2 n k = if n = 1 ∧ 16 + 7 * r ≤ k ∧ k < 16 + 7 * (nK K 2 - 1) then gI (sI R 1 2 (nI (nK K 2 - 1))) n (k + 7) else gI (sI R 1 2 (nI (nK K 2 - 1))) n k) ∧ (∀ n k, gL b.2 n k = gL R n k))
    (fun fu D hI => ⟨((), D), ?_, rfl, hI.1⟩)
    (fun fu D i hi hI => Or.inl ?_) (16 + 7 * (nK K 2 - 1) - (16 + 7 * r)) (16 + 7 * r) (sI R 1 2 (nI (nK K 2 - 1))) fz (by omega) (by rw [fz_is]; omega) ⟨⟨fun n k => by rw [if_neg (by omega)], fun n k => rfl⟩, Nat.le_refl _⟩
  · obtain ⟨⟨u, D⟩, e1, -, e2, e3⟩ := key
    have out : ∀ n k, ¬ (n = 1 ∧ 16 + 7 * r ≤ k ∧ k < 16 + 7 * (nK K 2 - 1)) → ¬ (n = 1 ∧ k = 2) → gI D n k = gI R n k := fun n k z z2 => by
      rw [e2, if_neg z, gI_I, if_neg z2]
    refine ⟨D, e1, h.rows hw (repK_2 _ _) (repK_K _ _) (by omega) ?_ (fun i hi => ?_) (fun k h1 h2 => ?_), fun n k hz => ?_, fun n k => e3 n k⟩
    · rw [e2, if_neg (by omega), gI_I, if_pos ⟨rfl, rfl⟩]
    · unfold isRow
      rw [repK_r _ _ (by omega), repK_r _ _ (by omega), repK_r _ _ (by omega), repK_r _ _ (by omega), repK_r _ _ (by omega), repK_r _ _ (by omega), repK_r _ _ (by omega), repK_r _ _ (by omega), repK_r _ _ (by omega)]
      have q : ∀ f, f < 7 → gI D 1 (0 + 16 + 7 * i + f) = gI R 1 (0 + 16 + 7 * (if r ≤ i then i + 1 else i) + f) := by
        intro f hf
        by_cases z : r ≤ i
        · rw [e2, if_pos (by omega), gI_I, if_neg (by omega), if_pos z]
          congr 1; omega
        · rw [out _ _ (by omega) (by omega), if_neg z]
      have q0 := q 0 (by decide)
      rw [Nat.add_zero, Nat.add_zero] at q0
      rw [q0, q 1 (by decide), q 2 (by decide), q 3 (by decide), q 4 (by decide), q 5 (by decide), q 6 (by decide)]
      exact h.2.2.1 _ (by split <;> omega)
    · rw [out _ _ (by omega) (by omega)]
    · rw [out _ _ (by omega) (by omega)]
  · have cn : gI D 1 2 = nI (nK K 2 - 1) := by rw [hI.1.1, if_neg (by omega), gI_I, if_pos ⟨rfl, rfl⟩]
    rw [f_X12_repeal_L29, f_X12_ruleRow, bnd_some, cn, rowE, if_pos (nI_le (by omega) (by omega))]
  · have cn : gI D 1 2 = nI (nK K 2 - 1) := by rw [hI.1.1, if_neg (by omega), gI_I, if_pos ⟨rfl, rfl⟩]
    have hri := hI.2
    obtain ⟨q1, q2⟩ := r_rd (e := nI i + 7) (j := i + 7) (by rw [litI, nI_add]) (by omega)
    obtain ⟨q3, q4⟩ := r_rd (e := nI i) (j := i) rfl (by omega)
    refine ⟨sI D 1 i (gI D 1 (i + 7)), ⟨⟨fun n k => ?_, fun n k => hI.1.2 n k⟩, by omega⟩, ?_⟩
    · rw [gI_I, hI.1.1, hI.1.1]
      by_cases z : n = 1 ∧ k = i
      · obtain ⟨rfl, rfl⟩ := z
        rw [if_pos ⟨rfl, rfl⟩, if_neg (by omega), if_pos (by omega)]
      · rw [if_neg z]
        by_cases z2 : n = 1 ∧ 16 + 7 * r ≤ k ∧ k < i
        · rw [if_pos z2, if_pos (by omega)]
        · rw [if_neg z2, if_neg (by omega)]
    · rw [f_X12_repeal_L29, f_X12_ruleRow, bnd_some, cn, rowE, if_neg (nI_ge (by omega) (by omega)), if_neg q1, if_neg q3, letF, letF, q2, q4, nI_s]
section RULES
variable {C R : Mem}
theorem m_rule (h : Rel C R) (a b : Int32) : OK2 (f_X11_rule a b C) (f_X12_rule a b R) := by
  obtain ⟨hs, ho⟩ := h
  obtain ⟨K, hw, hsn, hC, hR, hN, hW, h0, h1⟩ := ho.get5
  have hn2 := hw.n2
  have hn1 := hw.n1
  rw [f_X11_rule, f_X12_rule, if_neg (nn h0)]
  rcases ix a (n := nK K 2) (by omega) with hx | ⟨j, hj, rfl⟩
  · rw [hasF 2 2 rfl hC hw (by decide) hx, bnd_some, if_pos i00, r_isF isRuleE hR hw (by decide) hx, bnd_some, if_pos i00]
    exact fin_ref hs SqC.rf SqR.rf ho 1
  · rw [hasT 2 2 rfl hC hw (by decide) hj, bnd_some, if_neg i10, r_isT isRuleE hR hw (by decide) hj, bnd_some, if_neg i10]
    rcases ix b (n := 5) (by decide) with hx | ⟨w, hwm, rfl⟩
    · rw [withinF 5 5 rfl hx, bnd_some, if_pos i00]
      by_cases hb : b < 0
      · rw [if_pos hb]
        exact fin_ref hs SqC.rf SqR.rf ho 1
      · have hb4 : ¬ b ≤ 4 := by
          rcases hx with hx | hx
          · exact absurd hx hb
          · rw [i_le] at hx ⊢
            rw [nI_toInt (by decide)] at hx
            rw [show (4 : Int32).toInt = 4 from by decide]
            omega
        rw [if_neg hb, if_neg hb4]
        exact fin_ref hs SqC.rf SqR.rf ho 1
    · have hr := hC.2.2.1 j hj
      obtain ⟨z0, z1, z6, z2, z4⟩ := hR.2.2.1 j hj
      rw [Nat.zero_add] at z0 z1 z6 z2 z4
      rw [withinT 5 5 rfl (by decide) hwm, bnd_some, if_neg i10, if_neg (nn h0), p_ruleAt (by omega), bnd_some, if_neg (nn (shC_rule h0 (by omega))), if_neg (nI_pos (by omega)), if_pos (show nI w ≤ (4 : Int32) from nI_le (b := 4) (by omega) (by decide)), f_X6_partOf]
      match w, hwm with
      | 0, _ =>
        obtain ⟨⟨n, hn, e⟩, -, -⟩ := hw.2.2.1 j hj
        rw [if_pos (show nI 0 = 0 from rfl), if_pos (show nI 0 = 0 from rfl), bnd_some, hr 0 (by decide), show K (2 + 0) j = K 2 j from rfl, if_neg (by rw [e]; exact nI_ne_m1 (by omega)), show nI 0 = (0 : Int32) from rfl, r_ruleOf0 (by omega), bnd_some, Nat.add_zero, z0]
        exact fin_giv hs SqC.rf SqR.rf ho _
      | 1, _ =>
        obtain ⟨-, ⟨n, hn, e⟩, -⟩ := hw.2.2.1 j hj
        rw [if_neg (show ¬ nI 1 = 0 by decide), if_pos (show nI 1 = 1 from rfl), if_neg (show ¬ nI 1 = 0 by decide), if_pos (show nI 1 = 1 from rfl), bnd_some, hr 1 (by decide), show K (2 + 1) j = K 3 j from rfl, if_neg (by rw [e]; exact nI_ne_m1 (by omega)), show nI 1 = (1 : Int32) from rfl, r_ruleOf1 (by omega), bnd_some, z1]
        exact fin_giv hs SqC.rf SqR.rf ho _
      | 2, _ =>
        rw [if_neg (show ¬ nI 2 = 0 by decide), if_neg (show ¬ nI 2 = 1 by decide), if_pos (show nI 2 = 2 from rfl), if_neg (show ¬ nI 2 = 0 by decide), if_neg (show ¬ nI 2 = 1 by decide), if_pos (show nI 2 = 2 from rfl), bnd_some, hr 3 (by decide), show K (2 + 3) j = K 5 j from rfl, r_ruleOf2 (by omega), bnd_some]
        rcases z2.c0 with ⟨e1, e2⟩ | ⟨e1, e2, n, hn, e⟩
        · rw [if_pos e1, if_pos e2]
          exact fin_ref hs SqC.rf SqR.rf ho _
        · rw [if_neg e1, if_neg (by rw [e]; exact nI_ne_m1 (by omega)), r_ruleOf3 (by omega), bnd_some, e2]
          exact fin_giv hs SqC.rf SqR.rf ho _
      | 3, _ =>
        rw [if_neg (show ¬ nI 3 = 0 by decide), if_neg (show ¬ nI 3 = 1 by decide), if_neg (show ¬ nI 3 = 2 by decide), if_pos (show nI 3 = 3 from rfl), if_neg (show ¬ nI 3 = 0 by decide), if_neg (show ¬ nI 3 = 1 by decide), if_neg (show ¬ nI 3 = 2 by decide), if_pos (show nI 3 = 3 from rfl), bnd_some, hr 6 (by decide), show K (2 + 6) j = K 8 j from rfl, r_ruleOf4 (by omega), bnd_some]
        rcases z4.c0 with ⟨e1, e2⟩ | ⟨e1, e2, n, hn, e⟩
        · rw [if_pos e1, if_pos e2]
          exact fin_ref hs SqC.rf SqR.rf ho _
        · rw [if_neg e1, if_neg (by rw [e]; exact nI_ne_m1 (by omega)), r_ruleOf5 (by omega), bnd_some, e2]
          exact fin_giv hs SqC.rf SqR.rf ho _
      | 4, _ =>
        rw [if_neg (show ¬ nI 4 = 0 by decide), if_neg (show ¬ nI 4 = 1 by decide), if_neg (show ¬ nI 4 = 2 by decide), if_neg (show ¬ nI 4 = 3 by decide), if_pos (show nI 4 = 4 from rfl), if_neg (show ¬ nI 4 = 0 by decide), if_neg (show ¬ nI 4 = 1 by decide), if_neg (show ¬ nI 4 = 2 by decide), if_neg (show ¬ nI 4 = 3 by decide), bnd_some, hr 2 (by decide), show K (2 + 2) j = K 4 j from rfl, r_ruleOf6 (by omega), bnd_some, z6, f_X12_orNone]
        by_cases e : K 4 j = -1
        · rw [if_pos e, if_pos e]
          exact fin_ref hs SqC.rf SqR.rf ho _
        · rw [if_neg e, if_neg e]
          exact fin_giv hs SqC.rf SqR.rf ho _
theorem m_repeal (h : Rel C R) (a : Int32) : OK2 (f_X11_repeal a C) (f_X12_repeal a R) := by
  obtain ⟨hs, ho⟩ := h
  obtain ⟨K, hw, hsn, hC, hR, hN, hW, h0, h1⟩ := ho.get5
  have hn2 := hw.n2
  have lo := isC_lo h0
  rw [f_X11_repeal, f_X12_repeal, if_neg (nn h0)]
  rcases ix a (n := nK K 2) (by omega) with hx | ⟨j, hj, rfl⟩
  · rw [hasF 2 2 rfl hC hw (by decide) hx, bnd_some, if_pos i00, r_isF isRuleE hR hw (by decide) hx, bnd_some, if_pos i00]
    exact fin_ref hs SqC.rf SqR.rf ho 1
  · obtain ⟨q1, q2⟩ := rowsK (repK_2 K j) (repK_K K j) (by omega)
    obtain ⟨C', e1, e2⟩ := p_dropRule h0 hC hw hj
    obtain ⟨R', e3, e4⟩ := r_repealL hR hw hj
    have hg : gR C' 0 0 = gR C 0 0 := e2.2.2.2 _ _
    rw [hasT 2 2 rfl hC hw (by decide) hj, bnd_some, if_neg i10, r_isT isRuleE hR hw (by decide) hj, bnd_some, if_neg i10, if_neg (nn h0), e1, bnd_some, hg, if_neg (nn h0), p_count2, bnd_some, e2.1.1 2 (by decide), letF, f_X12_ruleRow, bnd_some, rowE, hR.cnt (k := 2) (by decide), hn2.1, e3, bnd_some, e4.1.cnt (k := 2) (by decide)]
    exact fin_giv hs (e2.sq lo.1) e4.sq (ho.put hN hW hw e2 e4 (repK_wf hw hj) hsn (fun k _ hk => q2 k hk)) _
theorem m_enact (h : Rel C R) (a b x : Int32) : OK2 (f_X11_enact a b x C) (f_X12_enact a b x R) := by
  obtain ⟨hs, ho⟩ := h
  obtain ⟨K, hw, hsn, hC, hR, hN, hW, h0, h1⟩ := ho.get5
  have hn0 := hw.n0
  have hn2 := hw.n2
  have lo := isC_lo h0
  have key : ∀ s0 y : Int32, ((x = 5 ∧ s0 = 1 ∧ y = -1) ∨ (¬ x = 5 ∧ s0 = 1 ∧ y = x ∧ f_X12_isSmell x R = some (1, R) ∧ ∃ n : Nat, n < nK K 0 ∧ x = nI n) ∨ (¬ x = 5 ∧ s0 = 0 ∧ f_X12_isSmell x R = some (0, R))) → OK2 (f_X11_enact_J22 a b x s0 C) (f_X12_enact a b x R) := by
    intro s0 y hx0
    rw [f_X11_enact_J22, f_X12_enact, if_neg (nn h0)]
    rcases ix a (n := nK K 1) (by have := hw.n1; omega) with hx | ⟨j, hj, rfl⟩
    · rw [hasF 1 1 rfl hC hw (by decide) hx, bnd_some, if_pos i00, r_isF isCueE hR hw (by decide) hx, bnd_some, if_pos i00]
      exact fin_ref hs SqC.rf SqR.rf ho 1
    rw [hasT 1 1 rfl hC hw (by decide) hj, bnd_some, if_neg i10, r_isT isCueE hR hw (by decide) hj, bnd_some, if_neg i10]
    rcases ix b (n := 3) (by decide) with hx | ⟨w, hwm, rfl⟩
    · rw [withinF 3 3 rfl hx, bnd_some, if_pos i00, r_from0F 3 (by decide) hx (by decide), bnd_some, if_pos i00]
      exact fin_ref hs SqC.rf SqR.rf ho 1
    rw [withinT 3 3 rfl (by decide) hwm, bnd_some, if_neg i10, r_from0T 3 (by decide) hwm (by decide), bnd_some, if_neg i10]
    have full : s0 = 1 → ((x = 5 ∧ y = -1) ∨ (¬ x = 5 ∧ y = x)) → (y = -1 ∨ ∃ n : Nat, n < nK K 0 ∧ y = nI n) → OK2 (if s0 = 0 then (bnd (f_X11_refused (1 : Int32) C) fun r53 M54 => some (r53, M54)) else (if ¬ shC (gR C 0 0) = 0 then none else bnd (f_X0_isFull (gR C 0 0) (2 : Int32) C) fun r24 M25 => if r24 = 0 then (if ¬ shC (gR M25 0 0) = 0 then none else bnd (f_X0_addOne (gR M25 0 0) (2 : Int32) M25) fun r29 M30 => if ¬ shC (gR M30 0 0) = 0 then none else bnd (f_X0_ruleAt (gR M30 0 0) r29 M30) fun r33 M34 => if ¬ shC r33 = 6 then none else bnd (f_X6_renew r33 (nI j) M34) fun _ M38 => letF (sI M38 r33 1 (nI w)) fun M40 => if x = (5 : Int32) then (letF (sI M40 r33 2 (-1 : Int32)) fun M46 => bnd (f_X11_given r29 M46) fun r47 M48 => some (r47, M48)) else (letF (sI M40 r33 2 x) fun M42 => bnd (f_X11_given r29 M42) fun r43 M44 => some (r43, M44))) else (bnd (f_X11_refused (4 : Int32) M25) fun r50 M51 => some (r50, M51)))) (f_X12_enact_J39 (nI j) (nI w) x R) := by
      intro hs0 hxy hyv
      rw [hs0, if_neg i10, if_neg (nn h0), f_X0_isFull, p_count2, bnd_some, hC.1 2 (by decide), show (2 : Int32) = nI 2 from rfl, p_cell_T (by decide), bnd_some, hn2.1, f_X12_enact_J39, letF, hR.cnt (k := 2) (by decide), hn2.1]
      by_cases hm : nK K 2 < 8
      · obtain ⟨D, d1, d2, d3⟩ := r_enactL (nI j) (nI w) x (R := sI R 1 2 (nI (nK K 2) + 1)) hm
        obtain ⟨u0, u1⟩ := r_rd (e := nI (16 + 7 * nK K 2)) (j := 16 + 7 * nK K 2) rfl (by omega)
        obtain ⟨u2, u3⟩ := r_rd (e := nI (16 + 7 * nK K 2) + 1) (j := 16 + 7 * nK K 2 + 1) (by rw [litI, nI_add]) (by omega)
        obtain ⟨u4, u5⟩ := r_rd (e := nI (16 + 7 * nK K 2) + 6) (j := 16 + 7 * nK K 2 + 6) (by rw [litI, nI_add]) (by omega)
        have e2 := p_enact h0 hC hw hm (nI j) (nI w) y _ rfl
        have e4 := r_enact hR hw hm (nI j) (nI w) y d2 d3 rfl
        obtain ⟨v1, v2⟩ := rowsK (enaK_2 K (nI j) (nI w) y) (enaK_K K (nI j) (nI w) y) (by omega)
        have fin := fin_giv hs (e2.sq lo.1) e4.sq (ho.put hN hW hw e2 e4 (enaK_wf hw hm hj (by omega) hyv) hsn (fun k _ hk => v2 k hk)) (nI (nK K 2))
        rw [if_pos (show nI (nK K 2) < mostL.getD 2 0 from nI_lt (b := 8) hm (by decide)), bnd_some, if_pos i00, if_neg (nn h0), f_X0_addOne, show nI 2 = (2 : Int32) from rfl, p_count2, bnd_some, hC.1 2 (by decide), hn2.1, show (2 : Int32) = nI 2 from rfl, p_put (n := 6) (kC_0_0 h0).2 (by decide) (by decide), bnd_some, bnd_some, gR_I, if_neg (nn h0), p_ruleAt hm, bnd_some, if_neg (nn (shC_rule h0 hm)), f_X6_renew, letF, letF, letF, letF, letF, letF, letF, letF, letF, bnd_some, letF, letF, letF]
        rw [if_neg (show ¬ nI (nK K 2) = (8 : Int32) from fun z => by have := nI_inj (by omega) (by decide) (show nI (nK K 2) = nI 8 from z); omega), letF, d1, bnd_some, f_X12_ruleRow, bnd_some, rowE, if_neg u0, u1, letF, f_X12_ruleRow, bnd_some, rowE, if_neg u2, u3, letF, f_X12_ruleRow, bnd_some, rowE]
        rcases hxy with ⟨h5, hy⟩ | ⟨h5, hy⟩
        · rw [if_pos h5, letF, if_pos h5, if_neg u4, u5]
          try rw [letF]
          subst hy
          exact fin
        · rw [if_neg h5, letF, if_neg h5, if_neg u4, u5, letF]
          subst hy
          exact fin
      · have e8 : nK K 2 = 8 := by omega
        rw [e8, if_neg (show ¬ nI 8 < mostL.getD 2 0 by decide), bnd_some, if_neg i10, if_pos (show nI 8 = (8 : Int32) from rfl)]
        exact fin_ref hs SqC.rf SqR.rf ho 4
    rcases hx0 with ⟨z1, z2, z3⟩ | ⟨z1, z2, z3, z4, z5⟩ | ⟨z1, z2, z4⟩
    · rw [if_pos z1]
      exact full z2 (Or.inl ⟨z1, z3⟩) (Or.inl z3)
    · rw [if_neg z1, z4, bnd_some, if_neg i10]
      exact full z2 (Or.inr ⟨z1, z3⟩) (by rw [z3]; exact Or.inr z5)
    · rw [if_neg z1, z4, bnd_some, if_pos i00, if_pos z2]
      exact fin_ref hs SqC.rf SqR.rf ho 1
  rw [f_X11_enact]
  by_cases h5 : x = 5
  · rw [if_pos h5, f_X11_enact_J17]
    exact key 1 (-1) (Or.inl ⟨h5, rfl, rfl⟩)
  · rw [if_neg h5, if_neg (nn h0)]
    rcases ix x (n := nK K 0) (by omega) with hx | ⟨j, hj, hx⟩
    · rw [hasF 0 0 rfl hC hw (by decide) hx, bnd_some, if_pos i00]
      exact key 0 0 (Or.inr (Or.inr ⟨h5, rfl, r_isF isSmellE hR hw (by decide) hx⟩))
    · rw [hx, hasT 0 0 rfl hC hw (by decide) hj, bnd_some, if_neg i10, f_X11_enact_J17, ← hx]
      exact key 1 x (Or.inr (Or.inl ⟨h5, rfl, rfl, by rw [hx]; exact r_isT isSmellE hR hw (by decide) hj, j, hj, hx⟩))
end RULES
