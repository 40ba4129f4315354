/-! WORDS: clash, struck, struckSet -/
theorem b_not (x : Int32) {i : Nat} (hi : i < 32) : bt (x ^^^ (-1 : Int32)) i = !bt x i := by
  rw [b_xor, b_m1 i hi]; cases bt x i <;> rfl
theorem and_not0 (x y : Int32) : (x &&& (y ^^^ (-1 : Int32))) = 0 ↔ ∀ j, j < 32 → bt x j = true → bt y j = true := by
  constructor
  · intro h j hj hx
    have e : bt (x &&& (y ^^^ (-1 : Int32))) j = false := by rw [h, b_0]
    rw [b_and, b_not y hj, hx] at e
    cases hy : bt y j with
    | true => rfl
    | false => rw [hy] at e; cases e
  · intro h
    refine b_ext (fun j hj => ?_)
    rw [b_0, b_and, b_not y hj]
    cases hx : bt x j with
    | false => rfl
    | true => rw [h j hj hx]; rfl
theorem setB_or (P Q : Nat → Bool) {n : Nat} (hn : n ≤ 32) : setB P n ||| setB Q n = setB (fun w => P w || Q w) n := by
  refine b_ext (fun j hj => ?_)
  rw [b_or, bt_setB P hn, bt_setB Q hn, bt_setB _ hn]
  cases decide (j < n) <;> rfl
theorem foldS_add {u v w : Nat → Nat} : ∀ (d i a b c : Nat), a = b + c → (∀ j, i ≤ j → j < i + d → u j = v j + w j) → foldN (fun j x => x + u j) d i a = foldN (fun j x => x + v j) d i b + foldN (fun j x => x + w j) d i c := by
  intro d
  induction d with
  | zero => intro i a b c e _; exact e
  | succ d ih =>
    intro i a b c e h
    rw [foldN, foldN, foldN]
    refine ih (i + 1) _ _ _ ?_ (fun j h1 h2 => h j (by omega) (by omega))
    rw [h i (Nat.le_refl _) (by omega), e]
    omega
theorem foldS_le {u v : Nat → Nat} : ∀ (d i a b : Nat), a ≤ b → (∀ j, i ≤ j → j < i + d → u j ≤ v j) → foldN (fun j x => x + u j) d i a ≤ foldN (fun j x => x + v j) d i b := by
  intro d
  induction d with
  | zero => intro i a b e _; exact e
  | succ d ih =>
    intro i a b e h
    rw [foldN, foldN]
    refine ih (i + 1) _ _ ?_ (fun j h1 h2 => h j (by omega) (by omega))
    have := h i (Nat.le_refl _) (by omega)
    omega
def vP (P : Nat → Bool) (n : Nat) : Nat := foldN (fun i a => a + if P i = true then 2 ^ i else 0) n 0 0
theorem or_add : ∀ i, i < 10 → ∀ a, a < 2 ^ i → (nI a ||| ((1 : Int32) <<< (nI i &&& 31))) = nI (a + 2 ^ i) := by decide +kernel
theorem setB_val0 (P : Nat → Bool) : ∀ (d i a : Nat), i + d ≤ 10 → a < 2 ^ i → foldN (fun i a => if P i = true then a ||| ((1 : Int32) <<< (nI i &&& 31)) else a) d i (nI a) = nI (foldN (fun i a => a + if P i = true then 2 ^ i else 0) d i a) ∧ foldN (fun i a => a + if P i = true then 2 ^ i else 0) d i a < 2 ^ (i + d) := by
  intro d
  induction d with
  | zero => intro i a h1 h2; exact ⟨rfl, h2⟩
  | succ d ih =>
    intro i a h1 h2
    have e2 : 2 ^ (i + 1) = 2 ^ i + 2 ^ i := by rw [Nat.pow_succ]; omega
    rw [foldN, foldN, show i + (d + 1) = i + 1 + d by omega]
    cases hp : P i with
    | true =>
      rw [if_pos rfl, if_pos rfl, or_add i (by omega) a h2]
      exact ih (i + 1) _ (by omega) (by omega)
    | false =>
      rw [if_neg (by decide), if_neg (by decide), Nat.add_zero]
      exact ih (i + 1) _ (by omega) (by omega)
theorem setB_val (P : Nat → Bool) {n : Nat} (hn : n ≤ 10) : setB P n = nI (vP P n) ∧ vP P n < 2 ^ n := by
  have h := setB_val0 P n 0 0 (by omega) (by decide)
  rw [Nat.zero_add] at h
  exact h
theorem tb_big {s n j : Nat} (hs : s < 2 ^ n) (hj : n ≤ j) : s.testBit j = false := Nat.testBit_lt_two_pow (Nat.lt_of_lt_of_le hs (Nat.pow_le_pow_right (by decide) hj))
theorem pow_le10 {n : Nat} (h : n ≤ 10) : 2 ^ n ≤ 1024 := Nat.le_trans (Nat.pow_le_pow_right (by decide) h) (by decide)
theorem setB_test {s n : Nat} (hn : n ≤ 10) (hs : s < 2 ^ n) : setB (fun i => s.testBit i) n = nI s := by
  have h10 := pow_le10 hn
  refine b_ext (fun j hj => ?_)
  rw [bt_setB _ (by omega), bt_nI (by omega)]
  by_cases z : j < n
  · rw [decide_eq_true z]; rfl
  · rw [decide_eq_false z, tb_big hs (by omega)]; rfl
theorem nat_val {s n : Nat} (hn : n ≤ 10) (hs : s < 2 ^ n) : vP (fun i => s.testBit i) n = s ∧ cntP (fun i => s.testBit i) n = popI (nI s) := by
  have h10 := pow_le10 hn
  obtain ⟨e1, e2⟩ := setB_val (fun i => s.testBit i) hn
  have e3 := setB_test hn hs
  refine ⟨nI_inj (by omega) (by omega) (e1.symm.trans e3), ?_⟩
  rw [← pop_setB _ hn, e3]
/-- fewer, or as many and less as a number -/
def lxP (n : Nat) (P Q : Nat → Bool) : Prop := cntP P n < cntP Q n ∨ (cntP P n = cntP Q n ∧ vP P n ≤ vP Q n)
theorem lxP_rf (n : Nat) (P : Nat → Bool) : lxP n P P := Or.inr ⟨rfl, Nat.le_refl _⟩
theorem lxP_tr {n : Nat} {P Q T : Nat → Bool} (h : lxP n P Q) (g : lxP n Q T) : lxP n P T := by unfold lxP at *; omega
theorem lxP_sub {n : Nat} {P Q : Nat → Bool} (h : ∀ i, i < n → P i = true → Q i = true) : lxP n P Q := by
  have h1 : cntP P n ≤ cntP Q n := foldS_le n 0 0 0 (Nat.le_refl _) (fun j _ hj => by
    cases hp : P j with
    | true => rw [h j (by omega) hp]; exact Nat.le_refl _
    | false => rw [if_neg (by decide)]; exact Nat.zero_le _)
  have h2 : vP P n ≤ vP Q n := foldS_le n 0 0 0 (Nat.le_refl _) (fun j _ hj => by
    cases hp : P j with
    | true => rw [h j (by omega) hp]; exact Nat.le_refl _
    | false => rw [if_neg (by decide)]; exact Nat.zero_le _)
  unfold lxP
  omega
theorem cnt_or {n : Nat} {P Q T : Nat → Bool} (h : ∀ i, i < n → T i = (P i || Q i) ∧ ¬ (P i = true ∧ Q i = true)) : cntP T n = cntP P n + cntP Q n ∧ vP T n = vP P n + vP Q n := by
  refine ⟨foldS_add n 0 0 0 0 rfl (fun j _ hj => ?_), foldS_add n 0 0 0 0 rfl (fun j _ hj => ?_)⟩
  · obtain ⟨e1, e2⟩ := h j (by omega)
    rw [e1]
    cases hp : P j <;> cases hq : Q j <;> simp [hp, hq] at e2 ⊢
  · obtain ⟨e1, e2⟩ := h j (by omega)
    rw [e1]
    cases hp : P j <;> cases hq : Q j <;> simp [hp, hq] at e2 ⊢
theorem lxP_or {n : Nat} {P1 P2 P Q1 Q2 Q : Nat → Bool} (hP : ∀ i, i < n → P i = (P1 i || P2 i) ∧ ¬ (P1 i = true ∧ P2 i = true)) (hQ : ∀ i, i < n → Q i = (Q1 i || Q2 i) ∧ ¬ (Q1 i = true ∧ Q2 i = true)) (h1 : lxP n P1 Q1) (h2 : lxP n P2 Q2) : lxP n P Q := by
  obtain ⟨a1, a2⟩ := cnt_or hP
  obtain ⟨b1, b2⟩ := cnt_or hQ
  unfold lxP at *
  omega
theorem lxP_cg {n : Nat} {P P' Q Q' : Nat → Bool} (h : lxP n P Q) (hP : ∀ i, i < n → P' i = P i) (hQ : ∀ i, i < n → Q' i = Q i) : lxP n P' Q' :=
  lxP_tr (lxP_sub (fun i hi z => by rw [← hP i hi]; exact z)) (lxP_tr h (lxP_sub (fun i hi z => by rw [hQ i hi]; exact z)))
def pwN (K : Kt) (w : Nat) : Nat := (K 18 w).toNatClampNeg
theorem pwN_is {K : Kt} (hw : WFK K) {w : Nat} (h : w < nK K 5) : K 18 w = nI (pwN K w) ∧ pwN K w < nK K 3 ∧ (K 19 w = 1 ∨ K 19 w = 2) := by
  obtain ⟨⟨n, h1, h2⟩, h3⟩ := hw.2.2.2.2.2.1 w h
  have := hw.n3
  have e : pwN K w = n := by unfold pwN; rw [h2, nI_clamp (by omega)]
  rw [e]; exact ⟨h2, h1, h3⟩
/-- what is shown before a person means -/
def mnK (K : Kt) (p : Nat) : Int32 := psenseK K p (K 20 0)
theorem mnK_in {K : Kt} (hw : WFK K) (p : Nat) : mnK K p = 0 ∨ mnK K p = 1 ∨ mnK K p = 2 := by
  obtain ⟨n, hn, e⟩ := psenseK_in hw p (K 20 0)
  unfold mnK
  rw [e]
  rcases (show n = 0 ∨ n = 1 ∨ n = 2 by omega) with rfl | rfl | rfl
  · exact Or.inl rfl
  · exact Or.inr (Or.inl rfl)
  · exact Or.inr (Or.inr rfl)
def clP (K : Kt) (w : Nat) : Bool := decide (mnK K (pwN K w) = 3 - K 19 w)
theorem clP_is {K : Kt} (hw : WFK K) {w : Nat} (h : w < nK K 5) : clP K w = true ↔ (¬ mnK K (pwN K w) = 0 ∧ ¬ mnK K (pwN K w) = K 19 w) := by
  obtain ⟨-, -, hg⟩ := pwN_is hw h
  unfold clP
  rcases mnK_in hw (pwN K w) with e | e | e <;> rcases hg with g | g <;> rw [e, g] <;> decide
theorem p_clash {C : Mem} {K : Kt} (h0 : shC (gR C 0 0) = 0) (hC : IsC C (gR C 0 0) K) (hw : WFK K) : f_X11_clash_L4 fz 0 0 C = some (setB (clP K) (nK K 5), C) := by
  have hn := hw.n5
  have hn3 := hw.n3
  have key := loopN (fun fu a i => f_X11_clash_L4 fu a (nI i) C) (nK K 5) (fun i a => if clP K i = true then a ||| ((1 : Int32) <<< (nI i &&& 31)) else a) (fun a => some (a, C))
    (fun fu a => by
      try dsimp only
      rw [f_X11_clash_L4, if_neg (nn h0), p_count5, bnd_some, hC.1 5 (by decide), hn.1, if_pos (Int32.le_refl _)])
    (fun fu a i hi => by
      obtain ⟨e1, e2, e3⟩ := pwN_is hw hi
      have hcl := clP_is hw hi
      try dsimp only
      rw [f_X11_clash_L4, if_neg (nn h0), p_count5, bnd_some, hC.1 5 (by decide), hn.1, if_neg (nI_ge hi (by omega)), if_neg (nn h0), if_neg (nn h0), p_cell (kC_0_7 h0).2 (by omega) (by decide), bnd_some, (hC.2.2.2.2.2.1 i hi).1, if_neg (nn h0), e1, hC.2.2.2.2.2.2.1, p_senseBefore h0 hC hw e2, bnd_some]
      rw [show psenseK K (pwN K i) (K 20 0) = mnK K (pwN K i) from rfl]
      by_cases z : mnK K (pwN K i) = 0
      · rw [if_pos z, letF, nI_1, if_neg (fun q => (hcl.mp q).1 z)]
      · rw [if_neg z, if_neg (nn h0), p_cell (kC_0_8 h0).2 (by omega) (by decide), bnd_some, (hC.2.2.2.2.2.1 i hi).2]
        by_cases z2 : mnK K (pwN K i) = K 19 i
        · rw [if_pos z2, letF, nI_1, if_neg (fun q => (hcl.mp q).2 z2)]
        · rw [if_neg z2, letF, letF, nI_1, if_pos (hcl.mpr ⟨z, z2⟩)])
    (nK K 5) 0 0 fz (by omega) (by rw [fz_is]; omega)
  exact key
theorem r_wordOf {R : Mem} {K : Kt} (hR : IsR R 0 K) {w : Nat} (hw : w < nK K 5) (hw2 : w < 100) : f_X12_wordOf (nI w) 0 R = some (K 18 w, R) ∧ f_X12_wordOf (nI w) 1 R = some (K 19 w, R) := by
  have he : (114 : Int32) + (2 : Int32) * nI w + 0 = nI (114 + 2 * w + 0) := by rw [litI, litI, pk_mul, nI_add]; exact nI_add _ 0
  have he1 : (114 : Int32) + (2 : Int32) * nI w + 1 = nI (114 + 2 * w + 1) := by rw [litI, litI, litI, pk_mul, nI_add, nI_add]
  obtain ⟨q1, q2⟩ := r_rd he (by omega)
  obtain ⟨q3, q4⟩ := r_rd he1 (by omega)
  refine ⟨?_, ?_⟩
  · rw [f_X12_wordOf, if_neg q1, q2, Nat.add_zero, (hR.word hw).1]
  · rw [f_X12_wordOf, if_neg q3, q4, (hR.word hw).2]
theorem r_clashing {R : Mem} {K : Kt} (hR : IsR R 0 K) (hw : WFK K) : f_X12_clashing R = some (setB (clP K) (nK K 5), R) := by
  have hn := hw.n5
  have hn3 := hw.n3
  obtain ⟨wm, hw9, hwm⟩ := hw.2.2.2.2.2.2.1
  have key := loopN (fun fu a i => f_X12_clashing_L4 fu a (nI i) R) (nK K 5) (fun i a => if clP K i = true then a ||| ((1 : Int32) <<< (nI i &&& 31)) else a) (fun a => some (a, R))
    (fun fu a => by
      try dsimp only
      rw [f_X12_clashing_L4, hR.cnt (by decide), hn.1, if_pos (Int32.le_refl _)])
    (fun fu a i hi => by
      obtain ⟨e1, e2, e3⟩ := pwN_is hw hi
      try dsimp only
      rw [f_X12_clashing_L4, hR.cnt (by decide), hn.1, if_neg (nI_ge hi (by omega)), (r_wordOf hR hi (by omega)).1, bnd_some, e1, hR.warm, r_senseFor hR hw e2 hwm hw9, bnd_some, (r_wordOf hR hi (by omega)).2, bnd_some]
      rw [show psenseK K (pwN K i) (K 20 0) = mnK K (pwN K i) from rfl]
      by_cases z : mnK K (pwN K i) = 3 - K 19 i
      · rw [if_pos z, letF, letF, nI_1, if_pos (show clP K i = true from decide_eq_true z)]
      · rw [if_neg z, letF, letF, nI_1, or0, if_neg (show ¬ clP K i = true by unfold clP; rw [decide_eq_false z]; decide)])
    (nK K 5) 0 0 fz (by omega) (by rw [fz_is]; omega)
  have key' : f_X12_clashing_L4 fz 0 0 R = some (setB (clP K) (nK K 5), R) := key
  rw [f_X12_clashing, key', bnd_some]
section CLASH
variable {C R : Mem}
theorem m_clash (h : Rel C R) : OK2 (f_X11_clash C) (f_X12_clash R) := by
  obtain ⟨hs, ho⟩ := h
  obtain ⟨K, hw, hC, hR, h0, h1⟩ := ho.get
  rw [f_X11_clash, f_X12_clash, p_clash h0 hC hw, bnd_some, r_clashing hR hw, bnd_some]
  exact fin_giv hs SqC.rf SqR.rf ho _
end CLASH
/-! STRUCK -/
theorem p_wordsOf {C : Mem} {c : Nat} {K : Kt} (hc : shC c = 0) (h : IsC C c K) (hw : WFK K) (p g : Int32) : f_X0_wordsOf c p g C = some (setB (fun w => decide (K 18 w = p) && decide (K 19 w = g)) (nK K 5), C) := by
  have hn := hw.n5
  have key := loopN (fun fu a i => f_X0_wordsOf_L5 c p g fu a (nI i) C) (nK K 5) (fun i a => if (decide (K 18 i = p) && decide (K 19 i = g)) = true then a ||| ((1 : Int32) <<< (nI i &&& 31)) else a) (fun a => some (a, C))
    (fun fu a => by
      try dsimp only
      rw [f_X0_wordsOf_L5, p_count5, bnd_some, h.1 5 (by decide), hn.1, if_pos (Int32.le_refl _)])
    (fun fu a i hi => by
      try dsimp only
      rw [f_X0_wordsOf_L5, p_count5, bnd_some, h.1 5 (by decide), hn.1, if_neg (nI_ge hi (by omega)), p_cell (kC_0_7 hc).2 (by omega) (by decide), bnd_some, (h.2.2.2.2.2.1 i hi).1]
      by_cases z : K 18 i = p
      · rw [if_pos z, p_cell (kC_0_8 hc).2 (by omega) (by decide), bnd_some, (h.2.2.2.2.2.1 i hi).2, decide_eq_true z, Bool.true_and]
        by_cases z2 : K 19 i = g
        · rw [if_pos z2, letF, letF, nI_1, decide_eq_true z2, if_pos rfl]
        · rw [if_neg z2, letF, nI_1, decide_eq_false z2, if_neg (by decide)]
      · rw [if_neg z, letF, nI_1, decide_eq_false z, Bool.false_and, if_neg (by decide)])
    (nK K 5) 0 0 fz (by omega) (by rw [fz_is]; omega)
  have key' : f_X0_wordsOf_L5 c p g fz 0 0 C = some (setB (fun w => decide (K 18 w = p) && decide (K 19 w = g)) (nK K 5), C) := key
  rw [f_X0_wordsOf, key', bnd_some]
/-- the words of a person that he is guilty (1), or not (2) -/
def woP (K : Kt) (p : Nat) (g : Int32) (w : Nat) : Bool := decide (K 18 w = nI p) && decide (K 19 w = g)
/-- which of a person's words the class strikes -/
def stG (K : Kt) (p : Nat) : Int32 := if mnK K p = 1 then 2 else if mnK K p = 2 then 1 else if cntP (woP K p 1) (nK K 5) < cntP (woP K p 2) (nK K 5) ∨ (cntP (woP K p 1) (nK K 5) = cntP (woP K p 2) (nK K 5) ∧ vP (woP K p 1) (nK K 5) ≤ vP (woP K p 2) (nK K 5)) then 1 else 2
theorem stG_12 (K : Kt) (p : Nat) : stG K p = 1 ∨ stG K p = 2 := by
  unfold stG
  split
  · exact Or.inr rfl
  · split
    · exact Or.inl rfl
    · split
      · exact Or.inl rfl
      · exact Or.inr rfl
def stP (K : Kt) (w : Nat) : Bool := decide (K 19 w = stG K (pwN K w))
theorem p_lesser {C : Mem} {K : Kt} (hw : WFK K) {p : Nat} (h1 : ¬ mnK K p = 1) (h2 : ¬ mnK K p = 2) : f_X11_lesserSet (setB (woP K p 1) (nK K 5)) (setB (woP K p 2) (nK K 5)) C = some (setB (woP K p (stG K p)) (nK K 5), C) := by
  have hn := hw.n5
  have h10 := pow_le10 hn.2
  obtain ⟨a1, a2⟩ := setB_val (woP K p 1) hn.2
  obtain ⟨b1, b2⟩ := setB_val (woP K p 2) hn.2
  have a3 := pop_setB (woP K p 1) hn.2
  have b3 := pop_setB (woP K p 2) hn.2
  have a4 := cntP_le (woP K p 1) (nK K 5)
  have b4 := cntP_le (woP K p 2) (nK K 5)
  rw [f_X11_lesserSet, a1, b1, p_bitCount (by omega), bnd_some, p_bitCount (by omega), bnd_some, letF, ← a1, ← b1, a3, b3]
  unfold stG
  rw [if_neg h1, if_neg h2]
  by_cases z : cntP (woP K p 1) (nK K 5) = cntP (woP K p 2) (nK K 5)
  · rw [if_pos (by rw [z]; exact pk_sub (Nat.le_refl _) ▸ (by rw [Nat.sub_self]; rfl)), letF, mnI, a1, b1]
    by_cases z2 : vP (woP K p 2) (nK K 5) < vP (woP K p 1) (nK K 5)
    · rw [if_pos (nI_lt z2 (by omega)), if_neg (by omega), b1]
    · rw [if_neg (nI_nlt (by omega) (by omega)), if_pos (by omega), a1]
  · have z0 : ¬ nI (cntP (woP K p 1) (nK K 5)) - nI (cntP (woP K p 2) (nK K 5)) = 0 := by
      rw [i_eq, pk_sub_toInt (by omega) (by omega), show (0 : Int32).toInt = 0 from rfl]
      omega
    rw [if_neg z0]
    by_cases z2 : cntP (woP K p 1) (nK K 5) < cntP (woP K p 2) (nK K 5)
    · rw [if_neg (by rw [i_le, pk_sub_toInt (by omega) (by omega), show (0 : Int32).toInt = 0 from rfl]; omega), if_pos (Or.inl z2)]
    · rw [if_pos (by rw [i_le, pk_sub_toInt (by omega) (by omega), show (0 : Int32).toInt = 0 from rfl]; omega), if_neg (by omega)]
theorem p_strike {C : Mem} {K : Kt} (h0 : shC (gR C 0 0) = 0) (hC : IsC C (gR C 0 0) K) (hw : WFK K) : f_X11_wordsToStrike C = some (setB (stP K) (nK K 5), C) := by
  have hn := hw.n3
  have hn5 := hw.n5
  have key : ∀ d i fu, i + d = nK K 3 → d < fu → f_X11_wordsToStrike_L4 fu (setB (fun w => decide (pwN K w < i) && stP K w) (nK K 5)) (nI i) C = some (setB (stP K) (nK K 5), C) := by
    intro d
    induction d with
    | zero =>
      intro i fu h1 h2
      obtain ⟨fu, rfl⟩ : ∃ k, fu = k + 1 := ⟨fu - 1, by omega⟩
      have e : i = nK K 3 := by omega
      subst e
      rw [f_X11_wordsToStrike_L4, if_neg (nn h0), p_count3, bnd_some, hC.1 3 (by decide), hn.1, if_pos (Int32.le_refl _)]
      congr 2
      refine setB_congr _ (fun w hw2 => ?_)
      rw [decide_eq_true (pwN_is hw hw2).2.1, Bool.true_and]
    | succ d ih =>
      intro i fu h1 h2
      obtain ⟨fu, rfl⟩ : ∃ k, fu = k + 1 := ⟨fu - 1, by omega⟩
      have hi : i < nK K 3 := by omega
      have nx : setB (fun w => decide (pwN K w < i) && stP K w) (nK K 5) ||| setB (woP K i (stG K i)) (nK K 5) = setB (fun w => decide (pwN K w < i + 1) && stP K w) (nK K 5) := by
        rw [setB_or _ _ (by omega)]
        refine setB_congr _ (fun w hw2 => ?_)
        obtain ⟨e1, e2, -⟩ := pwN_is hw hw2
        unfold woP stP
        rw [e1]
        by_cases z : pwN K w = i
        · rw [z, decide_eq_false (show ¬ i < i by omega), decide_eq_true (show i < i + 1 by omega), decide_eq_true (show nI i = nI i from rfl)]
          rfl
        · have z2 : ¬ nI (pwN K w) = nI i := fun q => z (nI_inj (by omega) (by omega) q)
          rw [decide_eq_false z2, Bool.false_and, Bool.or_false]
          by_cases z3 : pwN K w < i
          · rw [decide_eq_true z3, decide_eq_true (show pwN K w < i + 1 by omega)]
          · rw [decide_eq_false z3, decide_eq_false (show ¬ pwN K w < i + 1 by omega)]
      have w1 : setB (fun w => decide (K 18 w = nI i) && decide (K 19 w = 1)) (nK K 5) = setB (woP K i 1) (nK K 5) := rfl
      have w2 : setB (fun w => decide (K 18 w = nI i) && decide (K 19 w = 2)) (nK K 5) = setB (woP K i 2) (nK K 5) := rfl
      rw [f_X11_wordsToStrike_L4, if_neg (nn h0), p_count3, bnd_some, hC.1 3 (by decide), hn.1, if_neg (nI_ge hi (by omega)), if_neg (nn h0), p_wordsOf h0 hC hw, bnd_some, if_neg (nn h0), p_wordsOf h0 hC hw, bnd_some, if_neg (nn h0), if_neg (nn h0), hC.2.2.2.2.2.2.1, p_senseBefore h0 hC hw hi, bnd_some, w1, w2]
      rw [show psenseK K i (K 20 0) = mnK K i from rfl]
      by_cases z1 : mnK K i = 1
      · have eg : stG K i = 2 := by unfold stG; rw [if_pos z1]
        rw [eg] at nx
        rw [if_pos z1, letF, letF, nx, nI_s]
        exact ih (i + 1) fu (by omega) (by omega)
      · by_cases z2 : mnK K i = 2
        · have eg : stG K i = 1 := by unfold stG; rw [if_neg z1, if_pos z2]
          rw [eg] at nx
          rw [if_neg z1, if_pos z2, letF, letF, nx, nI_s]
          exact ih (i + 1) fu (by omega) (by omega)
        · rw [if_neg z1, if_neg z2, p_lesser hw z1 z2, bnd_some, letF, letF, nx, nI_s]
          exact ih (i + 1) fu (by omega) (by omega)
  have st : (0 : Int32) = setB (fun w => decide (pwN K w < 0) && stP K w) (nK K 5) := by
    refine b_ext (fun j hj => ?_)
    rw [bt_setB _ (by omega), b_0, decide_eq_false (show ¬ pwN K j < 0 by omega)]
    simp
  have k0 := key (nK K 3) 0 fz (by omega) (by rw [fz_is]; omega)
  rw [← st] at k0
  have k1 : f_X11_wordsToStrike_L4 fz 0 0 C = some (setB (stP K) (nK K 5), C) := k0
  rw [f_X11_wordsToStrike, k1, bnd_some]
/-- a set of words that may go -/
def okS (K : Kt) (P : Nat → Bool) : Prop := (∀ w, w < nK K 5 → clP K w = true → P w = true) ∧ ∀ a b, a < nK K 5 → b < nK K 5 → P a = false → P b = false → K 18 a = K 18 b → K 19 a = K 19 b
theorem stP_ok {K : Kt} (hw : WFK K) : okS K (stP K) := by
  refine ⟨fun w h1 h2 => ?_, fun a b ha hb h1 h2 h3 => ?_⟩
  · obtain ⟨-, -, hg⟩ := pwN_is hw h1
    have hm : mnK K (pwN K w) = 3 - K 19 w := of_decide_eq_true h2
    refine decide_eq_true ?_
    unfold stG
    rcases hg with g | g <;> rw [g] at hm ⊢
    · have hm2 : mnK K (pwN K w) = 2 := hm
      rw [hm2, if_neg (by decide), if_pos rfl]
    · have hm2 : mnK K (pwN K w) = 1 := hm
      rw [hm2, if_pos rfl]
  · obtain ⟨a1, -, ga⟩ := pwN_is hw ha
    obtain ⟨b1, -, gb⟩ := pwN_is hw hb
    have ep : pwN K a = pwN K b := by unfold pwN; rw [h3]
    have h1' : ¬ K 19 a = stG K (pwN K a) := of_decide_eq_false h1
    have h2' : ¬ K 19 b = stG K (pwN K b) := of_decide_eq_false h2
    rw [← ep] at h2'
    rcases stG_12 K (pwN K a) with e | e <;> rw [e] at h1' h2' <;> rcases ga with g1 | g1 <;> rcases gb with g2 | g2 <;> rw [g1] at h1' ⊢ <;> rw [g2] at h2' ⊢ <;> first | rfl | exact absurd rfl h1' | exact absurd rfl h2'
/-- the class's set is the least of these -/
theorem stP_least {K : Kt} (hw : WFK K) {P : Nat → Bool} (h : okS K P) : lxP (nK K 5) (stP K) P := by
  have hn5 := hw.n5
  have one : ∀ p, p < nK K 3 → lxP (nK K 5) (woP K p (stG K p)) (fun w => decide (K 18 w = nI p) && P w) := by
    intro p hp
    have up : ∀ g, (∀ w, w < nK K 5 → K 18 w = nI p → K 19 w = g → P w = true) → lxP (nK K 5) (woP K p g) (fun w => decide (K 18 w = nI p) && P w) := by
      intro g hg
      refine lxP_sub (fun i hi z => ?_)
      unfold woP at z
      rw [Bool.and_eq_true] at z
      have z1 := of_decide_eq_true z.1
      have z2 := of_decide_eq_true z.2
      rw [decide_eq_true z1, Bool.true_and]
      exact hg i hi z1 z2
    have cl : ∀ w, w < nK K 5 → K 18 w = nI p → mnK K p = 3 - K 19 w → P w = true := by
      intro w hw2 e1 e2
      refine h.1 w hw2 (decide_eq_true ?_)
      have : pwN K w = p := by
        have := hw.n3
        unfold pwN; rw [e1, nI_clamp (by omega)]
      rw [this]; exact e2
    unfold stG
    by_cases z1 : mnK K p = 1
    · rw [if_pos z1]
      exact up 2 (fun w q1 q2 q3 => cl w q1 q2 (by rw [z1, q3]; decide))
    · rw [if_neg z1]
      by_cases z2 : mnK K p = 2
      · rw [if_pos z2]
        exact up 1 (fun w q1 q2 q3 => cl w q1 q2 (by rw [z2, q3]; decide))
      · rw [if_neg z2]
        have two : (∀ w, w < nK K 5 → K 18 w = nI p → K 19 w = 1 → P w = true) ∨ (∀ w, w < nK K 5 → K 18 w = nI p → K 19 w = 2 → P w = true) := by
          by_cases q : ∀ w, w < nK K 5 → K 18 w = nI p → K 19 w = 1 → P w = true
          · exact Or.inl q
          · refine Or.inr (fun w w1 w2 w3 => ?_)
            cases hb : P w with
            | true => rfl
            | false =>
              refine absurd (fun v v1 v2 v3 => ?_) q
              cases ha : P v with
              | true => rfl
              | false =>
                have := h.2 v w v1 w1 ha hb (v2.trans w2.symm)
                rw [v3, w3] at this
                exact absurd this (by decide)
        split
        · rename_i q
          rcases two with t | t
          · exact up 1 t
          · exact lxP_tr q (up 2 t)
        · rename_i q
          rcases two with t | t
          · refine lxP_tr ?_ (up 1 t)
            unfold lxP
            omega
          · exact up 2 t
  have all : ∀ k, k ≤ nK K 3 → lxP (nK K 5) (fun w => decide (pwN K w < k) && stP K w) (fun w => decide (pwN K w < k) && P w) := by
    intro k
    induction k with
    | zero => intro _; exact lxP_sub (fun i _ z => by simp at z)
    | succ k ih =>
      intro hk
      refine lxP_or (fun i hi => ?_) (fun i hi => ?_) (ih (by omega)) (one k (by omega))
      all_goals
        obtain ⟨e1, e2, -⟩ := pwN_is hw hi
        have hn3 := hw.n3
        try unfold woP stP
        rw [e1]
        by_cases z : pwN K i = k
        · subst z
          simp
        · have z2 : ¬ nI (pwN K i) = nI k := fun q => z (nI_inj (by omega) (by omega) q)
          have z3 : decide (pwN K i < k + 1) = decide (pwN K i < k) := by
            by_cases z4 : pwN K i < k
            · rw [decide_eq_true z4, decide_eq_true (show pwN K i < k + 1 by omega)]
            · rw [decide_eq_false z4, decide_eq_false (show ¬ pwN K i < k + 1 by omega)]
          rw [z3, decide_eq_false z2]
          simp
  refine lxP_cg (all (nK K 3) (Nat.le_refl _)) (fun i hi => ?_) (fun i hi => ?_) <;> rw [decide_eq_true (pwN_is hw hi).2.1, Bool.true_and]
