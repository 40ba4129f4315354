/-! WORLDS: the class's halves -/
def smN (n : Nat) (f : Nat → Nat) : Nat := foldN (fun i a => a + f i) n 0 0
theorem smN_s (n : Nat) (f : Nat → Nat) : smN (n + 1) f = smN n f + f n := by
  unfold smN
  rw [foldN_add, Nat.zero_add]
  rfl
theorem smN_cg {f g : Nat → Nat} : ∀ n, (∀ i, i < n → f i = g i) → smN n f = smN n g := by
  intro n
  induction n with
  | zero => intro _; rfl
  | succ n ih => intro h; rw [smN_s, smN_s, ih (fun i hi => h i (by omega)), h n (by omega)]
theorem smN_ad {f g h : Nat → Nat} : ∀ n, (∀ i, i < n → f i = g i + h i) → smN n f = smN n g + smN n h := by
  intro n
  induction n with
  | zero => intro _; rfl
  | succ n ih => intro e; rw [smN_s, smN_s, smN_s, ih (fun i hi => e i (by omega)), e n (by omega)]; omega
theorem smN_le {f g : Nat → Nat} : ∀ n, (∀ i, i < n → f i ≤ g i) → smN n f ≤ smN n g := by
  intro n
  induction n with
  | zero => intro _; exact Nat.le_refl _
  | succ n ih =>
    intro e
    rw [smN_s, smN_s]
    have := ih (fun i hi => e i (by omega))
    have := e n (by omega)
    omega
theorem smN_c {c : Nat} : ∀ n, smN n (fun _ => c) = n * c := by
  intro n
  induction n with
  | zero => rw [Nat.zero_mul]; rfl
  | succ n ih => rw [smN_s, ih, Nat.succ_mul]
theorem smN_0 {f : Nat → Nat} (n : Nat) (h : ∀ i, i < n → f i = 0) : smN n f = 0 := by rw [smN_cg (g := fun _ => 0) n h, smN_c, Nat.mul_zero]
theorem smN_z {f : Nat → Nat} : ∀ n, smN n f = 0 → ∀ i, i < n → f i = 0 := by
  intro n
  induction n with
  | zero => intro _ i hi; omega
  | succ n ih =>
    intro h i hi
    rw [smN_s] at h
    by_cases z : i = n
    · subst z; omega
    · exact ih (by omega) i (by omega)
theorem smN_swap (f : Nat → Nat → Nat) (m : Nat) : ∀ n, smN n (fun i => smN m (fun j => f i j)) = smN m (fun j => smN n (fun i => f i j)) := by
  intro n
  induction n with
  | zero => exact (smN_0 m (fun _ _ => rfl)).symm
  | succ n ih =>
    rw [smN_s, ih]
    exact (smN_ad m (fun j _ => smN_s n (fun i => f i j))).symm
theorem smN_mul (f : Nat → Nat) (b : Nat) : ∀ a, smN (a * b) f = smN a (fun i => smN b (fun j => f (i * b + j))) := by
  intro a
  induction a with
  | zero => rw [Nat.zero_mul]; rfl
  | succ a ih =>
    rw [smN_s, ← ih, Nat.succ_mul]
    unfold smN
    rw [foldN_add, fold_sh f (a * b)]
    refine (fold_x (fun s => f (s + a * b)) b 0 (foldN (fun i x => x + f i) (a * b) 0 0) 0).trans ?_
    congr 1
    exact foldN_congr b 0 0 (fun j x _ _ => by rw [Nat.add_comm j])
theorem fstB_spec {P : Nat → Bool} : ∀ (d i : Nat), (fstB P d i = -1 ∧ ∀ j, i ≤ j → j < i + d → P j = false) ∨ ∃ j, i ≤ j ∧ j < i + d ∧ P j = true ∧ (∀ k, i ≤ k → k < j → P k = false) ∧ fstB P d i = nI j := by
  intro d
  induction d with
  | zero => intro i; exact Or.inl ⟨rfl, fun j h1 h2 => by omega⟩
  | succ d ih =>
    intro i
    rw [fstB]
    cases h : P i with
    | true => rw [if_pos rfl]; exact Or.inr ⟨i, Nat.le_refl _, by omega, h, fun k h1 h2 => by omega, rfl⟩
    | false =>
      rw [if_neg (by decide)]
      rcases ih (i + 1) with ⟨e1, e2⟩ | ⟨j, h1, h2, h3, h4, h5⟩
      · refine Or.inl ⟨e1, fun j h1 h2 => ?_⟩
        by_cases z : j = i
        · rw [z]; exact h
        · exact e2 j (by omega) (by omega)
      · refine Or.inr ⟨j, by omega, by omega, h3, fun k k1 k2 => ?_, h5⟩
        by_cases z : k = i
        · rw [z]; exact h
        · exact h4 k (by omega) k2
/-- which rule is the first that bears; 8 for none -/
def ixK (K : Kt) (g : Int32) (f w s : Nat) : Nat := if ruleK K g (nI f) (nI w) (nI s) = -1 then 8 else (ruleK K g (nI f) (nI w) (nI s)).toNatClampNeg
def bsB (K : Kt) (g : Int32) (f w r s : Nat) : Bool := bearK K r g (nI f) (nI w) (nI s)
def nbB (K : Kt) (g : Int32) (f w r s : Nat) : Bool := (List.range r).all (fun j => !bsB K g f w j s)
theorem nbB_s (K : Kt) (g : Int32) (f w r s : Nat) : nbB K g f w (r + 1) s = (nbB K g f w r s && !bsB K g f w r s) := by
  unfold nbB
  rw [List.range_succ, List.all_append]
  simp
theorem nbB_iff {K : Kt} {g : Int32} {f w r s : Nat} : nbB K g f w r s = true ↔ ∀ j, j < r → bsB K g f w j s = false := by
  unfold nbB
  rw [List.all_eq_true]
  constructor
  · intro h j hj
    have := h j (List.mem_range.mpr hj)
    cases e : bsB K g f w j s with
    | false => rfl
    | true => rw [e] at this; cases this
  · intro h j hj
    rw [h j (List.mem_range.mp hj)]
    rfl
theorem ix_is {K : Kt} (hw : WFK K) (g : Int32) (f w s : Nat) : (∀ r, r < nK K 2 → (ixK K g f w s = r ↔ (nbB K g f w r s = true ∧ bsB K g f w r s = true))) ∧ (ixK K g f w s = 8 ↔ nbB K g f w (nK K 2) s = true) ∧ (∀ r, nK K 2 ≤ r → r < 8 → ¬ ixK K g f w s = r) ∧ ixK K g f w s ≤ 8 := by
  have hn := hw.n2
  unfold ixK ruleK
  rcases fstB_spec (P := fun r => bearK K r g (nI f) (nI w) (nI s)) (nK K 2) 0 with ⟨e1, e2⟩ | ⟨j, h1, h2, h3, h4, h5⟩
  · rw [e1, if_pos rfl]
    refine ⟨fun r hr => ⟨fun z => by omega, fun z => ?_⟩, ⟨fun _ => nbB_iff.mpr (fun j hj => e2 j (Nat.zero_le _) (by omega)), fun _ => rfl⟩, fun r r1 r2 z => by omega, Nat.le_refl _⟩
    have := e2 r (Nat.zero_le _) (by omega)
    have z2 : bearK K r g (nI f) (nI w) (nI s) = true := z.2
    try dsimp only at this
    rw [this] at z2; cases z2
  · rw [h5, if_neg (nI_ne_m1 (by omega)), nI_clamp (by omega)]
    refine ⟨fun r hr => ⟨fun z => ?_, fun z => ?_⟩, ⟨fun z => by omega, fun z => ?_⟩, fun r r1 r2 z => by omega, by omega⟩
    · subst z
      exact ⟨nbB_iff.mpr (fun k hk => h4 k (Nat.zero_le _) hk), h3⟩
    · rcases Nat.lt_trichotomy j r with y | y | y
      · have a1 := nbB_iff.mp z.1 j y
        have a2 : bsB K g f w j s = true := h3
        rw [a1] at a2; cases a2
      · exact y
      · have a1 := h4 r (Nat.zero_le _) y
        have a2 : bearK K r g (nI f) (nI w) (nI s) = true := z.2
        try dsimp only at a1
        rw [a1] at a2; cases a2
    · have a1 := nbB_iff.mp z j (by omega)
      have a2 : bsB K g f w j s = true := h3
      rw [a1] at a2; cases a2
def cWr (K : Kt) (g : Int32) (f w r : Nat) : Nat := smN (2 ^ nK K 0) (fun s => if ixK K g f w s = r then 1 else 0)
def lfW (K : Kt) (g : Int32) (f w i : Nat) : Nat := smN (2 ^ nK K 0) (fun s => if nbB K g f w i s = true then 1 else 0)
theorem lf_s {K : Kt} (hw : WFK K) (g : Int32) (f w : Nat) {i : Nat} (hi : i < nK K 2) : lfW K g f w i = lfW K g f w (i + 1) + cWr K g f w i := by
  refine smN_ad _ (fun s _ => ?_)
  have e := (ix_is hw g f w s).1 i hi
  rw [nbB_s]
  cases h1 : nbB K g f w i s <;> cases h2 : bsB K g f w i s <;> rw [h1, h2] at e <;> simp at e ⊢ <;> simp [e]
theorem lf_0 (K : Kt) (g : Int32) (f w : Nat) : lfW K g f w 0 = 2 ^ nK K 0 := by
  unfold lfW
  refine (smN_cg (g := fun _ => 1) _ (fun s _ => if_pos rfl)).trans ?_
  rw [smN_c, Nat.mul_one]
theorem lf_e {K : Kt} (hw : WFK K) (g : Int32) (f w : Nat) : cWr K g f w 8 = lfW K g f w (nK K 2) := by
  refine smN_cg _ (fun s _ => ?_)
  have e := (ix_is hw g f w s).2.1
  by_cases z : ixK K g f w s = 8
  · rw [if_pos z, if_pos (e.mp z)]
  · rw [if_neg z, if_neg (fun q => z (e.mpr q))]
theorem cW_0 {K : Kt} (hw : WFK K) (g : Int32) (f w : Nat) {r : Nat} (h1 : nK K 2 ≤ r) (h2 : r < 8) : cWr K g f w r = 0 :=
  smN_0 _ (fun s _ => if_neg ((ix_is hw g f w s).2.2.1 r h1 h2))
theorem cW_le (K : Kt) (g : Int32) (f w r : Nat) : cWr K g f w r ≤ 2 ^ nK K 0 := by
  have h := smN_le (g := fun _ => 1) (2 ^ nK K 0) (f := fun s => if ixK K g f w s = r then 1 else 0) (fun s _ => by (try dsimp only); split <;> omega)
  rw [smN_c, Nat.mul_one] at h
  exact h
/-- a rule's smell, and what it is with all smells -/
theorem bs_31 {K : Kt} (hw : WFK K) (g : Int32) (f w : Nat) {i : Nat} (hi : i < nK K 2) : (K 4 i = -1 ∧ ∀ s, bsB K g f w i s = bearK K i g (nI f) (nI w) 31) ∨ ∃ q, q < nK K 0 ∧ K 4 i = nI q ∧ ∀ s, s < 2 ^ 31 → bsB K g f w i s = (bearK K i g (nI f) (nI w) 31 && s.testBit q) := by
  have hn0 := hw.n0
  obtain ⟨-, -, h⟩ := hw.2.2.1 i hi
  unfold bsB bearK bearM
  rcases h with h | ⟨q, h1, h2⟩
  · refine Or.inl ⟨h, fun s => ?_⟩
    rw [h]
    simp
  · refine Or.inr ⟨q, h1, h2, fun s hs => ?_⟩
    have e31 : inS 31 (nI q) = true := (by decide +kernel : ∀ q, q < 5 → inS 31 (nI q) = true) q (by omega)
    rw [h2, e31, inS_nI hs (by omega), decide_eq_false (nI_ne_m1 (by omega))]
    simp [Bool.and_assoc]
/-- the sets that are left are those without the smells asked -/
def fAs (a : Int32) (q : Nat) (b : Bool) : Bool := !(b && bt a q)
theorem lf_half {K : Kt} {g : Int32} {f w i q : Nat} {a : Int32} (hq : q < nK K 0) (hq2 : q < 32) (ha : bt a q = false) (hI : ∀ s, s < 2 ^ nK K 0 → nbB K g f w i s = okA (fAs a) (nK K 0) s) (hs : ∀ s, s < 2 ^ nK K 0 → bsB K g f w i s = s.testBit q) :
    (∃ X, lfW K g f w i = X * 2 ∧ lfW K g f w (i + 1) = X) ∧ ∀ s, s < 2 ^ nK K 0 → nbB K g f w (i + 1) s = okA (fAs (a ||| ((1 : Int32) <<< (nI q &&& 31)))) (nK K 0) s := by
  have hI2 : ∀ s, s < 2 ^ nK K 0 → nbB K g f w (i + 1) s = okA (fAs (a ||| ((1 : Int32) <<< (nI q &&& 31)))) (nK K 0) s := by
    intro s h
    rw [nbB_s, hI s h, hs s h]
    have e : (okA (fAs a) (nK K 0) s && !s.testBit q) = true ↔ okA (fAs (a ||| ((1 : Int32) <<< (nI q &&& 31)))) (nK K 0) s = true := by
      rw [Bool.and_eq_true, okA_iff, okA_iff]
      unfold fAs
      constructor
      · intro ⟨h1, h2⟩ j hj
        rw [b_or, bt_one hq2]
        by_cases z : j = q
        · subst z
          cases e : s.testBit j with
          | false => rfl
          | true => rw [e] at h2; cases h2
        · rw [decide_eq_false z, Bool.or_false]; exact h1 j hj
      · intro h
        refine ⟨fun j hj => ?_, ?_⟩
        · have := h j hj
          rw [b_or] at this
          cases e1 : s.testBit j <;> cases e2 : bt a j <;> rw [e1, e2] at this <;> simp at this ⊢
        · have := h q hq
          rw [b_or, bt_one hq2, decide_eq_true rfl, Bool.or_true, Bool.and_true] at this
          exact this
    cases h1 : (okA (fAs a) (nK K 0) s && !s.testBit q) with
    | true => exact (e.mp h1).symm
    | false =>
      cases h2 : okA (fAs (a ||| ((1 : Int32) <<< (nI q &&& 31)))) (nK K 0) s with
      | false => rfl
      | true => rw [e.mpr h2] at h1; cases h1
  refine ⟨?_, hI2⟩
  have l1 : lfW K g f w i = cnA (fAs a) (nK K 0) := smN_cg _ (fun s hs2 => by rw [hI s hs2])
  have l2 : lfW K g f w (i + 1) = cnA (fAs (a ||| ((1 : Int32) <<< (nI q &&& 31)))) (nK K 0) := smN_cg _ (fun s hs2 => by rw [hI2 s hs2])
  obtain ⟨X, x1, x2⟩ := prN_in (wy (fAs a)) hq
  refine ⟨X, ?_, ?_⟩
  · rw [l1, cnA_is, x1]
    unfold wy fAs
    rw [ha]
    rfl
  · rw [l2, cnA_is, show X = X * 1 from (Nat.mul_one X).symm, ← x2]
    refine prN_cg _ (fun j _ => ?_)
    unfold wy fAs
    rw [b_or, bt_one hq2]
    by_cases z : j = q
    · rw [if_pos z, decide_eq_true z, Bool.or_true]; rfl
    · rw [if_neg z, decide_eq_false z, Bool.or_false]
/-- the class's rows of counts -/
def WsC (C0 C : Mem) (F G : Nat → Nat) (U : Nat) : Prop := ((∀ n k, ¬ (18 ≤ n ∧ n ≤ 20) → gI C n k = gI C0 n k) ∧ (∀ n k, gL C n k = gL C0 n k) ∧ ∀ n k, gR C n k = gR C0 n k) ∧ (∀ r, r < 8 → gI C 19 r = nI (F r) ∧ gI C 20 r = nI (G r)) ∧ gI C 18 2 = nI U
theorem WsC.isC {C0 C : Mem} {F G : Nat → Nat} {U c : Nat} {K : Kt} (h : WsC C0 C F G U) (hC : IsC C0 c K) (hc : shC c = 0) (hw : WFK K) : IsC C c K := hC.cg (fun n k a _ => h.1.1 n k (by have := isC_lo hc; omega)) hw
theorem WsC.fn {C0 C : Mem} {F G F' G' : Nat → Nat} {U U' : Nat} (h : WsC C0 C F G U) (e : ∀ r, r < 8 → F' r = F r ∧ G' r = G r) (hU : U' = U) : WsC C0 C F' G' U' :=
  ⟨h.1, fun r hr => by rw [(e r hr).1, (e r hr).2]; exact h.2.1 r hr, by rw [hU]; exact h.2.2⟩
theorem lf_skip {K : Kt} (hw : WFK K) {g : Int32} {f w i : Nat} (hi : i < nK K 2) (h : ∀ s, s < 2 ^ nK K 0 → nbB K g f w i s = true → bsB K g f w i s = false) : lfW K g f w (i + 1) = lfW K g f w i ∧ cWr K g f w i = 0 ∧ ∀ s, s < 2 ^ nK K 0 → nbB K g f w (i + 1) s = nbB K g f w i s := by
  have e : ∀ s, s < 2 ^ nK K 0 → nbB K g f w (i + 1) s = nbB K g f w i s := by
    intro s hs
    rw [nbB_s]
    cases e : nbB K g f w i s with
    | false => rfl
    | true => rw [h s hs e]; rfl
  have e1 : lfW K g f w (i + 1) = lfW K g f w i := smN_cg _ (fun s hs => by rw [e s hs])
  have e2 := lf_s hw g f w hi
  exact ⟨e1, by omega, e⟩
theorem lf_dead {K : Kt} (hw : WFK K) {g : Int32} {f w : Nat} : ∀ d i, i + d = nK K 2 → lfW K g f w i = 0 → lfW K g f w (nK K 2) = 0 ∧ ∀ r, i ≤ r → r < nK K 2 → cWr K g f w r = 0 := by
  intro d
  induction d with
  | zero =>
    intro i h1 h2
    have e : i = nK K 2 := by omega
    subst e
    exact ⟨h2, fun r r1 r2 => by omega⟩
  | succ d ih =>
    intro i h1 h2
    have e := lf_s hw g f w (i := i) (by omega)
    obtain ⟨a, b⟩ := ih (i + 1) (by omega) (by omega)
    refine ⟨a, fun r r1 r2 => ?_⟩
    by_cases z : r = i
    · rw [z]; omega
    · exact b r (by omega) r2
/-- a rule takes its part -/
theorem cs_J {C0 C : Mem} {c i t l : Nat} {g : Int32} (hg : g = 1 ∨ g = 2) {f w : Nat} (F G : Nat → Nat) {K : Kt} {U : Nat} (hi : i < 8) (ht : t = cWr K g f w i) (hl : t ≤ l) (rec : Int32 → Int32 → Int32 → Mem → Rs Int32) (x y fd wm : Int32)
    (h : WsC C0 C (fun r => F r + if r < i then cWr K g f w r else 0) (fun r => G r + if r < i ∧ g = 1 then cWr K g f w r else 0) U) :
    ∃ C', f_X10_countSmells_J128 rec c g fd wm (nI l) (nI i) (nI t) x y C = rec (nI (l - t)) (x ||| y) (nI (i + 1)) C' ∧ WsC C0 C' (fun r => F r + if r < i + 1 then cWr K g f w r else 0) (fun r => G r + if r < i + 1 ∧ g = 1 then cWr K g f w r else 0) U := by
  obtain ⟨⟨h1, h2, h3⟩, h4, h5⟩ := h
  have a1 := (h4 i hi).1
  have a2 := (h4 i hi).2
  have nii : ¬ i < i := by omega
  have nii2 : ¬ (i < i ∧ g = 1) := fun z => by omega
  simp only [if_neg nii, if_neg nii2, Nat.add_zero] at a1 a2
  have b2 : gI (sI C 19 i (nI (F i + t))) 20 i = nI (G i) := by rw [gI_I, if_neg (by omega)]; exact a2
  have res : ∀ v, v = (if g = 1 then t else 0) → WsC C0 (sI (sI C 19 i (nI (F i + t))) 20 i (nI (G i + v))) (fun r => F r + if r < i + 1 then cWr K g f w r else 0) (fun r => G r + if r < i + 1 ∧ g = 1 then cWr K g f w r else 0) U := by
    intro v hv
    refine ⟨⟨fun n k z => by rw [gI_I, if_neg (by omega), gI_I, if_neg (by omega)]; exact h1 n k z, fun n k => h2 n k, fun n k => h3 n k⟩, fun r hr => ?_, by rw [gI_I, if_neg (by omega), gI_I, if_neg (by omega)]; exact h5⟩
    by_cases z : r = i
    · subst z
      rw [gI_I, if_neg (by omega), gI_same, gI_same]
      dsimp only
      rw [if_pos (show r < r + 1 by omega), ← ht, hv]
      refine ⟨rfl, ?_⟩
      rcases hg with e | e
      · rw [if_pos e, if_pos ⟨by omega, e⟩]
      · rw [if_neg (by rw [e]; decide), if_neg (fun q => by rw [e] at q; exact absurd q.2 (by decide))]
    · have q := h4 r hr
      rw [gI_I, if_neg (by omega), gI_I, if_neg (by omega), gI_I, if_neg (by omega), gI_I, if_neg (by omega)]
      by_cases y : r < i
      · simp only [if_pos y, if_pos (show r < i + 1 by omega)] at q ⊢
        refine ⟨q.1, ?_⟩
        rcases hg with e | e
        · rw [if_pos ⟨by omega, e⟩]; rw [if_pos ⟨y, e⟩] at q; exact q.2
        · rw [if_neg (fun q => by rw [e] at q; exact absurd q.2 (by decide))]; rw [if_neg (fun q => by rw [e] at q; exact absurd q.2 (by decide))] at q; exact q.2
      · have n1 : ¬ r < i + 1 := by omega
        have n2 : ¬ (r < i + 1 ∧ g = 1) := fun z => by omega
        have n3 : ¬ (r < i ∧ g = 1) := fun z => by omega
        simp only [if_neg y, if_neg n1, if_neg n2, if_neg n3] at q ⊢
        exact q
  rw [f_X10_countSmells_J128, letF, letF, p_cell zC_19 hi (by decide), bnd_some, a1, nI_add, p_put zC_19 hi (by decide), bnd_some, p_cell zC_20 hi (by decide), bnd_some, b2, pk_sub hl]
  rcases hg with e | e
  · rw [if_pos e, nI_add, p_put zC_20 hi (by decide), bnd_some, letF, nI_s]
    exact ⟨_, rfl, res t (by rw [if_pos e])⟩
  · rw [if_neg (by rw [e]; decide), show nI (G i) + 0 = nI (G i + 0) from nI_add _ 0, p_put zC_20 hi (by decide), bnd_some, letF, nI_s]
    exact ⟨_, rfl, res 0 (by rw [if_neg (by rw [e]; decide)])⟩
theorem cs_L {C0 : Mem} {c : Nat} {K : Kt} (hc : shC c = 0) (hC : IsC C0 c K) (hw : WFK K) {g : Int32} (hg : g = 1 ∨ g = 2) (f w : Nat) (F G : Nat → Nat) (U : Nat) :
    ∀ d i fu a C, i + d = nK K 2 → d < fu → (lfW K g f w i = 0 ∨ ∀ s, s < 2 ^ nK K 0 → nbB K g f w i s = okA (fAs a) (nK K 0) s) → WsC C0 C (fun r => F r + if r < i then cWr K g f w r else 0) (fun r => G r + if r < i ∧ g = 1 then cWr K g f w r else 0) U →
      ∃ C', f_X10_countSmells_L15 c g (nI f) (nI w) fu (nI (lfW K g f w i)) a (nI i) C = some (nI (lfW K g f w (nK K 2)), C') ∧ WsC C0 C' (fun r => F r + if r < nK K 2 then cWr K g f w r else 0) (fun r => G r + if r < nK K 2 ∧ g = 1 then cWr K g f w r else 0) U := by
  have hn0 := hw.n0
  have hn2 := hw.n2
  have h5 : 2 ^ nK K 0 ≤ 32 := Nat.le_trans (Nat.pow_le_pow_right (by decide) hn0.2) (by decide)
  intro d
  induction d with
  | zero =>
    intro i fu a C h1 h2 h3 h4
    obtain ⟨fu, rfl⟩ : ∃ k, fu = k + 1 := ⟨fu - 1, by omega⟩
    have e : i = nK K 2 := by omega
    subst e
    exact ⟨C, by rw [f_X10_countSmells_L15, p_count2, bnd_some, (h4.isC hC hc hw).1 2 (by decide), hn2.1, if_pos (Int32.le_refl _)], h4⟩
  | succ d ih =>
    intro i fu a C h1 h2 h3 h4
    obtain ⟨fu, rfl⟩ : ∃ k, fu = k + 1 := ⟨fu - 1, by omega⟩
    have hi : i < nK K 2 := by omega
    have hC' := h4.isC hC hc hw
    have hl := lf_s hw g f w hi
    have hle : lfW K g f w i ≤ 2 ^ nK K 0 := by
      have h := smN_le (g := fun _ => 1) (2 ^ nK K 0) (f := fun s => if nbB K g f w i s = true then 1 else 0) (fun s _ => by (try dsimp only); split <;> omega)
      rw [smN_c, Nat.mul_one] at h
      exact h
    rw [f_X10_countSmells_L15, p_count2, bnd_some, hC'.1 2 (by decide), hn2.1, if_neg (nI_ge hi (by omega))]
    by_cases z : lfW K g f w i = 0
    · obtain ⟨a1, a2⟩ := lf_dead hw (d + 1) i (by omega) z
      rw [z, if_pos (show nI 0 ≤ (0 : Int32) from Int32.le_refl _), a1]
      refine ⟨C, rfl, h4.fn (fun r hr => ?_) rfl⟩
      by_cases y : r < i
      · rw [if_pos (show r < nK K 2 by omega), if_pos y]
        refine ⟨rfl, ?_⟩
        by_cases y2 : g = 1
        · rw [if_pos ⟨by omega, y2⟩, if_pos ⟨y, y2⟩]
        · rw [if_neg (fun q => y2 q.2), if_neg (fun q => y2 q.2)]
      · rw [if_neg y, if_neg (show ¬ (r < i ∧ g = 1) from fun q => y q.1)]
        by_cases y3 : r < nK K 2
        · rw [if_pos y3, a2 r (by omega) y3]
          refine ⟨rfl, ?_⟩
          split <;> rfl
        · rw [if_neg y3, if_neg (show ¬ (r < nK K 2 ∧ g = 1) from fun q => y3 q.1)]
          exact ⟨rfl, rfl⟩
    have hI := h3.resolve_left z
    rw [if_neg (nI_nle (by omega) (by omega)), p_ruleAt (by omega), bnd_some, if_neg (nn (shC_rule hc (by omega))), hC'.2.2.1 i hi 2 (by decide)]
    have skip : (∀ s, s < 2 ^ nK K 0 → nbB K g f w i s = true → bsB K g f w i s = false) → ∃ C', f_X10_countSmells_L15 c g (nI f) (nI w) fu (nI (lfW K g f w i)) a (nI (i + 1)) C = some (nI (lfW K g f w (nK K 2)), C') ∧ WsC C0 C' (fun r => F r + if r < nK K 2 then cWr K g f w r else 0) (fun r => G r + if r < nK K 2 ∧ g = 1 then cWr K g f w r else 0) U := by
      intro hb
      obtain ⟨k1, k2, k3⟩ := lf_skip hw hi hb
      rw [← k1]
      refine ih (i + 1) fu a C (by omega) (by omega) (Or.inr (fun s hs => by rw [k3 s hs]; exact hI s hs)) (h4.fn (fun r hr => ?_) rfl)
      by_cases y : r = i
      · rw [y, k2, if_neg (show ¬ i < i by omega), if_neg (show ¬ (i < i ∧ g = 1) from fun q => by omega)]
        refine ⟨by split <;> rfl, by split <;> rfl⟩
      · by_cases y2 : r < i
        · rw [if_pos (show r < i + 1 by omega), if_pos y2]
          refine ⟨rfl, ?_⟩
          by_cases y3 : g = 1
          · rw [if_pos ⟨by omega, y3⟩, if_pos ⟨y2, y3⟩]
          · rw [if_neg (fun q => y3 q.2), if_neg (fun q => y3 q.2)]
        · rw [if_neg (show ¬ r < i + 1 by omega), if_neg y2, if_neg (show ¬ (r < i + 1 ∧ g = 1) from fun q => by omega), if_neg (show ¬ (r < i ∧ g = 1) from fun q => by omega)]
          exact ⟨rfl, rfl⟩
    rcases bs_31 hw g f w hi with ⟨e1, e2⟩ | ⟨q, q1, e1, e2⟩
    · rw [show K (2 + 2) i = K 4 i from rfl, e1, if_pos rfl, f_X10_countSmells_J60, f_X10_countSmells_J65, if_neg i10, hC'.bear hi, bnd_some]
      cases hb : bearK K i g (nI f) (nI w) 31 with
      | false =>
        rw [bI_f, if_pos i00, letF, nI_s]
        exact skip (fun s _ _ => by rw [e2 s]; exact hb)
      | true =>
        have ct : cWr K g f w i = lfW K g f w i := by
          refine smN_cg _ (fun s _ => ?_)
          have e := (ix_is hw g f w s).1 i hi
          rw [e2 s, hb] at e
          by_cases y : ixK K g f w s = i
          · rw [if_pos y, if_pos (e.mp y).1]
          · rw [if_neg y, if_neg (fun k => y (e.mpr ⟨k, rfl⟩))]
        obtain ⟨C1, j1, j2⟩ := cs_J (c := c) (l := lfW K g f w i) hg F G (show i < 8 by omega) ct.symm (Nat.le_refl _) (f_X10_countSmells_L15 c g (nI f) (nI w) fu) a 0 (nI f) (nI w) h4
        have l0 : lfW K g f w (i + 1) = 0 := by omega
        have ih2 := ih (i + 1) fu (a ||| 0) C1 (by omega) (by omega) (Or.inl l0) j2
        rw [bI_t, if_neg i10, hC'.2.2.1 i hi 2 (by decide), show K (2 + 2) i = K 4 i from rfl, e1, if_pos rfl, f_X10_countSmells_J104, hC'.2.2.1 i hi 2 (by decide), show K (2 + 2) i = K 4 i from rfl, e1, if_pos rfl, j1, Nat.sub_self]
        rw [l0] at ih2
        exact ih2
    · rw [show K (2 + 2) i = K 4 i from rfl, e1, if_neg (nI_ne_m1 (by omega)), p_isIn, bnd_some, inS_bt _ (by omega)]
      cases ha : bt a q with
      | true =>
        rw [bI_t, if_neg i10, f_X10_countSmells_J65, if_pos i00, letF, nI_s]
        refine skip (fun s hs hn => ?_)
        rw [hI s hs] at hn
        have := okA_iff.mp hn q q1
        unfold fAs at this
        rw [ha, Bool.and_true] at this
        rw [e2 s (by omega)]
        cases hq : s.testBit q with
        | false => rw [Bool.and_false]
        | true => rw [hq] at this; cases this
      | false =>
        rw [bI_f, if_pos i00, f_X10_countSmells_J60, f_X10_countSmells_J65, if_neg i10, hC'.bear hi, bnd_some]
        cases hb : bearK K i g (nI f) (nI w) 31 with
        | false =>
          rw [bI_f, if_pos i00, letF, nI_s]
          exact skip (fun s hs _ => by rw [e2 s (by omega), hb, Bool.false_and])
        | true =>
          obtain ⟨⟨X, x1, x2⟩, x3⟩ := lf_half (K := K) (g := g) (f := f) (w := w) (i := i) q1 (by omega) ha hI (fun s hs => by rw [e2 s (by omega), hb, Bool.true_and])
          have ct : X = cWr K g f w i := by omega
          obtain ⟨C1, j1, j2⟩ := cs_J (c := c) (l := lfW K g f w i) hg F G (show i < 8 by omega) ct (by omega) (f_X10_countSmells_L15 c g (nI f) (nI w) fu) a ((1 : Int32) <<< (nI q &&& 31)) (nI f) (nI w) h4
          have hh : nI (lfW K g f w i) / 2 = nI X := by
            rw [x1]
            refine (pk_div (d := 2) (by omega) (by decide) (by decide)).trans ?_
            congr 1; omega
          have ih2 := ih (i + 1) fu (a ||| ((1 : Int32) <<< (nI q &&& 31))) C1 (by omega) (by omega) (Or.inr x3) j2
          rw [bI_t, if_neg i10, hC'.2.2.1 i hi 2 (by decide), show K (2 + 2) i = K 4 i from rfl, e1, if_neg (nI_ne_m1 (by omega)), hh, f_X10_countSmells_J104, hC'.2.2.1 i hi 2 (by decide), show K (2 + 2) i = K 4 i from rfl, e1, if_neg (nI_ne_m1 (by omega)), j1, show lfW K g f w i - X = lfW K g f w (i + 1) by omega]
          exact ih2
