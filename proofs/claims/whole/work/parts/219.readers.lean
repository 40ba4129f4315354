/-! READERS: verdict, sworn, power -/
theorem l_mul (a b : Nat) : lN a * lN b = lN (a * b) := (Int64.ofNat_mul a b).symm
theorem l_add (a b : Nat) : lN a + lN b = lN (a + b) := (Int64.ofNat_add a b).symm
theorem bt_nI {s : Nat} (hs : s < 2 ^ 31) (i : Nat) : bt (nI s) i = s.testBit i := by
  unfold bt BitVec.getLsbD
  rw [pk_tn (by omega)]
theorem inS_nI {s i : Nat} (hs : s < 2 ^ 31) (hi : i < 32) : inS (nI s) (nI i) = s.testBit i := by rw [inS_bt _ hi, bt_nI hs]
theorem shl_is : ∀ n, n ≤ 10 → (1 : Int32) <<< (nI n &&& 31) = nI (2 ^ n) := by decide +kernel
theorem pow_le6 {n : Nat} (h : n ≤ 6) : 2 ^ n ≤ 64 := Nat.le_trans (Nat.pow_le_pow_right (by decide) h) (by decide)
theorem set_is {n : Nat} (h : n ≤ 10) : ((1 : Int32) <<< (nI n &&& 31)) - 1 = nI (2 ^ n - 1) := by
  have : 0 < 2 ^ n := Nat.pow_pos (by decide)
  rw [shl_is n h]
  exact pk_sub (b := 1) (by omega)
theorem foldN_add {α : Type} (f : Nat → α → α) : ∀ (d e i : Nat) (a : α), foldN f (d + e) i a = foldN f e (i + d) (foldN f d i a) := by
  intro d
  induction d with
  | zero => intro e i a; rw [Nat.zero_add]; rfl
  | succ d ih =>
    intro e i a
    rw [show d + 1 + e = (d + e) + 1 by omega, foldN, foldN, ih, show i + 1 + d = i + (d + 1) by omega]
theorem foldN_id {α : Type} {f : Nat → α → α} : ∀ (d i : Nat) (a : α), (∀ j x, i ≤ j → j < i + d → f j x = x) → foldN f d i a = a := by
  intro d
  induction d with
  | zero => intro i a h; rfl
  | succ d ih =>
    intro i a h
    rw [foldN, h i a (Nat.le_refl _) (by omega)]
    exact ih (i + 1) a (fun j x h1 h2 => h j x (by omega) (by omega))
theorem fold_nI {f : Nat → Int32 → Int32} {g : Nat → Nat → Nat} : ∀ (d i a : Nat), (∀ j x, i ≤ j → j < i + d → f j (nI x) = nI (g j x)) → foldN f d i (nI a) = nI (foldN g d i a) := by
  intro d
  induction d with
  | zero => intro i a h; rfl
  | succ d ih =>
    intro i a h
    rw [foldN, foldN, h i a (Nat.le_refl _) (by omega)]
    exact ih (i + 1) _ (fun j x h1 h2 => h j x (by omega) (by omega))
theorem fold_le {g : Nat → Nat → Nat} (c : Nat) : ∀ (d i a : Nat), (∀ j x, i ≤ j → j < i + d → g j x ≤ x + c) → foldN g d i a ≤ a + c * d := by
  intro d
  induction d with
  | zero => intro i a h; exact Nat.le_refl _
  | succ d ih =>
    intro i a h
    rw [foldN, Nat.mul_succ]
    have h1 := ih (i + 1) (g i a) (fun j x h1 h2 => h j x (by omega) (by omega))
    have h2 := h i a (Nat.le_refl _) (by omega)
    omega
theorem fold_mle {g : Nat → Nat → Nat} (c : Nat) : ∀ (d i a : Nat), (∀ j x, i ≤ j → j < i + d → g j x ≤ x * c) → foldN g d i a ≤ a * c ^ d := by
  intro d
  induction d with
  | zero => intro i a h; simp [foldN]
  | succ d ih =>
    intro i a h
    rw [foldN, Nat.pow_succ]
    have h1 := ih (i + 1) (g i a) (fun j x h1 h2 => h j x (by omega) (by omega))
    have h2 := h i a (Nat.le_refl _) (by omega)
    refine Nat.le_trans h1 (Nat.le_trans (Nat.mul_le_mul_right _ h2) ?_)
    rw [Nat.mul_assoc, Nat.mul_comm c]
    exact Nat.le_refl _
theorem foldN_pair {α β : Type} (f : Nat → α → α) (g : Nat → β → β) : ∀ (d i : Nat) (a : α) (b : β), foldN (fun i p => (f i p.1, g i p.2)) d i (a, b) = (foldN f d i a, foldN g d i b) := by
  intro d
  induction d with
  | zero => intro i a b; rfl
  | succ d ih => intro i a b; rw [foldN, foldN, foldN]; exact ih (i + 1) _ _
def vN (K : Kt) (i : Nat) : Nat := (K 17 i).toNatClampNeg
def sN (K : Kt) (i : Nat) : Nat := (K 16 i).toNatClampNeg
theorem vN_is {K : Kt} (hw : WFK K) {i : Nat} (hi : i < nK K 4) : K 17 i = nI (vN K i) ∧ 1 ≤ vN K i ∧ vN K i ≤ 9 := by
  obtain ⟨-, n, h1, h2, h3⟩ := hw.2.2.2.2.1 i hi
  have e : vN K i = n := by unfold vN; rw [h3, nI_clamp (by omega)]
  rw [e]; exact ⟨h3, h1, h2⟩
theorem sN_is {K : Kt} (hw : WFK K) {i : Nat} (hi : i < nK K 4) : K 16 i = nI (sN K i) ∧ sN K i ≤ 16 := by
  obtain ⟨⟨n, h1, h3⟩, -⟩ := hw.2.2.2.2.1 i hi
  have e : sN K i = n := by unfold sN; rw [h3, nI_clamp (by omega)]
  rw [e]; exact ⟨h3, h1⟩
def vS (K : Kt) (s : Nat) : Nat := foldN (fun i a => a + if s.testBit i = true then vN K i else 0) (nK K 4) 0 0
theorem vS_le {K : Kt} (hw : WFK K) (s : Nat) : vS K s ≤ 54 := by
  have hn := hw.n4
  have h := fold_le (g := fun i a => a + if s.testBit i = true then vN K i else 0) 9 (nK K 4) 0 0 (fun j x h1 h2 => by
    have := (vN_is hw (i := j) (by omega)).2.2
    try dsimp only
    split <;> omega)
  unfold vS
  omega
theorem votS_nI {K : Kt} (hw : WFK K) {s : Nat} (hs : s < 2 ^ 31) : votS K (nI s) = nI (vS K s) := by
  have hn := hw.n4
  unfold votS vS
  refine fold_nI (nK K 4) 0 0 (fun j x h1 h2 => ?_)
  rw [inS_nI hs (by omega), (vN_is hw (by omega)).1]
  cases s.testBit j with
  | true => rw [if_pos rfl, if_pos rfl, nI_add]
  | false => rw [if_neg (by decide), if_neg (by decide)]; exact nI_add x 0
def wtN (K : Kt) (s r : Nat) : Nat := foldN (fun i a => if s.testBit i = true then a * (if r.testBit i = true then 16 - sN K i else sN K i) else a) (nK K 4) 0 1
theorem wtN_le {K : Kt} (hw : WFK K) (s r : Nat) : wtN K s r ≤ 16 ^ 6 := by
  have hn := hw.n4
  have h := fold_mle (g := fun i a => if s.testBit i = true then a * (if r.testBit i = true then 16 - sN K i else sN K i) else a) 16 (nK K 4) 0 1 (fun j x h1 h2 => by
    have := (sN_is hw (i := j) (by omega)).2
    try dsimp only
    split
    · exact Nat.mul_le_mul_left x (by split <;> omega)
    · omega)
  refine Nat.le_trans h ?_
  rw [Nat.one_mul]
  exact Nat.pow_le_pow_right (by decide) hn.2
theorem p_weightOf {C : Mem} {c : Nat} {K : Kt} (hc : shC c = 0) (h : IsC C c K) (hw : WFK K) {s r : Nat} (hs : s < 2 ^ 31) (hr : r < 2 ^ 31) : f_X0_weightOf c (nI s) (nI r) C = some (lN (wtN K s r), C) := by
  have hn := hw.n4
  have key := loopN (fun fu a i => f_X0_weightOf_L5 c (nI s) (nI r) fu (lN a) (nI i) C) (nK K 4) (fun i a => if s.testBit i = true then a * (if r.testBit i = true then 16 - sN K i else sN K i) else a) (fun a => some (lN a, C))
    (fun fu a => by
      try dsimp only
      rw [f_X0_weightOf_L5, p_count4, bnd_some, h.1 4 (by decide), hn.1, if_pos (Int32.le_refl _)])
    (fun fu a i hi => by
      obtain ⟨q1, q2⟩ := sN_is hw hi
      try dsimp only
      rw [f_X0_weightOf_L5, p_count4, bnd_some, h.1 4 (by decide), hn.1, if_neg (nI_ge hi (by omega)), p_isIn, bnd_some, inS_nI hs (by omega)]
      cases e : s.testBit i with
      | false => rw [bI_f, if_pos i00, letF, nI_1, if_neg (by decide)]
      | true =>
        rw [bI_t, if_neg i10, p_cell (kC_0_5 hc).2 (by omega) (by decide), bnd_some, (h.2.2.2.2.1 i hi).1, q1, p_isIn, bnd_some, inS_nI hr (by omega), if_pos rfl]
        cases e2 : r.testBit i with
        | false => rw [bI_f, if_pos i00, letF, letF, nI_1, nI_l (by omega), l_mul, if_neg (by decide)]
        | true => rw [bI_t, if_neg i10, letF, letF, nI_1, show (16 : Int32) - nI (sN K i) = nI (16 - sN K i) from pk_sub (a := 16) q2, nI_l (by omega), l_mul, if_pos rfl])
    (nK K 4) 0 1 fz (by omega) (by rw [fz_is]; omega)
  have key' : f_X0_weightOf_L5 c (nI s) (nI r) fz 1 0 C = some (lN (wtN K s r), C) := key
  rw [f_X0_weightOf, key', bnd_some]
def subB (r s : Nat) : Bool := (List.range 6).all (fun i => !r.testBit i || s.testBit i)
theorem sub_all : ∀ r, r < 64 → ∀ s, s < 64 → decide ((nI r &&& (nI s ^^^ (-1 : Int32))) = 0) = subB r s ∧ (subB r s = true → r ≤ s) := by decide +kernel
theorem sub_t {r s : Nat} (hr : r < 64) (hs : s < 64) (h : subB r s = true) : (nI r &&& (nI s ^^^ (-1 : Int32))) = 0 := of_decide_eq_true ((sub_all r hr s hs).1.trans h)
theorem sub_f {r s : Nat} (hr : r < 64) (hs : s < 64) (h : subB r s = false) : ¬ (nI r &&& (nI s ^^^ (-1 : Int32))) = 0 := of_decide_eq_false ((sub_all r hr s hs).1.trans h)
theorem sub_bit {r s i : Nat} (h : subB r s = true) (hi : i < 6) (hr : r.testBit i = true) : s.testBit i = true := by
  have := List.all_eq_true.mp h i (List.mem_range.mpr hi)
  simp [hr] at this
  exact this
def tmN (K : Kt) (s r : Nat) : Nat := if subB r s = true then (if 2 * vS K r ≤ vS K s then 0 else wtN K s r) else 0
def RN (K : Kt) (s : Nat) : Nat := foldN (fun r a => a + tmN K s r) (2 ^ nK K 4) 0 0
theorem vS_0 (K : Kt) : vS K 0 = 0 := by
  unfold vS
  refine foldN_id _ 0 0 (fun j x _ _ => ?_)
  rw [Nat.zero_testBit, if_neg (by decide), Nat.add_zero]
theorem RN_le {K : Kt} (hw : WFK K) (s : Nat) : RN K s ≤ 2 ^ 30 := by
  have h := fold_le (g := fun r a => a + tmN K s r) (16 ^ 6) (2 ^ nK K 4) 0 0 (fun j x _ _ => by
    have := wtN_le hw s j
    try dsimp only
    unfold tmN
    split
    · split <;> omega
    · omega)
  have h2 := pow_le6 hw.n4.2
  unfold RN
  refine Nat.le_trans h ?_
  rw [Nat.zero_add]
  exact Nat.le_trans (Nat.mul_le_mul_left _ h2) (by decide)
theorem RN_cut {K : Kt} (hw : WFK K) {s : Nat} (hs : s < 2 ^ nK K 4) : foldN (fun r a => a + tmN K s r) s 1 0 = RN K s := by
  have h6 := pow_le6 hw.n4.2
  unfold RN
  rw [show 2 ^ nK K 4 = 1 + (s + (2 ^ nK K 4 - 1 - s)) by omega, foldN_add, foldN_add]
  have e0 : foldN (fun r a => a + tmN K s r) 1 0 0 = 0 := by
    show 0 + tmN K s 0 = 0
    unfold tmN
    rw [vS_0, if_pos (Nat.zero_le _)]
    split <;> rfl
  rw [e0, foldN_id (2 ^ nK K 4 - 1 - s) (0 + 1 + s)]
  intro j x h1 h2
  have : subB j s = false := by
    cases hb : subB j s with
    | false => rfl
    | true => have := (sub_all j (by omega) s (by omega)).2 hb; omega
  try dsimp only
  unfold tmN
  rw [this, if_neg (by decide), Nat.add_zero]
theorem p_rightWeight {C : Mem} {c : Nat} {K : Kt} (hc : shC c = 0) (h : IsC C c K) (hw : WFK K) {s : Nat} (hs : s < 2 ^ nK K 4) : f_X0_rightWeight c (nI s) C = some (lN (RN K s), C) := by
  have hn := hw.n4
  have h6 := pow_le6 hn.2
  have key := loopN (fun fu a i => f_X0_rightWeight_L5 c (nI s) fu (lN a) (nI i) C) (s + 1) (fun r a => a + tmN K s r) (fun a => some (lN a, C))
    (fun fu a => by
      try dsimp only
      rw [f_X0_rightWeight_L5, if_pos (nI_lt (by omega) (by omega))])
    (fun fu a i hi => by
      have v1 := vS_le hw s
      have v2 := vS_le hw i
      try dsimp only
      rw [f_X0_rightWeight_L5, if_neg (nI_nlt (by omega) (by omega)), tmN]
      cases e : subB i s with
      | false => rw [if_neg (sub_f (by omega) (by omega) e), f_X0_rightWeight_J25, if_pos i00, letF, nI_1, if_neg (by decide), Nat.add_zero a]
      | true =>
        rw [if_pos (sub_t (by omega) (by omega) e), f_X0_rightWeight_J25, if_neg i10, p_votesOf hc h hw, bnd_some, p_votesOf hc h hw, bnd_some, votS_nI hw (by omega), votS_nI hw (by omega), show (2 : Int32) * nI (vS K i) = nI (2 * vS K i) from pk_mul 2 _, if_pos rfl]
        by_cases z : 2 * vS K i ≤ vS K s
        · rw [if_pos (nI_le z (by omega)), letF, nI_1, if_pos z, Nat.add_zero a]
        · rw [if_neg (nI_ge (by omega) (by omega)), p_weightOf hc h hw (by omega) (by omega), bnd_some, letF, letF, nI_1, l_add, if_neg z])
    s 1 0 fz (by omega) (by rw [fz_is]; omega)
  have key' : f_X0_rightWeight_L5 c (nI s) fz 0 1 C = some (lN (foldN (fun r a => a + tmN K s r) s 1 0), C) := key
  rw [f_X0_rightWeight, key', bnd_some, RN_cut hw hs]
/-- the reference's -/
def mStep (K : Kt) (s r i : Nat) (m : Int) : Int := if s.testBit i = true then m + (if r.testBit i = true then (vN K i : Int) else -(vN K i : Int)) else m
def mN (K : Kt) (s r : Nat) : Int := foldN (mStep K s r) (nK K 4) 0 0
theorem mN_is {K : Kt} (hw : WFK K) {s r : Nat} (h : subB r s = true) : mN K s r + vS K s = 2 * vS K r := by
  have hn := hw.n4
  have key : ∀ d i (m : Int) (x y : Nat), i + d ≤ 6 → m + y = 2 * x → foldN (mStep K s r) d i m + (foldN (fun i a => a + if s.testBit i = true then vN K i else 0) d i y : Nat) = 2 * (foldN (fun i a => a + if r.testBit i = true then vN K i else 0) d i x : Nat) := by
    intro d
    induction d with
    | zero => intro i m x y _ e; exact e
    | succ d ih =>
      intro i m x y hi e
      rw [foldN, foldN, foldN]
      refine ih (i + 1) _ _ _ (by omega) ?_
      unfold mStep
      cases e1 : r.testBit i with
      | true =>
        rw [sub_bit h (by omega) e1, if_pos rfl, if_pos rfl]
        simp
        omega
      | false =>
        cases e2 : s.testBit i with
        | true => simp; omega
        | false => simp; omega
  exact key (nK K 4) 0 0 0 0 (by omega) rfl
theorem r_right1 {R : Mem} {K : Kt} (hR : IsR R 0 K) (hw : WFK K) {s r : Nat} (hs : s < 64) (hr : r < 64) (b2 : Int64) : f_X12_rightOf_L39 (nI s) b2 (nI r) fz 1 0 0 R = some ((lN (wtN K s r), Int32.ofInt (mN K s r)), R) := by
  have hn := hw.n4
  have key := loopN (fun fu (p : Nat × Int) i => f_X12_rightOf_L39 (nI s) b2 (nI r) fu (lN p.1) (Int32.ofInt p.2) (nI i) R) (nK K 4) (fun i p => ((fun i a => if s.testBit i = true then a * (if r.testBit i = true then 16 - sN K i else sN K i) else a) i p.1, mStep K s r i p.2)) (fun p => some ((lN p.1, Int32.ofInt p.2), R))
    (fun fu a => by
      try dsimp only
      rw [f_X12_rightOf_L39, hR.cnt (by decide), hn.1, if_pos (Int32.le_refl _)])
    (fun fu a i hi => by
      obtain ⟨q1, q2⟩ := sN_is hw hi
      obtain ⟨q3, q4, q5⟩ := vN_is hw hi
      have ng : -nI (vN K i) = Int32.ofInt (-(vN K i : Int)) := by rw [Int32.ofInt_neg, Int32.ofInt_eq_ofNat]; rfl
      have ps : nI (vN K i) = Int32.ofInt (vN K i : Int) := by rw [Int32.ofInt_eq_ofNat]; rfl
      try dsimp only
      unfold mStep
      rw [f_X12_rightOf_L39, hR.cnt (by decide), hn.1, if_neg (nI_ge hi (by omega)), r_isIn, bnd_some, inS_nI (by omega) (by omega)]
      cases e : s.testBit i with
      | false => rw [bI_f, if_pos i00, letF, nI_1, if_neg (by decide), if_neg (by decide)]
      | true =>
        rw [bI_t, if_neg i10, r_isIn, bnd_some, inS_nI (by omega) (by omega), if_pos rfl, if_pos rfl]
        cases e2 : r.testBit i with
        | false =>
          rw [bI_f, if_pos i00, r_slipOf hR hi (by omega), bnd_some, f_X12_rightOf_J100, letF, if_pos i00, r_votesOf hR hi (by omega), bnd_some, letF, letF, nI_1, q1, q3, nI_l (by omega), l_mul, if_neg (by decide), if_neg (by decide), ng, ← Int32.ofInt_add]
        | true =>
          rw [bI_t, if_neg i10, r_slipOf hR hi (by omega), bnd_some, f_X12_rightOf_J100, letF, if_neg i10, r_votesOf hR hi (by omega), bnd_some, letF, letF, nI_1, q1, q3, show (16 : Int32) - nI (sN K i) = nI (16 - sN K i) from pk_sub (a := 16) q2, nI_l (by omega), l_mul, if_pos rfl, if_pos rfl, ps, ← Int32.ofInt_add])
    (nK K 4) 0 (1, 0) fz (by omega) (by rw [fz_is]; omega)
  have e1 := foldN_pair (fun i a => if s.testBit i = true then a * (if r.testBit i = true then 16 - sN K i else sN K i) else a) (mStep K s r) (nK K 4) 0 1 0
  exact key.trans (by rw [e1]; rfl)
theorem r_rightOf {R : Mem} {K : Kt} (hR : IsR R 0 K) (hw : WFK K) {s : Nat} (hs : s < 2 ^ nK K 4) : f_X12_rightOf (nI s) R = some (lN (RN K s), R) := by
  have hn := hw.n4
  have h6 := pow_le6 hn.2
  have key := loopN (fun fu a i => f_X12_rightOf_L5 (nI s) fu (lN a) (nI i) R) (2 ^ nK K 4) (fun r a => a + tmN K s r) (fun a => some (lN a, R))
    (fun fu a => by
      try dsimp only
      rw [f_X12_rightOf_L5, hR.cnt (by decide), hn.1, shl_is _ (by omega), if_pos (Int32.le_refl _)])
    (fun fu a i hi => by
      have v1 := vS_le hw s
      have v2 := vS_le hw i
      try dsimp only
      rw [f_X12_rightOf_L5, hR.cnt (by decide), hn.1, shl_is _ (by omega), if_neg (nI_ge hi (by omega)), tmN]
      cases e : subB i s with
      | false => rw [if_neg (sub_f (by omega) (by omega) e), letF, nI_1, if_neg (by decide), Nat.add_zero a]
      | true =>
        have em := mN_is hw e
        have et : (Int32.ofInt (mN K s i)).toInt = mN K s i := Int32.toInt_ofInt_of_le (by omega) (by omega)
        rw [if_pos (sub_t (by omega) (by omega) e), r_right1 hR hw (by omega) (by omega), bnd_some, if_pos rfl]
        by_cases z : 2 * vS K i ≤ vS K s
        · rw [if_pos (by rw [i_le, et, show (0 : Int32).toInt = 0 from rfl]; omega), letF, letF, nI_1, if_pos z]
          exact congrArg (fun x => f_X12_rightOf_L5 (nI s) fu x (nI (i + 1)) R) (l_add a 0)
        · rw [if_neg (by rw [i_le, et, show (0 : Int32).toInt = 0 from rfl]; omega), letF, letF, nI_1, l_add, if_neg z])
    (2 ^ nK K 4) 0 0 fz (by omega) (by rw [fz_is]; omega)
  have key' : f_X12_rightOf_L5 (nI s) fz 0 0 R = some (lN (RN K s), R) := key
  rw [f_X12_rightOf, key', bnd_some]
theorem l16_is : ∀ p, p ≤ 10 → (1 : Int64) <<< (((4 : Int32) * nI p).toInt64 &&& 63) = lN (2 ^ (4 * p)) := by decide +kernel
theorem lset_is : ∀ n, n ≤ 6 → ((1 : Int64) <<< ((nI n).toInt64 &&& 63)) - 1 = lN (2 ^ n - 1) := by decide +kernel
section READERS
variable {C R : Mem}
theorem m_verdict (h : Rel C R) (a : Int32) : OK2 (f_X11_verdict a C) (f_X12_verdict a R) := by
  obtain ⟨hs, ho⟩ := h
  obtain ⟨K, hw, hC, hR, h0, h1⟩ := ho.get
  have hn := hw.n4
  have h6 := pow_le6 hn.2
  rw [f_X11_verdict, f_X12_verdict, hR.cnt (by decide), hn.1, lset_is _ hn.2]
  have tl : (lN (2 ^ nK K 4 - 1)).toInt = (2 ^ nK K 4 - 1 : Nat) := pk_lT (by omega)
  by_cases ha : a < 1
  · rw [if_pos ha, r_isFromF (Or.inl (by rw [i_lt] at ha; exact ha)), bnd_some, if_pos i00]
    exact fin_den hs SqC.rf SqR.rf ho (by decide)
  rw [if_neg ha, if_neg (nn h0), p_count4, bnd_some, hC.1 4 (by decide), hn.1, p_setOfAll, bnd_some, set_is (by omega)]
  have va : 1 ≤ a.toInt := by rw [i_lt] at ha; simp at ha; omega
  by_cases hb : a ≤ nI (2 ^ nK K 4 - 1)
  · have vb : a.toInt ≤ (2 ^ nK K 4 - 1 : Nat) := by rw [i_le, nI_toInt (by omega)] at hb; exact hb
    obtain ⟨s, hs1, rfl⟩ := i_of (x := a) (n := 2 ^ nK K 4) (by omega) (by omega) (by omega)
    have hp := pop_le (nI s)
    rw [if_pos hb, if_neg (nn h0), p_rightWeight h0 hC hw hs1, bnd_some, p_bitCount (by omega), bnd_some, r_isFromT (by exact va) (by rw [tl]; exact vb), bnd_some, if_neg i10, r_rightOf hR hw hs1, bnd_some, r_bits (by omega), bnd_some, l16_is _ hp]
    have hRN := RN_le hw s
    have hpw : 2 ^ (4 * popI (nI s)) ≤ 2 ^ 40 := Nat.pow_le_pow_right (by decide) (by omega)
    refine fin_frac hs SqC.rf SqR.rf ho (n := RN K s) (d := 2 ^ (4 * popI (nI s))) (m := 1) (Nat.pow_pos (by decide)) (by decide) (by omega) (by omega) rfl rfl (by rw [Nat.one_mul]) (by rw [Nat.one_mul])
  · have vb : ¬ a.toInt ≤ (2 ^ nK K 4 - 1 : Nat) := by rw [i_le, nI_toInt (by omega)] at hb; exact hb
    rw [if_neg hb, r_isFromF (Or.inr (by rw [tl]; omega)), bnd_some, if_pos i00]
    exact fin_den hs SqC.rf SqR.rf ho (by decide)
end READERS
