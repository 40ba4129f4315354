/-! COUNTS of guilts -/
def okA (f : Nat → Bool → Bool) (P s : Nat) : Bool := (List.range P).all (fun q => f q (s.testBit q))
def cnA (f : Nat → Bool → Bool) (P : Nat) : Nat := foldN (fun s a => a + if okA f P s = true then 1 else 0) (2 ^ P) 0 0
def prN (u : Nat → Nat) (P : Nat) : Nat := foldN (fun q a => a * u q) P 0 1
def wy (f : Nat → Bool → Bool) (q : Nat) : Nat := (if f q false = true then 1 else 0) + if f q true = true then 1 else 0
theorem okA_s (f : Nat → Bool → Bool) (P s : Nat) : okA f (P + 1) s = (okA f P s && f P (s.testBit P)) := by
  unfold okA
  rw [List.range_succ, List.all_append]
  simp
theorem okA_cg (f : Nat → Bool → Bool) {s t : Nat} : ∀ (P : Nat), (∀ q, q < P → s.testBit q = t.testBit q) → okA f P s = okA f P t := by
  intro P
  induction P with
  | zero => intro _; rfl
  | succ P ih => intro h; rw [okA_s, okA_s, ih (fun q hq => h q (by omega)), h P (by omega)]
theorem okA_iff {f : Nat → Bool → Bool} {P s : Nat} : okA f P s = true ↔ ∀ q, q < P → f q (s.testBit q) = true := by
  unfold okA
  rw [List.all_eq_true]
  exact ⟨fun h q hq => h q (List.mem_range.mpr hq), fun h q hq => h q (List.mem_range.mp hq)⟩
theorem fold_sh (u : Nat → Nat) (j : Nat) : ∀ (d i a : Nat), foldN (fun s a => a + u s) d (i + j) a = foldN (fun s a => a + u (s + j)) d i a := by
  intro d
  induction d with
  | zero => intro i a; rfl
  | succ d ih => intro i a; rw [foldN, foldN, show i + j + 1 = i + 1 + j by omega]; exact ih (i + 1) _
theorem fold_x (u : Nat → Nat) : ∀ (d i x y : Nat), foldN (fun s a => a + u s) d i (x + y) = x + foldN (fun s a => a + u s) d i y := by
  intro d
  induction d with
  | zero => intro i x y; rfl
  | succ d ih => intro i x y; rw [foldN, foldN, Nat.add_assoc]; exact ih (i + 1) x _
theorem fold_c (A : Nat → Bool) (b : Bool) : ∀ (d i a : Nat), foldN (fun s a => a + if (A s && b) = true then 1 else 0) d i (a * if b = true then 1 else 0) = foldN (fun s a => a + if A s = true then 1 else 0) d i a * if b = true then 1 else 0 := by
  intro d
  induction d with
  | zero => intro i a; rfl
  | succ d ih =>
    intro i a
    rw [foldN, foldN, ← ih (i + 1)]
    congr 1
    cases A i <;> cases b <;> simp
theorem fold_c0 (A : Nat → Bool) (b : Bool) (d i : Nat) : foldN (fun s a => a + if (A s && b) = true then 1 else 0) d i 0 = foldN (fun s a => a + if A s = true then 1 else 0) d i 0 * if b = true then 1 else 0 := by
  have := fold_c A b d i 0
  rw [Nat.zero_mul] at this
  exact this
theorem prN_s (u : Nat → Nat) (P : Nat) : prN u (P + 1) = prN u P * u P := by
  unfold prN
  rw [foldN_add, Nat.zero_add]
  rfl
theorem cnA_is (f : Nat → Bool → Bool) : ∀ P, cnA f P = prN (wy f) P := by
  intro P
  induction P with
  | zero => rfl
  | succ P ih =>
    rw [prN_s, ← ih]
    unfold cnA
    rw [Nat.pow_succ, Nat.mul_two, foldN_add, fold_sh (fun s => if okA f (P + 1) s = true then 1 else 0)]
    have e1 : foldN (fun s a => a + if okA f (P + 1) s = true then 1 else 0) (2 ^ P) 0 0 = foldN (fun s a => a + if okA f P s = true then 1 else 0) (2 ^ P) 0 0 * if f P false = true then 1 else 0 := by
      rw [← fold_c0]
      refine foldN_congr _ 0 0 (fun s a h1 h2 => ?_)
      rw [okA_s, tb_big (n := P) (by omega) (Nat.le_refl _)]
    have e2 : foldN (fun s a => a + if okA f (P + 1) (s + 2 ^ P) = true then 1 else 0) (2 ^ P) 0 0 = foldN (fun s a => a + if okA f P s = true then 1 else 0) (2 ^ P) 0 0 * if f P true = true then 1 else 0 := by
      rw [← fold_c0]
      refine foldN_congr _ 0 0 (fun s a h1 h2 => ?_)
      rw [okA_s, Nat.add_comm s, Nat.testBit_two_pow_add_eq, tb_big (n := P) (s := s) (by omega) (Nat.le_refl _), okA_cg f P (fun q hq => Nat.testBit_two_pow_add_gt hq s)]
      rfl
    refine (fold_x (fun s => if okA f (P + 1) (s + 2 ^ P) = true then 1 else 0) (2 ^ P) 0 (foldN (fun s a => a + if okA f (P + 1) s = true then 1 else 0) (2 ^ P) 0 0) 0).trans ?_
    rw [e1, e2]
    unfold wy
    rw [Nat.mul_add]
theorem prN_cg {u v : Nat → Nat} : ∀ P, (∀ q, q < P → u q = v q) → prN u P = prN v P := by
  intro P
  induction P with
  | zero => intro _; rfl
  | succ P ih => intro h; rw [prN_s, prN_s, ih (fun q hq => h q (by omega)), h P (by omega)]
theorem prN_at (u : Nat → Nat) {p : Nat} : ∀ P, p < P → ∃ A, ∀ v, prN (fun q => if q = p then v else u q) P = A * v := by
  intro P
  induction P with
  | zero => intro h; omega
  | succ P ih =>
    intro h
    by_cases z : p = P
    · refine ⟨prN u P, fun v => ?_⟩
      rw [prN_s, if_pos z.symm, prN_cg (v := u) P (fun q hq => if_neg (by omega))]
    · obtain ⟨A, hA⟩ := ih (by omega)
      refine ⟨A * u P, fun v => ?_⟩
      rw [prN_s, hA v, if_neg (fun q => z q.symm), Nat.mul_assoc, Nat.mul_assoc, Nat.mul_comm v]
theorem prN_in (u : Nat → Nat) {p P : Nat} (h : p < P) : ∃ A, prN u P = A * u p ∧ ∀ v, prN (fun q => if q = p then v else u q) P = A * v := by
  obtain ⟨A, hA⟩ := prN_at u P h
  refine ⟨A, ?_, hA⟩
  rw [← hA (u p)]
  refine prN_cg P (fun q _ => ?_)
  by_cases z : q = p
  · rw [if_pos z, z]
  · rw [if_neg z]
theorem cntP_s (P : Nat → Bool) (n : Nat) : cntP P (n + 1) = cntP P n + if P n = true then 1 else 0 := by
  unfold cntP
  rw [foldN_add, Nat.zero_add]
  rfl
theorem prN_2 (cl : Nat → Bool) : ∀ P, prN (fun q => if cl q = true then 1 else 2) P = 2 ^ (P - cntP cl P) ∧ cntP cl P ≤ P := by
  intro P
  induction P with
  | zero => exact ⟨rfl, Nat.le_refl _⟩
  | succ P ih =>
    obtain ⟨h1, h2⟩ := ih
    rw [prN_s, h1, cntP_s]
    cases cl P with
    | true =>
      rw [if_pos rfl, if_pos rfl, Nat.mul_one]
      exact ⟨by congr 1; omega, by omega⟩
    | false =>
      rw [if_neg (by decide), if_neg (by decide), Nat.add_zero, ← Nat.pow_succ]
      exact ⟨by congr 1; omega, by omega⟩
/-- the guilts that fit the threes -/
def gfK (K : Kt) (R : Mem) (i n : Nat) (q : Nat) (b : Bool) : Bool := if b = true then !ngB K R i 1 n q else !ngB K R i 2 n q
def fitB (K : Kt) (R : Mem) (i n s : Nat) : Bool := (List.range n).all (fun k => !ag K R i (if s.testBit (tp R i k) = true then 1 else 2) (tp R i k) k)
theorem ngB_iff {K : Kt} {R : Mem} {i : Nat} {g : Int32} {n p : Nat} : ngB K R i g n p = true ↔ ∃ k, k < n ∧ ag K R i g p k = true := by
  unfold ngB
  rw [List.any_eq_true]
  exact ⟨fun ⟨k, h1, h2⟩ => ⟨k, List.mem_range.mp h1, h2⟩, fun ⟨k, h1, h2⟩ => ⟨k, List.mem_range.mpr h1, h2⟩⟩
theorem ag_p {K : Kt} {R : Mem} {i : Nat} {g : Int32} {p k : Nat} (h : ag K R i g p k = true) : tp R i k = p := by
  unfold ag at h
  rw [Bool.and_eq_true] at h
  exact of_decide_eq_true h.1
theorem ngB_in {K : Kt} {R : Mem} {i : Nat} {g : Int32} {n p : Nat} (hT : ∀ k, k < n → okT K R i k) (h : ngB K R i g n p = true) : p < nK K 3 := by
  obtain ⟨k, h1, h2⟩ := ngB_iff.mp h
  rw [← ag_p h2]
  exact (hT k h1).1.2
theorem gfK_iff {K : Kt} {R : Mem} {i n q : Nat} {b : Bool} : gfK K R i n q b = true ↔ ∀ k, k < n → ag K R i (if b = true then 1 else 2) q k = false := by
  have key : ∀ g : Int32, (!ngB K R i g n q) = true ↔ ∀ k, k < n → ag K R i g q k = false := by
    intro g
    constructor
    · intro h k hk
      cases e : ag K R i g q k with
      | false => rfl
      | true => rw [ngB_iff.mpr ⟨k, hk, e⟩] at h; cases h
    · intro h
      cases e : ngB K R i g n q with
      | false => rfl
      | true =>
        obtain ⟨k, h1, h2⟩ := ngB_iff.mp e
        rw [h k h1] at h2; cases h2
  unfold gfK
  cases b with
  | true => rw [if_pos rfl, if_pos rfl]; exact key 1
  | false => rw [if_neg (by decide), if_neg (by decide)]; exact key 2
theorem fitB_ok {K : Kt} {R : Mem} {i n s : Nat} (hT : ∀ k, k < n → okT K R i k) : fitB K R i n s = okA (gfK K R i n) (nK K 3) s := by
  have e : fitB K R i n s = true ↔ okA (gfK K R i n) (nK K 3) s = true := by
    rw [okA_iff]
    unfold fitB
    rw [List.all_eq_true]
    constructor
    · intro h q hq
      refine gfK_iff.mpr (fun k hk => ?_)
      cases e : ag K R i (if s.testBit q = true then 1 else 2) q k with
      | false => rfl
      | true =>
        have := h k (List.mem_range.mpr hk)
        rw [ag_p e, e] at this
        cases this
    · intro h k hk
      have hk2 := List.mem_range.mp hk
      rw [gfK_iff.mp (h (tp R i k) (hT k hk2).1.2) k hk2]
      rfl
  cases h1 : fitB K R i n s with
  | true => exact (e.mp h1).symm
  | false =>
    cases h2 : okA (gfK K R i n) (nK K 3) s with
    | false => rfl
    | true => rw [e.mpr h2] at h1; cases h1
/-- all ways, and those in which one is guilty -/
def allW (K : Kt) (R : Mem) (i n : Nat) : Nat := foldN (fun s a => a + if fitB K R i n s = true then 1 else 0) (2 ^ nK K 3) 0 0
def guiW (K : Kt) (R : Mem) (i n p : Nat) : Nat := foldN (fun s a => a + if (fitB K R i n s && s.testBit p) = true then 1 else 0) (2 ^ nK K 3) 0 0
theorem allW_is {K : Kt} {R : Mem} {i n : Nat} (hT : ∀ k, k < n → okT K R i k) : allW K R i n = prN (wy (gfK K R i n)) (nK K 3) := by
  rw [← cnA_is]
  exact foldN_congr _ 0 0 (fun s a _ _ => by rw [fitB_ok hT])
theorem guiW_is {K : Kt} {R : Mem} {i n p : Nat} (hT : ∀ k, k < n → okT K R i k) (hp : p < nK K 3) : ∃ A, allW K R i n = A * wy (gfK K R i n) p ∧ guiW K R i n p = A * if gfK K R i n p true = true then 1 else 0 := by
  obtain ⟨A, a1, a2⟩ := prN_in (wy (gfK K R i n)) hp
  refine ⟨A, by rw [allW_is hT]; exact a1, ?_⟩
  rw [← a2]
  have e : prN (fun q => if q = p then (if gfK K R i n p true = true then 1 else 0) else wy (gfK K R i n) q) (nK K 3) = prN (wy (fun q b => gfK K R i n q b && (decide (¬ q = p) || b))) (nK K 3) := by
    refine prN_cg _ (fun q _ => ?_)
    unfold wy
    by_cases z : q = p
    · rw [if_pos z, z]; simp
    · rw [if_neg z]; simp [z]
  rw [e, ← cnA_is]
  refine foldN_congr _ 0 0 (fun s a _ _ => ?_)
  rw [fitB_ok hT]
  have e2 : (okA (gfK K R i n) (nK K 3) s && s.testBit p) = okA (fun q b => gfK K R i n q b && (decide (¬ q = p) || b)) (nK K 3) s := by
    have h : (okA (gfK K R i n) (nK K 3) s && s.testBit p) = true ↔ okA (fun q b => gfK K R i n q b && (decide (¬ q = p) || b)) (nK K 3) s = true := by
      rw [Bool.and_eq_true, okA_iff, okA_iff]
      constructor
      · intro ⟨h1, h2⟩ q hq
        rw [Bool.and_eq_true]
        refine ⟨h1 q hq, ?_⟩
        by_cases z : q = p
        · rw [z, h2, Bool.or_true]
        · rw [decide_eq_true z, Bool.true_or]
      · intro h
        refine ⟨fun q hq => ?_, ?_⟩
        · have := h q hq
          rw [Bool.and_eq_true] at this
          exact this.1
        · have := h p hp
          rw [Bool.and_eq_true, decide_eq_false (fun z => z rfl), Bool.false_or] at this
          exact this.2
    cases h1 : (okA (gfK K R i n) (nK K 3) s && s.testBit p) with
    | true => exact (h.mp h1).symm
    | false =>
      cases h2 : okA (fun q b => gfK K R i n q b && (decide (¬ q = p) || b)) (nK K 3) s with
      | false => rfl
      | true => rw [h.mpr h2] at h1; cases h1
  rw [e2]
