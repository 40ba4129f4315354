/-! GAMES: positions, moves, values -/
def iI (x : Int) : Int32 := Int32.ofInt x
theorem iI_toInt {x : Int} (h1 : -1000 ≤ x) (h2 : x ≤ 1000) : (iI x).toInt = x := Int32.toInt_ofInt_of_le (by omega) (by omega)
theorem iI_nat (n : Nat) : iI (n : Int) = nI n := by unfold iI; rw [Int32.ofInt_eq_ofNat]; rfl
theorem iI_add (x y : Int) : iI x + iI y = iI (x + y) := (Int32.ofInt_add x y).symm
theorem iI_sub (x y : Int) : iI x - iI y = iI (x - y) := by
  unfold iI
  rw [Int.sub_eq_add_neg, Int32.ofInt_add, Int32.ofInt_neg, Int32.sub_eq_add_neg]
theorem iI_lt {x y : Int} (h1 : -1000 ≤ x) (h2 : x ≤ 1000) (h3 : -1000 ≤ y) (h4 : y ≤ 1000) : iI x < iI y ↔ x < y := by rw [i_lt, iI_toInt h1 h2, iI_toInt h3 h4]
theorem iI_le {x y : Int} (h1 : -1000 ≤ x) (h2 : x ≤ 1000) (h3 : -1000 ≤ y) (h4 : y ≤ 1000) : iI x ≤ iI y ↔ x ≤ y := by rw [i_le, iI_toInt h1 h2, iI_toInt h3 h4]
theorem iI_mx {x y : Int} (h1 : -1000 ≤ x) (h2 : x ≤ 1000) (h3 : -1000 ≤ y) (h4 : y ≤ 1000) : mxI (iI x) (iI y) = iI (max x y) := by
  unfold mxI
  by_cases z : x < y
  · rw [if_pos ((iI_lt h1 h2 h3 h4).mpr z), show max x y = y by omega]
  · rw [if_neg (fun q => z ((iI_lt h1 h2 h3 h4).mp q)), show max x y = x by omega]
theorem iI_mn {x y : Int} (h1 : -1000 ≤ x) (h2 : x ≤ 1000) (h3 : -1000 ≤ y) (h4 : y ≤ 1000) : mnI (iI x) (iI y) = iI (min x y) := by
  unfold mnI
  by_cases z : y < x
  · rw [if_pos ((iI_lt h3 h4 h1 h2).mpr z), show min x y = y by omega]
  · rw [if_neg (fun q => z ((iI_lt h3 h4 h1 h2).mp q)), show min x y = x by omega]
/-- moves by the class's numbers: 6 p + 0 a FEEDING, 6 p + 1 + q a SMELL, 36 nothing -/
def legB (K : Kt) (m : Nat) : Bool := decide (m / 6 < nK K 3) && (if m % 6 = 0 then decide (¬ K 12 (m / 6) = 99) else decide (m % 6 ≤ nK K 0))
def lgm (K : Kt) (m : Nat) : Bool := decide (m = 36) || legB K m
def apK (K : Kt) (m : Nat) : Kt := if m = 36 then K else if m % 6 = 0 then upK K 12 (m / 6) (K 12 (m / 6) + 1) else upK K 13 (m / 6) (xorS (K 13 (m / 6)) (m % 6 - 1))
def mvF (K : Kt) (m d : Nat) : List Nat := (List.range' m d).filter (lgm K)
def wvI (x : Int32) : Int := if x = 2 then 1 else if x = 1 then -1 else 0
theorem wvI_in (x : Int32) : -1 ≤ wvI x ∧ wvI x ≤ 1 := by
  unfold wvI
  split
  · omega
  · split <;> omega
/-- how it stands -/
def stF (K : Kt) (n : Nat) : Int := foldN (fun p (a : Int) => a + wvI (mnK K p)) n 0 0
def stK (K : Kt) : Int := stF K (nK K 3)
theorem stF_s (K : Kt) (n : Nat) : stF K (n + 1) = stF K n + wvI (mnK K n) := by
  unfold stF
  rw [foldN_add, Nat.zero_add]
  rfl
theorem stF_in (K : Kt) : ∀ n : Nat, -(n : Int) ≤ stF K n ∧ stF K n ≤ n := by
  intro n
  induction n with
  | zero => exact ⟨Int.le_refl 0, Int.le_refl 0⟩
  | succ n ih =>
    have := wvI_in (mnK K n)
    rw [stF_s]
    omega
theorem stK_in {K : Kt} (hw : WFK K) : -6 ≤ stK K ∧ stK K ≤ 6 := by
  have := stF_in K (nK K 3)
  have := hw.n3
  unfold stK
  omega
def vaK : Nat → Bool → Kt → Int
  | 0, _, K => stK K
  | t + 1, b, K => if b = true then (mvF K 0 37).foldl (fun a m => max a (vaK t false (apK K m))) (-7) else (mvF K 0 37).foldl (fun a m => min a (vaK t true (apK K m))) 7
theorem mvF_in {K : Kt} {m d x : Nat} (h : x ∈ mvF K m d) : m ≤ x ∧ x < m + d ∧ lgm K x = true := by
  unfold mvF at h
  rw [List.mem_filter, List.mem_range'_1] at h
  exact ⟨h.1.1, h.1.2, h.2⟩
theorem mvF_s (K : Kt) (m d : Nat) : mvF K m (d + 1) = if lgm K m = true then m :: mvF K (m + 1) d else mvF K (m + 1) d := by
  unfold mvF
  rw [List.range'_succ, List.filter_cons]
theorem apK_n {K : Kt} {m : Nat} (k : Nat) : nK (apK K m) k = nK K k := by
  unfold apK
  split
  · rfl
  · split <;> exact upK_nK (by decide) k
theorem leg_p {K : Kt} {m : Nat} (h : legB K m = true) : m / 6 < nK K 3 ∧ (m % 6 = 0 → ¬ K 12 (m / 6) = 99) ∧ m % 6 ≤ nK K 0 := by
  unfold legB at h
  rw [Bool.and_eq_true] at h
  refine ⟨of_decide_eq_true h.1, fun z => ?_, ?_⟩
  · rw [if_pos z] at h; exact of_decide_eq_true h.2
  · by_cases z : m % 6 = 0
    · omega
    · rw [if_neg z] at h; exact of_decide_eq_true h.2
theorem apK_wf {K : Kt} (hw : WFK K) {m : Nat} (h : lgm K m = true) : WFK (apK K m) := by
  have hn0 := hw.n0
  unfold apK
  by_cases z : m = 36
  · rw [if_pos z]; exact hw
  · rw [if_neg z]
    unfold lgm at h
    rw [decide_eq_false z, Bool.false_or] at h
    obtain ⟨h1, h2, h3⟩ := leg_p h
    by_cases z2 : m % 6 = 0
    · rw [if_pos z2]
      obtain ⟨-, ⟨f, hf, hf2⟩, -⟩ := hw.2.2.2.1 _ h1
      have : f ≠ 99 := fun q => h2 z2 (by rw [hf2, q]; rfl)
      refine hw.up (Or.inr (Or.inr (Or.inl ⟨rfl, f + 1, by omega, by rw [hf2, nI_s]⟩)))
    · rw [if_neg z2]
      exact hw.up (okSm hw h1 (by omega))
theorem fold_mx {f : Nat → Int} : ∀ (l : List Nat) (a : Int), (∀ x ∈ l, -6 ≤ f x ∧ f x ≤ 6) → a ≤ l.foldl (fun a m => max a (f m)) a ∧ (l.foldl (fun a m => max a (f m)) a ≤ max a 6) ∧ ∀ x ∈ l, f x ≤ l.foldl (fun a m => max a (f m)) a := by
  intro l
  induction l with
  | nil => intro a h; exact ⟨Int.le_refl _, by simp; omega, fun x hx => by cases hx⟩
  | cons y l ih =>
    intro a h
    obtain ⟨h1, h2, h3⟩ := ih (max a (f y)) (fun x hx => h x (List.mem_cons_of_mem _ hx))
    have hy := h y (List.mem_cons_self)
    rw [List.foldl_cons]
    refine ⟨by omega, by omega, fun x hx => ?_⟩
    rcases List.mem_cons.mp hx with rfl | hx
    · omega
    · exact h3 x hx
theorem fold_mn {f : Nat → Int} : ∀ (l : List Nat) (a : Int), (∀ x ∈ l, -6 ≤ f x ∧ f x ≤ 6) → l.foldl (fun a m => min a (f m)) a ≤ a ∧ (min a (-6) ≤ l.foldl (fun a m => min a (f m)) a) ∧ ∀ x ∈ l, l.foldl (fun a m => min a (f m)) a ≤ f x := by
  intro l
  induction l with
  | nil => intro a h; exact ⟨Int.le_refl _, by simp; omega, fun x hx => by cases hx⟩
  | cons y l ih =>
    intro a h
    obtain ⟨h1, h2, h3⟩ := ih (min a (f y)) (fun x hx => h x (List.mem_cons_of_mem _ hx))
    have hy := h y (List.mem_cons_self)
    rw [List.foldl_cons]
    refine ⟨by omega, by omega, fun x hx => ?_⟩
    rcases List.mem_cons.mp hx with rfl | hx
    · omega
    · exact h3 x hx
theorem mv36 (K : Kt) : 36 ∈ mvF K 0 37 := by
  unfold mvF
  rw [List.mem_filter, List.mem_range'_1]
  exact ⟨⟨by omega, by omega⟩, rfl⟩
theorem vaK_in : ∀ (t : Nat) (b : Bool) (K : Kt), WFK K → -6 ≤ vaK t b K ∧ vaK t b K ≤ 6 := by
  intro t
  induction t with
  | zero => intro b K hw; exact stK_in hw
  | succ t ih =>
    intro b K hw
    rw [vaK]
    cases b with
    | true =>
      rw [if_pos rfl]
      have hb : ∀ x ∈ mvF K 0 37, -6 ≤ vaK t false (apK K x) ∧ vaK t false (apK K x) ≤ 6 := fun x hx => ih false _ (apK_wf hw (mvF_in hx).2.2)
      obtain ⟨h1, h2, h3⟩ := fold_mx (f := fun m => vaK t false (apK K m)) (mvF K 0 37) (-7) hb
      have := h3 36 (mv36 K)
      have := hb 36 (mv36 K)
      omega
    | false =>
      rw [if_neg (by decide)]
      have hb : ∀ x ∈ mvF K 0 37, -6 ≤ vaK t true (apK K x) ∧ vaK t true (apK K x) ≤ 6 := fun x hx => ih true _ (apK_wf hw (mvF_in hx).2.2)
      obtain ⟨h1, h2, h3⟩ := fold_mn (f := fun m => vaK t true (apK K m)) (mvF K 0 37) 7 hb
      have := h3 36 (mv36 K)
      have := hb 36 (mv36 K)
      omega
/-- what one person adds -/
def wqK (K : Kt) (q : Nat) : Int := if q < nK K 3 then wvI (mnK K q) else 0
theorem mn_other {K : Kt} {f p q : Nat} {v : Int32} (hf : f = 12 ∨ f = 13) (hq : ¬ q = p) : mnK (upK K f p v) q = mnK K q := by
  have e1 : ∀ a b, ¬ (a = f ∧ b = p) → upK K f p v a b = K a b := fun a b z => upK_n z
  have en : nK (upK K f p v) 2 = nK K 2 := upK_nK (by omega) 2
  have er : ∀ g fd w s, ruleK (upK K f p v) g fd w s = ruleK K g fd w s := by
    intro g fd w s
    unfold ruleK
    rw [en]
    refine fstB_congr _ 0 (fun j _ _ => ?_)
    unfold bearK
    rw [e1 3 j (by omega), e1 4 j (by omega), e1 6 j (by omega), e1 7 j (by omega), e1 9 j (by omega), e1 10 j (by omega)]
  unfold mnK psenseK meanK pcueK cueK
  rw [e1 11 q (by omega), e1 12 q (by omega), e1 13 q (by omega), e1 20 0 (by omega), er, e1 2 _ (by omega), e1 1 _ (by omega)]
theorem stF_up {K : Kt} {f p : Nat} {v : Int32} (hf : f = 12 ∨ f = 13) : ∀ n, stF (upK K f p v) n = stF K n + if p < n then wvI (mnK (upK K f p v) p) - wvI (mnK K p) else 0 := by
  intro n
  induction n with
  | zero => rw [if_neg (by omega)]; rfl
  | succ n ih =>
    rw [stF_s, stF_s, ih]
    by_cases z : n = p
    · subst z
      rw [if_neg (by omega), if_pos (by omega)]
      omega
    · rw [mn_other hf z]
      by_cases z2 : p < n
      · rw [if_pos z2, if_pos (by omega)]; omega
      · rw [if_neg z2, if_neg (by omega)]; omega
theorem st_ap (K : Kt) (m : Nat) : stK (apK K m) = stK K - wqK K (m / 6) + wqK (apK K m) (m / 6) := by
  have up : ∀ f, f = 12 ∨ f = 13 → ∀ v, stK (upK K f (m / 6) v) = stK K - wqK K (m / 6) + wqK (upK K f (m / 6) v) (m / 6) := by
    intro f hf v
    unfold stK wqK
    rw [upK_nK (by omega), stF_up hf]
    split <;> omega
  unfold apK
  split
  · omega
  · split
    · exact up 12 (Or.inl rfl) _
    · exact up 13 (Or.inr rfl) _
/-- taken back -/
theorem back_f {K : Kt} (p : Nat) : upK (upK K 12 p (K 12 p + 1)) 12 p (K 12 p + 1 + -1) = K := by
  funext a b
  by_cases z : a = 12 ∧ b = p
  · obtain ⟨rfl, rfl⟩ := z
    rw [upK_s]
    have : (1 : Int32) + -1 = 0 := by decide
    rw [Int32.add_assoc, this, Int32.add_zero]
  · rw [upK_n z, upK_n z]
theorem back_s {K : Kt} (p j : Nat) : upK (upK K 13 p (xorS (K 13 p) j)) 13 p (xorS (xorS (K 13 p) j) j) = K := by
  funext a b
  by_cases z : a = 13 ∧ b = p
  · obtain ⟨rfl, rfl⟩ := z
    rw [upK_s]
    unfold xorS
    rw [Int32.xor_assoc, Int32.xor_self, Int32.xor_zero]
  · rw [upK_n z, upK_n z]
