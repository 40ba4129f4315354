/-! COURTS as values: what a court of the class's memory, a slot of the reference's, hold of it; rules, cues, senses -/
theorem litI (n : Nat) : (OfNat.ofNat n : Int32) = nI n := rfl
abbrev Kt : Type := Nat → Nat → Int32
def nK (K : Kt) (k : Nat) : Nat := (K 0 k).toNatClampNeg
def mxK : List Nat := [5, 6, 8, 6, 6, 10]
/-- COMPARES NUMBER as the class (number, low, high) and the reference (sign, number) hold it -/
def cmpR (most : Nat) (sign num number low high : Int32) : Prop :=
  (sign = 0 ∧ number = -1 ∧ low = 0 ∧ high = nI most) ∨ ∃ n : Nat, n ≤ most ∧ num = nI n ∧ number = nI n ∧ ((sign = 60 ∧ low = 0 ∧ high = nI n - 1) ∨ (sign = 62 ∧ low = nI n + 1 ∧ high = nI most) ∨ (sign = 61 ∧ low = nI n ∧ high = nI n))
/-- the class's court at object c holds K -/
def IsC (C : Mem) (c : Nat) (K : Kt) : Prop :=
  (∀ k, k < 6 → gI C (c + 1) k = K 0 k) ∧ (∀ i, i < nK K 1 → gI C (c + 3) i = K 1 i) ∧
  (∀ i, i < nK K 2 → ∀ f, f < 9 → gI C (c + 4 + 1 + i) f = K (2 + f) i) ∧
  (∀ i, i < nK K 3 → ∀ f, f < 5 → gI C (c + 13 + 1 + i) f = K (11 + f) i) ∧
  (∀ i, i < nK K 4 → gI C (c + 20) i = K 16 i ∧ gI C (c + 21) i = K 17 i) ∧
  (∀ i, i < nK K 5 → gI C (c + 22) i = K 18 i ∧ gI C (c + 23) i = K 19 i) ∧ gI C c 12 = K 20 0 ∧ gI C c 13 = K 20 1
/-- the reference's slot at o holds K -/
def IsR (R : Mem) (o : Nat) (K : Kt) : Prop :=
  (∀ k, k < 6 → gI R 1 (o + k) = K 0 k) ∧ (∀ i, i < nK K 1 → gI R 1 (o + 10 + i) = K 1 i) ∧
  (∀ i, i < nK K 2 → gI R 1 (o + 16 + 7 * i) = K 2 i ∧ gI R 1 (o + 16 + 7 * i + 1) = K 3 i ∧ gI R 1 (o + 16 + 7 * i + 6) = K 4 i ∧
    cmpR 99 (gI R 1 (o + 16 + 7 * i + 2)) (gI R 1 (o + 16 + 7 * i + 3)) (K 5 i) (K 6 i) (K 7 i) ∧ cmpR 9 (gI R 1 (o + 16 + 7 * i + 4)) (gI R 1 (o + 16 + 7 * i + 5)) (K 8 i) (K 9 i) (K 10 i)) ∧
  (∀ i, i < nK K 3 → gI R 1 (o + 72 + 5 * i) = K 12 i ∧ gI R 1 (o + 72 + 5 * i + 1) = K 13 i ∧ gI R 1 (o + 72 + 5 * i + 2) = K 14 i ∧ gI R 1 (o + 72 + 5 * i + 3) = 2 - K 11 i ∧ gI R 1 (o + 72 + 5 * i + 4) = K 15 i) ∧
  (∀ i, i < nK K 4 → gI R 1 (o + 102 + 2 * i) = K 16 i ∧ gI R 1 (o + 102 + 2 * i + 1) = K 17 i) ∧
  (∀ i, i < nK K 5 → gI R 1 (o + 114 + 2 * i) = K 18 i ∧ gI R 1 (o + 114 + 2 * i + 1) = K 19 i) ∧ gI R 1 (o + 6) = K 20 0 ∧ gI R 1 (o + 7) = K 20 1
/-- what every court keeps to -/
def WFK (K : Kt) : Prop :=
  (∀ k, k < 6 → K 0 k = nI (nK K k) ∧ nK K k ≤ mxK.getD k 0) ∧
  (∀ i, i < nK K 1 → ∃ n : Nat, n ≤ 2 ∧ K 1 i = nI n) ∧
  (∀ i, i < nK K 2 → (∃ n : Nat, n < nK K 1 ∧ K 2 i = nI n) ∧ (∃ n : Nat, n ≤ 2 ∧ K 3 i = nI n) ∧ (K 4 i = -1 ∨ ∃ n : Nat, n < nK K 0 ∧ K 4 i = nI n)) ∧
  (∀ i, i < nK K 3 → (K 11 i = 1 ∨ K 11 i = 2) ∧ (∃ n : Nat, n ≤ 99 ∧ K 12 i = nI n) ∧ (∃ n : Nat, n < 32 ∧ K 13 i = nI n) ∧ (∃ n : Nat, n ≤ 2 ∧ K 14 i = nI n)) ∧
  (∀ i, i < nK K 4 → (∃ n : Nat, n ≤ 16 ∧ K 16 i = nI n) ∧ ∃ n : Nat, 1 ≤ n ∧ n ≤ 9 ∧ K 17 i = nI n) ∧
  (∀ i, i < nK K 5 → (∃ n : Nat, n < nK K 3 ∧ K 18 i = nI n) ∧ (K 19 i = 1 ∨ K 19 i = 2)) ∧
  (∃ n : Nat, n ≤ 9 ∧ K 20 0 = nI n) ∧ ∃ n : Nat, n ≤ 30000 ∧ K 20 1 = nI n
theorem WFK.n0 {K : Kt} (h : WFK K) : K 0 0 = nI (nK K 0) ∧ nK K 0 ≤ 5 := h.1 0 (by decide)
theorem WFK.n1 {K : Kt} (h : WFK K) : K 0 1 = nI (nK K 1) ∧ nK K 1 ≤ 6 := h.1 1 (by decide)
theorem WFK.n2 {K : Kt} (h : WFK K) : K 0 2 = nI (nK K 2) ∧ nK K 2 ≤ 8 := h.1 2 (by decide)
theorem WFK.n3 {K : Kt} (h : WFK K) : K 0 3 = nI (nK K 3) ∧ nK K 3 ≤ 6 := h.1 3 (by decide)
theorem WFK.n4 {K : Kt} (h : WFK K) : K 0 4 = nI (nK K 4) ∧ nK K 4 ≤ 6 := h.1 4 (by decide)
theorem WFK.n5 {K : Kt} (h : WFK K) : K 0 5 = nI (nK K 5) ∧ nK K 5 ≤ 10 := h.1 5 (by decide)
/-- the first of the counted that is so, or -1 -/
def fstB (P : Nat → Bool) : Nat → Nat → Int32
  | 0, _ => -1
  | d + 1, i => if P i = true then nI i else fstB P d (i + 1)
theorem fstB_congr {P Q : Nat → Bool} : ∀ (d i : Nat), (∀ j, i ≤ j → j < i + d → P j = Q j) → fstB P d i = fstB Q d i := by
  intro d
  induction d with
  | zero => intro i h; rfl
  | succ d ih =>
    intro i h
    rw [fstB, fstB, h i (Nat.le_refl _) (by omega), ih (i + 1) (fun j h1 h2 => h j (by omega) (by omega))]
theorem fstB_in {P : Nat → Bool} : ∀ (d i : Nat), fstB P d i = -1 ∨ ∃ j, i ≤ j ∧ j < i + d ∧ P j = true ∧ fstB P d i = nI j := by
  intro d
  induction d with
  | zero => intro i; exact Or.inl rfl
  | succ d ih =>
    intro i
    rw [fstB]
    by_cases h : P i = true
    · rw [if_pos h]; exact Or.inr ⟨i, Nat.le_refl _, by omega, h, rfl⟩
    · rw [if_neg h]
      rcases ih (i + 1) with e | ⟨j, h1, h2, h3, h4⟩
      · exact Or.inl e
      · exact Or.inr ⟨j, by omega, by omega, h3, h4⟩
theorem nI_ne_m1 {n : Nat} (h : n < 2 ^ 31) : ¬ nI n = -1 := by
  rw [i_eq, nI_toInt h]
  intro e
  rw [show (-1 : Int32).toInt = -1 from by decide] at e
  omega
def bearM (guilt smell flo fhi wlo whi g fed warm smells : Int32) : Bool :=
  decide (guilt = 0 ∨ guilt = g) && (!decide (fed < flo) && (!decide (fhi < fed) && (!decide (warm < wlo) && (!decide (whi < warm) && (decide (smell = -1) || inS smells smell)))))
theorem p_bearsOn (id : Nat) (g fed warm smells : Int32) (C : Mem) : f_X6_bearsOn id g fed warm smells C = some (bI (bearM (gI C id 1) (gI C id 2) (gI C id 4) (gI C id 5) (gI C id 7) (gI C id 8) g fed warm smells), C) := by
  have hJ : f_X6_bearsOn_J15 id fed warm smells C = some (bI (!decide (fed < gI C id 4) && (!decide (gI C id 5 < fed) && (!decide (warm < gI C id 7) && (!decide (gI C id 8 < warm) && (decide (gI C id 2 = -1) || inS smells (gI C id 2)))))), C) := by
    rw [f_X6_bearsOn_J15]
    by_cases h1 : fed < gI C id 4
    · rw [if_pos h1]; simp [h1, bI]
    rw [if_neg h1]
    by_cases h2 : gI C id 5 < fed
    · rw [if_pos h2]; simp [h2, bI]
    rw [if_neg h2]
    by_cases h3 : warm < gI C id 7
    · rw [if_pos h3]; simp [h3, bI]
    rw [if_neg h3]
    by_cases h4 : gI C id 8 < warm
    · rw [if_pos h4]; simp [h4, bI]
    rw [if_neg h4]
    by_cases h5 : gI C id 2 = -1
    · rw [if_pos h5]; simp [h1, h2, h3, h4, h5, bI]
    rw [if_neg h5]
    by_cases h6 : ((smells >>> ((gI C id 2) &&& 31)) &&& (1 : Int32)) = 0
    · rw [if_pos h6]; simp [h1, h2, h3, h4, h5, h6, inS, bI]
    rw [if_neg h6]; simp [h1, h2, h3, h4, h5, h6, inS, bI]
  rw [f_X6_bearsOn, hJ, bearM]
  by_cases h1 : gI C id 1 = 0
  · rw [if_pos h1]; simp [h1]
  rw [if_neg h1]
  by_cases h2 : gI C id 1 = g
  · rw [if_pos h2]; simp [h2]
  rw [if_neg h2]; simp [h1, h2, bI]
def bearK (K : Kt) (r : Nat) (g fed warm smells : Int32) : Bool := bearM (K 3 r) (K 4 r) (K 6 r) (K 7 r) (K 9 r) (K 10 r) g fed warm smells
def ruleK (K : Kt) (g fed warm smells : Int32) : Int32 := fstB (fun r => bearK K r g fed warm smells) (nK K 2) 0
/-- what is SHOWN, or -1 -/
def cueK (K : Kt) (g fed warm smells : Int32) : Int32 := if ruleK K g fed warm smells = -1 then -1 else K 2 (ruleK K g fed warm smells).toNatClampNeg
/-- what is SHOWN, or as many as there are CUES -/
def cueN (K : Kt) (g fed warm smells : Int32) : Int32 := if ruleK K g fed warm smells = -1 then K 0 1 else K 2 (ruleK K g fed warm smells).toNatClampNeg
theorem ruleK_in {K : Kt} {g fed warm smells : Int32} : ruleK K g fed warm smells = -1 ∨ ∃ j, j < nK K 2 ∧ bearK K j g fed warm smells = true ∧ ruleK K g fed warm smells = nI j := by
  rcases fstB_in (P := fun r => bearK K r g fed warm smells) (nK K 2) 0 with e | ⟨j, h1, h2, h3, h4⟩
  · exact Or.inl e
  · exact Or.inr ⟨j, by omega, h3, h4⟩
theorem IsC.bear {C : Mem} {c : Nat} {K : Kt} (h : IsC C c K) {i : Nat} (hi : i < nK K 2) (g fed warm smells : Int32) : f_X6_bearsOn (c + 4 + 1 + i) g fed warm smells C = some (bI (bearK K i g fed warm smells), C) := by
  have e := h.2.2.1 i hi
  rw [p_bearsOn, e 1 (by decide), e 2 (by decide), e 4 (by decide), e 5 (by decide), e 7 (by decide), e 8 (by decide)]
  rfl
theorem p_ruleFor {C : Mem} {c : Nat} {K : Kt} (hc : shC c = 0) (h : IsC C c K) (hw : WFK K) (g fed warm smells : Int32) : f_X0_ruleFor c g fed warm smells C = some (ruleK K g fed warm smells, C) := by
  have hn := hw.n2
  have key : ∀ d i fu, i + d = nK K 2 → d < fu → ∃ s : Nat × Int32, f_X0_ruleFor_L3 c g fed warm smells fu (nI i) C = some (s, C) ∧ (if s.1 = 0 then s.2 else -1) = fstB (fun r => bearK K r g fed warm smells) d i := by
    intro d
    induction d with
    | zero =>
      intro i fu h1 h2
      obtain ⟨fu, rfl⟩ : ∃ k, fu = k + 1 := ⟨fu - 1, by omega⟩
      have e : i = nK K 2 := by omega
      subst e
      refine ⟨(1, nI (nK K 2)), ?_, by simp [fstB]⟩
      rw [f_X0_ruleFor_L3, p_count2, bnd_some, h.1 2 (by decide), hn.1, if_pos (Int32.le_refl _)]
    | succ d ih =>
      intro i fu h1 h2
      obtain ⟨fu, rfl⟩ : ∃ k, fu = k + 1 := ⟨fu - 1, by omega⟩
      have hi : i < nK K 2 := by omega
      have hi8 : i < 8 := by omega
      rw [f_X0_ruleFor_L3, p_count2, bnd_some, h.1 2 (by decide), hn.1, if_neg (nI_ge hi (by omega)), p_ruleAt hi8, bnd_some, if_neg (by rw [shC_rule hc hi8]; decide), h.bear hi, bnd_some, fstB]
      cases hb : bearK K i g fed warm smells with
      | false =>
        obtain ⟨s, e1, e2⟩ := ih (i + 1) fu (by omega) (by omega)
        refine ⟨s, ?_, ?_⟩
        · rw [bI_f, if_pos rfl]
          rw [← nI_1] at e1
          exact e1
        · rw [e2, if_neg (by decide)]
      | true => exact ⟨(0, nI i), by rw [bI_t, if_neg (by decide)], by simp⟩
  obtain ⟨s, e1, e2⟩ := key (nK K 2) 0 fz (by omega) (by rw [fz_is]; omega)
  rw [f_X0_ruleFor, show (0 : Int32) = nI 0 from rfl, e1, bnd_some, ruleK, ← e2]
  by_cases hs : s.1 = 0
  · rw [if_pos hs, if_pos hs]
  · rw [if_neg hs, if_neg hs]
theorem p_cueFor {C : Mem} {c : Nat} {K : Kt} (hc : shC c = 0) (h : IsC C c K) (hw : WFK K) (g fed warm smells : Int32) : f_X0_cueFor c g fed warm smells C = some (cueN K g fed warm smells, C) := by
  rw [f_X0_cueFor, p_ruleFor hc h hw, bnd_some, cueN]
  have hn := hw.n2
  rcases ruleK_in (K := K) (g := g) (fed := fed) (warm := warm) (smells := smells) with e | ⟨j, h1, -, e⟩
  · rw [e, if_pos rfl, p_count1, bnd_some, h.1 1 (by decide), if_pos rfl]
  · rw [e, if_neg (nI_ne_m1 (by omega)), p_ruleAt (by omega), bnd_some, if_neg (by rw [shC_rule hc (by omega)]; decide), if_neg (nI_ne_m1 (by omega)), nI_clamp (by omega)]
    rw [h.2.2.1 j h1 0 (by decide)]
def pcueN (K : Kt) (p : Nat) (warm : Int32) : Int32 := cueN K (K 11 p) (K 12 p) warm (K 13 p)
def pcueK (K : Kt) (p : Nat) (warm : Int32) : Int32 := cueK K (K 11 p) (K 12 p) warm (K 13 p)
theorem p_cueBefore {C : Mem} {c : Nat} {K : Kt} (hc : shC c = 0) (h : IsC C c K) (hw : WFK K) {p : Nat} (hp : p < nK K 3) (warm : Int32) : f_X0_cueBefore c (nI p) warm C = some (pcueN K p warm, C) := by
  have hn := hw.n2
  have hn3 := hw.n3
  have e := h.2.2.2.1 p hp
  rw [f_X0_cueBefore, p_personAt (by omega), bnd_some, if_neg (by rw [shC_per hc (by omega)]; decide), e 0 (by decide), e 1 (by decide), e 2 (by decide), p_ruleFor hc h hw, bnd_some, pcueN, cueN]
  rcases ruleK_in (K := K) (g := K (11 + 0) p) (fed := K (11 + 1) p) (warm := warm) (smells := K (11 + 2) p) with e | ⟨j, h1, -, e⟩
  · rw [e, if_pos rfl, p_count1, bnd_some, h.1 1 (by decide), if_pos rfl]
  · rw [e, if_neg (nI_ne_m1 (by omega)), p_ruleAt (by omega), bnd_some, if_neg (by rw [shC_rule hc (by omega)]; decide), if_neg (nI_ne_m1 (by omega)), nI_clamp (by omega)]
    rw [h.2.2.1 j h1 0 (by decide)]
/-- the reference's rows -/
theorem r_rd {e : Int32} {j : Nat} (he : e = nI j) (hj : j < 3548) : ¬ (e < 0 ∨ 3548 ≤ e.toNatClampNeg) ∧ e.toNatClampNeg = j := by
  subst he
  exact ⟨nI_in hj (by decide), nI_clamp (by omega)⟩
theorem r_ruleOf {r f : Nat} (hr : r < 100) (hf : f < 7) (R : Mem) : f_X12_ruleOf (nI r) (nI f) R = some (gI R 1 (16 + 7 * r + f), R) := by
  have he : (16 : Int32) + (7 : Int32) * nI r + nI f = nI (16 + 7 * r + f) := by rw [litI, litI, pk_mul, nI_add, nI_add]
  obtain ⟨h1, h2⟩ := r_rd he (by omega)
  rw [f_X12_ruleOf, f_X12_ruleRow, bnd_some, if_neg h1, h2]
theorem r_personOf {r f : Nat} (hr : r < 100) (hf : f < 7) (R : Mem) : f_X12_personOf (nI r) (nI f) R = some (gI R 1 (72 + 5 * r + f), R) := by
  have he : (72 : Int32) + (5 : Int32) * nI r + nI f = nI (72 + 5 * r + f) := by rw [litI, litI, pk_mul, nI_add, nI_add]
  obtain ⟨h1, h2⟩ := r_rd he (by omega)
  rw [f_X12_personOf, f_X12_personRow, bnd_some, if_neg h1, h2]
theorem and1 (x : Int32) : x &&& 1 = 0 ∨ x &&& 1 = 1 := by
  obtain ⟨j, hj, e⟩ := pk_andE x (m := 1) 1 (by decide)
  rcases (show j = 0 ∨ j = 1 by omega) with rfl | rfl
  · exact Or.inl e
  · exact Or.inr e
theorem r_isIn (s k : Int32) (R : Mem) : f_X12_isIn s k R = some (bI (inS s k), R) := by
  rw [f_X12_isIn, inS]
  rcases and1 (s >>> (k &&& 31)) with h | h
  · rw [if_neg (by rw [h]; decide)]; simp [h, bI]
  · rw [if_pos h]; simp [h, bI]
/-- COMPARES by sign and number are so just where the value lies from low to high -/
theorem r_isSo {most : Nat} (hm : most ≤ 99) {sign num number low high v : Int32} {x : Nat} (hx : x ≤ most) (hv : v = nI x) (h : cmpR most sign num number low high) (R : Mem) : f_X12_isSo sign v num R = some (bI (!decide (v < low) && !decide (high < v)), R) := by
  subst hv
  rcases h with ⟨h1, -, h2, h3⟩ | ⟨n, hn, e1, -, ⟨h1, h2, h3⟩ | ⟨h1, h2, h3⟩ | ⟨h1, h2, h3⟩⟩
  · rw [f_X12_isSo, if_pos h1, h2, h3]
    simp [nI_pos (show x < 2 ^ 31 by omega), nI_nlt hx (show most < 2 ^ 31 by omega), bI]
  · rw [f_X12_isSo, h1, h2, h3, e1, if_neg (by decide), if_pos rfl]
    by_cases hc : nI n ≤ nI x
    · rw [if_pos hc]
      have : nI n - 1 < nI x := by
        have := (nI_leI (a := n) (b := x) (by omega) (by omega)).mp hc
        rw [show (1 : Int32) = nI 1 from rfl]
        rcases Nat.eq_zero_or_pos n with rfl | hp
        · rw [i_lt, nI_toInt (by omega)]
          rw [show (nI 0 - nI 1).toInt = -1 from by decide]
          omega
        · rw [pk_sub (by omega), nI_ltI (by omega) (by omega)]; omega
      simp [this, bI]
    · rw [if_neg hc]
      have h5 : ¬ nI n - 1 < nI x := by
        have := mt (nI_leI (a := n) (b := x) (by omega) (by omega)).mpr hc
        rw [show (1 : Int32) = nI 1 from rfl, pk_sub (by omega), nI_ltI (by omega) (by omega)]; omega
      simp [h5, nI_pos (show x < 2 ^ 31 by omega), bI]
  · rw [f_X12_isSo, h1, h2, h3, e1, if_neg (by decide), if_neg (by decide), if_pos rfl]
    have h6 : ¬ nI most < nI x := nI_nlt hx (by omega)
    by_cases hc : nI x ≤ nI n
    · rw [if_pos hc]
      have : nI x < nI n + 1 := by
        have := (nI_leI (a := x) (b := n) (by omega) (by omega)).mp hc
        rw [nI_1, nI_ltI (by omega) (by omega)]; omega
      simp [this, bI]
    · rw [if_neg hc]
      have : ¬ nI x < nI n + 1 := by
        have := mt (nI_leI (a := x) (b := n) (by omega) (by omega)).mpr hc
        rw [nI_1, nI_ltI (by omega) (by omega)]; omega
      simp [this, h6, bI]
  · rw [f_X12_isSo, h1, h2, h3, e1, if_neg (by decide), if_neg (by decide), if_neg (by decide)]
    by_cases hc : nI x = nI n
    · rw [if_pos hc, hc]
      simp [Int32.lt_irrefl, bI]
    · rw [if_neg hc]
      have := mt (nI_eq (a := x) (b := n) (by omega) (by omega)).mpr hc
      rcases Nat.lt_or_ge x n with h7 | h7
      · simp [nI_lt h7 (show n < 2 ^ 31 by omega), bI]
      · simp [nI_lt (show n < x by omega) (show x < 2 ^ 31 by omega), bI]
theorem bI_and (a b : Bool) {R : Mem} {β : Type} (x y : Rs β) : (if bI a = 0 then x else y) = if a = true then y else x := by cases a <;> rfl
