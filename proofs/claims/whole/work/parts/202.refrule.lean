/-! the reference's rules, cues, senses -/
theorem IsR.rule {R : Mem} {K : Kt} (h : IsR R 0 K) {i : Nat} (hi : i < nK K 2) :
    gI R 1 (16 + 7 * i + 0) = K 2 i ∧ gI R 1 (16 + 7 * i + 1) = K 3 i ∧ gI R 1 (16 + 7 * i + 6) = K 4 i ∧
    cmpR 99 (gI R 1 (16 + 7 * i + 2)) (gI R 1 (16 + 7 * i + 3)) (K 5 i) (K 6 i) (K 7 i) ∧ cmpR 9 (gI R 1 (16 + 7 * i + 4)) (gI R 1 (16 + 7 * i + 5)) (K 8 i) (K 9 i) (K 10 i) := by
  have := h.2.2.1 i hi
  simpa only [Nat.zero_add, Nat.add_zero] using this
theorem IsR.per {R : Mem} {K : Kt} (h : IsR R 0 K) {i : Nat} (hi : i < nK K 3) :
    gI R 1 (72 + 5 * i + 0) = K 12 i ∧ gI R 1 (72 + 5 * i + 1) = K 13 i ∧ gI R 1 (72 + 5 * i + 2) = K 14 i ∧ gI R 1 (72 + 5 * i + 3) = 2 - K 11 i ∧ gI R 1 (72 + 5 * i + 4) = K 15 i := by
  have := h.2.2.2.1 i hi
  simpa only [Nat.zero_add, Nat.add_zero] using this
theorem IsR.cnt {R : Mem} {K : Kt} (h : IsR R 0 K) {k : Nat} (hk : k < 6) : gI R 1 k = K 0 k := by
  have := h.1 k hk
  simpa only [Nat.zero_add] using this
theorem IsR.warm {R : Mem} {K : Kt} (h : IsR R 0 K) : gI R 1 6 = K 20 0 := by
  have := h.2.2.2.2.2.2.1
  simpa only [Nat.zero_add] using this
theorem IsR.sat {R : Mem} {K : Kt} (h : IsR R 0 K) : gI R 1 7 = K 20 1 := by
  have := h.2.2.2.2.2.2.2
  simpa only [Nat.zero_add] using this
theorem IsR.sense {R : Mem} {K : Kt} (h : IsR R 0 K) {i : Nat} (hi : i < nK K 1) : gI R 1 (10 + i) = K 1 i := by
  have := h.2.1 i hi
  simpa only [Nat.zero_add] using this
theorem IsR.read {R : Mem} {K : Kt} (h : IsR R 0 K) {i : Nat} (hi : i < nK K 4) : gI R 1 (102 + 2 * i) = K 16 i ∧ gI R 1 (102 + 2 * i + 1) = K 17 i := by
  have := h.2.2.2.2.1 i hi
  simpa only [Nat.zero_add] using this
theorem IsR.word {R : Mem} {K : Kt} (h : IsR R 0 K) {i : Nat} (hi : i < nK K 5) : gI R 1 (114 + 2 * i) = K 18 i ∧ gI R 1 (114 + 2 * i + 1) = K 19 i := by
  have := h.2.2.2.2.2.1 i hi
  simpa only [Nat.zero_add] using this
theorem r_ruleOf0 {r : Nat} (hr : r < 100) (R : Mem) : f_X12_ruleOf (nI r) 0 R = some (gI R 1 (16 + 7 * r + 0), R) := r_ruleOf (f := 0) hr (by decide) R
theorem r_ruleOf1 {r : Nat} (hr : r < 100) (R : Mem) : f_X12_ruleOf (nI r) 1 R = some (gI R 1 (16 + 7 * r + 1), R) := r_ruleOf (f := 1) hr (by decide) R
theorem r_ruleOf2 {r : Nat} (hr : r < 100) (R : Mem) : f_X12_ruleOf (nI r) 2 R = some (gI R 1 (16 + 7 * r + 2), R) := r_ruleOf (f := 2) hr (by decide) R
theorem r_ruleOf3 {r : Nat} (hr : r < 100) (R : Mem) : f_X12_ruleOf (nI r) 3 R = some (gI R 1 (16 + 7 * r + 3), R) := r_ruleOf (f := 3) hr (by decide) R
theorem r_ruleOf4 {r : Nat} (hr : r < 100) (R : Mem) : f_X12_ruleOf (nI r) 4 R = some (gI R 1 (16 + 7 * r + 4), R) := r_ruleOf (f := 4) hr (by decide) R
theorem r_ruleOf5 {r : Nat} (hr : r < 100) (R : Mem) : f_X12_ruleOf (nI r) 5 R = some (gI R 1 (16 + 7 * r + 5), R) := r_ruleOf (f := 5) hr (by decide) R
theorem r_ruleOf6 {r : Nat} (hr : r < 100) (R : Mem) : f_X12_ruleOf (nI r) 6 R = some (gI R 1 (16 + 7 * r + 6), R) := r_ruleOf (f := 6) hr (by decide) R
theorem r_personOf0 {r : Nat} (hr : r < 100) (R : Mem) : f_X12_personOf (nI r) 0 R = some (gI R 1 (72 + 5 * r + 0), R) := r_personOf (f := 0) hr (by decide) R
theorem r_personOf1 {r : Nat} (hr : r < 100) (R : Mem) : f_X12_personOf (nI r) 1 R = some (gI R 1 (72 + 5 * r + 1), R) := r_personOf (f := 1) hr (by decide) R
theorem r_personOf2 {r : Nat} (hr : r < 100) (R : Mem) : f_X12_personOf (nI r) 2 R = some (gI R 1 (72 + 5 * r + 2), R) := r_personOf (f := 2) hr (by decide) R
theorem r_personOf3 {r : Nat} (hr : r < 100) (R : Mem) : f_X12_personOf (nI r) 3 R = some (gI R 1 (72 + 5 * r + 3), R) := r_personOf (f := 3) hr (by decide) R
theorem r_personOf4 {r : Nat} (hr : r < 100) (R : Mem) : f_X12_personOf (nI r) 4 R = some (gI R 1 (72 + 5 * r + 4), R) := r_personOf (f := 4) hr (by decide) R
theorem r_doesBear {R : Mem} {K : Kt} (h : IsR R 0 K) (hw : WFK K) {i : Nat} (hi : i < nK K 2) {gy fed warm smells : Int32} {f w : Nat} (hf : fed = nI f) (hf2 : f ≤ 99) (hwm : warm = nI w) (hw2 : w ≤ 9) :
    f_X12_doesBear (nI i) gy fed warm smells R = some (bI (bearK K i (2 - gy) fed warm smells), R) := by
  have hn := hw.n2
  obtain ⟨e0, e1, e6, c1, c2⟩ := h.rule hi
  have hi1 : i < 100 := by omega
  have hJ : f_X12_doesBear_J51 (nI i) fed warm R = some (bI (!decide (fed < K 6 i) && (!decide (K 7 i < fed) && (!decide (warm < K 9 i) && !decide (K 10 i < warm)))), R) := by
    rw [f_X12_doesBear_J51, r_ruleOf2 hi1, bnd_some, r_ruleOf3 hi1, bnd_some, r_isSo (by decide) hf2 hf c1, bnd_some, bI_and _ true (R := R), r_ruleOf4 hi1, bnd_some, r_ruleOf5 hi1, bnd_some, r_isSo (by decide) hw2 hwm c2, bnd_some, bI_and _ true (R := R)]
    cases decide (fed < K 6 i) <;> cases decide (K 7 i < fed) <;> cases decide (warm < K 9 i) <;> cases decide (K 10 i < warm) <;> rfl
  have hJ2 : f_X12_doesBear_J32 (nI i) fed warm smells (K 4 i) R = some (bI (!decide (fed < K 6 i) && (!decide (K 7 i < fed) && (!decide (warm < K 9 i) && (!decide (K 10 i < warm) && (decide (K 4 i = -1) || inS smells (K 4 i)))))), R) := by
    rw [f_X12_doesBear_J32, r_isIn, bnd_some, hJ]
    by_cases h5 : K 4 i = -1
    · rw [if_pos h5]
      simp [h5]
    · rw [if_neg h5, bI_and _ true (R := R)]
      cases inS smells (K 4 i) <;> simp [h5, bI]
  rw [f_X12_doesBear, r_ruleOf1 hi1, bnd_some, r_ruleOf6 hi1, bnd_some, e1, e6, hJ2, bearK, bearM]
  by_cases h1 : K 3 i = 0
  · rw [if_pos h1]; simp [h1]
  rw [if_neg h1]
  by_cases h2 : K 3 i = 2 - gy
  · rw [if_pos h2]; simp [h2]
  rw [if_neg h2]; simp [h1, h2, bI]
theorem r_firstOf {R : Mem} {K : Kt} (h : IsR R 0 K) (hw : WFK K) {gy fed warm smells : Int32} {f w : Nat} (hf : fed = nI f) (hf2 : f ≤ 99) (hwm : warm = nI w) (hw2 : w ≤ 9) : f_X12_firstOf gy fed warm smells R = some (ruleK K (2 - gy) fed warm smells, R) := by
  have hn := hw.n2
  have key : ∀ d i fu, i + d = nK K 2 → d < fu → ∃ s : Nat × Int32, f_X12_firstOf_L3 gy fed warm smells fu (nI i) R = some (s, R) ∧ (if s.1 = 0 then s.2 else -1) = fstB (fun r => bearK K r (2 - gy) fed warm smells) d i := by
    intro d
    induction d with
    | zero =>
      intro i fu h1 h2
      obtain ⟨fu, rfl⟩ : ∃ k, fu = k + 1 := ⟨fu - 1, by omega⟩
      have e : i = nK K 2 := by omega
      subst e
      refine ⟨(1, nI (nK K 2)), ?_, by simp [fstB]⟩
      rw [f_X12_firstOf_L3, h.cnt (by decide), hn.1, if_pos (Int32.le_refl _)]
    | succ d ih =>
      intro i fu h1 h2
      obtain ⟨fu, rfl⟩ : ∃ k, fu = k + 1 := ⟨fu - 1, by omega⟩
      have hi : i < nK K 2 := by omega
      rw [f_X12_firstOf_L3, h.cnt (by decide), hn.1, if_neg (nI_ge hi (by omega)), r_doesBear h hw hi hf hf2 hwm hw2, bnd_some, fstB]
      cases hb : bearK K i (2 - gy) fed warm smells with
      | false =>
        obtain ⟨s, e1, e2⟩ := ih (i + 1) fu (by omega) (by omega)
        refine ⟨s, ?_, ?_⟩
        · rw [bI_f, if_pos rfl]
          rw [← nI_1] at e1
          exact e1
        · rw [e2, if_neg (by decide)]
      | true => exact ⟨(0, nI i), by rw [bI_t, if_neg (by decide)], by simp⟩
  obtain ⟨s, e1, e2⟩ := key (nK K 2) 0 fz (by omega) (by rw [fz_is]; omega)
  rw [f_X12_firstOf, show (0 : Int32) = nI 0 from rfl, e1, bnd_some, ruleK, ← e2]
  by_cases hs : s.1 = 0
  · rw [if_pos hs, if_pos hs]
  · rw [if_neg hs, if_neg hs]
theorem r_cueOf {R : Mem} {K : Kt} (h : IsR R 0 K) (hw : WFK K) {gy fed warm smells : Int32} {f w : Nat} (hf : fed = nI f) (hf2 : f ≤ 99) (hwm : warm = nI w) (hw2 : w ≤ 9) : f_X12_cueOf gy fed warm smells R = some (cueK K (2 - gy) fed warm smells, R) := by
  have hn := hw.n2
  rw [f_X12_cueOf, r_firstOf h hw hf hf2 hwm hw2, bnd_some, cueK]
  rcases ruleK_in (K := K) (g := 2 - gy) (fed := fed) (warm := warm) (smells := smells) with e | ⟨j, h1, -, e⟩
  · rw [e, if_pos rfl, if_pos rfl]
  · rw [e, if_neg (nI_ne_m1 (by omega)), r_ruleOf0 (by omega), bnd_some, if_neg (nI_ne_m1 (by omega)), nI_clamp (by omega), (h.rule h1).1]
theorem two_sub {x : Int32} (h : x = 1 ∨ x = 2) : 2 - (2 - x) = x := by rcases h with rfl | rfl <;> decide
theorem r_pruleFor {R : Mem} {K : Kt} (h : IsR R 0 K) (hw : WFK K) {p : Nat} (hp : p < nK K 3) {warm : Int32} {w : Nat} (hwm : warm = nI w) (hw2 : w ≤ 9) : f_X12_ruleFor (nI p) warm R = some (ruleK K (K 11 p) (K 12 p) warm (K 13 p), R) := by
  have hn := hw.n3
  obtain ⟨e0, e1, e2, e3, e4⟩ := h.per hp
  obtain ⟨hg, ⟨f, hf, hf2⟩, -⟩ := hw.2.2.2.1 p hp
  rw [f_X12_ruleFor, r_personOf3 (by omega), bnd_some, r_personOf0 (by omega), bnd_some, r_personOf1 (by omega), bnd_some, e0, e1, e3, r_firstOf h hw hf2 hf hwm hw2, bnd_some, two_sub hg]
theorem r_pcueFor {R : Mem} {K : Kt} (h : IsR R 0 K) (hw : WFK K) {p : Nat} (hp : p < nK K 3) {warm : Int32} {w : Nat} (hwm : warm = nI w) (hw2 : w ≤ 9) : f_X12_cueFor (nI p) warm R = some (pcueK K p warm, R) := by
  have hn := hw.n2
  rw [f_X12_cueFor, r_pruleFor h hw hp hwm hw2, bnd_some, pcueK, cueK]
  rcases ruleK_in (K := K) (g := K 11 p) (fed := K 12 p) (warm := warm) (smells := K 13 p) with e | ⟨j, h1, -, e⟩
  · rw [e, if_pos rfl, if_pos rfl]
  · rw [e, if_neg (nI_ne_m1 (by omega)), r_ruleOf0 (by omega), bnd_some, if_neg (nI_ne_m1 (by omega)), nI_clamp (by omega), (h.rule h1).1]
/-- a CUE, and what it means: 0 for none -/
theorem cueK_in {K : Kt} (hw : WFK K) (g fed warm smells : Int32) : cueK K g fed warm smells = -1 ∨ ∃ j, j < nK K 1 ∧ cueK K g fed warm smells = nI j := by
  rw [cueK]
  rcases ruleK_in (K := K) (g := g) (fed := fed) (warm := warm) (smells := smells) with e | ⟨j, h1, -, e⟩
  · rw [e, if_pos rfl]; exact Or.inl rfl
  · obtain ⟨⟨n, hn, h2⟩, -⟩ := hw.2.2.1 j h1
    have := hw.n2
    rw [e, if_neg (nI_ne_m1 (by omega)), nI_clamp (by omega), h2]
    exact Or.inr ⟨n, hn, rfl⟩
theorem cueN_K {K : Kt} (hw : WFK K) (g fed warm smells : Int32) : cueN K g fed warm smells = if cueK K g fed warm smells = -1 then K 0 1 else cueK K g fed warm smells := by
  rw [cueN, cueK]
  rcases ruleK_in (K := K) (g := g) (fed := fed) (warm := warm) (smells := smells) with e | ⟨j, h1, -, e⟩
  · rw [e, if_pos rfl, if_pos rfl, if_pos rfl]
  · obtain ⟨⟨n, hn, h2⟩, -⟩ := hw.2.2.1 j h1
    have := hw.n2
    have := hw.n1
    rw [e, if_neg (nI_ne_m1 (by omega)), if_neg (nI_ne_m1 (by omega)), nI_clamp (by omega), h2, if_neg (nI_ne_m1 (by omega))]
def meanK (K : Kt) (c : Int32) : Int32 := if c = -1 then 0 else K 1 c.toNatClampNeg
def psenseK (K : Kt) (p : Nat) (warm : Int32) : Int32 := meanK K (pcueK K p warm)
theorem psenseK_in {K : Kt} (hw : WFK K) (p : Nat) (warm : Int32) : ∃ n : Nat, n ≤ 2 ∧ psenseK K p warm = nI n := by
  rw [psenseK, meanK, pcueK]
  rcases cueK_in hw (K 11 p) (K 12 p) warm (K 13 p) with e | ⟨j, h1, e⟩
  · rw [e, if_pos rfl]; exact ⟨0, by decide, rfl⟩
  · have := hw.n1
    rw [e, if_neg (nI_ne_m1 (by omega)), nI_clamp (by omega)]
    exact hw.2.1 j h1
theorem r_senseFor {R : Mem} {K : Kt} (h : IsR R 0 K) (hw : WFK K) {p : Nat} (hp : p < nK K 3) {warm : Int32} {w : Nat} (hwm : warm = nI w) (hw2 : w ≤ 9) : f_X12_senseFor (nI p) warm R = some (psenseK K p warm, R) := by
  rw [f_X12_senseFor, r_pcueFor h hw hp hwm hw2, bnd_some, psenseK, meanK]
  rcases cueK_in hw (K 11 p) (K 12 p) warm (K 13 p) with e | ⟨j, h1, e⟩
  · rw [pcueK, e, if_pos rfl, if_pos rfl]
  · have := hw.n1
    obtain ⟨q1, q2⟩ := r_rd (e := 10 + nI j) (j := 10 + j) (by rw [litI, nI_add]) (by omega)
    rw [pcueK, e, if_neg (nI_ne_m1 (by omega)), if_neg (nI_ne_m1 (by omega)), if_neg q1, q2, nI_clamp (by omega), h.sense h1]
/-- the class's sense of a cue, and before a person -/
theorem alC_senses {c : Nat} (hc : shC c = 0) : alC (c + 3) = 6 := (kC_0_2 hc).2
theorem p_senseOf {C : Mem} {c : Nat} {K : Kt} (hc : shC c = 0) (h : IsC C c K) (hw : WFK K) {j : Nat} (hj : j < nK K 1) : f_X0_senseOf c (nI j) C = some (K 1 j, C) := by
  have hn := hw.n1
  have e := p_has (c := c) (k := 1) (n := nK K 1) (by decide) (M := C) ((h.1 1 (by decide)).trans hn.1) (by omega) (nI j)
  rw [show (nI 1 : Int32) = 1 from rfl, nI_toInt (by omega), show decide (0 ≤ (j : Int) ∧ (j : Int) < (nK K 1 : Int)) = true from decide_eq_true ⟨by omega, by omega⟩] at e
  rw [f_X0_senseOf, e, bnd_some, bI_t, if_neg (by decide), p_cell (alC_senses hc) (by omega) (by omega), bnd_some, h.2.1 j hj]
theorem p_senseOfN {C : Mem} {c : Nat} {K : Kt} (h : IsC C c K) (hw : WFK K) : f_X0_senseOf c (K 0 1) C = some (0, C) := by
  have hn := hw.n1
  have e := p_has (c := c) (k := 1) (n := nK K 1) (by decide) (M := C) ((h.1 1 (by decide)).trans hn.1) (by omega) (K 0 1)
  rw [show (nI 1 : Int32) = 1 from rfl, hn.1, nI_toInt (by omega), show decide (0 ≤ (nK K 1 : Int) ∧ (nK K 1 : Int) < (nK K 1 : Int)) = false from decide_eq_false (fun z => by omega)] at e
  rw [f_X0_senseOf, hn.1, e, bnd_some, bI_f, if_pos rfl]
theorem p_senseBefore {C : Mem} {c : Nat} {K : Kt} (hc : shC c = 0) (h : IsC C c K) (hw : WFK K) {p : Nat} (hp : p < nK K 3) (warm : Int32) : f_X0_senseBefore c (nI p) warm C = some (psenseK K p warm, C) := by
  rw [f_X0_senseBefore, p_cueBefore hc h hw hp, bnd_some, pcueN, cueN_K hw, psenseK, meanK, pcueK]
  have := hw.n1
  rcases cueK_in hw (K 11 p) (K 12 p) warm (K 13 p) with e | ⟨j, h1, e⟩
  · rw [e, if_pos rfl, if_pos rfl, p_senseOfN h hw, bnd_some]
  · rw [e, if_neg (nI_ne_m1 (by omega)), if_neg (nI_ne_m1 (by omega)), p_senseOf hc h hw h1, bnd_some, nI_clamp (by omega)]
