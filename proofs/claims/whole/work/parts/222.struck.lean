/-! STRUCK: the reference tries all sets -/
def cfP (K : Kt) (x : Int32) (a b : Nat) : Prop := inS x (nI a) = true ∧ inS x (nI b) = true ∧ K 18 a = K 18 b ∧ ¬ K 19 a = K 19 b
theorem r_unlike1 {R : Mem} {K : Kt} (hR : IsR R 0 K) (hw : WFK K) (x : Int32) {a : Nat} (ha : a < nK K 5) : ∀ d i fu, i + d = nK K 5 → d < fu → ∃ s : Nat, f_X12_areUnlike_L16 x (nI a) fu (nI i) R = some (s, R) ∧ (s = 0 ↔ ∃ b, i ≤ b ∧ b < nK K 5 ∧ cfP K x a b) := by
  have hn := hw.n5
  intro d
  induction d with
  | zero =>
    intro i fu h1 h2
    obtain ⟨fu, rfl⟩ : ∃ k, fu = k + 1 := ⟨fu - 1, by omega⟩
    refine ⟨1, ?_, fun z => (by omega), fun ⟨b, b1, b2, _⟩ => (by omega)⟩
    rw [f_X12_areUnlike_L16, hR.cnt (by decide), hn.1, if_pos (nI_le (by omega) (by omega))]
  | succ d ih =>
    intro i fu h1 h2
    obtain ⟨fu, rfl⟩ : ∃ k, fu = k + 1 := ⟨fu - 1, by omega⟩
    have hi : i < nK K 5 := by omega
    obtain ⟨s, e1, e2⟩ := ih (i + 1) fu (by omega) (by omega)
    have skip : ¬ cfP K x a i → ∃ s : Nat, f_X12_areUnlike_L16 x (nI a) fu (nI (i + 1)) R = some (s, R) ∧ (s = 0 ↔ ∃ b, i ≤ b ∧ b < nK K 5 ∧ cfP K x a b) := by
      intro hc
      refine ⟨s, e1, e2.trans ⟨fun ⟨b, b1, b2, b3⟩ => ⟨b, by omega, b2, b3⟩, fun ⟨b, b1, b2, b3⟩ => ?_⟩⟩
      by_cases z : b = i
      · rw [z] at b3; exact absurd b3 hc
      · exact ⟨b, by omega, b2, b3⟩
    rw [f_X12_areUnlike_L16, hR.cnt (by decide), hn.1, if_neg (nI_ge hi (by omega)), r_isIn, bnd_some, r_isIn, bnd_some]
    cases z1 : inS x (nI a) with
    | false =>
      rw [bI_f, if_pos i00, letF, nI_s]
      exact skip (fun q => by rw [q.1] at z1; cases z1)
    | true =>
      cases z2 : inS x (nI i) with
      | false =>
        rw [bI_t, if_neg i10, bI_f, if_pos i00, letF, nI_s]
        exact skip (fun q => by rw [q.2.1] at z2; cases z2)
      | true =>
        rw [bI_t, if_neg i10, if_neg i10, (r_wordOf hR ha (by omega)).1, bnd_some, (r_wordOf hR hi (by omega)).1, bnd_some]
        by_cases z3 : K 18 a = K 18 i
        · rw [if_pos z3, (r_wordOf hR ha (by omega)).2, bnd_some, (r_wordOf hR hi (by omega)).2, bnd_some]
          by_cases z4 : K 19 a = K 19 i
          · rw [if_pos z4, letF, nI_s]
            exact skip (fun q => q.2.2.2 z4)
          · rw [if_neg z4]
            exact ⟨0, rfl, fun _ => ⟨i, Nat.le_refl _, hi, z1, z2, z3, z4⟩, fun _ => rfl⟩
        · rw [if_neg z3, letF, nI_s]
          exact skip (fun q => z3 q.2.2.1)
theorem r_unlike2 {R : Mem} {K : Kt} (hR : IsR R 0 K) (hw : WFK K) (x : Int32) : ∀ d i fu, i + d = nK K 5 → d < fu → ∃ s : Nat, f_X12_areUnlike_L2 x fu (nI i) R = some (s, R) ∧ (s = 0 ↔ ∃ a b, i ≤ a ∧ a < b ∧ b < nK K 5 ∧ cfP K x a b) := by
  have hn := hw.n5
  intro d
  induction d with
  | zero =>
    intro i fu h1 h2
    obtain ⟨fu, rfl⟩ : ∃ k, fu = k + 1 := ⟨fu - 1, by omega⟩
    refine ⟨1, ?_, fun z => (by omega), fun ⟨a, b, b1, b2, b3, _⟩ => (by omega)⟩
    rw [f_X12_areUnlike_L2, hR.cnt (by decide), hn.1, if_pos (nI_le (by omega) (by omega))]
  | succ d ih =>
    intro i fu h1 h2
    obtain ⟨fu, rfl⟩ : ∃ k, fu = k + 1 := ⟨fu - 1, by omega⟩
    have hi : i < nK K 5 := by omega
    obtain ⟨s, e1, e2⟩ := ih (i + 1) fu (by omega) (by omega)
    obtain ⟨t, f1, f2⟩ := r_unlike1 hR hw x hi (nK K 5 - (i + 1)) (i + 1) fz (by omega) (by rw [fz_is]; omega)
    rw [f_X12_areUnlike_L2, hR.cnt (by decide), hn.1, if_neg (nI_ge hi (by omega)), letF, nI_s, f1, bnd_some]
    by_cases z : t = 0
    · rw [if_pos z]
      obtain ⟨b, b1, b2, b3⟩ := f2.mp z
      exact ⟨0, rfl, fun _ => ⟨i, b, Nat.le_refl _, by omega, b2, b3⟩, fun _ => rfl⟩
    · rw [if_neg z, letF]
      refine ⟨s, e1, e2.trans ⟨fun ⟨a, b, b1, b2, b3, b4⟩ => ⟨a, b, by omega, b2, b3, b4⟩, fun ⟨a, b, b1, b2, b3, b4⟩ => ?_⟩⟩
      by_cases q : a = i
      · subst q
        exact absurd (f2.mpr ⟨b, by omega, b3, b4⟩) z
      · exact ⟨a, b, by omega, b2, b3, b4⟩
theorem r_areUnlike {R : Mem} {K : Kt} (hR : IsR R 0 K) (hw : WFK K) (x : Int32) : ∃ r : Int32, f_X12_areUnlike x R = some (r, R) ∧ (r = 0 ↔ ¬ ∃ a b, a < b ∧ b < nK K 5 ∧ cfP K x a b) := by
  obtain ⟨s, e1, e2⟩ := r_unlike2 hR hw x (nK K 5) 0 fz (by omega) (by have := hw.n5; rw [fz_is]; omega)
  have e1' : f_X12_areUnlike_L2 x fz 0 R = some (s, R) := e1
  rw [f_X12_areUnlike, e1', bnd_some]
  by_cases z : s = 0
  · rw [if_pos z]
    obtain ⟨a, b, -, h⟩ := e2.mp z
    exact ⟨1, rfl, fun q => absurd q i10, fun q => absurd ⟨a, b, h⟩ q⟩
  · rw [if_neg z]
    exact ⟨0, rfl, fun _ ⟨a, b, h⟩ => z (e2.mpr ⟨a, b, Nat.zero_le _, h⟩), fun _ => rfl⟩
/-- one set tried -/
theorem cl_sub {K : Kt} (hn : nK K 5 ≤ 10) {s : Nat} (hs : s < 2 ^ nK K 5) : (setB (clP K) (nK K 5) &&& (nI s ^^^ (-1 : Int32))) = 0 ↔ ∀ w, w < nK K 5 → clP K w = true → s.testBit w = true := by
  have h10 := pow_le10 hn
  rw [and_not0]
  constructor
  · intro h w hw hc
    have := h w (by omega) (by rw [bt_setB _ (by omega), decide_eq_true hw, hc]; rfl)
    rw [bt_nI (by omega)] at this
    exact this
  · intro h j hj hb
    rw [bt_setB _ (by omega), Bool.and_eq_true] at hb
    rw [bt_nI (by omega)]
    exact h j (of_decide_eq_true hb.1) hb.2
theorem out_bit {n s a : Nat} (hn : n ≤ 10) (hs : s < 2 ^ n) (ha : a < n) : inS (nI (2 ^ n - 1) &&& (nI s ^^^ (-1 : Int32))) (nI a) = !s.testBit a := by
  have h10 := pow_le10 hn
  rw [inS_bt _ (by omega), b_and, b_not _ (by omega), bt_nI (by omega), bt_nI (by omega), Nat.testBit_two_pow_sub_one, decide_eq_true ha, Bool.true_and]
theorem no_cf {K : Kt} (hn : nK K 5 ≤ 10) {s : Nat} (hs : s < 2 ^ nK K 5) : (¬ ∃ a b, a < b ∧ b < nK K 5 ∧ cfP K (nI (2 ^ nK K 5 - 1) &&& (nI s ^^^ (-1 : Int32))) a b) ↔ ∀ a b, a < nK K 5 → b < nK K 5 → s.testBit a = false → s.testBit b = false → K 18 a = K 18 b → K 19 a = K 19 b := by
  constructor
  · intro h a b ha hb h1 h2 h3
    by_cases z : K 19 a = K 19 b
    · exact z
    · exfalso
      rcases Nat.lt_trichotomy a b with q | q | q
      · exact h ⟨a, b, q, hb, by rw [out_bit hn hs ha, h1]; rfl, by rw [out_bit hn hs hb, h2]; rfl, h3, z⟩
      · subst q; exact z rfl
      · exact h ⟨b, a, q, ha, by rw [out_bit hn hs hb, h2]; rfl, by rw [out_bit hn hs ha, h1]; rfl, h3.symm, fun q2 => z q2.symm⟩
  · intro h ⟨a, b, q, hb, h1, h2, h3, h4⟩
    rw [out_bit hn hs (by omega)] at h1
    rw [out_bit hn hs hb] at h2
    refine h4 (h a b (by omega) hb ?_ ?_ h3)
    · cases e : s.testBit a with
      | false => rfl
      | true => rw [e] at h1; cases h1
    · cases e : s.testBit b with
      | false => rfl
      | true => rw [e] at h2; cases h2
theorem r_try {R : Mem} {K : Kt} (hR : IsR R 0 K) (hw : WFK K) (rec : Int32 → Int32 → Mem → Rs Int32) (b2 : Int32) {s : Nat} (hs : s < 2 ^ nK K 5) :
    (okS K (fun w => s.testBit w) → f_X12_striking_J50 rec (nI (2 ^ nK K 5 - 1)) b2 (nI s) R = rec (nI s) (nI (s + 1)) R) ∧ (¬ okS K (fun w => s.testBit w) → f_X12_striking_J50 rec (nI (2 ^ nK K 5 - 1)) b2 (nI s) R = rec b2 (nI (s + 1)) R) := by
  have hn := hw.n5
  have h1 := cl_sub hn.2 hs
  have h2 := no_cf hn.2 hs
  obtain ⟨r, e1, e2⟩ := r_areUnlike hR hw (nI (2 ^ nK K 5 - 1) &&& (nI s ^^^ (-1 : Int32)))
  rw [f_X12_striking_J50, r_clashing hR hw, bnd_some]
  constructor
  · intro h
    rw [if_pos (h1.mpr h.1), e1, bnd_some, if_pos (e2.mpr (h2.mpr h.2)), letF, nI_s]
  · intro h
    by_cases z : (setB (clP K) (nK K 5) &&& (nI s ^^^ (-1 : Int32))) = 0
    · rw [if_pos z, e1, bnd_some, if_neg (fun q => h ⟨h1.mp z, h2.mp (e2.mp q)⟩), letF, nI_s]
    · rw [if_neg z, letF, nI_s]
theorem okS_cg {K : Kt} {P Q : Nat → Bool} (h : okS K P) (e : ∀ w, w < nK K 5 → Q w = P w) : okS K Q :=
  ⟨fun w h1 h2 => by rw [e w h1]; exact h.1 w h1 h2, fun a b ha hb h1 h2 h3 => h.2 a b ha hb (by rw [← e a ha]; exact h1) (by rw [← e b hb]; exact h2) h3⟩
theorem r_striking {R : Mem} {K : Kt} (hR : IsR R 0 K) (hw : WFK K) : f_X12_striking R = some (setB (stP K) (nK K 5), R) := by
  have hn := hw.n5
  have h10 := pow_le10 hn.2
  have hpos : 0 < 2 ^ nK K 5 := Nat.pow_pos (by decide)
  obtain ⟨g1, g2⟩ := setB_val (stP K) hn.2
  have gc := pop_setB (stP K) hn.2
  rw [g1] at gc ⊢
  have gb : ∀ w, w < nK K 5 → (vP (stP K) (nK K 5)).testBit w = stP K w := by
    intro w h
    have e := bt_setB (stP K) (n := nK K 5) (by omega) w
    rw [g1, bt_nI (by omega), decide_eq_true h, Bool.true_and] at e
    exact e
  have gok : okS K (fun w => (vP (stP K) (nK K 5)).testBit w) := okS_cg (stP_ok hw) gb
  have least : ∀ s, s < 2 ^ nK K 5 → okS K (fun w => s.testBit w) → popI (nI (vP (stP K) (nK K 5))) < popI (nI s) ∨ (popI (nI (vP (stP K) (nK K 5))) = popI (nI s) ∧ vP (stP K) (nK K 5) ≤ s) := by
    intro s h1 h2
    have := stP_least hw h2
    obtain ⟨q1, q2⟩ := nat_val hn.2 h1
    unfold lxP at this
    rw [q1, q2, ← gc] at this
    exact this
  generalize vP (stP K) (nK K 5) = G at *
  have key : ∀ d i fu best, i + d = 2 ^ nK K 5 → d < fu → best < 2 ^ nK K 5 → (G < i → best = G) → (popI (nI G) < popI (nI best) ∨ (popI (nI G) = popI (nI best) ∧ G ≤ best)) → f_X12_striking_L15 (nI (2 ^ nK K 5 - 1)) fu (nI best) (nI i) R = some (nI G, R) := by
    intro d
    induction d with
    | zero =>
      intro i fu best h1 h2 h3 h4 h5
      obtain ⟨fu, rfl⟩ : ∃ k, fu = k + 1 := ⟨fu - 1, by omega⟩
      rw [f_X12_striking_L15, if_pos (nI_lt (by omega) (by omega)), h4 (by omega)]
    | succ d ih =>
      intro i fu best h1 h2 h3 h4 h5
      obtain ⟨fu, rfl⟩ : ∃ k, fu = k + 1 := ⟨fu - 1, by omega⟩
      have hp1 := pop_le (nI i)
      have hp2 := pop_le (nI best)
      have keep : (popI (nI best) < popI (nI i) ∨ (popI (nI best) = popI (nI i) ∧ best ≤ i)) → f_X12_striking_L15 (nI (2 ^ nK K 5 - 1)) fu (nI best) (nI (i + 1)) R = some (nI G, R) := by
        intro z
        refine ih (i + 1) fu best (by omega) (by omega) h3 (fun q => ?_) h5
        by_cases e : G = i
        · subst e; omega
        · exact h4 (by omega)
      have tryit : (popI (nI i) < popI (nI best) ∨ (popI (nI i) = popI (nI best) ∧ i < best)) → f_X12_striking_J50 (f_X12_striking_L15 (nI (2 ^ nK K 5 - 1)) fu) (nI (2 ^ nK K 5 - 1)) (nI best) (nI i) R = some (nI G, R) := by
        intro z
        obtain ⟨t1, t2⟩ := r_try hR hw (f_X12_striking_L15 (nI (2 ^ nK K 5 - 1)) fu) (nI best) (s := i) (by omega)
        by_cases q : okS K (fun w => i.testBit w)
        · have l := least i (by omega) q
          rw [t1 q]
          refine ih (i + 1) fu i (by omega) (by omega) (by omega) (fun q2 => ?_) l
          by_cases e : G = i
          · exact e.symm
          · have := h4 (by omega)
            subst this
            omega
        · rw [t2 q]
          refine ih (i + 1) fu best (by omega) (by omega) h3 (fun q2 => ?_) h5
          by_cases e : G = i
          · subst e; exact absurd gok q
          · exact h4 (by omega)
      rw [f_X12_striking_L15, if_neg (nI_nlt (by omega) (by omega)), r_bits (by omega), bnd_some, r_bits (by omega), bnd_some]
      by_cases z1 : popI (nI best) < popI (nI i)
      · rw [if_pos (nI_lt z1 (by omega)), letF, nI_s]
        exact keep (Or.inl z1)
      · rw [if_neg (nI_nlt (by omega) (by omega)), r_bits (by omega), bnd_some, r_bits (by omega), bnd_some]
        by_cases z2 : popI (nI i) = popI (nI best)
        · rw [if_pos (by rw [z2])]
          by_cases z3 : i < best
          · rw [if_pos (nI_lt z3 (by omega))]
            exact tryit (Or.inr ⟨z2, z3⟩)
          · rw [if_neg (nI_nlt (by omega) (by omega)), letF, nI_s]
            exact keep (Or.inr ⟨z2.symm, by omega⟩)
        · rw [if_neg (fun q => z2 (nI_inj (by omega) (by omega) q))]
          exact tryit (Or.inl (by omega))
  have hall : okS K (fun w => (2 ^ nK K 5 - 1).testBit w) := by
    have hb : ∀ w, w < nK K 5 → (2 ^ nK K 5 - 1).testBit w = true := fun w h => by rw [Nat.testBit_two_pow_sub_one, decide_eq_true h]
    exact ⟨fun w h1 _ => hb w h1, fun a b ha hb2 h1 h2 h3 => by dsimp only at h1; rw [hb a ha] at h1; cases h1⟩
  have k0 := key (2 ^ nK K 5) 0 fz (2 ^ nK K 5 - 1) (by omega) (by rw [fz_is]; omega) (by omega) (fun z => by omega) (least _ (by omega) hall)
  have k1 : f_X12_striking_L15 (nI (2 ^ nK K 5 - 1)) fz (nI (2 ^ nK K 5 - 1)) 0 R = some (nI G, R) := k0
  rw [f_X12_striking, hR.cnt (by decide), hn.1, set_is hn.2, letF, k1, bnd_some]
section STRUCK
variable {C R : Mem}
theorem m_struckSet (h : Rel C R) : OK2 (f_X11_struckSet C) (f_X12_struckSet R) := by
  obtain ⟨hs, ho⟩ := h
  obtain ⟨K, hw, hC, hR, h0, h1⟩ := ho.get
  rw [f_X11_struckSet, f_X12_struckSet, p_strike h0 hC hw, bnd_some, r_striking hR hw, bnd_some]
  exact fin_giv hs SqC.rf SqR.rf ho _
theorem m_struck (h : Rel C R) : OK2 (f_X11_struck C) (f_X12_struck R) := by
  obtain ⟨hs, ho⟩ := h
  obtain ⟨K, hw, hC, hR, h0, h1⟩ := ho.get
  have hn := hw.n5
  have h10 := pow_le10 hn.2
  obtain ⟨g1, g2⟩ := setB_val (stP K) hn.2
  rw [f_X11_struck, f_X12_struck, p_strike h0 hC hw, bnd_some, r_striking hR hw, bnd_some, g1, p_bitCount (by omega), bnd_some, r_bits (by omega), bnd_some]
  exact fin_giv hs SqC.rf SqR.rf ho _
end STRUCK
