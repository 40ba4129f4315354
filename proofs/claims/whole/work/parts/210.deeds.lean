/-! DEEDS: sit, term, meal, scent, night, appeal, blame, reread, strain -/
theorem RelO.get5 {C R : Mem} (h : RelO C R) : ∃ K : Kt, WFK K ∧ (∃ n : Nat, n ≤ 9999 ∧ K 20 1 = nI n) ∧ IsC C (gR C 0 0) K ∧ IsR R 0 K ∧ NmR C (gR C 0 0) R 0 K ∧ WkR C (gR C 0 0) R 0 K ∧ shC (gR C 0 0) = 0 ∧ shC (gR C 0 1) = 0 := by
  obtain ⟨hn, -, -, -, -, ⟨K, a, b, c, d, e, f⟩, -⟩ := h
  exact ⟨K, a, b, c, d, e, f, hn.sh.1, hn.sh.2⟩
theorem rowW_K {K K' : Kt} {cl at_ : Nat → Int32} {m k : Nat} (h : rowW K cl at_ m k) (e0 : nK K' 0 = nK K 0) (e1 : nK K' 1 = nK K 1) (e3 : nK K' 3 = nK K 3) : rowW K' cl at_ m k := by
  unfold rowW at h ⊢
  rw [e0, e1, e3]
  exact h
/-- a changed court of now -/
theorem RelO.put {C R C' R' : Mem} {K K' : Kt} (h : RelO C R) (hN : NmR C (gR C 0 0) R 0 K) (hW : WkR C (gR C 0 0) R 0 K) (hw : WFK K) (hc : InC C (gR C 0 0) K' C') (hr : InR R K' R') (hw' : WFK K') (hs : ∃ n : Nat, n ≤ 9999 ∧ K' 20 1 = nI n) (hn : ∀ k, k < 6 → k ≠ 2 → nK K' k = nK K k) : RelO C' R' := by
  obtain ⟨hnow, ht, hb, hl, hkw, -, hm⟩ := h
  obtain ⟨hC, f1, f2, f3⟩ := hc
  obtain ⟨hR, g1, g2⟩ := hr
  obtain ⟨t1, t2⟩ := hnow.two
  have lo : 27 ≤ gR C 0 0 ∧ gR C 0 0 ≤ 55 := by omega
  refine ⟨by unfold NowC; rw [f3, f3]; exact hnow, ht.cg (fun n k a b => ⟨f1 n k (by omega), f2 n k⟩) (fun n k a b => ⟨g1 n k (by omega), g2 n k⟩),
    hb.cg (f1 _ _ (by omega)) (fun k => f1 _ _ (by omega)) (g1 _ _ (by omega)) (fun k => g1 _ _ (by omega)),
    hl.cg (f1 _ _ (by omega)) (fun k => f1 _ _ (by omega)) (g1 _ _ (by omega)) (fun k => g1 _ _ (by omega)),
    hkw.cg (fun k => f2 _ _), ?_, hm.cg (f1 _ _ (by omega)) (fun n k a => ⟨f1 _ _ (by omega), f2 _ _⟩) (g1 _ _ (by omega)) (fun k a b => g1 _ _ (by omega)) (fun k a b => g2 _ _)⟩
  rw [f3]
  refine ⟨K', hw', hs, hC, hR, fun k hk h2 i hi => ?_, ?_⟩
  · rw [f2, g2]
    rw [hn k (by omega) h2] at hi
    exact hN k hk h2 i hi
  · have ea : (fun k => gI R' 1 (0 + 134 + k)) = fun k => gI R 1 (0 + 134 + k) := by funext k; exact g1 _ _ (by omega)
    have ec : (fun k => gI C' (gR C 0 0 + 25) k) = fun k => gI C (gR C 0 0 + 25) k := by funext k; exact f1 _ _ (by omega)
    unfold WkR at hW ⊢
    rw [Nat.mul_zero, ea, ec, f1 _ _ (by omega), g1 _ _ (by omega), f1 _ _ (by omega)]
    rcases hW with q | ⟨a, m, b, c, d, e, q, r⟩
    · exact Or.inl q
    · exact Or.inr ⟨a, m, b, c, d, e, fun k hk => rowW_K (q k hk) (hn 0 (by decide) (by decide)) (hn 1 (by decide) (by decide)) (hn 3 (by decide) (by decide)), r⟩
theorem InC.sq {C C' : Mem} {c : Nat} {K : Kt} (h : InC C c K C') (hc : 27 ≤ c) : SqC C C' := ⟨h.2.2.1 _ _, h.2.2.1 _ _, h.2.1 _ _ (by omega), h.2.1 _ _ (by omega)⟩
theorem InR.sq {R R' : Mem} {K : Kt} (h : InR R K R') : SqR R R' := ⟨h.2.2 _ _, h.2.2 _ _, h.2.1 _ _ (by omega), h.2.1 _ _ (by omega)⟩
/-- FEEDINGS -/
theorem fed_up (f : Nat) (hf : f ≤ 99) (n : Nat) (hn : n ≤ 99) : ∃ m : Nat, m ≤ 99 ∧ mnI 99 (nI f + nI n) = nI m := by
  rw [nI_add]
  unfold mnI
  have key : nI (f + n) < (99 : Int32) ↔ f + n < 99 := nI_ltI (a := f + n) (b := 99) (by omega) (by decide)
  by_cases h : f + n < 99
  · exact ⟨f + n, by omega, if_pos (key.mpr h)⟩
  · exact ⟨99, by decide, if_neg (fun z => h (key.mp z))⟩
theorem p_feed {C0 C : Mem} {c : Nat} {K : Kt} (hc : shC c = 0) (h : InC C0 c K C) (hw : WFK K) {p : Nat} (hp : p < nK K 3) {n : Nat} (hn : n ≤ 99) :
    (K 12 p = 99 ∧ f_X0_feedPerson c (nI p) (nI n) C = some (0, C)) ∨ (¬ K 12 p = 99 ∧ ∃ C', f_X0_feedPerson c (nI p) (nI n) C = some (1, C') ∧ InC C0 c (upK K 12 p (mnI 99 (K 12 p + nI n))) C' ∧ C' = sI C (c + 13 + 1 + p) 1 (mnI 99 (K 12 p + nI n))) := by
  have hn3 := hw.n3
  have e := h.1.2.2.2.1 p hp 1 (by decide)
  obtain ⟨-, ⟨f, hf, hf2⟩, -⟩ := hw.2.2.2.1 p hp
  have hcase : ∀ q : K 12 p < 99 ∨ K 12 p = 99, True := fun _ => trivial
  rw [f_X0_feedPerson, p_personAt (by omega), bnd_some, if_neg (nn (shC_per hc (by omega))), e]
  by_cases h9 : K 12 p = 99
  · exact Or.inl ⟨h9, by rw [if_neg (show ¬ K (11 + 1) p < 99 from by show ¬ K 12 p < 99; rw [h9]; decide)]⟩
  · refine Or.inr ⟨h9, _, ?_, h.up hw (f := 12) (i := p) (v := mnI 99 (K 12 p + nI n)) (by decide) (c + 13 + 1 + p) 1 (by omega), rfl⟩
    have : K 12 p < 99 := by
      rw [hf2] at h9 ⊢
      have : f ≠ 99 := fun z => h9 (by rw [z]; rfl)
      exact nI_lt (b := 99) (by omega) (by decide)
    rw [if_pos (show K (11 + 1) p < 99 from this), letF, letF]
theorem r_meals {R0 R : Mem} {K : Kt} (h : InR R0 K R) (hw : WFK K) {p : Nat} (hp : p < nK K 3) (x : Int32) :
    (K 12 p = 99 ∧ f_X12_meals (nI p) x R = some (0, R)) ∨ (¬ K 12 p = 99 ∧ ∃ R', f_X12_meals (nI p) x R = some (1, R') ∧ InR R0 (upK K 12 p (mnI 99 (K 12 p + x))) R') := by
  have hn3 := hw.n3
  have e := (h.1.per hp).1
  obtain ⟨q1, q2⟩ := r_rd (e := 72 + 5 * nI p) (j := 72 + 5 * p) (by rw [litI, litI, pk_mul, nI_add]) (by omega)
  have q3 := q1
  rw [q2] at q3
  rw [f_X12_meals, f_X12_personRow, bnd_some, if_neg q1, q2, show gI R 1 (72 + 5 * p) = K 12 p from e]
  by_cases h9 : K 12 p = 99
  · exact Or.inl ⟨h9, by rw [if_pos h9]⟩
  · exact Or.inr ⟨h9, _, by rw [if_neg h9, if_neg q3, letF, if_neg q3, letF], h.up hw (f := 12) (i := p) (v := mnI 99 (K 12 p + x)) (x := mnI 99 (K 12 p + x)) (by decide) (72 + 5 * p) rfl (by omega)⟩
theorem okFed {K : Kt} (hw : WFK K) {p : Nat} (hp : p < nK K 3) {n : Nat} (hn : n ≤ 99) : okV K 12 p (mnI 99 (K 12 p + nI n)) := by
  obtain ⟨-, ⟨f, hf, hf2⟩, -⟩ := hw.2.2.2.1 p hp
  exact Or.inr (Or.inr (Or.inl ⟨rfl, by rw [hf2]; exact fed_up f hf n hn⟩))
/-- SMELLS -/
def xorS (s : Int32) (j : Nat) : Int32 := s ^^^ ((1 : Int32) <<< (nI j &&& 31))
theorem xor_up : ∀ s, s < 32 → ∀ j, j < 5 → ∃ m : Nat, m < 32 ∧ xorS (nI s) j = nI m := by decide +kernel
theorem okSm {K : Kt} (hw : WFK K) {p : Nat} (hp : p < nK K 3) {j : Nat} (hj : j < 5) : okV K 13 p (xorS (K 13 p) j) := by
  obtain ⟨-, -, ⟨f, hf, hf2⟩, -⟩ := hw.2.2.2.1 p hp
  exact Or.inr (Or.inr (Or.inr (Or.inl ⟨rfl, by rw [hf2]; exact xor_up f hf j hj⟩)))
theorem p_smell {C0 C : Mem} {c : Nat} {K : Kt} (hc : shC c = 0) (h : InC C0 c K C) (hw : WFK K) {p : Nat} (hp : p < nK K 3) (j : Nat) (x : Int32) :
    (bI (inS (K 13 p) (nI j)) = x ∧ f_X0_setSmell c (nI p) (nI j) x C = some (0, C)) ∨ (¬ bI (inS (K 13 p) (nI j)) = x ∧ ∃ C', f_X0_setSmell c (nI p) (nI j) x C = some (1, C') ∧ InC C0 c (upK K 13 p (xorS (K 13 p) j)) C') := by
  have hn3 := hw.n3
  have e := h.1.2.2.2.1 p hp 2 (by decide)
  rw [f_X0_setSmell, p_personAt (by omega), bnd_some, if_neg (nn (shC_per hc (by omega))), e, p_isIn, bnd_some]
  by_cases h9 : bI (inS (K 13 p) (nI j)) = x
  · exact Or.inl ⟨h9, by rw [if_pos h9]⟩
  · exact Or.inr ⟨h9, _, by rw [if_neg h9, letF, e]; rfl, h.up hw (f := 13) (i := p) (v := xorS (K 13 p) j) (by decide) (c + 13 + 1 + p) 2 (by omega)⟩
theorem r_scents {R0 R : Mem} {K : Kt} (h : InR R0 K R) (hw : WFK K) {p : Nat} (hp : p < nK K 3) (j : Nat) (x : Int32) :
    (bI (inS (K 13 p) (nI j)) = x ∧ f_X12_scents (nI p) (nI j) x R = some (0, R)) ∨ (¬ bI (inS (K 13 p) (nI j)) = x ∧ ∃ R', f_X12_scents (nI p) (nI j) x R = some (1, R') ∧ InR R0 (upK K 13 p (xorS (K 13 p) j)) R') := by
  have hn3 := hw.n3
  have e := (h.1.per hp).2.1
  obtain ⟨q1, q2⟩ := r_rd (e := 72 + 5 * nI p + 1) (j := 72 + 5 * p + 1) (by rw [litI, litI, litI, pk_mul, nI_add, nI_add]) (by omega)
  rw [f_X12_scents, r_personOf1 (by omega), bnd_some, e, r_isIn, bnd_some]
  by_cases h9 : bI (inS (K 13 p) (nI j)) = x
  · exact Or.inl ⟨h9, by rw [if_pos h9]⟩
  · exact Or.inr ⟨h9, _, by rw [if_neg h9, f_X12_personRow, bnd_some, letF, if_neg q1, if_neg q1, letF, q2, e]; rfl, h.up hw (f := 13) (i := p) (v := xorS (K 13 p) j) (x := xorS (K 13 p) j) (by decide) (72 + 5 * p + 1) rfl (by omega)⟩
/-- NIGHT -/
theorem okWarm {K : Kt} {n : Nat} (hn : n ≤ 9) : okV K 20 0 (nI n) := Or.inr (Or.inr (Or.inr (Or.inr (Or.inr (Or.inr (Or.inr (Or.inl ⟨rfl, rfl, n, hn, rfl⟩)))))))
theorem p_cool {C0 C : Mem} {c : Nat} {K : Kt} (h : InC C0 c K C) (hw : WFK K) : ∃ C', f_X0_coolDown c C = some (bI (decide (¬ K 20 0 ≤ 0)), C') ∧ InC C0 c (upK K 20 0 (nI 0)) C' := by
  have e := h.1.2.2.2.2.2.2.1
  refine ⟨_, ?_, h.up hw (f := 20) (i := 0) (v := nI 0) (by decide) c 12 (by omega)⟩
  rw [f_X0_coolDown, e]
  by_cases h0 : K 20 0 ≤ 0
  · rw [if_pos h0, letF, decide_eq_false (nn h0)]; rfl
  · rw [if_neg h0, letF, decide_eq_true h0]; rfl
theorem r_nights {R0 R : Mem} {K : Kt} (h : InR R0 K R) (hw : WFK K) : ∃ R', f_X12_nights R = some (bI (decide (¬ K 20 0 ≤ 0)), R') ∧ InR R0 (upK K 20 0 (nI 0)) R' := by
  have e := h.1.warm
  refine ⟨_, ?_, h.up hw (f := 20) (i := 0) (v := nI 0) (x := nI 0) (by decide) 6 rfl (by omega)⟩
  rw [f_X12_nights, e]
  by_cases h0 : K 20 0 ≤ 0
  · rw [if_pos h0, f_X12_nights_J15, letF, if_neg (nn (Or.inl rfl)), decide_eq_false (nn h0)]; rfl
  · rw [if_neg h0, f_X12_nights_J15, letF, if_neg (nn (Or.inr rfl)), decide_eq_true h0]; rfl
theorem room_le {s n : Nat} (hs : s ≤ 30000) (hn : n ≤ 10) : ((9999 : Int32) < nI s + nI n ↔ 9999 < s + n) ∧ (nI s + nI n ≤ (9999 : Int32) ↔ s + n ≤ 9999) := by
  rw [nI_add]
  exact ⟨nI_ltI (a := 9999) (b := s + n) (by decide) (by omega), nI_leI (a := s + n) (b := 9999) (by omega) (by decide)⟩
section DEEDS
variable {C R : Mem}
theorem m_sit (h : Rel C R) (a : Int32) : OK2 (f_X11_sit a C) (f_X12_sit a R) := by
  obtain ⟨hs, ho⟩ := h
  obtain ⟨K, hw, ⟨n, hn, hsn⟩, hC, hR, hN, hW, h0, h1⟩ := ho.get5
  have hn3 := hw.n3
  have lo := isC_lo h0
  rw [f_X11_sit, f_X12_sit, if_neg (nn h0)]
  rcases ix a (n := nK K 3) (by omega) with hx | ⟨j, hj, rfl⟩
  · rw [hasF 3 3 rfl hC hw (by decide) hx, bnd_some, if_pos i00, r_isPersonF hR hw hx, bnd_some, if_pos i00]
    exact fin_ref hs SqC.rf SqR.rf ho 1
  · rw [hasT 3 3 rfl hC hw (by decide) hj, bnd_some, if_neg i10, if_neg (nn h0), r_isPersonT hR hw hj, bnd_some, if_neg i10, f_X0_hasRoomFor, hC.2.2.2.2.2.2.2, hR.sat, hsn]
    by_cases hf : n = 9999
    · subst hf
      rw [if_pos (show (9999 : Int32) < nI 9999 + 1 by decide), bnd_some, if_pos i00, if_pos (show nI 9999 = (9999 : Int32) from rfl)]
      exact fin_ref hs SqC.rf SqR.rf ho 4
    · rw [if_neg (fun z => by have := (room_le (s := n) (n := 1) (by omega) (by decide)).1.mp z; omega), bnd_some, if_neg i10, if_neg (nn h0), if_neg (show ¬ nI n = (9999 : Int32) from fun z => hf (nI_inj (by omega) (by decide) z))]
      obtain ⟨C', e1, e2⟩ := p_sitBefore (C0 := C) h0 ⟨hC, FrC.rf⟩ hw hsn (by omega) hj
      obtain ⟨R', e3, e4⟩ := r_sits (R0 := R) ⟨hR, FrR.rf⟩ hw hsn (by omega) hj
      have ho' := ho.put hN hW hw e2 e4 (sitK_wf hw hsn (by omega)).1 ⟨n + 1, by omega, sitK_sat hsn⟩ (fun k _ _ => sitK_nK K j k)
      have hn1 := hw.n1
      have e5 : gI R' 1 1 = K 0 1 := by
        rw [e4.1.cnt (by decide)]; unfold sitK; rw [upK_n (by omega), upK_n (by omega), upK_n (by omega)]
      rw [e1, e3, bnd_some, bnd_some, e5, pcueN, cueN_K hw, pcueK]
      rcases cueK_in hw (K 11 j) (K 12 j) (K 20 0) (K 13 j) with e | ⟨i, h1, e⟩
      · rw [e, if_pos rfl, if_pos rfl]
        exact fin_giv hs (e2.sq lo.1) e4.sq ho' _
      · rw [e, if_neg (nI_ne_m1 (by omega)), if_neg (nI_ne_m1 (by omega))]
        exact fin_giv hs (e2.sq lo.1) e4.sq ho' _
theorem m_term (h : Rel C R) : OK2 (f_X11_term C) (f_X12_term R) := by
  obtain ⟨hs, ho⟩ := h
  obtain ⟨K, hw, ⟨n, hn, hsn⟩, hC, hR, hN, hW, h0, h1⟩ := ho.get5
  have hn3 := hw.n3
  have lo := isC_lo h0
  obtain ⟨s, hs1, hs2⟩ := setB_nat (fun i => decide (K 14 i = 0)) (n := nK K 3) (by omega)
  have hs3 : s < 1024 := Nat.lt_of_lt_of_le hs1 (Nat.le_trans (Nat.pow_le_pow_right (by decide) hn3.2) (by decide))
  have hp1 := pop_setB (fun i => decide (K 14 i = 0)) (n := nK K 3) (by omega)
  rw [hs2] at hp1
  have hp2 := pop_le (nI s)
  rw [f_X11_term, f_X12_term, if_neg (nn h0), p_setOfFate h0 hC hw, bnd_some, hs2, p_bitCount hs3, bnd_some, if_neg (nn h0), f_X0_hasRoomFor, hC.2.2.2.2.2.2.2, f_X12_isTooMuch, r_peopleThat hR hw (by decide), bnd_some, hs2, r_bits hs3, bnd_some, hR.sat, hsn]
  obtain ⟨q1, q2⟩ := room_le (s := n) (n := popI (nI s)) (by omega) hp2
  by_cases hf : n + popI (nI s) ≤ 9999
  · rw [if_neg (fun z => by have := q1.mp z; omega), bnd_some, if_neg i10, if_pos (q2.mpr hf), bnd_some, if_pos i00, r_peopleThat hR hw (by decide), bnd_some, hs2]
    by_cases hz : s = 0
    · subst hz
      rw [if_pos (show nI (popI (nI 0)) = 0 by decide +kernel), if_pos (show nI 0 = (0 : Int32) from rfl)]
      exact fin_ref hs SqC.rf SqR.rf ho 7
    · have hz2 : popI (nI s) ≠ 0 := fun z => hz ((pop_0 s hs3).mp z)
      rw [if_neg (nI_ne0 (by omega) (by omega)), if_neg (nn h0), if_neg (nI_ne0 (by omega) (by omega))]
      obtain ⟨C', e1, e2⟩ := p_holdTerm (C0 := C) h0 ⟨hC, FrC.rf⟩ hw hsn (by omega)
      obtain ⟨R', e3, e4⟩ := r_terms (R0 := R) ⟨hR, FrR.rf⟩ hw hsn (by omega)
      obtain ⟨w1, w2, w3⟩ := termK_wf hw hsn (by omega)
      rw [e1, e3, bnd_some, bnd_some]
      exact fin_giv hs (e2.sq lo.1) e4.sq (ho.put hN hW hw e2 e4 w1 ⟨_, by omega, w3⟩ (fun k _ _ => w2 k)) _
  · rw [if_pos (q1.mpr (by omega)), bnd_some, if_pos i00, if_neg (fun z => hf (q2.mp z)), bnd_some, if_neg i10]
    exact fin_ref hs SqC.rf SqR.rf ho 4
theorem m_meal (h : Rel C R) (a b : Int32) : OK2 (f_X11_meal a b C) (f_X12_meal a b R) := by
  obtain ⟨hs, ho⟩ := h
  obtain ⟨K, hw, hsn, hC, hR, hN, hW, h0, h1⟩ := ho.get5
  have hn3 := hw.n3
  have lo := isC_lo h0
  rw [f_X11_meal, f_X12_meal, if_neg (nn h0)]
  rcases ix a (n := nK K 3) (by omega) with hx | ⟨j, hj, rfl⟩
  · rw [hasF 3 3 rfl hC hw (by decide) hx, bnd_some, if_pos i00, r_isPersonF hR hw hx, bnd_some, if_pos i00]
    exact fin_ref hs SqC.rf SqR.rf ho 1
  · rw [hasT 3 3 rfl hC hw (by decide) hj, bnd_some, if_neg i10, r_isPersonT hR hw hj, bnd_some, if_neg i10]
    by_cases hb1 : b < 1
    · rw [if_pos hb1, r_isFromF (Or.inl (by rw [i_lt] at hb1; exact hb1)), bnd_some, if_pos i00]
      exact fin_ref hs SqC.rf SqR.rf ho 1
    rw [if_neg hb1]
    by_cases hb2 : b ≤ 99
    · have v1 : 1 ≤ b.toInt := by rw [i_lt] at hb1; simp at hb1; omega
      have v2 : b.toInt ≤ 99 := by rw [i_le] at hb2; exact hb2
      obtain ⟨m, hm1, rfl⟩ := i_of (x := b) (n := 100) (by omega) (by omega) (by decide)
      rw [if_pos hb2, if_neg (nn h0), r_isFromT (by exact v1) (by exact v2), bnd_some, if_neg i10]
      rcases p_feed (C0 := C) h0 ⟨hC, FrC.rf⟩ hw hj (n := m) (by omega) with ⟨z, e1⟩ | ⟨z, C', e1, e2, e5⟩
      · rcases r_meals (R0 := R) ⟨hR, FrR.rf⟩ hw hj (nI m) with ⟨z2, e3⟩ | ⟨z2, -⟩
        · rw [e1, e3, bnd_some, bnd_some, if_pos i00, if_pos i00]
          exact fin_ref hs SqC.rf SqR.rf ho 7
        · exact absurd z z2
      · rcases r_meals (R0 := R) ⟨hR, FrR.rf⟩ hw hj (nI m) with ⟨z2, e3⟩ | ⟨z2, R', e3, e4⟩
        · exact absurd z2 z
        · have ho' := ho.put hN hW hw e2 e4 (hw.up (okFed hw hj (by omega))) (by rw [upK_n (by omega)]; exact hsn) (fun k _ _ => upK_nK (by decide) k)
          have hg : gR C' 0 0 = gR C 0 0 := e2.2.2.2 _ _
          rw [e1, e3, bnd_some, bnd_some, if_neg i10, if_neg i10, hg, if_neg (nn h0), p_personAt (by omega), bnd_some, if_neg (nn (shC_per h0 (by omega))), r_personOf0 (by omega), bnd_some,
            e2.1.2.2.2.1 j (by rw [upK_nK (by decide)]; exact hj) 1 (by decide), (e4.1.per (by rw [upK_nK (by decide)]; exact hj)).1]
          exact fin_giv hs (e2.sq lo.1) e4.sq ho' _
    · rw [if_neg hb2, r_isFromF (Or.inr (by rw [i_le] at hb2; simp at hb2 ⊢; omega)), bnd_some, if_pos i00]
      exact fin_ref hs SqC.rf SqR.rf ho 1
theorem m_scent (h : Rel C R) (a b x : Int32) : OK2 (f_X11_scent a b x C) (f_X12_scent a b x R) := by
  obtain ⟨hs, ho⟩ := h
  obtain ⟨K, hw, hsn, hC, hR, hN, hW, h0, h1⟩ := ho.get5
  have hn3 := hw.n3
  have hn0 := hw.n0
  have lo := isC_lo h0
  rw [f_X11_scent, f_X12_scent, if_neg (nn h0)]
  rcases ix a (n := nK K 3) (by omega) with hx | ⟨j, hj, rfl⟩
  · rw [hasF 3 3 rfl hC hw (by decide) hx, bnd_some, if_pos i00, r_isPersonF hR hw hx, bnd_some, if_pos i00]
    exact fin_den hs SqC.rf SqR.rf ho (by decide)
  · rw [hasT 3 3 rfl hC hw (by decide) hj, bnd_some, if_neg i10, r_isPersonT hR hw hj, bnd_some, if_neg i10, if_neg (nn h0)]
    rcases ix b (n := nK K 0) (by omega) with hx | ⟨s, hsm, rfl⟩
    · rw [hasF 0 0 rfl hC hw (by decide) hx, bnd_some, if_pos i00, r_isF isSmellE hR hw (by decide) hx, bnd_some, if_pos i00]
      exact fin_den hs SqC.rf SqR.rf ho (by decide)
    · rw [hasT 0 0 rfl hC hw (by decide) hsm, bnd_some, if_neg i10, r_isT isSmellE hR hw (by decide) hsm, bnd_some, if_neg i10, if_neg (nn h0)]
      rcases p_smell (C0 := C) h0 ⟨hC, FrC.rf⟩ hw hj s x with ⟨z, e1⟩ | ⟨z, C', e1, e2⟩
      · rcases r_scents (R0 := R) ⟨hR, FrR.rf⟩ hw hj s x with ⟨z2, e3⟩ | ⟨z2, -⟩
        · rw [e1, e3, bnd_some, bnd_some, if_pos i00, if_pos i00]
          exact fin_den hs SqC.rf SqR.rf ho (by decide)
        · exact absurd z z2
      · rcases r_scents (R0 := R) ⟨hR, FrR.rf⟩ hw hj s x with ⟨z2, e3⟩ | ⟨z2, R', e3, e4⟩
        · exact absurd z2 z
        · rw [e1, e3, bnd_some, bnd_some, if_neg i10, if_neg i10]
          exact fin_don hs (e2.sq lo.1) e4.sq (ho.put hN hW hw e2 e4 (hw.up (okSm hw hj (by omega))) (by rw [upK_n (by omega)]; exact hsn) (fun k _ _ => upK_nK (by decide) k))
theorem m_night (h : Rel C R) : OK2 (f_X11_night C) (f_X12_night R) := by
  obtain ⟨hs, ho⟩ := h
  obtain ⟨K, hw, hsn, hC, hR, hN, hW, h0, h1⟩ := ho.get5
  have lo := isC_lo h0
  obtain ⟨C', e1, e2⟩ := p_cool (C0 := C) ⟨hC, FrC.rf⟩ hw
  obtain ⟨R', e3, e4⟩ := r_nights (R0 := R) ⟨hR, FrR.rf⟩ hw
  have ho' := ho.put hN hW hw e2 e4 (hw.up (okWarm (by decide))) (by rw [upK_n (by omega)]; exact hsn) (fun k _ _ => upK_nK (by decide) k)
  rw [f_X11_night, f_X12_night, if_neg (nn h0), letF, letF, if_neg (nn h0), e1, e3, bnd_some, bnd_some, hC.2.2.2.2.2.2.1, hR.warm]
  by_cases hz : K 20 0 ≤ 0
  · rw [decide_eq_false (nn hz), bI_f, if_pos i00, if_pos i00]
    exact fin_ref hs (e2.sq lo.1) e4.sq ho' 7
  · rw [decide_eq_true hz, bI_t, if_neg i10, if_neg i10]
    exact fin_giv hs (e2.sq lo.1) e4.sq ho' _
theorem m_appeal (h : Rel C R) (a : Int32) : OK2 (f_X11_appeal a C) (f_X12_appeal a R) := by
  obtain ⟨hs, ho⟩ := h
  obtain ⟨K, hw, hsn, hC, hR, hN, hW, h0, h1⟩ := ho.get5
  have hn3 := hw.n3
  have lo := isC_lo h0
  rw [f_X11_appeal, f_X12_appeal, if_neg (nn h0)]
  rcases ix a (n := nK K 3) (by omega) with hx | ⟨j, hj, rfl⟩
  · rw [hasF 3 3 rfl hC hw (by decide) hx, bnd_some, if_pos i00, r_isPersonF hR hw hx, bnd_some, if_pos i00]
    exact fin_ref hs SqC.rf SqR.rf ho 1
  · obtain ⟨q1, q2⟩ := r_rd (e := 72 + 5 * nI j + 2) (j := 72 + 5 * j + 2) (by rw [litI, litI, litI, pk_mul, nI_add, nI_add]) (by omega)
    rw [hasT 3 3 rfl hC hw (by decide) hj, bnd_some, if_neg i10, r_isPersonT hR hw hj, bnd_some, if_neg i10, if_neg (nn h0), p_personAt (by omega), bnd_some, if_neg (nn (shC_per h0 (by omega))), letF, hC.2.2.2.1 j hj 3 (by decide), r_personOf2 (by omega), bnd_some, (hR.per hj).2.2.1]
    by_cases hz : K 14 j = 0
    · rw [if_pos (show K (11 + 3) j = 0 from hz), if_pos hz]
      exact fin_ref hs SqC.rf SqR.rf ho 7
    · have e2 := InC.up (C0 := C) ⟨hC, FrC.rf⟩ hw (f := 14) (i := j) (v := nI 0) (by decide) (gR C 0 0 + 13 + 1 + j) 3 (by omega)
      have e4 := InR.up (R0 := R) ⟨hR, FrR.rf⟩ hw (f := 14) (i := j) (v := nI 0) (x := nI 0) (by decide) (72 + 5 * j + 2) rfl (by omega)
      rw [if_neg (show ¬ K (11 + 3) j = 0 from hz), if_neg hz, letF, f_X12_personRow, bnd_some, if_neg q1, letF, q2]
      exact fin_giv hs (e2.sq lo.1) e4.sq (ho.put hN hW hw e2 e4 (hw.up (Or.inr (Or.inr (Or.inr (Or.inr (Or.inl ⟨rfl, 0, by decide, rfl⟩)))))) (by rw [upK_n (by omega)]; exact hsn) (fun k _ _ => upK_nK (by decide) k)) _
theorem m_blame (h : Rel C R) (a b : Int32) : OK2 (f_X11_blame a b C) (f_X12_blame a b R) := by
  obtain ⟨hs, ho⟩ := h
  obtain ⟨K, hw, hsn, hC, hR, hN, hW, h0, h1⟩ := ho.get5
  have hn3 := hw.n3
  have lo := isC_lo h0
  rw [f_X11_blame, f_X12_blame, if_neg (nn h0)]
  rcases ix a (n := nK K 3) (by omega) with hx | ⟨j, hj, rfl⟩
  · rw [hasF 3 3 rfl hC hw (by decide) hx, bnd_some, if_pos i00, r_isPersonF hR hw hx, bnd_some, if_pos i00]
    exact fin_den hs SqC.rf SqR.rf ho (by decide)
  · obtain ⟨q1, q2⟩ := r_rd (e := 72 + 5 * nI j + 3) (j := 72 + 5 * j + 3) (by rw [litI, litI, litI, pk_mul, nI_add, nI_add]) (by omega)
    obtain ⟨hg, -⟩ := hw.2.2.2.1 j hj
    have key : ∀ v : Int32, (v = 1 ∨ v = 2) → OK2 (f_X11_blame_J36 (gR C 0 0 + 13 + 1 + j) v C) (f_X12_blame_J24 (nI j) (2 - v) R) := by
      intro v hv
      rw [f_X11_blame_J36, f_X12_blame_J24, hC.2.2.2.1 j hj 0 (by decide), r_personOf3 (by omega), bnd_some, (hR.per hj).2.2.2.1]
      by_cases hz : K 11 j = v
      · rw [if_pos (show K (11 + 0) j = v from hz), if_pos (by rw [hz])]
        exact fin_den hs SqC.rf SqR.rf ho (by decide)
      · have hz2 : ¬ 2 - K 11 j = 2 - v := by
          intro z
          have t : 2 - (2 - K 11 j) = 2 - (2 - v) := by rw [z]
          rw [two_sub hg, two_sub hv] at t
          exact hz t
        have e2 := InC.up (C0 := C) ⟨hC, FrC.rf⟩ hw (f := 11) (i := j) (v := v) (by decide) (gR C 0 0 + 13 + 1 + j) 0 (by omega)
        have e4 := InR.up (R0 := R) ⟨hR, FrR.rf⟩ hw (f := 11) (i := j) (v := v) (x := 2 - v) (by decide) (72 + 5 * j + 3) rfl (by omega)
        rw [if_neg (show ¬ K (11 + 0) j = v from hz), if_neg hz2, letF, f_X12_personRow, bnd_some, if_neg q1, letF, q2]
        exact fin_don hs (e2.sq lo.1) e4.sq (ho.put hN hW hw e2 e4 (hw.up (Or.inr (Or.inl ⟨rfl, hv⟩))) (by rw [upK_n (by omega)]; exact hsn) (fun k _ _ => upK_nK (by decide) k))
    rw [hasT 3 3 rfl hC hw (by decide) hj, bnd_some, if_neg i10, r_isPersonT hR hw hj, bnd_some, if_neg i10, if_neg (nn h0), p_personAt (by omega), bnd_some, if_neg (nn (shC_per h0 (by omega)))]
    by_cases hb : b = 0
    · rw [if_pos hb, if_pos hb]
      exact key 2 (Or.inr rfl)
    · rw [if_neg hb, if_neg hb]
      exact key 1 (Or.inl rfl)
theorem m_reread (h : Rel C R) (a b : Int32) : OK2 (f_X11_reread a b C) (f_X12_reread a b R) := by
  obtain ⟨hs, ho⟩ := h
  obtain ⟨K, hw, hsn, hC, hR, hN, hW, h0, h1⟩ := ho.get5
  have hn1 := hw.n1
  have lo := isC_lo h0
  rw [f_X11_reread, f_X12_reread, if_neg (nn h0)]
  rcases ix a (n := nK K 1) (by omega) with hx | ⟨j, hj, rfl⟩
  · rw [hasF 1 1 rfl hC hw (by decide) hx, bnd_some, if_pos i00, r_isF isCueE hR hw (by decide) hx, bnd_some, if_pos i00]
    exact fin_den hs SqC.rf SqR.rf ho (by decide)
  · rw [hasT 1 1 rfl hC hw (by decide) hj, bnd_some, if_neg i10, r_isT isCueE hR hw (by decide) hj, bnd_some, if_neg i10]
    rcases ix b (n := 3) (by decide) with hx | ⟨w, hwm, rfl⟩
    · rw [withinF 3 3 rfl hx, bnd_some, if_pos i00, r_from0F 3 (by decide) hx (by decide), bnd_some, if_pos i00]
      exact fin_den hs SqC.rf SqR.rf ho (by decide)
    · obtain ⟨q1, q2⟩ := r_rd (e := 10 + nI j) (j := 10 + j) (by rw [litI, nI_add]) (by omega)
      have e2 := InC.up (C0 := C) ⟨hC, FrC.rf⟩ hw (f := 1) (i := j) (v := nI w) (by decide) (gR C 0 0 + 3) j (by omega)
      have e4 := InR.up (R0 := R) ⟨hR, FrR.rf⟩ hw (f := 1) (i := j) (v := nI w) (x := nI w) (by decide) (10 + j) rfl (by omega)
      rw [withinT 3 3 rfl (by decide) hwm, bnd_some, if_neg i10, if_neg (nn h0), r_from0T 3 (by decide) hwm (by decide), bnd_some, if_neg i10, p_put (kC_0_2 h0).2 (by omega) (by decide), bnd_some, if_neg q1, letF, q2]
      exact fin_don hs (e2.sq lo.1) e4.sq (ho.put hN hW hw e2 e4 (hw.up (Or.inl ⟨rfl, w, by omega, rfl⟩)) (by rw [upK_n (by omega)]; exact hsn) (fun k _ _ => upK_nK (by decide) k))
theorem m_strain (h : Rel C R) (a b : Int32) : OK2 (f_X11_strain a b C) (f_X12_strain a b R) := by
  obtain ⟨hs, ho⟩ := h
  obtain ⟨K, hw, hsn, hC, hR, hN, hW, h0, h1⟩ := ho.get5
  have hn1 := hw.n4
  have lo := isC_lo h0
  rw [f_X11_strain, f_X12_strain, if_neg (nn h0)]
  rcases ix a (n := nK K 4) (by omega) with hx | ⟨j, hj, rfl⟩
  · rw [hasF 4 4 rfl hC hw (by decide) hx, bnd_some, if_pos i00, r_isF isReaderE hR hw (by decide) hx, bnd_some, if_pos i00]
    exact fin_den hs SqC.rf SqR.rf ho (by decide)
  · rw [hasT 4 4 rfl hC hw (by decide) hj, bnd_some, if_neg i10, r_isT isReaderE hR hw (by decide) hj, bnd_some, if_neg i10]
    rcases ix b (n := 17) (by decide) with hx | ⟨w, hwm, rfl⟩
    · rw [withinF 17 17 rfl hx, bnd_some, if_pos i00, r_from0F 17 (by decide) hx (by decide), bnd_some, if_pos i00]
      exact fin_den hs SqC.rf SqR.rf ho (by decide)
    · obtain ⟨q1, q2⟩ := r_rd (e := 102 + 2 * nI j) (j := 102 + 2 * j) (by rw [litI, litI, pk_mul, nI_add]) (by omega)
      have e2 := InC.up (C0 := C) ⟨hC, FrC.rf⟩ hw (f := 16) (i := j) (v := nI w) (by decide) (gR C 0 0 + 20) j (by omega)
      have e4 := InR.up (R0 := R) ⟨hR, FrR.rf⟩ hw (f := 16) (i := j) (v := nI w) (x := nI w) (by decide) (102 + 2 * j) rfl (by omega)
      rw [withinT 17 17 rfl (by decide) hwm, bnd_some, if_neg i10, if_neg (nn h0), r_from0T 17 (by decide) hwm (by decide), bnd_some, if_neg i10, p_put (kC_0_5 h0).2 (by omega) (by decide), bnd_some, if_neg q1, letF, q2]
      exact fin_don hs (e2.sq lo.1) e4.sq (ho.put hN hW hw e2 e4 (hw.up (Or.inr (Or.inr (Or.inr (Or.inr (Or.inr (Or.inr (Or.inl ⟨rfl, w, by omega, rfl⟩)))))))) (by rw [upK_n (by omega)]; exact hsn) (fun k _ _ => upK_nK (by decide) k))
end DEEDS
