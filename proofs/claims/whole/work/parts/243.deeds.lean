/-! LIFE: a STEP's deed -/
def LfC (C0 : Mem) (c : Nat) (K : Kt) (C : Mem) : Prop := IsC C c K ∧ (∀ n k, (n < c ∨ c + 28 ≤ n ∨ n = c + 2 ∨ n = c + 24 ∨ n = c + 25) → ¬ (n = 25 ∧ 2 ≤ k ∧ k ≤ 6) → gI C n k = gI C0 n k) ∧ (∀ n k, gL C n k = gL C0 n k) ∧ ∀ n k, gR C n k = gR C0 n k
def LfR (R0 : Mem) (K : Kt) (R : Mem) : Prop := IsR R 0 K ∧ (∀ n k, ¬ (n = 1 ∧ k < 134 ∧ k ≠ 8) → ¬ (n = 0 ∧ (k = 35 ∨ k = 36)) → ¬ n = 17 → ¬ n = 18 → gI R n k = gI R0 n k) ∧ ∀ n k, gL R n k = gL R0 n k
def SimK (C0 : Mem) (c : Nat) (R0 : Mem) (K0 : Kt) (n : Nat) (K : Kt) (x : Nat) (C R : Mem) : Prop :=
  WFK K ∧ (∃ s : Nat, s ≤ 9999 ∧ K 20 1 = nI s) ∧ (∀ k, nK K k = nK K0 k) ∧ x < 65536 ∧ LfC C0 c K C ∧ LfR R0 K R ∧ gI C 25 2 = nI x ∧ gI R 0 35 = nI x ∧ gI C 25 3 = nI n ∧ gI R 0 36 = nI n ∧ gI C 25 4 = gI R 18 0 ∧ gI R 18 4 = 0 ∧
  gI R 18 1 = K 20 1 - K0 20 1 ∧ gI R 18 2 = nI (fcK K 1) - nI (fcK K0 1) ∧ gI R 18 3 = nI (fcK K 2) - nI (fcK K0 2)
theorem LfC.inC {C0 C C' : Mem} {c : Nat} {K K' : Kt} (h : LfC C0 c K C) (g : InC C c K' C') : LfC C0 c K' C' := ⟨g.1, fun n k a b => (g.2.1 n k a).trans (h.2.1 n k a b), fun n k => (g.2.2.1 n k).trans (h.2.2.1 n k), fun n k => (g.2.2.2 n k).trans (h.2.2.2 n k)⟩
theorem LfR.inR {R0 R R' : Mem} {K K' : Kt} (h : LfR R0 K R) (g : InR R K' R') : LfR R0 K' R' := ⟨g.1, fun n k a b c d => (g.2.1 n k a).trans (h.2.1 n k a b c d), fun n k => (g.2.2 n k).trans (h.2.2 n k)⟩
theorem LfR.set {R0 R R' : Mem} {K : Kt} (h : LfR R0 K R) (hw : WFK K) (e : ∀ n k, ¬ (n = 0 ∧ (k = 35 ∨ k = 36)) → ¬ n = 17 → ¬ n = 18 → gI R' n k = gI R n k) (f : ∀ n k, gL R' n k = gL R n k) : LfR R0 K R' := ⟨h.1.cg (fun k _ _ => e _ _ (by omega) (by omega) (by omega)) hw, fun n k a b c d => (e n k b c d).trans (h.2.1 n k a b c d), fun n k => (f n k).trans (h.2.2 n k)⟩
theorem LfC.set {C0 C C' : Mem} {c : Nat} {K : Kt} (hc : shC c = 0) (h : LfC C0 c K C) (hw : WFK K) (e : ∀ n k, ¬ (n = 25 ∧ 2 ≤ k ∧ k ≤ 6) → gI C' n k = gI C n k) (f : ∀ n k, gL C' n k = gL C n k) (g : ∀ n k, gR C' n k = gR C n k) : LfC C0 c K C' := by
  have lo := isC_lo hc
  exact ⟨h.1.cg (fun n k a b => e n k (by omega)) hw, fun n k a b => (e n k b).trans (h.2.1 n k a b), fun n k => (f n k).trans (h.2.2.1 n k), fun n k => (g n k).trans (h.2.2.2 n k)⟩
/-- what a deed leaves as it is -/
def KpC (C C' : Mem) : Prop := gI C' 25 4 = gI C 25 4 ∧ gI C' 25 5 = gI C 25 5 ∧ gI C' 25 6 = gI C 25 6
def KpR (R R' : Mem) : Prop := (∀ k, gI R' 17 k = gI R 17 k) ∧ gI R' 18 0 = gI R 18 0
section DEED
variable {C0 R0 C R C' R' : Mem} {c : Nat} {K0 K K' : Kt} {n x : Nat}
theorem SimK.deed (hc : shC c = 0) (h : SimK C0 c R0 K0 n K x C R) (gc : InC C c K' C') (gr : InR R K' R') (hw : WFK K') (hn : ∀ k, nK K' k = nK K k) (e1 : K' 20 1 = K 20 1) (e2 : ∀ i, K' 14 i = K 14 i) : SimK C0 c R0 K0 n K' x C' R' ∧ KpC C C' ∧ KpR R R' := by
  have lo := isC_lo hc
  obtain ⟨h1, h2, h3, h4, h5, h6, h7, h8, h9, h10, h11, h12, h13, h14, h15⟩ := h
  have cC : ∀ k, gI C' 25 k = gI C 25 k := fun k => gc.2.1 _ _ (by omega)
  have cR : ∀ n k, n ≠ 1 → gI R' n k = gI R n k := fun n k z => gr.2.1 _ _ (by omega)
  have fc : ∀ f, fcK K' f = fcK K f := fun f => by
    unfold fcK
    rw [hn]
    have : (fun i => decide (K' 14 i = f)) = fun i => decide (K 14 i = f) := funext (fun i => by rw [e2])
    rw [this]
  refine ⟨⟨hw, by rw [e1]; exact h2, fun k => (hn k).trans (h3 k), h4, h5.inC gc, h6.inR gr, (cC 2).trans h7, (cR 0 35 (by decide)).trans h8, (cC 3).trans h9, (cR 0 36 (by decide)).trans h10, ?_, (cR 18 4 (by decide)).trans h12, ?_, ?_, ?_⟩, ⟨cC 4, cC 5, cC 6⟩, fun k => cR 17 k (by decide), cR 18 0 (by decide)⟩
  · rw [cC 4, cR 18 0 (by decide), h11]
  · rw [cR 18 1 (by decide), h13, e1]
  · rw [cR 18 2 (by decide), h14, fc]
  · rw [cR 18 3 (by decide), h15, fc]
theorem alC_wk {c : Nat} (hc : shC c = 0) : alC (c + 24 + 1) = 150 := by rcases isC_cases hc with rfl | rfl | rfl | rfl | rfl <;> decide +kernel
theorem p_cellAt {c s i : Nat} (hc : shC c = 0) (hs : s < 30) (hi : i < 5) (M : Mem) : f_X9_cellAt (c + 24) (nI s) (nI i) M = some (gI M (c + 25) (5 * s + i), M) := by
  rw [f_X9_cellAt, litI, pk_mul, nI_add, p_cell (i := s * 5 + i) (alC_wk hc) (by omega) (by decide), bnd_some, show s * 5 + i = 5 * s + i by omega]
theorem r_row {j i : Nat} (hj : j < 60) (hi : i < 6) {e : Int32} (he : e = nI (134 + 6 * j + i)) : ¬ (e < 0 ∨ 3548 ≤ e.toNatClampNeg) ∧ e.toNatClampNeg = 134 + 6 * j + i := r_rd he (by omega)
def drwN (x : Nat) : Nat := (x * 3181 + 11399) % 65536
theorem drw_is {x : Nat} (hx : x < 65536) : ((nI x * 3181 + 11399) - (nI x * 3181 + 11399) / 65536 * 65536 : Int32) = nI (drwN x) := by
  have e : (nI x * 3181 + 11399 : Int32) = nI (x * 3181 + 11399) := by rw [litI, litI, pk_mul, nI_add]
  rw [e]
  exact pk_rem (a := x * 3181 + 11399) (d := 65536) (by omega) (by omega) (by omega)
theorem drw_lt (x : Nat) : drwN x < 65536 := Nat.mod_lt _ (by omega)
/-- an ANY feeds whom it draws -/
theorem any_draw {x m : Nat} (hm : 0 < m) (hm2 : m < 100) (hx : x < 65536) : nI x / 8 - nI x / 8 / nI m * nI m = nI (x / 8 % m) := by
  have e : nI x / (8 : Int32) = nI (x / 8) := pk_div (d := 8) (by omega) (by omega) (by omega)
  rw [e]
  exact pk_rem (by omega) (by omega) (by omega)
/-- one deed of the class and of the reference -/
def Dn (C0 : Mem) (c : Nat) (R0 : Mem) (K0 : Kt) (n : Nat) (C R : Mem) (X Y : Rs Int32) : Prop := ∃ b C' R' K' x', (b = 0 ∨ b = 1) ∧ X = some (b, C') ∧ Y = some (b, R') ∧ SimK C0 c R0 K0 n K' x' C' R' ∧ KpC C C' ∧ KpR R R'
theorem fin_b {b : Int32} {M : Mem} (h : b = 0 ∨ b = 1) : (if ¬ (b = 0 ∨ b = 1) then none else some (b, M) : Rs Int32) = some (b, M) := if_neg (fun z => z h)
theorem bI_b (b : Bool) : bI b = 0 ∨ bI b = 1 := by cases b <;> decide
theorem dn_feed (hc : shC c = 0) (h : SimK C0 c R0 K0 n K x C R) {p m : Nat} (hp : p < nK K 3) (hm : m ≤ 99) : Dn C0 c R0 K0 n C R (f_X0_feedPerson c (nI p) (nI m) C) (f_X12_meals (nI p) (nI m) R) := by
  have hw := h.1
  have h5 := h.2.2.2.2.1
  have h6 := h.2.2.2.2.2.1
  rcases p_feed (C0 := C) hc ⟨h5.1, FrC.rf⟩ hw hp hm with ⟨z, e1⟩ | ⟨z, C', e1, e2, -⟩
  · rcases r_meals (R0 := R) ⟨h6.1, FrR.rf⟩ hw hp (nI m) with ⟨z2, e3⟩ | ⟨z2, -⟩
    · exact ⟨0, C, R, K, x, Or.inl rfl, e1, e3, h, ⟨rfl, rfl, rfl⟩, fun _ => rfl, rfl⟩
    · exact absurd z z2
  · rcases r_meals (R0 := R) ⟨h6.1, FrR.rf⟩ hw hp (nI m) with ⟨z2, e3⟩ | ⟨z2, R', e3, e4⟩
    · exact absurd z2 z
    · obtain ⟨a, b, d⟩ := h.deed hc e2 e4 (hw.up (okFed hw hp hm)) (fun k => upK_nK (by decide) k) (upK_n (by omega)) (fun i => upK_n (by omega))
      exact ⟨1, C', R', _, x, Or.inr rfl, e1, e3, a, b, d⟩
theorem dn_smell (hc : shC c = 0) (h : SimK C0 c R0 K0 n K x C R) {p j : Nat} (hp : p < nK K 3) (hj : j < 5) (v : Int32) : Dn C0 c R0 K0 n C R (f_X0_setSmell c (nI p) (nI j) v C) (f_X12_scents (nI p) (nI j) v R) := by
  have hw := h.1
  have h5 := h.2.2.2.2.1
  have h6 := h.2.2.2.2.2.1
  rcases p_smell (C0 := C) hc ⟨h5.1, FrC.rf⟩ hw hp j v with ⟨z, e1⟩ | ⟨z, C', e1, e2⟩
  · rcases r_scents (R0 := R) ⟨h6.1, FrR.rf⟩ hw hp j v with ⟨z2, e3⟩ | ⟨z2, -⟩
    · exact ⟨0, C, R, K, x, Or.inl rfl, e1, e3, h, ⟨rfl, rfl, rfl⟩, fun _ => rfl, rfl⟩
    · exact absurd z z2
  · rcases r_scents (R0 := R) ⟨h6.1, FrR.rf⟩ hw hp j v with ⟨z2, e3⟩ | ⟨z2, R', e3, e4⟩
    · exact absurd z2 z
    · obtain ⟨a, b, d⟩ := h.deed hc e2 e4 (hw.up (okSm hw hp hj)) (fun k => upK_nK (by decide) k) (upK_n (by omega)) (fun i => upK_n (by omega))
      exact ⟨1, C', R', _, x, Or.inr rfl, e1, e3, a, b, d⟩
theorem dn_night (hc : shC c = 0) (h : SimK C0 c R0 K0 n K x C R) : Dn C0 c R0 K0 n C R (f_X0_coolDown c C) (f_X12_nights R) := by
  have hw := h.1
  have h5 := h.2.2.2.2.1
  have h6 := h.2.2.2.2.2.1
  obtain ⟨C', e1, e2⟩ := p_cool (C0 := C) (c := c) ⟨h5.1, FrC.rf⟩ hw
  obtain ⟨R', e3, e4⟩ := r_nights (R0 := R) ⟨h6.1, FrR.rf⟩ hw
  obtain ⟨a, b, d⟩ := h.deed hc e2 e4 (hw.up (okWarm (by omega))) (fun k => upK_nK (by decide) k) (upK_n (by omega)) (fun i => upK_n (by omega))
  exact ⟨_, C', R', _, x, bI_b _, e1, e3, a, b, d⟩
/-- a change of the draws -/
theorem SimK.drw (hc : shC c = 0) (h : SimK C0 c R0 K0 n K x C R) : SimK C0 c R0 K0 n K (drwN x) (sI C 25 2 (nI (drwN x))) (sI R 0 35 (nI (drwN x))) ∧ KpC C (sI C 25 2 (nI (drwN x))) ∧ KpR R (sI R 0 35 (nI (drwN x))) := by
  obtain ⟨h1, h2, h3, h4, h5, h6, h7, h8, h9, h10, h11, h12, h13, h14, h15⟩ := h
  have cC : ∀ n k, ¬ (n = 25 ∧ k = 2) → gI (sI C 25 2 (nI (drwN x))) n k = gI C n k := fun n k z => by rw [gI_I, if_neg z]
  have cR : ∀ n k, ¬ (n = 0 ∧ k = 35) → gI (sI R 0 35 (nI (drwN x))) n k = gI R n k := fun n k z => by rw [gI_I, if_neg z]
  exact ⟨⟨h1, h2, h3, drw_lt x, h5.set hc h1 (fun n k z => cC n k (by omega)) (fun _ _ => rfl) (fun _ _ => rfl), h6.set h1 (fun n k z1 z2 z3 => cR n k (by omega)) (fun _ _ => rfl), gI_same _ _ _ _, gI_same _ _ _ _, (cC _ _ (by omega)).trans h9, (cR _ _ (by omega)).trans h10, by rw [cC _ _ (by omega), cR _ _ (by omega), h11], (cR _ _ (by omega)).trans h12, (cR _ _ (by omega)).trans h13, (cR _ _ (by omega)).trans h14, (cR _ _ (by omega)).trans h15⟩, ⟨cC _ _ (by omega), cC _ _ (by omega), cC _ _ (by omega)⟩, fun k => cR _ _ (by omega), cR _ _ (by omega)⟩
theorem draw2 (hc : shC c = 0) (h : SimK C0 c R0 K0 n K x C R) {m : Nat} (hm : 0 < m) (hm2 : m < 100) : ∃ v C' R', v < m ∧ f_X2_draw (nI m) C = some (nI v, C') ∧ f_X12_draw (nI m) R = some (nI v, R') ∧ SimK C0 c R0 K0 n K (drwN x) C' R' ∧ KpC C C' ∧ KpR R R' := by
  obtain ⟨a, b, d⟩ := h.drw hc
  obtain ⟨h1, h2, h3, h4, h5, h6, h7, h8, -⟩ := h
  refine ⟨drwN x / 8 % m, _, _, Nat.mod_lt _ hm, ?_, ?_, a, b, d⟩
  · rw [f_X2_draw, h7, drw_is h4, letF, if_neg (nI_nle (by omega) (by omega)), if_neg (nI_ne0 (by omega) (by omega)), gI_same, any_draw hm hm2 (drw_lt x)]
  · rw [f_X12_draw, h8, drw_is h4, letF, if_neg (nI_ne0 (by omega) (by omega)), gI_same, any_draw hm hm2 (drw_lt x)]
theorem KpC.tr {C C1 C2 : Mem} (a : KpC C C1) (b : KpC C1 C2) : KpC C C2 := ⟨b.1.trans a.1, b.2.1.trans a.2.1, b.2.2.trans a.2.2⟩
theorem KpR.tr {R R1 R2 : Mem} (a : KpR R R1) (b : KpR R1 R2) : KpR R R2 := ⟨fun k => (b.1 k).trans (a.1 k), b.2.trans a.2⟩
theorem dn_any (hc : shC c = 0) (h : SimK C0 c R0 K0 n K x C R) : Dn C0 c R0 K0 n C R (f_X2_feedsAny c C) (f_X12_feedsAny R) := by
  have hw := h.1
  have hn3 := hw.n3
  have h5 := h.2.2.2.2.1
  have h6 := h.2.2.2.2.2.1
  have e1 : gI C (c + 1) 3 = nI (nK K 3) := (h5.1.1 3 (by decide)).trans hn3.1
  have e2 : gI R 1 3 = nI (nK K 3) := (h6.1.cnt (by decide)).trans hn3.1
  rw [f_X2_feedsAny, p_count3, bnd_some, p_count3, bnd_some, e1, f_X12_feedsAny, e2]
  by_cases z : nK K 3 = 0
  · rw [z, if_neg (show ¬ (0 : Int32) < nI 0 by decide), if_pos (show nI 0 = 0 from rfl)]
    exact ⟨0, C, R, K, x, Or.inl rfl, rfl, rfl, h, ⟨rfl, rfl, rfl⟩, fun _ => rfl, rfl⟩
  · obtain ⟨v, C1, R1, a1, a2, a3, a4, a5, a6⟩ := draw2 hc h (m := nK K 3) (by omega) (by omega)
    obtain ⟨w, C2, R2, b1, b2, b3, b4, b5, b6⟩ := draw2 hc a4 (m := 4) (by omega) (by omega)
    rw [if_pos (show (0 : Int32) < nI (nK K 3) from nI_lt (a := 0) (b := nK K 3) (by omega) (by omega)), if_neg (show ¬ nI (nK K 3) = 0 from nI_ne0 (by omega) (by omega)), a2, a3, bnd_some, bnd_some, show (4 : Int32) = nI 4 from rfl, b2, b3, bnd_some, bnd_some]
    by_cases zw : w = 0
    · subst zw
      rw [if_pos (show nI 0 ≤ (0 : Int32) by decide), if_pos (show nI 0 ≤ (0 : Int32) by decide)]
      exact ⟨0, C2, R2, K, _, Or.inl rfl, rfl, rfl, b4, a5.tr b5, a6.tr b6⟩
    · rw [if_neg (nI_nle (by omega) (by omega)), if_neg (nI_nle (by omega) (by omega))]
      obtain ⟨b, C3, R3, K3, x3, d1, d2, d3, d4, d5, d6⟩ := dn_feed hc b4 (p := v) (m := w) a1 (by omega)
      rw [d2, d3, bnd_some, bnd_some]
      refine ⟨b, C3, R3, K3, x3, d1, ?_, ?_, d4, (a5.tr b5).tr d5, (a6.tr b6).tr d6⟩
      · rcases d1 with rfl | rfl
        · rw [if_pos rfl]
        · rw [if_neg i10]
      · rcases d1 with rfl | rfl
        · rw [if_pos rfl]
        · rw [if_neg i10]
end DEED
