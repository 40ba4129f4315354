/-! fits, sure, odds -/
def FgR (R0 R : Mem) : Prop := (∀ n k, ¬ (n = 9 ∨ n = 10 ∨ (n = 0 ∧ k = 24)) → gI R n k = gI R0 n k) ∧ ∀ n k, gL R n k = gL R0 n k
theorem FgR.rf {C : Mem} : FgR C C := ⟨fun _ _ _ => rfl, fun _ _ => rfl⟩
theorem FgR.sI {R0 R : Mem} (h : FgR R0 R) (n k : Nat) (v : Int32) (hn : n = 9 ∨ n = 10 ∨ (n = 0 ∧ k = 24)) : FgR R0 (sI R n k v) := ⟨fun a b z => by rw [gI_I, if_neg (by omega)]; exact h.1 a b z, fun a b => h.2 a b⟩
theorem FgR.eq {R R' : Mem} (h : FgR R R') : EqR R R' := fun n k z => ⟨h.1 n k (by unfold scrR at z; omega), h.2 n k⟩
theorem FgR.sq {R R' : Mem} (h : FgR R R') : SqR R R' := ⟨h.2 _ _, h.2 _ _, h.1 _ _ (by omega), h.1 _ _ (by omega)⟩
theorem IsR.fg {R R' : Mem} {K : Kt} (h : IsR R 0 K) (hw : WFK K) (e : FgR R R') : IsR R' 0 K := h.cg (fun k _ _ => e.1 1 k (by omega)) hw
theorem bit_is {s p : Nat} (hs : s < 2 ^ 31) (hp : p < 32) : (nI s >>> (nI p &&& 31)) &&& (1 : Int32) = bI (s.testBit p) := by
  have h := inS_nI hs hp
  unfold inS at h
  rcases and1 (nI s >>> (nI p &&& 31)) with e | e
  · rw [e] at h ⊢
    cases z : s.testBit p with
    | false => rfl
    | true => rw [z] at h; exact absurd h (by decide)
  · rw [e] at h ⊢
    cases z : s.testBit p with
    | true => rfl
    | false => rw [z] at h; exact absurd h (by decide)
theorem cueN_in {K : Kt} (hw : WFK K) (g fed warm smells : Int32) : ∃ j, j ≤ nK K 1 ∧ cueN K g fed warm smells = nI j := by
  have := hw.n1
  rw [cueN_K hw]
  rcases cueK_in hw g fed warm smells with e | ⟨j, h1, e⟩
  · rw [e, if_pos rfl]; exact ⟨nK K 1, Nat.le_refl _, hw.n1.1⟩
  · rw [e, if_neg (nI_ne_m1 (by omega))]; exact ⟨j, by omega, rfl⟩
theorem r_wouldShow {R : Mem} {K : Kt} (hR : IsR R 0 K) (hw : WFK K) {s p w : Nat} (hs : s < 64) (hp : p < nK K 3) (hwm : w ≤ 9) : f_X12_wouldShow (nI s) (nI p) (nI w) R = some (cueN K (if s.testBit p = true then 1 else 2) (K 12 p) (nI w) (K 13 p), R) := by
  have hn := hw.n3
  have hn1 := hw.n1
  obtain ⟨e0, e1, e2, e3, e4⟩ := hR.per hp
  obtain ⟨-, ⟨f, hf, hf2⟩, -⟩ := hw.2.2.2.1 p hp
  have hg : 2 - bI (s.testBit p) = if s.testBit p = true then 1 else 2 := by cases s.testBit p <;> rfl
  rw [f_X12_wouldShow, r_personOf0 (by omega), bnd_some, r_personOf1 (by omega), bnd_some, e0, e1, bit_is (by omega) (by omega), r_cueOf hR hw hf2 hf rfl hwm, bnd_some, hg, cueN_K hw]
  rcases cueK_in hw (if s.testBit p = true then 1 else 2) (K 12 p) (nI w) (K 13 p) with e | ⟨j, h1, e⟩
  · rw [e, if_pos rfl, if_pos rfl, hR.cnt (by decide)]
  · rw [e, if_neg (nI_ne_m1 (by omega)), if_neg (nI_ne_m1 (by omega))]
theorem r_doesFit {R0 R : Mem} {K : Kt} (hR : IsR R 0 K) (hw : WFK K) (hF : FgR R0 R) {i n s : Nat} (hi : i < 4) (hn20 : n ≤ 20) (hs : s < 64) (hT : ∀ k, k < n → okT K R0 i k) : f_X12_doesFit (nI s) (nI i) (nI n) R = some (bI (fitB K R0 i n s), R) := by
  have hn1 := hw.n1
  have key : ∀ d k fu, k + d = n → d < fu → ∃ r : Nat, f_X12_doesFit_L3 (nI s) (nI i) (nI n) fu (nI k) R = some (r, R) ∧ (r = 0 ↔ ∃ x, k ≤ x ∧ x < n ∧ ag K R0 i (if s.testBit (tp R0 i x) = true then 1 else 2) (tp R0 i x) x = true) := by
    intro d
    induction d with
    | zero =>
      intro k fu h1 h2
      obtain ⟨fu, rfl⟩ : ∃ k, fu = k + 1 := ⟨fu - 1, by omega⟩
      refine ⟨1, ?_, fun z => by omega, fun ⟨x, x1, x2, _⟩ => by omega⟩
      rw [f_X12_doesFit_L3, if_pos (nI_le (by omega) (by omega))]
    | succ d ih =>
      intro k fu h1 h2
      obtain ⟨fu, rfl⟩ : ∃ k, fu = k + 1 := ⟨fu - 1, by omega⟩
      obtain ⟨r, e1, e2⟩ := ih (k + 1) fu (by omega) (by omega)
      obtain ⟨⟨t1, t2⟩, ⟨t3, t4⟩, t5, t6⟩ := hT k (by omega)
      have e0 : (60 : Int32) * nI i + 3 * nI k = nI (60 * i + 3 * k) := by rw [litI, litI, pk_mul, pk_mul, nI_add]
      obtain ⟨u1, u2⟩ := tr_rd (e := nI (60 * i + 3 * k)) (j := 60 * i + 3 * k) rfl (by omega)
      obtain ⟨u3, u4⟩ := tr_rd (e := nI (60 * i + 3 * k) + 1) (j := 60 * i + 3 * k + 1) (nI_s _) (by omega)
      obtain ⟨u5, u6⟩ := tr_rd (e := nI (60 * i + 3 * k) + 2) (j := 60 * i + 3 * k + 2) (nI_add _ 2) (by omega)
      have l2i : ∀ j, j < 2 ^ 31 → (lN j).toInt32 = nI j := fun j hj => by rw [← nI_l hj, lg_l2i_i2l]
      have hn3 := hw.n3
      obtain ⟨j, j1, j2⟩ := cueN_in hw (if s.testBit (tp R0 i k) = true then 1 else 2) (K 12 (tp R0 i k)) (nI (tw R0 i k)) (K 13 (tp R0 i k))
      rw [f_X12_doesFit_L3, if_neg (nI_ge (by omega) (by omega)), letF, e0, if_neg u1, if_neg u3, u2, u4, hF.2, hF.2, t1, t3, l2i _ (by omega), l2i _ (by omega), r_wouldShow hR hw hs t2 t4, bnd_some, if_neg u5, u6, hF.2, t5, j2, nI_l (by omega)]
      have hag : ag K R0 i (if s.testBit (tp R0 i k) = true then 1 else 2) (tp R0 i k) k = !decide (nI j = nI (tc R0 i k)) := by
        unfold ag
        rw [decide_eq_true rfl, Bool.true_and, j2]
      by_cases z : j = tc R0 i k
      · rw [if_pos (by rw [lg_cmp_eq, z]), letF, nI_s]
        refine ⟨r, e1, e2.trans ⟨fun ⟨x, x1, x2, x3⟩ => ⟨x, by omega, x2, x3⟩, fun ⟨x, x1, x2, x3⟩ => ?_⟩⟩
        by_cases y : x = k
        · rw [y, hag, z] at x3
          simp at x3
        · exact ⟨x, by omega, x2, x3⟩
      · have z2 : ¬ nI j = nI (tc R0 i k) := fun q => z (nI_inj (by omega) (by omega) q)
        rw [if_neg (by rw [lg_cmp_eq, pk_lEQ (by omega) (by omega)]; exact z)]
        refine ⟨0, rfl, fun _ => ⟨k, Nat.le_refl _, by omega, ?_⟩, fun _ => rfl⟩
        rw [hag, decide_eq_false z2]
        rfl
  obtain ⟨r, e1, e2⟩ := key n 0 fz (by omega) (by rw [fz_is]; omega)
  have e1' : f_X12_doesFit_L3 (nI s) (nI i) (nI n) fz 0 R = some (r, R) := e1
  have hfit : fitB K R0 i n s = true ↔ ¬ r = 0 := by
    unfold fitB
    rw [e2, List.all_eq_true]
    constructor
    · intro h ⟨x, x1, x2, x3⟩
      have := h x (List.mem_range.mpr x2)
      rw [x3] at this; cases this
    · intro h x hx
      cases e : ag K R0 i (if s.testBit (tp R0 i x) = true then 1 else 2) (tp R0 i x) x with
      | false => rfl
      | true => exact absurd ⟨x, Nat.zero_le _, List.mem_range.mp hx, e⟩ h
  rw [f_X12_doesFit, e1', bnd_some]
  by_cases z : r = 0
  · rw [if_pos z]
    cases e : fitB K R0 i n s with
    | false => rfl
    | true => exact absurd z (hfit.mp e)
  · rw [if_neg z, hfit.mpr z]
    rfl
theorem nar01 (b : Bool) : vp_nar .boolean (bI b) = bI b := by cases b <;> rfl
/-- what laysFits leaves -/
def LdF (K : Kt) (R0 : Mem) (i n j : Nat) (R : Mem) : Prop := FgR R0 R ∧ (∀ s, s < j → gI R 9 s = bI (fitB K R0 i n s)) ∧ gI R 0 24 = nI (foldN (fun s a => a + if fitB K R0 i n s = true then 1 else 0) j 0 0)
theorem cnt_le (A : Nat → Bool) (j : Nat) : foldN (fun s a => a + if A s = true then 1 else 0) j 0 0 ≤ j := by
  have := fold_le (g := fun s a => a + if A s = true then 1 else 0) 1 j 0 0 (fun s x _ _ => by (try dsimp only); split <;> omega)
  omega
theorem r_laysFits {R0 : Mem} {K : Kt} (hR : IsR R0 0 K) (hw : WFK K) {i n : Nat} (hi : i < 4) (hn20 : n ≤ 20) (hT : ∀ k, k < n → okT K R0 i k) : ∃ R', f_X12_laysFits (nI i) (nI n) R0 = some ((), R') ∧ LdF K R0 i n (2 ^ nK K 3) R' := by
  have hn := hw.n3
  have h6 := pow_le6 hn.2
  have key := loopI (fun fu (D : Mem) s => f_X12_laysFits_L7 (nI i) (nI n) fu (nI s) D) (2 ^ nK K 3) (fun s D => LdF K R0 i n s D) (fun b => b.1 = () ∧ LdF K R0 i n (2 ^ nK K 3) b.2)
    (fun fu D hI => ⟨((), D), ?_, rfl, hI⟩)
    (fun fu D s hs hI => Or.inl ?_) (2 ^ nK K 3) 0 (sI R0 0 24 0) fz (by omega) (by rw [fz_is]; omega) ⟨FgR.rf.sI _ _ _ (by omega), fun s hs => by omega, gI_same _ _ _ _⟩
  · obtain ⟨⟨u, D⟩, e1, -, e2⟩ := key
    have e1' : f_X12_laysFits_L7 (nI i) (nI n) fz 0 (sI R0 0 24 0) = some (u, D) := e1
    exact ⟨D, by rw [f_X12_laysFits, letF, e1', bnd_some], e2⟩
  · rw [f_X12_laysFits_L7, (hR.fg hw hI.1).cnt (by decide), hn.1, shl_is _ (by omega), if_pos (Int32.le_refl _)]
  · obtain ⟨f1, f2, f3⟩ := hI
    obtain ⟨q1, q2⟩ := fo_rd (s := s) (by omega)
    refine ⟨sI (sI D 9 s (bI (fitB K R0 i n s))) 0 24 (nI (foldN (fun s a => a + if fitB K R0 i n s = true then 1 else 0) (s + 1) 0 0)), ⟨(f1.sI _ _ _ (by omega)).sI _ _ _ (by omega), fun t ht => ?_, gI_same _ _ _ _⟩, ?_⟩
    · rw [gI_I, if_neg (by omega), gI_I]
      by_cases z : t = s
      · rw [if_pos ⟨rfl, z⟩, z]
      · rw [if_neg (by omega)]; exact f2 t (by omega)
    · have q1' : ¬ (nI s < 0 ∨ 64 ≤ s) := fun z => z.elim (nI_pos (by omega)) (by omega)
      have g24 : gI (sI D 9 s (bI (fitB K R0 i n s))) 0 24 = nI (foldN (fun s a => a + if fitB K R0 i n s = true then 1 else 0) s 0 0) := by rw [gI_I, if_neg (by omega)]; exact f3
      have es : foldN (fun s a => a + if fitB K R0 i n s = true then 1 else 0) (s + 1) 0 0 = foldN (fun s a => a + if fitB K R0 i n s = true then 1 else 0) s 0 0 + if fitB K R0 i n s = true then 1 else 0 := by
        rw [foldN_add, Nat.zero_add]
        rfl
      rw [f_X12_laysFits_L7, (hR.fg hw f1).cnt (by decide), hn.1, shl_is _ (by omega), if_neg (nI_ge hs (by omega)), r_doesFit (hR.fg hw f1) hw f1 hi hn20 (by omega) hT, bnd_some, if_neg q1, letF, nar01, q2, if_neg q1', gI_same, g24, es]
      cases e : fitB K R0 i n s with
      | false => rw [bI_f, if_pos i00, letF, letF, nI_s, if_neg (by decide), show nI (foldN (fun s a => a + if fitB K R0 i n s = true then 1 else 0) s 0 0) + 0 = nI (foldN (fun s a => a + if fitB K R0 i n s = true then 1 else 0) s 0 0 + 0) from nI_add _ 0]
      | true => rw [bI_t, if_neg i10, letF, letF, nI_s, nI_s, if_pos rfl]
theorem r_guiltyIn {R0 R : Mem} {K : Kt} (hR : IsR R0 0 K) (hw : WFK K) {i n p : Nat} (hL : LdF K R0 i n (2 ^ nK K 3) R) (hp : p < nK K 3) : f_X12_guiltyIn (nI p) R = some (nI (guiW K R0 i n p), R) := by
  have hn := hw.n3
  have h6 := pow_le6 hn.2
  have key := loopN (fun fu a s => f_X12_guiltyIn_L4 (nI p) fu (nI a) (nI s) R) (2 ^ nK K 3) (fun s a => a + if (fitB K R0 i n s && s.testBit p) = true then 1 else 0) (fun a => some (nI a, R))
    (fun fu a => by
      try dsimp only
      rw [f_X12_guiltyIn_L4, (hR.fg hw hL.1).cnt (by decide), hn.1, shl_is _ (by omega), if_pos (Int32.le_refl _)])
    (fun fu a s hs => by
      obtain ⟨q1, q2⟩ := fo_rd (s := s) (by omega)
      try dsimp only
      rw [f_X12_guiltyIn_L4, (hR.fg hw hL.1).cnt (by decide), hn.1, shl_is _ (by omega), if_neg (nI_ge hs (by omega)), if_neg q1, q2, hL.2.1 s hs]
      cases e : fitB K R0 i n s with
      | false => rw [bI_f, if_pos i00, letF, letF, nI_s, Bool.false_and, if_neg (by decide), show nI a + 0 = nI (a + 0) from nI_add a 0]
      | true =>
        rw [bI_t, if_neg i10, r_isIn, bnd_some, inS_nI (by omega) (by omega), Bool.true_and]
        cases e2 : s.testBit p with
        | false => rw [bI_f, if_pos i00, letF, letF, nI_s, if_neg (by decide), show nI a + 0 = nI (a + 0) from nI_add a 0]
        | true => rw [bI_t, if_neg i10, letF, letF, nI_s, if_pos rfl, nI_s])
    (2 ^ nK K 3) 0 0 fz (by omega) (by rw [fz_is]; omega)
  have key' : f_X12_guiltyIn_L4 (nI p) fz 0 0 R = some (nI (guiW K R0 i n p), R) := key
  rw [f_X12_guiltyIn, key', bnd_some]
/-- the class's masks -/
def cloB (K : Kt) (R : Mem) (i n p : Nat) : Bool := ngB K R i 1 n p || ngB K R i 2 n p
theorem p_ways {C R : Mem} {K : Kt} (h0 : shC (gR C 0 0) = 0) (hC : IsC C (gR C 0 0) K) (hw : WFK K) {i n : Nat} (hT : ∀ k, k < n → okT K R i k) (b1 : ∀ j, bt (gI C 0 17) j = ngB K R i 1 n j) (b2 : ∀ j, bt (gI C 0 18) j = ngB K R i 2 n j) : f_X11_ways C = some (nI (allW K R i n), C) := by
  have hn := hw.n3
  have h6 := pow_le6 hn.2
  rw [f_X11_ways]
  by_cases z : ∃ j, ngB K R i 1 n j = true ∧ ngB K R i 2 n j = true
  · obtain ⟨j, j1, j2⟩ := z
    have hj := ngB_in hT j1
    have ne : ¬ (gI C 0 17 &&& gI C 0 18) = 0 := by
      intro q
      have e : bt (gI C 0 17 &&& gI C 0 18) j = false := by rw [q, b_0]
      rw [b_and, b1, b2, j1, j2] at e
      cases e
    obtain ⟨A, a1, a2⟩ := prN_in (wy (gfK K R i n)) hj
    have wz : wy (gfK K R i n) j = 0 := by
      unfold wy gfK
      rw [j1, j2]
      rfl
    rw [if_neg ne, allW_is hT, a1, wz, Nat.mul_zero]
    rfl
  · have eq0 : (gI C 0 17 &&& gI C 0 18) = 0 := by
      refine b_ext (fun j hj => ?_)
      rw [b_0, b_and, b1, b2]
      cases h1 : ngB K R i 1 n j with
      | false => rfl
      | true =>
        cases h2 : ngB K R i 2 n j with
        | false => rfl
        | true => exact absurd ⟨j, h1, h2⟩ z
    have eor : (gI C 0 17 ||| gI C 0 18) = setB (cloB K R i n) (nK K 3) := by
      refine b_ext (fun j hj => ?_)
      rw [b_or, b1, b2, bt_setB _ (by omega)]
      unfold cloB
      by_cases hj2 : j < nK K 3
      · rw [decide_eq_true hj2, Bool.true_and]
      · rw [decide_eq_false hj2, Bool.false_and]
        cases h1 : ngB K R i 1 n j with
        | true => exact absurd (ngB_in hT h1) hj2
        | false =>
          cases h2 : ngB K R i 2 n j with
          | true => exact absurd (ngB_in hT h2) hj2
          | false => rfl
    obtain ⟨v1, v2⟩ := setB_val (cloB K R i n) (n := nK K 3) (by omega)
    have pc := pop_setB (cloB K R i n) (n := nK K 3) (by omega)
    obtain ⟨w1, w2⟩ := prN_2 (cloB K R i n) (nK K 3)
    have ew : allW K R i n = 2 ^ (nK K 3 - cntP (cloB K R i n) (nK K 3)) := by
      rw [allW_is hT, ← w1]
      refine prN_cg _ (fun q hq => ?_)
      unfold wy gfK cloB
      cases h1 : ngB K R i 1 n q <;> cases h2 : ngB K R i 2 n q <;> simp
      exact absurd ⟨q, h1, h2⟩ z
    rw [if_pos eq0, if_neg (nn h0), p_count3, bnd_some, hC.1 3 (by decide), hn.1, eor, v1, p_bitCount (by omega), bnd_some, ← v1, pc, pk_sub w2, shl_is _ (by omega), ew]
theorem p_isOpen {C R : Mem} {K : Kt} {i n p : Nat} (hp : p < 32) (b1 : ∀ j, bt (gI C 0 17) j = ngB K R i 1 n j) (b2 : ∀ j, bt (gI C 0 18) j = ngB K R i 2 n j) : f_X11_isOpen (nI p) C = some (bI (!cloB K R i n p), C) := by
  rw [f_X11_isOpen, p_isIn, bnd_some, inS_bt _ hp, b_or, b1, b2]
  unfold cloB
  cases ngB K R i 1 n p || ngB K R i 2 n p <;> rfl
section FITS
variable {C R : Mem}
theorem m_fits (h : Rel C R) (a b : Int32) : OK2 (f_X11_fits a b C) (f_X12_fits a b R) := by
  obtain ⟨hs, ho⟩ := h
  obtain ⟨K, hw, hC, hR, h0, h1⟩ := ho.get
  rw [f_X11_fits, f_X12_fits]
  rcases threes2 ho h0 hC hR hw a b with ⟨x, C', x1, x2, e1, e2, e3⟩ | ⟨i, n, C', rfl, rfl, hi, hn, hT, e1, e2, e3, e4, e5⟩
  · rw [e1, e2, bnd_some, bnd_some, if_neg x1, if_neg (Int32.not_le.mpr x2)]
    exact fin_ref hs e3.sq SqR.rf (ho.cg e3.eq EqR.rf) x
  · obtain ⟨R', r1, r2⟩ := r_laysFits hR hw hi hn hT
    have g0 : gR C' 0 0 = gR C 0 0 := e3.2.2 _ _
    rw [e1, e2, bnd_some, bnd_some, if_pos i00, if_pos (Int32.le_refl _), p_ways (by rw [g0]; exact h0) (by rw [g0]; exact hC.fs h0 hw e3) hw hT e4 e5, bnd_some, r1, bnd_some, r2.2.2]
    exact fin_giv hs e3.sq r2.1.sq (ho.cg e3.eq r2.1.eq) _
/-- how a person's guilt stands -/
theorem gui3 {K : Kt} {R : Mem} {i n p : Nat} (hT : ∀ k, k < n → okT K R i k) (hp : p < nK K 3) (hz : ¬ allW K R i n = 0) :
    (cloB K R i n p = false ∧ ∃ A, 0 < A ∧ allW K R i n = A * 2 ∧ guiW K R i n p = A) ∨ (cloB K R i n p = true ∧ ngB K R i 2 n p = true ∧ guiW K R i n p = allW K R i n) ∨ (cloB K R i n p = true ∧ ngB K R i 2 n p = false ∧ guiW K R i n p = 0) := by
  obtain ⟨A, a1, a2⟩ := guiW_is hT hp
  unfold cloB
  unfold wy gfK at a1
  unfold gfK at a2
  rw [a1] at hz ⊢
  rw [a2]
  cases h1 : ngB K R i 1 n p <;> cases h2 : ngB K R i 2 n p <;> rw [h1, h2] at hz <;> simp at hz ⊢
  omega
theorem m_sure (h : Rel C R) (a b d : Int32) : OK2 (f_X11_sure a b d C) (f_X12_sure a b d R) := by
  obtain ⟨hs, ho⟩ := h
  obtain ⟨K, hw, hC, hR, h0, h1⟩ := ho.get
  have hn3 := hw.n3
  have h6 := pow_le6 hn3.2
  rw [f_X11_sure, f_X12_sure, if_neg (nn h0)]
  rcases ix a (n := nK K 3) (by omega) with hx | ⟨p, hp, rfl⟩
  · rw [hasF 3 3 rfl hC hw (by decide) hx, bnd_some, if_pos i00, r_isPersonF hR hw hx, bnd_some, if_pos i00, f_X11_sure_J22, f_X12_sure_J19, if_neg i10, if_neg (by decide)]
    exact fin_ref hs SqC.rf SqR.rf ho 1
  rw [hasT 3 3 rfl hC hw (by decide) hp, bnd_some, if_neg i10, r_isPersonT hR hw hp, bnd_some, if_neg i10]
  rcases threes2 ho h0 hC hR hw b d with ⟨x, C', x1, x2, e1, e2, e3⟩ | ⟨i, n, C', rfl, rfl, hi, hn, hT, e1, e2, e3, e4, e5⟩
  · rw [e1, e2, bnd_some, bnd_some, f_X11_sure_J22, f_X12_sure_J19, if_neg x1, if_neg (Int32.not_le.mpr x2)]
    exact fin_ref hs e3.sq SqR.rf (ho.cg e3.eq EqR.rf) x
  · obtain ⟨R', r1, r2⟩ := r_laysFits hR hw hi hn hT
    have g0 : gR C' 0 0 = gR C 0 0 := e3.2.2 _ _
    have le : allW K R i n ≤ 2 ^ nK K 3 := cnt_le _ _
    have fin := fun s => fin_ref hs e3.sq r2.1.sq (ho.cg e3.eq r2.1.eq) s
    have fing := fun s => fin_giv hs e3.sq r2.1.sq (ho.cg e3.eq r2.1.eq) s
    have a24 : gI R' 0 24 = nI (allW K R i n) := r2.2.2
    rw [e1, e2, bnd_some, bnd_some, f_X11_sure_J22, f_X12_sure_J19, if_pos i00, if_pos (Int32.le_refl _), p_ways (by rw [g0]; exact h0) (by rw [g0]; exact hC.fs h0 hw e3) hw hT e4 e5, bnd_some, r1, bnd_some, r_guiltyIn hR hw r2 hp, bnd_some, a24]
    by_cases hz : allW K R i n = 0
    · rw [hz, if_pos (show nI 0 = 0 from rfl), if_pos (show nI 0 = 0 from rfl)]
      exact fin 6
    have hz2 : ¬ nI (allW K R i n) = 0 := nI_ne0 (by omega) (by omega)
    rw [if_neg hz2, if_neg hz2, p_isOpen (by omega) e4 e5, bnd_some]
    rcases gui3 hT hp hz with ⟨c1, A, c2, c3, c4⟩ | ⟨c1, c2, c3⟩ | ⟨c1, c2, c3⟩
    · rw [c1, c4, if_neg (show ¬ nI A ≤ 0 from nI_nle c2 (by omega)), if_neg (show ¬ nI (allW K R i n) ≤ nI A from nI_ge (by omega) (by omega)), show bI (!false) = 1 from rfl, if_neg i10]
      exact fin 6
    · rw [c1, c3, if_neg (show ¬ nI (allW K R i n) ≤ 0 from nI_nle (by omega) (by omega)), if_pos (Int32.le_refl _), f_X12_sure_J74, if_neg (show ¬ nI (allW K R i n) ≤ 0 from nI_nle (by omega) (by omega)), show bI (!true) = 0 from rfl, if_pos i00, p_isIn, bnd_some, inS_bt _ (by omega), e5, c2, bI_t, if_neg i10]
      exact fing 1
    · rw [c1, c3, if_pos (show nI 0 ≤ 0 from Int32.le_refl _), f_X12_sure_J74, if_pos (show nI 0 ≤ 0 from Int32.le_refl _), show bI (!true) = 0 from rfl, if_pos i00, p_isIn, bnd_some, inS_bt _ (by omega), e5, c2, bI_f, if_pos i00]
      exact fing 0
theorem m_odds (h : Rel C R) (a b d : Int32) : OK2 (f_X11_odds a b d C) (f_X12_odds a b d R) := by
  obtain ⟨hs, ho⟩ := h
  obtain ⟨K, hw, hC, hR, h0, h1⟩ := ho.get
  have hn3 := hw.n3
  have h6 := pow_le6 hn3.2
  rw [f_X11_odds, f_X12_odds, if_neg (nn h0)]
  rcases ix a (n := nK K 3) (by omega) with hx | ⟨p, hp, rfl⟩
  · rw [hasF 3 3 rfl hC hw (by decide) hx, bnd_some, if_pos i00, r_isPersonF hR hw hx, bnd_some, if_pos i00, f_X11_odds_J22, f_X12_odds_J19, if_neg i10, if_neg (by decide)]
    exact fin_den hs SqC.rf SqR.rf ho (by decide)
  rw [hasT 3 3 rfl hC hw (by decide) hp, bnd_some, if_neg i10, r_isPersonT hR hw hp, bnd_some, if_neg i10]
  rcases threes2 ho h0 hC hR hw b d with ⟨x, C', x1, x2, e1, e2, e3⟩ | ⟨i, n, C', rfl, rfl, hi, hn, hT, e1, e2, e3, e4, e5⟩
  · rw [e1, e2, bnd_some, bnd_some, f_X11_odds_J22, f_X12_odds_J19, if_neg x1, if_neg (Int32.not_le.mpr x2)]
    exact fin_den hs e3.sq SqR.rf (ho.cg e3.eq EqR.rf) x1
  · obtain ⟨R', r1, r2⟩ := r_laysFits hR hw hi hn hT
    have g0 : gR C' 0 0 = gR C 0 0 := e3.2.2 _ _
    have le : allW K R i n ≤ 2 ^ nK K 3 := cnt_le _ _
    have a24 : gI R' 0 24 = nI (allW K R i n) := r2.2.2
    rw [e1, e2, bnd_some, bnd_some, f_X11_odds_J22, f_X12_odds_J19, if_pos i00, if_pos (Int32.le_refl _), p_ways (by rw [g0]; exact h0) (by rw [g0]; exact hC.fs h0 hw e3) hw hT e4 e5, bnd_some, r1, bnd_some, a24]
    by_cases hz : allW K R i n = 0
    · rw [hz, if_pos (show nI 0 = 0 from rfl), if_pos (show nI 0 = 0 from rfl)]
      exact fin_den hs e3.sq r2.1.sq (ho.cg e3.eq r2.1.eq) (by decide)
    have hz2 : ¬ nI (allW K R i n) = 0 := nI_ne0 (by omega) (by omega)
    rw [if_neg hz2, if_neg hz2, p_isOpen (by omega) e4 e5, bnd_some, r_guiltyIn hR hw r2 hp, bnd_some, a24]
    rcases gui3 hT hp hz with ⟨c1, A, c2, c3, c4⟩ | ⟨c1, c2, c3⟩ | ⟨c1, c2, c3⟩
    · rw [c1, c4, show bI (!false) = 1 from rfl, if_neg i10]
      exact fin_frac hs e3.sq r2.1.sq (ho.cg e3.eq r2.1.eq) (n := 1) (d := 2) (m := A) (by decide) c2 (by omega) (by omega) rfl rfl (by rw [Nat.mul_one]; exact nI_l (by omega)) (by rw [← c3]; exact nI_l (by omega))
    · rw [c1, c3, show bI (!true) = 0 from rfl, if_pos i00, p_isIn, bnd_some, inS_bt _ (by omega), e5, c2, bI_t, if_neg i10]
      exact fin_frac hs e3.sq r2.1.sq (ho.cg e3.eq r2.1.eq) (n := 1) (d := 1) (m := allW K R i n) (by decide) (by omega) (by omega) (by omega) rfl rfl (by rw [Nat.mul_one]; exact nI_l (by omega)) (by rw [Nat.mul_one]; exact nI_l (by omega))
    · rw [c1, c3, show bI (!true) = 0 from rfl, if_pos i00, p_isIn, bnd_some, inS_bt _ (by omega), e5, c2, bI_f, if_pos i00]
      exact fin_frac hs e3.sq r2.1.sq (ho.cg e3.eq r2.1.eq) (n := 0) (d := 1) (m := allW K R i n) (by decide) (by omega) (by omega) (by omega) rfl rfl (by rw [Nat.mul_zero]; exact nI_l (by omega)) (by rw [Nat.mul_one]; exact nI_l (by omega))
end FITS
