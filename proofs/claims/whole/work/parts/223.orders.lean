/-! ORDER: best, bestAt -/
theorem or_is : ∀ s, s < 64 → ∀ p, p < 6 → (nI s ||| ((1 : Int32) <<< (nI p &&& 31))) = nI (s ||| 2 ^ p) ∧ s ||| 2 ^ p < 64 ∧ (s.testBit p = false → s < s ||| 2 ^ p ∧ popI (nI (s ||| 2 ^ p)) = popI (nI s) + 1) := by decide +kernel
theorem sub_iff {r s : Nat} : subB r s = true ↔ ∀ i, i < 6 → r.testBit i = true → s.testBit i = true := by
  constructor
  · exact fun h i hi hr => sub_bit h hi hr
  · intro h
    refine List.all_eq_true.mpr (fun i hi => ?_)
    have := h i (List.mem_range.mp hi)
    cases hr : r.testBit i with
    | false => rfl
    | true => rw [this hr]; rfl
theorem tb_or (s p i : Nat) : (s ||| 2 ^ p).testBit i = (s.testBit i || decide (p = i)) := by rw [Nat.testBit_or, Nat.testBit_two_pow]
theorem sub_or {s w p : Nat} (h : subB s w = true) (hp : w.testBit p = true) : subB (s ||| 2 ^ p) w = true := by
  rw [sub_iff] at h ⊢
  intro i hi hr
  rw [tb_or] at hr
  cases hs : s.testBit i with
  | true => exact h i hi hs
  | false =>
    rw [hs, Bool.false_or] at hr
    rw [← of_decide_eq_true hr]; exact hp
theorem more_in {s w : Nat} (hs : s < 64) (hw : w < 64) (h : subB s w = true) (hp : popI (nI s) < popI (nI w)) : ∃ p, p < 6 ∧ w.testBit p = true ∧ s.testBit p = false := by
  refine Classical.byContradiction (fun hn => ?_)
  have : s = w := by
    refine Nat.eq_of_testBit_eq (fun i => ?_)
    rcases Nat.lt_or_ge i 6 with z | z
    · cases e : w.testBit i with
      | true =>
        cases e2 : s.testBit i with
        | true => rfl
        | false => exact absurd ⟨i, z, e, e2⟩ hn
      | false =>
        cases e2 : s.testBit i with
        | false => rfl
        | true => rw [sub_iff.mp h i z e2] at e; cases e
    · rw [tb_big (n := 6) hs z, tb_big (n := 6) hw z]
  rw [this] at hp
  omega
theorem left_bit {w s p : Nat} (hw : w < 64) (hs : s < 64) (hp : p < 6) : inS (nI w &&& (nI s ^^^ (-1 : Int32))) (nI p) = (w.testBit p && !s.testBit p) := by
  rw [inS_bt _ (by omega), b_and, b_not _ (by omega), bt_nI (by omega), bt_nI (by omega)]
def FoC (C0 C : Mem) : Prop := (∀ n k, ¬ (21 ≤ n ∧ n ≤ 23) → gI C n k = gI C0 n k) ∧ (∀ n k, gL C n k = gL C0 n k) ∧ ∀ n k, gR C n k = gR C0 n k
def FoR (R0 R : Mem) : Prop := (∀ n k, ¬ n = 13 → gI R n k = gI R0 n k) ∧ ∀ n k, gL R n k = gL R0 n k
theorem FoC.rf {C : Mem} : FoC C C := ⟨fun _ _ _ => rfl, fun _ _ => rfl, fun _ _ => rfl⟩
theorem FoR.rf {C : Mem} : FoR C C := ⟨fun _ _ _ => rfl, fun _ _ => rfl⟩
theorem FoC.sI {C0 C : Mem} (h : FoC C0 C) (n k : Nat) (v : Int32) (hn : 21 ≤ n ∧ n ≤ 23) : FoC C0 (sI C n k v) := ⟨fun a b z => by rw [gI_I, if_neg (by omega)]; exact h.1 a b z, fun a b => h.2.1 a b, fun a b => h.2.2 a b⟩
theorem FoR.sI {C0 C : Mem} (h : FoR C0 C) (k : Nat) (v : Int32) : FoR C0 (sI C 13 k v) := ⟨fun a b z => by rw [gI_I, if_neg (by omega)]; exact h.1 a b z, fun a b => h.2 a b⟩
theorem FoC.eq {C C' : Mem} (h : FoC C C') : EqC C C' := ⟨fun n k z => ⟨h.1 n k (by unfold scrC at z; omega), h.2.1 n k⟩, h.2.2⟩
theorem FoR.eq {R R' : Mem} (h : FoR R R') : EqR R R' := fun n k z => ⟨h.1 n k (by unfold scrR at z; omega), h.2 n k⟩
theorem FoC.sq {C C' : Mem} (h : FoC C C') : SqC C C' := ⟨h.2.1 _ _, h.2.1 _ _, h.1 _ _ (by omega), h.1 _ _ (by omega)⟩
theorem FoR.sq {C C' : Mem} (h : FoR C C') : SqR C C' := ⟨h.2 _ _, h.2 _ _, h.1 _ _ (by omega), h.1 _ _ (by omega)⟩
theorem IsC.fo {C C' : Mem} {c : Nat} {K : Kt} (h : IsC C c K) (hc : shC c = 0) (hw : WFK K) (e : FoC C C') : IsC C' c K := h.cg (fun n k a _ => e.1 n k (by have := isC_lo hc; omega)) hw
theorem IsR.fo {R R' : Mem} {K : Kt} (h : IsR R 0 K) (hw : WFK K) (e : FoR R R') : IsR R' 0 K := h.cg (fun k _ _ => e.1 1 k (by omega)) hw
/-- is a person free, sat before behind so many -/
def frK (K : Kt) (s p : Nat) : Nat := if psenseK K p (mnI 9 (K 20 0 + nI (popI (nI s)))) = 2 then 1 else 0
theorem warm_s {K : Kt} (hw : WFK K) (s : Nat) : ∃ n : Nat, n ≤ 9 ∧ mnI 9 (K 20 0 + nI (popI (nI s))) = nI n := by
  obtain ⟨n, h1, h2⟩ := hw.2.2.2.2.2.2.1
  have hp := pop_le (nI s)
  rw [h2]
  exact (by decide +kernel : ∀ n, n ≤ 9 → ∀ p, p ≤ 10 → ∃ m : Nat, m ≤ 9 ∧ mnI 9 (nI n + nI p) = nI m) n h1 _ hp
/-- the places that are filled from j on -/
def DI (W j : Nat) (K : Kt) (C R : Mem) : Prop := ∀ t, t < 64 → subB t W = true → j ≤ t → ∃ f, f ≤ 64 - t ∧ gI C 22 t = nI f ∧ gI R 13 t = nI f ∧ ((∃ p, p < nK K 3 ∧ W.testBit p = true ∧ t.testBit p = false) → ∃ p, p < nK K 3 ∧ W.testBit p = true ∧ t.testBit p = false ∧ ∃ g, g ≤ 64 ∧ gI C 22 (t ||| 2 ^ p) = nI g ∧ g + frK K t p = f)
theorem p_freeWith {C : Mem} {c : Nat} {K : Kt} (hc : shC c = 0) (h : IsC C c K) (hw : WFK K) {s p g : Nat} (hs : s < 64) (hp : p < nK K 3) (hg : gI C 22 (s ||| 2 ^ p) = nI g) : f_X3_freeWith c (nI s) (nI p) C = some (nI (g + frK K s p), C) := by
  have hn := hw.n3
  obtain ⟨o1, o2, -⟩ := or_is s hs p (by omega)
  rw [f_X3_freeWith, p_bitCount (by omega), bnd_some, letF, h.2.2.2.2.2.2.1, p_senseBefore hc h hw hp, bnd_some, frK]
  by_cases z : psenseK K p (mnI 9 (K 20 0 + nI (popI (nI s)))) = 2
  · rw [if_pos z, if_pos z, f_X3_freeWith_J32, o1, p_cell zC_22 o2 (by decide), bnd_some, hg, show (1 : Int32) + nI g = nI (1 + g) from nI_add 1 g, Nat.add_comm]
  · rw [if_neg z, if_neg z, f_X3_freeWith_J32, o1, p_cell zC_22 o2 (by decide), bnd_some, hg, show (0 : Int32) + nI g = nI (0 + g) from nI_add 0 g, Nat.add_comm]
theorem fo_rd {s : Nat} (hs : s < 64) : ¬ (nI s < 0 ∨ 64 ≤ (nI s).toNatClampNeg) ∧ (nI s).toNatClampNeg = s := ⟨nI_in hs (by decide), nI_clamp (by omega)⟩
theorem mx_nI {a b : Nat} (ha : a < 2 ^ 31) (hb : b < 2 ^ 31) : mxI (nI a) (nI b) = nI (max a b) := by
  unfold mxI
  by_cases z : a < b
  · rw [if_pos (nI_lt z hb), Nat.max_eq_right (by omega)]
  · rw [if_neg (nI_nlt (by omega) ha), Nat.max_eq_left (by omega)]
/-- one set's place: the class's loop and the reference's -/
theorem most_L {C : Mem} {R0 : Mem} {c W s : Nat} {K : Kt} (hc : shC c = 0) (hC : IsC C c K) (hR : IsR R0 0 K) (hw : WFK K) (hW : W < 64) (hs : s < 64) (hsw : subB s W = true) (hD : DI W (s + 1) K C R0) :
    ∀ d i fu m R, i + d = nK K 3 → d < fu → FoR R0 R → (∀ t, ¬ t = s → gI R 13 t = gI R0 13 t) → gI R 13 s = nI m → m ≤ 64 - s → (m = 0 ∨ ∃ p, p < nK K 3 ∧ W.testBit p = true ∧ s.testBit p = false ∧ ∃ g, g ≤ 64 ∧ gI C 22 (s ||| 2 ^ p) = nI g ∧ g + frK K s p = m) →
      (∀ p, p < i → W.testBit p = true → s.testBit p = false → ∀ g, g ≤ 64 → gI C 22 (s ||| 2 ^ p) = nI g → g + frK K s p ≤ m) →
      ∃ m' R', f_X3_mostFrom_L6 c (nI W) (nI s) fu (nI m) (nI i) C = some (nI m', C) ∧ f_X12_laysOrders_L51 (nI W) (nI s) (mnI 9 (K 20 0 + nI (popI (nI s)))) fu (nI i) R = some ((), R') ∧ FoR R0 R' ∧ (∀ t, ¬ t = s → gI R' 13 t = gI R0 13 t) ∧ gI R' 13 s = nI m' ∧ m' ≤ 64 - s ∧
        ((∃ p, p < nK K 3 ∧ W.testBit p = true ∧ s.testBit p = false) → ∃ p, p < nK K 3 ∧ W.testBit p = true ∧ s.testBit p = false ∧ ∃ g, g ≤ 64 ∧ gI C 22 (s ||| 2 ^ p) = nI g ∧ g + frK K s p = m') := by
  have hn := hw.n3
  obtain ⟨wm, wm1, wm2⟩ := warm_s hw s
  intro d
  induction d with
  | zero =>
    intro i fu m R h1 h2 f1 f2 f3 f4 f5 f6
    obtain ⟨fu, rfl⟩ : ∃ k, fu = k + 1 := ⟨fu - 1, by omega⟩
    have e : i = nK K 3 := by omega
    subst e
    refine ⟨m, R, ?_, ?_, f1, f2, f3, f4, fun ⟨p, p1, p2, p3⟩ => ?_⟩
    · rw [f_X3_mostFrom_L6, p_count3, bnd_some, hC.1 3 (by decide), hn.1, if_pos (Int32.le_refl _)]
    · rw [f_X12_laysOrders_L51, (hR.fo hw f1).cnt (by decide), hn.1, if_pos (Int32.le_refl _)]
    · rcases f5 with f5 | f5
      · obtain ⟨o1, o2, o3⟩ := or_is s hs p (by omega)
        obtain ⟨g, g1, g2, -, -⟩ := hD (s ||| 2 ^ p) o2 (sub_or hsw p2) (by have := (o3 p3).1; omega)
        have := f6 p p1 p2 p3 g (by omega) g2
        exact ⟨p, p1, p2, p3, g, by omega, g2, by omega⟩
      · exact f5
  | succ d ih =>
    intro i fu m R h1 h2 f1 f2 f3 f4 f5 f6
    obtain ⟨fu, rfl⟩ : ∃ k, fu = k + 1 := ⟨fu - 1, by omega⟩
    have hi : i < nK K 3 := by omega
    rw [f_X3_mostFrom_L6, p_count3, bnd_some, hC.1 3 (by decide), hn.1, if_neg (nI_ge hi (by omega)), p_isIn, bnd_some, left_bit hW hs (by omega)]
    rw [f_X12_laysOrders_L51, (hR.fo hw f1).cnt (by decide), hn.1, if_neg (nI_ge hi (by omega)), r_isIn, bnd_some, left_bit hW hs (by omega)]
    by_cases zb : W.testBit i = true ∧ s.testBit i = false
    · obtain ⟨b1, b2⟩ := zb
      obtain ⟨o1, o2, o3⟩ := or_is s hs i (by omega)
      obtain ⟨o4, -⟩ := o3 b2
      obtain ⟨g, g1, g2, g3, -⟩ := hD (s ||| 2 ^ i) o2 (sub_or hsw b1) (by omega)
      obtain ⟨q1, q2⟩ := fo_rd hs
      obtain ⟨q3, q4⟩ := fo_rd o2
      have q1' : ¬ (nI s < 0 ∨ 64 ≤ s) := fun z => z.elim (nI_pos (by omega)) (by omega)
      have hfr : frK K s i ≤ 1 := by unfold frK; split <;> omega
      have hgR : gI R 13 (s ||| 2 ^ i) = nI g := (f2 _ (by omega)).trans g3
      rw [b1, b2, show (true && !false) = true from rfl, bI_t, if_neg i10, if_neg i10, p_freeWith hc hC hw hs hi g2, bnd_some, letF, letF, mx_nI (by omega) (by omega), nI_s, o1, if_neg q1, if_neg q3, q2, q4, f3, hgR, r_senseFor (hR.fo hw f1) hw hi wm2 wm1, bnd_some]
      have step : ∃ m' R', f_X3_mostFrom_L6 c (nI W) (nI s) fu (nI (max m (g + frK K s i))) (nI (i + 1)) C = some (nI m', C) ∧ f_X12_laysOrders_L51 (nI W) (nI s) (mnI 9 (K 20 0 + nI (popI (nI s)))) fu (nI (i + 1)) (sI R 13 s (nI (max m (g + frK K s i)))) = some ((), R') ∧ FoR R0 R' ∧ (∀ t, ¬ t = s → gI R' 13 t = gI R0 13 t) ∧ gI R' 13 s = nI m' ∧ m' ≤ 64 - s ∧
        ((∃ p, p < nK K 3 ∧ W.testBit p = true ∧ s.testBit p = false) → ∃ p, p < nK K 3 ∧ W.testBit p = true ∧ s.testBit p = false ∧ ∃ g, g ≤ 64 ∧ gI C 22 (s ||| 2 ^ p) = nI g ∧ g + frK K s p = m') := by
        refine ih (i + 1) fu _ _ (by omega) (by omega) (f1.sI _ _) (fun t ht => ?_) (gI_same _ _ _ _) (by omega) ?_ (fun p p1 p2 p3 g' g1' g2' => ?_)
        · rw [gI_I, if_neg (by omega)]; exact f2 t ht
        · by_cases z : m ≤ g + frK K s i
          · rw [Nat.max_eq_right z]
            exact Or.inr ⟨i, hi, b1, b2, g, by omega, g2, rfl⟩
          · rw [Nat.max_eq_left (by omega)]
            exact f5
        · by_cases z : p = i
          · subst z
            have : g' = g := nI_inj (by omega) (by omega) (g2'.symm.trans g2)
            subst this
            omega
          · have := f6 p (by omega) p2 p3 g' g1' g2'
            omega
      by_cases z : psenseK K i (mnI 9 (K 20 0 + nI (popI (nI s)))) = 2
      · have ef : frK K s i = 1 := by unfold frK; rw [if_pos z]
        rw [ef] at step ⊢
        rw [if_pos z, nI_s, mx_nI (by omega) (by omega), letF, if_neg q1', letF, letF]
        exact step
      · have ef : frK K s i = 0 := by unfold frK; rw [if_neg z]
        rw [ef] at step ⊢
        rw [if_neg z, show nI g + 0 = nI (g + 0) from nI_add g 0, mx_nI (by omega) (by omega), letF, if_neg q1', letF, letF]
        exact step
    · have e : (W.testBit i && !s.testBit i) = false := by
        cases h3 : W.testBit i with
        | false => rfl
        | true =>
          cases h4 : s.testBit i with
          | true => rfl
          | false => exact absurd ⟨h3, h4⟩ zb
      rw [e, bI_f, if_pos i00, if_pos i00, letF, letF, nI_s]
      refine ih (i + 1) fu m R (by omega) (by omega) f1 f2 f3 f4 f5 (fun p p1 p2 p3 => ?_)
      by_cases z : p = i
      · subst z; exact absurd ⟨p2, p3⟩ zb
      · exact f6 p (by omega) p2 p3
/-- one set more -/
theorem lays_1 {C R : Mem} {c W j : Nat} {K : Kt} (hc : shC c = 0) (hC : IsC C c K) (hR : IsR R 0 K) (hw : WFK K) (hW : W < 64) (hj : j < 64) (hD : DI W (j + 1) K C R) :
    ∃ C1 R1, (∀ fu, f_X3_settle_L16 c (nI W) (fu + 1) (nI j) C = f_X3_settle_L16 c (nI W) fu (nI j + -1) C1) ∧ (∀ fu, f_X12_laysOrders_L8 (nI W) (fu + 1) (nI j) R = f_X12_laysOrders_L8 (nI W) fu (nI j + -1) R1) ∧ FoC C C1 ∧ (∀ n k, ¬ n = 22 → gI C1 n k = gI C n k) ∧ FoR R R1 ∧ DI W j K C1 R1 := by
  have hn := hw.n3
  obtain ⟨q1, q2⟩ := fo_rd hj
  have q1' : ¬ (nI j < 0 ∨ 64 ≤ j) := fun z => z.elim (nI_pos (by omega)) (by omega)
  cases e : subB j W with
  | false =>
    refine ⟨C, R, fun fu => ?_, fun fu => ?_, FoC.rf, fun _ _ _ => rfl, FoR.rf, fun t h1 h2 h3 => ?_⟩
    · rw [f_X3_settle_L16, if_neg (nI_pos (by omega)), if_neg (sub_f hj hW e), letF]
    · rw [f_X12_laysOrders_L8, if_neg (nI_pos (by omega)), if_neg (sub_f hj hW e), letF]
    · by_cases z : t = j
      · subst z; rw [e] at h2; cases h2
      · exact hD t h1 h2 (by omega)
  | true =>
    obtain ⟨m', R1, e1, e2, e3, e4, e5, e6, e7⟩ := most_L (R0 := sI R 13 j 0) hc hC (hR.fo hw (FoR.rf.sI _ _)) hw hW hj e (fun t t1 t2 t3 => by
        obtain ⟨f, a1, a2, a3, a4⟩ := hD t t1 t2 t3
        exact ⟨f, a1, a2, by rw [gI_I, if_neg (by omega)]; exact a3, a4⟩) (nK K 3) 0 fz 0 (sI R 13 j 0) (by omega) (by rw [fz_is]; omega) FoR.rf (fun _ _ => rfl) (gI_same _ _ _ _) (by omega) (Or.inl rfl) (fun p p1 => by omega)
    have e1' : f_X3_mostFrom_L6 c (nI W) (nI j) fz 0 0 C = some (nI m', C) := e1
    have e2' : f_X12_laysOrders_L51 (nI W) (nI j) (mnI 9 (K 20 0 + nI (popI (nI j)))) fz 0 (sI R 13 j 0) = some ((), R1) := e2
    refine ⟨sI C 22 j (nI m'), R1, fun fu => ?_, fun fu => ?_, FoC.rf.sI _ _ _ (by omega), fun n k z => by rw [gI_I, if_neg (by omega)], ⟨fun n k z => ?_, fun n k => e3.2 n k⟩, fun t t1 t2 t3 => ?_⟩
    · rw [f_X3_settle_L16, if_neg (nI_pos (by omega)), if_pos (sub_t hj hW e), f_X3_mostFrom, e1', bnd_some, bnd_some, p_put zC_22 hj (by decide), bnd_some, letF]
    · rw [f_X12_laysOrders_L8, if_neg (nI_pos (by omega)), if_pos (sub_t hj hW e), if_neg q1, letF, q2, r_bits (by omega), bnd_some, letF, gI_I, if_neg (by omega), hR.warm, e2', bnd_some, letF]
    · rw [e3.1 n k z, gI_I, if_neg (by omega)]
    · by_cases z : t = j
      · subst z
        refine ⟨m', e6, gI_same _ _ _ _, e5, fun hp => ?_⟩
        obtain ⟨p, p1, p2, p3, g, p4, p5, p6⟩ := e7 hp
        obtain ⟨-, -, o3⟩ := or_is t hj p (by omega)
        exact ⟨p, p1, p2, p3, g, p4, by rw [gI_I, if_neg (by have := (o3 p3).1; omega)]; exact p5, p6⟩
      · obtain ⟨f, a1, a2, a3, a4⟩ := hD t t1 t2 (by omega)
        refine ⟨f, a1, by rw [gI_I, if_neg (by omega)]; exact a2, (e4 t z).trans (by rw [gI_I, if_neg (by omega)]; exact a3), fun hp => ?_⟩
        obtain ⟨p, p1, p2, p3, g, p4, p5, p6⟩ := a4 hp
        obtain ⟨-, -, o3⟩ := or_is t t1 p (by omega)
        exact ⟨p, p1, p2, p3, g, p4, by rw [gI_I, if_neg (by have := (o3 p3).1; omega)]; exact p5, p6⟩
theorem FoC.tr {C C1 C2 : Mem} (h : FoC C C1) (g : FoC C1 C2) : FoC C C2 := ⟨fun n k z => (g.1 n k z).trans (h.1 n k z), fun n k => (g.2.1 n k).trans (h.2.1 n k), fun n k => (g.2.2 n k).trans (h.2.2 n k)⟩
theorem FoR.tr {C C1 C2 : Mem} (h : FoR C C1) (g : FoR C1 C2) : FoR C C2 := ⟨fun n k z => (g.1 n k z).trans (h.1 n k z), fun n k => (g.2 n k).trans (h.2 n k)⟩
/-- all sets, from the one that waits down -/
theorem lays_L {c W : Nat} {K : Kt} (hc : shC c = 0) (hw : WFK K) (hW : W < 64) :
    ∀ j fu C R, j < 64 → j + 1 < fu → IsC C c K → IsR R 0 K → DI W (j + 1) K C R → ∃ C' R', f_X3_settle_L16 c (nI W) fu (nI j) C = some ((), C') ∧ f_X12_laysOrders_L8 (nI W) fu (nI j) R = some ((), R') ∧ FoC C C' ∧ (∀ n k, ¬ n = 22 → gI C' n k = gI C n k) ∧ FoR R R' ∧ DI W 0 K C' R' := by
  intro j
  induction j with
  | zero =>
    intro fu C R h1 h2 hC hR hD
    obtain ⟨fu, rfl⟩ : ∃ k, fu = k + 1 + 1 := ⟨fu - 2, by omega⟩
    obtain ⟨C1, R1, a1, a2, a3, a4, a5, a6⟩ := lays_1 hc hC hR hw hW h1 hD
    refine ⟨C1, R1, ?_, ?_, a3, a4, a5, a6⟩
    · rw [a1, f_X3_settle_L16, if_pos (by decide)]
    · rw [a2, f_X12_laysOrders_L8, if_pos (by decide)]
  | succ j ih =>
    intro fu C R h1 h2 hC hR hD
    obtain ⟨fu, rfl⟩ : ∃ k, fu = k + 1 := ⟨fu - 1, by omega⟩
    obtain ⟨C1, R1, a1, a2, a3, a4, a5, a6⟩ := lays_1 hc hC hR hw hW h1 hD
    obtain ⟨C2, R2, b1, b2, b3, b4, b5, b6⟩ := ih fu C1 R1 (by omega) (by omega) (hC.fo hc hw a3) (hR.fo hw a5) a6
    refine ⟨C2, R2, ?_, ?_, a3.tr b3, fun n k z => (b4 n k z).trans (a4 n k z), a5.tr b5, b6⟩
    · rw [a1, pk_m1]; exact b1
    · rw [a2, pk_m1]; exact b2
/-- the first that is as good as the best -/
def foP (C : Mem) (K : Kt) (W s p : Nat) : Bool := W.testBit p && (!s.testBit p && decide (gI C 22 (s ||| 2 ^ p) + nI (frK K s p) = gI C 22 s))
def foN (C : Mem) (K : Kt) (W s : Nat) : Nat := (fstB (foP C K W s) (nK K 3) 0).toNatClampNeg
def sqO (C : Mem) (K : Kt) (W : Nat) : Nat → Nat
  | 0 => 0
  | k + 1 => sqO C K W k ||| 2 ^ foN C K W (sqO C K W k)
theorem fo_ex {C R : Mem} {K : Kt} {W s : Nat} (hw : WFK K) (hW : W < 2 ^ nK K 3) (hD : DI W 0 K C R) (hs : s < 64) (hsw : subB s W = true) (hp : popI (nI s) < popI (nI W)) : ∃ p, p < nK K 3 ∧ W.testBit p = true ∧ s.testBit p = false ∧ fstB (foP C K W s) (nK K 3) 0 = nI p ∧ foN C K W s = p ∧ foP C K W s p = true ∧ (∀ j, j < p → foP C K W s j = false) := by
  have hn := hw.n3
  have h6 := pow_le6 hn.2
  obtain ⟨p0, z1, z2, z3⟩ := more_in hs (by omega) hsw hp
  have hp0 : p0 < nK K 3 := by
    rcases Nat.lt_or_ge p0 (nK K 3) with z | z
    · exact z
    · rw [tb_big hW z] at z2; cases z2
  obtain ⟨f, f1, f2, f3, f4⟩ := hD s hs hsw (Nat.zero_le _)
  obtain ⟨p1, a1, a2, a3, g, a4, a5, a6⟩ := f4 ⟨p0, hp0, z2, z3⟩
  have t1 : foP C K W s p1 = true := by
    unfold foP
    rw [a2, a3, a5, f2, nI_add, a6]
    simp
  have first : ∀ d i, i + d = nK K 3 → (∀ j, j < i → foP C K W s j = false) → ∃ p, p < nK K 3 ∧ fstB (foP C K W s) d i = nI p ∧ foP C K W s p = true ∧ (∀ j, j < p → foP C K W s j = false) := by
    intro d
    induction d with
    | zero =>
      intro i h1 h2
      have := h2 p1 (by omega)
      rw [t1] at this; cases this
    | succ d ih =>
      intro i h1 h2
      rw [fstB]
      cases e : foP C K W s i with
      | true => rw [if_pos rfl]; exact ⟨i, by omega, rfl, e, h2⟩
      | false =>
        rw [if_neg (by decide)]
        exact ih (i + 1) (by omega) (fun j hj => by
          by_cases z : j = i
          · rw [z]; exact e
          · exact h2 j (by omega))
  obtain ⟨p, b1, b2, b3, b4⟩ := first (nK K 3) 0 (by omega) (fun j hj => by omega)
  have b5 := b3
  unfold foP at b5
  rw [Bool.and_eq_true, Bool.and_eq_true] at b5
  refine ⟨p, b1, b5.1, ?_, b2, by unfold foN; rw [b2, nI_clamp (by omega)], b3, b4⟩
  cases e : s.testBit p with
  | false => rfl
  | true => rw [e] at b5; exact absurd b5.2.1 (by decide)
theorem sq_in {C R : Mem} {K : Kt} {W : Nat} (hw : WFK K) (hW : W < 2 ^ nK K 3) (hD : DI W 0 K C R) : ∀ k, k ≤ popI (nI W) → sqO C K W k < 64 ∧ subB (sqO C K W k) W = true ∧ popI (nI (sqO C K W k)) = k := by
  have hn := hw.n3
  have h6 := pow_le6 hn.2
  intro k
  induction k with
  | zero => intro _; exact ⟨(by show (0 : Nat) < 64; decide), sub_iff.mpr (fun i hi h => by rw [sqO, Nat.zero_testBit] at h; cases h), (by decide +kernel : popI (nI 0) = 0)⟩
  | succ k ih =>
    intro hk
    obtain ⟨a, b, c⟩ := ih (by omega)
    obtain ⟨p, p1, p2, p3, p4, p5, p6, p7⟩ := fo_ex hw hW hD a b (by omega)
    obtain ⟨o1, o2, o3⟩ := or_is _ a p (by omega)
    rw [sqO, p5]
    exact ⟨o2, sub_or b p2, by rw [(o3 p3).2, c]⟩
theorem p_firstOf {C : Mem} {R : Mem} {c W s : Nat} {K : Kt} (hc : shC c = 0) (hC : IsC C c K) (hw : WFK K) (hW : W < 2 ^ nK K 3) (hD : DI W 0 K C R) (hs : s < 64) (hsw : subB s W = true) (hp : popI (nI s) < popI (nI W)) : f_X3_firstOfBest c (nI W) (nI s) C = some (nI (foN C K W s), C) := by
  have hn := hw.n3
  have h6 := pow_le6 hn.2
  obtain ⟨p, p1, p2, p3, p4, p5, p6, p7⟩ := fo_ex hw hW hD hs hsw hp
  obtain ⟨f, f1, f2, f3, f4⟩ := hD s hs hsw (Nat.zero_le _)
  have key : ∀ d i fu, i + d = p → d < fu → f_X3_firstOfBest_L3 c (nI W) (nI s) fu (nI i) C = some ((0, nI p), C) := by
    intro d
    induction d with
    | zero =>
      intro i fu h1 h2
      obtain ⟨fu, rfl⟩ : ∃ k, fu = k + 1 := ⟨fu - 1, by omega⟩
      have e : i = p := by omega
      subst e
      obtain ⟨o1, o2, o3⟩ := or_is s hs i (by omega)
      obtain ⟨g, g1, g2, g3, -⟩ := hD (s ||| 2 ^ i) o2 (sub_or hsw p2) (Nat.zero_le _)
      unfold foP at p6
      rw [Bool.and_eq_true, Bool.and_eq_true] at p6
      have p8 := of_decide_eq_true p6.2.2
      rw [g2, nI_add] at p8
      rw [f_X3_firstOfBest_L3, p_count3, bnd_some, hC.1 3 (by decide), hn.1, if_neg (nI_ge p1 (by omega)), p_isIn, bnd_some, left_bit (by omega) hs (by omega), p2, p3, show (true && !false) = true from rfl, bI_t, if_neg i10, p_freeWith hc hC hw hs p1 g2, bnd_some, p_cell zC_22 hs (by decide), bnd_some, if_pos p8]
    | succ d ih =>
      intro i fu h1 h2
      obtain ⟨fu, rfl⟩ : ∃ k, fu = k + 1 := ⟨fu - 1, by omega⟩
      have hi : i < nK K 3 := by omega
      have no := p7 i (by omega)
      unfold foP at no
      rw [f_X3_firstOfBest_L3, p_count3, bnd_some, hC.1 3 (by decide), hn.1, if_neg (nI_ge hi (by omega)), p_isIn, bnd_some, left_bit (by omega) hs (by omega)]
      cases e1 : W.testBit i with
      | false => rw [Bool.false_and, bI_f, if_pos i00, letF, nI_s]; exact ih (i + 1) fu (by omega) (by omega)
      | true =>
        cases e2 : s.testBit i with
        | true => rw [show (true && !true) = false from rfl, bI_f, if_pos i00, letF, nI_s]; exact ih (i + 1) fu (by omega) (by omega)
        | false =>
          obtain ⟨o1, o2, o3⟩ := or_is s hs i (by omega)
          obtain ⟨g, g1, g2, g3, -⟩ := hD (s ||| 2 ^ i) o2 (sub_or hsw e1) (Nat.zero_le _)
          rw [e1, e2, g2, nI_add] at no
          have no2 : ¬ nI (g + frK K s i) = gI C 22 s := by
            intro z
            rw [z] at no
            simp at no
          rw [show (true && !false) = true from rfl, bI_t, if_neg i10, p_freeWith hc hC hw hs hi g2, bnd_some, p_cell zC_22 hs (by decide), bnd_some, if_neg no2, letF, nI_s]
          exact ih (i + 1) fu (by omega) (by omega)
  have k0 := key p 0 fz (by omega) (by rw [fz_is]; omega)
  have k1 : f_X3_firstOfBest_L3 c (nI W) (nI s) fz 0 C = some ((0, nI p), C) := k0
  rw [f_X3_firstOfBest, k1, bnd_some, if_pos rfl, p5]
theorem r_first {C : Mem} {R : Mem} {W s : Nat} {K : Kt} (hR : IsR R 0 K) (hw : WFK K) (hW : W < 2 ^ nK K 3) (hD : DI W 0 K C R) (hs : s < 64) (hsw : subB s W = true) (hp : popI (nI s) < popI (nI W)) (a1 b5 : Int32) : f_X12_bestAt_L66 a1 (nI W) (nI s) b5 (mnI 9 (K 20 0 + nI (popI (nI s)))) fz 0 R = some (nI (foN C K W s), R) := by
  have hn := hw.n3
  have h6 := pow_le6 hn.2
  obtain ⟨wm, wm1, wm2⟩ := warm_s hw s
  obtain ⟨p, p1, p2, p3, p4, p5, p6, p7⟩ := fo_ex hw hW hD hs hsw hp
  obtain ⟨f, f1, f2, f3, f4⟩ := hD s hs hsw (Nat.zero_le _)
  obtain ⟨q1, q2⟩ := fo_rd hs
  have val : ∀ i, i < nK K 3 → W.testBit i = true → s.testBit i = false → ∀ fu, f_X12_bestAt_L66 a1 (nI W) (nI s) b5 (mnI 9 (K 20 0 + nI (popI (nI s)))) (fu + 1) (nI i) R = if foP C K W s i = true then some (nI i, R) else f_X12_bestAt_L66 a1 (nI W) (nI s) b5 (mnI 9 (K 20 0 + nI (popI (nI s)))) fu (nI (i + 1)) R := by
    intro i hi e1 e2 fu
    obtain ⟨o1, o2, o3⟩ := or_is s hs i (by omega)
    obtain ⟨q3, q4⟩ := fo_rd o2
    obtain ⟨g, g1, g2, g3, -⟩ := hD (s ||| 2 ^ i) o2 (sub_or hsw e1) (Nat.zero_le _)
    rw [f_X12_bestAt_L66, r_isIn, bnd_some, left_bit (by omega) hs (by omega), e1, e2, show (true && !false) = true from rfl, bI_t, if_neg i10, o1, if_neg q3, r_senseFor hR hw hi wm2 wm1, bnd_some, q4, g3, foP, e1, e2, g2, f2]
    by_cases z : psenseK K i (mnI 9 (K 20 0 + nI (popI (nI s)))) = 2
    · have ef : frK K s i = 1 := by unfold frK; rw [if_pos z]
      rw [ef, if_pos z, f_X12_bestAt_J108, if_neg q1, q2, f3, letF, nI_s, nI_s]
      by_cases y : nI (g + 1) = nI f
      · rw [if_pos y, show nI g + nI 1 = nI (g + 1) from nI_add g 1, if_pos (by simp [y])]
      · rw [if_neg y, show nI g + nI 1 = nI (g + 1) from nI_add g 1, if_neg (by simp [y])]
    · have ef : frK K s i = 0 := by unfold frK; rw [if_neg z]
      rw [ef, if_neg z, f_X12_bestAt_J108, if_neg q1, q2, f3, letF, nI_s, show nI g + 0 = nI g from nI_add g 0, show nI g + nI 0 = nI g from nI_add g 0]
      by_cases y : nI g = nI f
      · rw [if_pos y, if_pos (by simp [y])]
      · rw [if_neg y, if_neg (by simp [y])]
  have key : ∀ d i fu, i + d = p → d < fu → f_X12_bestAt_L66 a1 (nI W) (nI s) b5 (mnI 9 (K 20 0 + nI (popI (nI s)))) fu (nI i) R = some (nI p, R) := by
    intro d
    induction d with
    | zero =>
      intro i fu h1 h2
      obtain ⟨fu, rfl⟩ : ∃ k, fu = k + 1 := ⟨fu - 1, by omega⟩
      have e : i = p := by omega
      subst e
      rw [val i p1 p2 p3, if_pos p6]
    | succ d ih =>
      intro i fu h1 h2
      obtain ⟨fu, rfl⟩ : ∃ k, fu = k + 1 := ⟨fu - 1, by omega⟩
      have hi : i < nK K 3 := by omega
      have no := p7 i (by omega)
      cases e1 : W.testBit i with
      | false =>
        rw [f_X12_bestAt_L66, r_isIn, bnd_some, left_bit (by omega) hs (by omega), e1, Bool.false_and, bI_f, if_pos i00, letF, nI_s]
        exact ih (i + 1) fu (by omega) (by omega)
      | true =>
        cases e2 : s.testBit i with
        | true =>
          rw [f_X12_bestAt_L66, r_isIn, bnd_some, left_bit (by omega) hs (by omega), e1, e2, show (true && !true) = false from rfl, bI_f, if_pos i00, letF, nI_s]
          exact ih (i + 1) fu (by omega) (by omega)
        | false =>
          rw [val i hi e1 e2, if_neg (by rw [no]; decide)]
          exact ih (i + 1) fu (by omega) (by omega)
  have k0 := key p 0 fz (by omega) (by rw [fz_is]; omega)
  rw [p5]
  exact k0
