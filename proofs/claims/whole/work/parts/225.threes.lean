/-! THREES: read by both -/
def tp (R : Mem) (i k : Nat) : Nat := (gL R 5 (60 * i + 3 * k)).toInt.toNat
def tw (R : Mem) (i k : Nat) : Nat := (gL R 5 (60 * i + 3 * k + 1)).toInt.toNat
def tc (R : Mem) (i k : Nat) : Nat := (gL R 5 (60 * i + 3 * k + 2)).toInt.toNat
def okT (K : Kt) (R : Mem) (i k : Nat) : Prop := (gL R 5 (60 * i + 3 * k) = lN (tp R i k) ∧ tp R i k < nK K 3) ∧ (gL R 5 (60 * i + 3 * k + 1) = lN (tw R i k) ∧ tw R i k ≤ 9) ∧ gL R 5 (60 * i + 3 * k + 2) = lN (tc R i k) ∧ tc R i k ≤ nK K 1
/-- does a three speak against a guilt g of the person p -/
def ag (K : Kt) (R : Mem) (i : Nat) (g : Int32) (p k : Nat) : Bool := decide (tp R i k = p) && !decide (cueN K g (K 12 p) (nI (tw R i k)) (K 13 p) = nI (tc R i k))
def ngB (K : Kt) (R : Mem) (i : Nat) (g : Int32) (n p : Nat) : Bool := (List.range n).any (fun k => ag K R i g p k)
theorem ngB_s (K : Kt) (R : Mem) (i : Nat) (g : Int32) (n p : Nat) : ngB K R i g (n + 1) p = (ngB K R i g n p || ag K R i g p n) := by
  unfold ngB
  rw [List.range_succ, List.any_append]
  simp
theorem l_of {v : Int64} {n : Nat} (hn : n < 2 ^ 31) (h0 : 0 ≤ v.toInt) (h1 : v.toInt < n) : v = lN v.toInt.toNat := by
  apply Int64.toInt_inj.mp
  rw [pk_lT (by omega)]
  omega
theorem r_isPL {R : Mem} {K : Kt} (hR : IsR R 0 K) (hw : WFK K) (v : Int64) : f_X12_isPerson v R = some (bI (decide (0 ≤ v.toInt ∧ v.toInt < (nK K 3 : Int))), R) := by
  have q := hw.n3
  rw [f_X12_isPerson, hR.cnt (by decide), q.1]
  by_cases h1 : v.toInt < 0
  · rw [if_pos (by rw [lg_cmp_lt, l_lt]; exact h1), decide_eq_false (by omega)]; rfl
  · rw [if_neg (by rw [lg_cmp_lt, l_lt]; exact h1)]
    by_cases h2 : v.toInt < (nK K 3 : Int)
    · rw [if_neg (by rw [lg_cmp_ge, l_le, l_i, nI_toInt (by omega)]; omega), decide_eq_true (by omega)]; rfl
    · rw [if_pos (by rw [lg_cmp_ge, l_le, l_i, nI_toInt (by omega)]; omega), decide_eq_false (by omega)]; rfl
theorem r_isFL (v : Int64) {hi : Int64} {n : Nat} (hn : hi.toInt = n) (R : Mem) : f_X12_isFrom v 0 hi R = some (bI (decide (0 ≤ v.toInt ∧ v.toInt ≤ (n : Int))), R) := by
  rw [f_X12_isFrom]
  by_cases h1 : v.toInt < 0
  · rw [if_pos (by rw [lg_cmp_lt, l_lt]; exact h1), decide_eq_false (by omega)]; rfl
  · rw [if_neg (by rw [lg_cmp_lt, l_lt]; exact h1)]
    by_cases h2 : v.toInt ≤ (n : Int)
    · rw [if_neg (by rw [lg_cmp_gt, l_lt, hn]; omega), decide_eq_true (by omega)]; rfl
    · rw [if_pos (by rw [lg_cmp_gt, l_lt, hn]; omega), decide_eq_false (by omega)]; rfl
def FsC (C0 C : Mem) : Prop := (∀ n k, ¬ (n = 0 ∧ (k = 17 ∨ k = 18)) → gI C n k = gI C0 n k) ∧ (∀ n k, gL C n k = gL C0 n k) ∧ ∀ n k, gR C n k = gR C0 n k
theorem FsC.rf {C : Mem} : FsC C C := ⟨fun _ _ _ => rfl, fun _ _ => rfl, fun _ _ => rfl⟩
theorem FsC.sI {C0 C : Mem} (h : FsC C0 C) (k : Nat) (v : Int32) (hk : k = 17 ∨ k = 18) : FsC C0 (sI C 0 k v) := ⟨fun a b z => by rw [gI_I, if_neg (by omega)]; exact h.1 a b z, fun a b => h.2.1 a b, fun a b => h.2.2 a b⟩
theorem FsC.eq {C C' : Mem} (h : FsC C C') : EqC C C' := ⟨fun n k z => ⟨h.1 n k (by unfold scrC at z; omega), h.2.1 n k⟩, h.2.2⟩
theorem FsC.sq {C C' : Mem} (h : FsC C C') : SqC C C' := ⟨h.2.1 _ _, h.2.1 _ _, h.1 _ _ (by omega), h.1 _ _ (by omega)⟩
theorem IsC.fs {C C' : Mem} {c : Nat} {K : Kt} (h : IsC C c K) (hc : shC c = 0) (hw : WFK K) (e : FsC C C') : IsC C' c K := h.cg (fun n k a _ => e.1 n k (by have := isC_lo hc; omega)) hw
/-- one three taken -/
theorem p_take {C0 C R : Mem} {i n : Nat} {K : Kt} (h0 : shC (gR C 0 0) = 0) (hC : IsC C (gR C 0 0) K) (hw : WFK K) (hF : FsC C0 C) (hT : okT K R i n)
    (b1 : ∀ j, bt (gI C 0 17) j = ngB K R i 1 n j) (b2 : ∀ j, bt (gI C 0 18) j = ngB K R i 2 n j) :
    ∃ C', f_X11_takeThree (nI (tp R i n)) (nI (tw R i n)) (nI (tc R i n)) C = some ((), C') ∧ FsC C0 C' ∧ (∀ j, bt (gI C' 0 17) j = ngB K R i 1 (n + 1) j) ∧ (∀ j, bt (gI C' 0 18) j = ngB K R i 2 (n + 1) j) ∧ ∀ n k, gR C' n k = gR C n k := by
  have hn := hw.n3
  obtain ⟨⟨-, hp⟩, ⟨-, hwm⟩, -, hc⟩ := hT
  have lo := isC_lo h0
  have e := hC.2.2.2.1 (tp R i n) hp
  have f1 : ∀ D : Mem, (∀ n k, ¬ (n = 0 ∧ (k = 17 ∨ k = 18)) → gI D n k = gI C n k) → gI D (gR C 0 0 + 13 + 1 + tp R i n) 1 = K 12 (tp R i n) ∧ gI D (gR C 0 0 + 13 + 1 + tp R i n) 2 = K 13 (tp R i n) := fun D hD => ⟨(hD _ _ (by omega)).trans (e 1 (by decide)), (hD _ _ (by omega)).trans (e 2 (by decide))⟩
  have other : ∀ g : Int32, ∀ j, ¬ j = tp R i n → ngB K R i g (n + 1) j = ngB K R i g n j := by
    intro g j hj
    rw [ngB_s]
    unfold ag
    rw [decide_eq_false (fun z => hj z.symm), Bool.false_and, Bool.or_false]
  have same : ∀ g : Int32, ngB K R i g (n + 1) (tp R i n) = (ngB K R i g n (tp R i n) || !decide (cueN K g (K 12 (tp R i n)) (nI (tw R i n)) (K 13 (tp R i n)) = nI (tc R i n))) := by
    intro g
    rw [ngB_s]
    unfold ag
    rw [decide_eq_true rfl, Bool.true_and]
  have second : ∀ D : Mem, FsC C0 D → (∀ n k, ¬ (n = 0 ∧ (k = 17 ∨ k = 18)) → gI D n k = gI C n k) → (∀ n k, gR D n k = gR C n k) → IsC D (gR C 0 0) K → (∀ j, bt (gI D 0 17) j = ngB K R i 1 (n + 1) j) → (∀ j, bt (gI D 0 18) j = ngB K R i 2 n j) →
      ∃ C', f_X11_takeThree_J45 (nI (tp R i n)) (nI (tw R i n)) (nI (tc R i n)) (gR C 0 0 + 13 + 1 + tp R i n) D = some ((), C') ∧ FsC C0 C' ∧ (∀ j, bt (gI C' 0 17) j = ngB K R i 1 (n + 1) j) ∧ (∀ j, bt (gI C' 0 18) j = ngB K R i 2 (n + 1) j) ∧ ∀ n k, gR C' n k = gR C n k := by
    intro D g1 g2 g3 g4 g5 g6
    obtain ⟨q1, q2⟩ := f1 D g2
    rw [f_X11_takeThree_J45, g3, if_neg (nn h0), q1, q2, p_cueFor h0 g4 hw, bnd_some]
    by_cases z : cueN K 2 (K 12 (tp R i n)) (nI (tw R i n)) (K 13 (tp R i n)) = nI (tc R i n)
    · rw [if_pos z]
      refine ⟨D, rfl, g1, g5, fun j => ?_, g3⟩
      by_cases y : j = tp R i n
      · rw [y, same, decide_eq_true z, g6]; simp
      · rw [other _ _ y]; exact g6 j
    · rw [if_neg z, letF]
      refine ⟨_, rfl, g1.sI 18 _ (Or.inr rfl), fun j => ?_, fun j => ?_, fun n k => g3 n k⟩
      · rw [gI_I, if_neg (by omega)]; exact g5 j
      · rw [gI_same, b_or, bt_one (by omega)]
        by_cases y : j = tp R i n
        · rw [y, same, decide_eq_false z, decide_eq_true rfl]; simp
        · rw [other _ _ y, decide_eq_false y, Bool.or_false]; exact g6 j
  rw [f_X11_takeThree, if_neg (nn h0), p_personAt (by omega), bnd_some, if_neg (nn (shC_per h0 (by omega))), if_neg (nn h0), (f1 C (fun _ _ _ => rfl)).1, (f1 C (fun _ _ _ => rfl)).2, p_cueFor h0 hC hw, bnd_some]
  by_cases z : cueN K 1 (K 12 (tp R i n)) (nI (tw R i n)) (K 13 (tp R i n)) = nI (tc R i n)
  · rw [if_pos z]
    refine second C hF (fun _ _ _ => rfl) (fun _ _ => rfl) hC (fun j => ?_) b2
    by_cases y : j = tp R i n
    · rw [y, same, decide_eq_true z, b1]; simp
    · rw [other _ _ y]; exact b1 j
  · rw [if_neg z, letF]
    refine second _ (hF.sI 17 _ (Or.inl rfl)) (fun a b y => by rw [gI_I, if_neg (by omega)]) (fun _ _ => rfl) (hC.cg (fun a b y _ => by rw [gI_I, if_neg (by omega)]) hw) (fun j => ?_) (fun j => ?_)
    · rw [gI_same, b_or, bt_one (by omega)]
      by_cases y : j = tp R i n
      · rw [y, same, decide_eq_false z, decide_eq_true rfl]; simp
      · rw [other _ _ y, decide_eq_false y, Bool.or_false]; exact b1 j
    · rw [gI_I, if_neg (by omega)]; exact b2 j
theorem threes_L {C0 R : Mem} {i n m : Nat} {K : Kt} (h0 : shC (gR C0 0 0) = 0) (hC : IsC C0 (gR C0 0 0) K) (hR : IsR R 0 K) (hw : WFK K) (hi : i < 4) (hn : n ≤ 20) (hm : 3 * n ≤ m) (hm2 : m ≤ 60) (hT : ∀ k, k < m → gL C0 (6 + 2 * i) k = gL R 5 (60 * i + k)) :
    ∀ d k fu C, k + d = n → d < fu → FsC C0 C → (∀ j, bt (gI C 0 17) j = ngB K R i 1 k j) → (∀ j, bt (gI C 0 18) j = ngB K R i 2 k j) →
      ∃ s C', f_X11_readThrees_L60 (nI n) (5 + 2 * i) fu (nI k) C = some (s, C') ∧ f_X12_wrongSeen_L49 (nI i) (nI n) fu (nI k) R = some (s, R) ∧ FsC C0 C' ∧ (s = 0 ∨ (s = 1 ∧ (∀ x, k ≤ x → x < n → okT K R i x) ∧ (∀ j, bt (gI C' 0 17) j = ngB K R i 1 n j) ∧ ∀ j, bt (gI C' 0 18) j = ngB K R i 2 n j)) := by
  have hn1 := hw.n1
  have hn3 := hw.n3
  intro d
  induction d with
  | zero =>
    intro k fu C h1 h2 f1 f2 f3
    obtain ⟨fu, rfl⟩ : ∃ k, fu = k + 1 := ⟨fu - 1, by omega⟩
    have e : k = n := by omega
    subst e
    exact ⟨1, C, by rw [f_X11_readThrees_L60, if_pos (Int32.le_refl _)], by rw [f_X12_wrongSeen_L49, if_pos (Int32.le_refl _)], f1, Or.inr ⟨rfl, fun x a b => by omega, f2, f3⟩⟩
  | succ d ih =>
    intro k fu C h1 h2 f1 f2 f3
    obtain ⟨fu, rfl⟩ : ∃ k, fu = k + 1 := ⟨fu - 1, by omega⟩
    have gr : gR C 0 0 = gR C0 0 0 := f1.2.2 _ _
    have hC' : IsC C (gR C0 0 0) K := hC.fs h0 hw f1
    have nk : ¬ nI n ≤ nI k := nI_ge (by omega) (by omega)
    have row : ∀ x, x < 3 → f_X8_numberAt (5 + 2 * i) (nI (3 * k + x)) C = some (gL R 5 (60 * i + 3 * k + x), C) := by
      intro x hx
      have qk : ¬ (nI (3 * k + x) < 0 ∨ 60 ≤ (nI (3 * k + x)).toNatClampNeg) := nI_in (by omega) (by decide)
      rw [f_X8_numberAt, withinT 60 60 rfl (by decide) (by omega), bnd_some, if_neg i10, if_neg qk, nI_clamp (by omega), f1.2.1, show 5 + 2 * i + 1 = 6 + 2 * i by omega, hT _ (by omega), Nat.add_assoc]
    have r0 : f_X8_numberAt (5 + 2 * i) (3 * nI k) C = some (gL R 5 (60 * i + 3 * k), C) := by
      have := row 0 (by decide)
      rw [Nat.add_zero, Nat.add_zero] at this
      rw [← this, litI, pk_mul]
    have r1 : f_X8_numberAt (5 + 2 * i) (3 * nI k + 1) C = some (gL R 5 (60 * i + 3 * k + 1), C) := by rw [← row 1 (by decide), litI, litI, pk_mul, nI_add]
    have r2 : f_X8_numberAt (5 + 2 * i) (3 * nI k + 2) C = some (gL R 5 (60 * i + 3 * k + 2), C) := by rw [← row 2 (by decide), litI, litI, pk_mul, nI_add]
    have e0 : (60 : Int32) * nI i + 3 * nI k = nI (60 * i + 3 * k) := by rw [litI, litI, pk_mul, pk_mul, nI_add]
    obtain ⟨u1, u2⟩ := tr_rd (e := nI (60 * i + 3 * k)) (j := 60 * i + 3 * k) rfl (by omega)
    obtain ⟨u3, u4⟩ := tr_rd (e := nI (60 * i + 3 * k) + 1) (j := 60 * i + 3 * k + 1) (nI_s _) (by omega)
    obtain ⟨u5, u6⟩ := tr_rd (e := nI (60 * i + 3 * k) + 2) (j := 60 * i + 3 * k + 2) (nI_add _ 2) (by omega)
    have n9 : (9 : Int64).toInt = (9 : Nat) := by decide
    have nc : ((nI (nK K 1)).toInt64).toInt = (nK K 1 : Nat) := by rw [l_i, nI_toInt (by omega)]
    rw [f_X11_readThrees_L60, if_neg nk, r0, bnd_some, r1, bnd_some, r2, bnd_some]
    rw [f_X12_wrongSeen_L49, if_neg nk, letF, e0, if_neg u1, u2, r_isPL hR hw, bnd_some, if_neg u3, u4, r_isFL _ n9]
    have bad : ∀ C', C' = C → f_X11_readThrees_J164 (f_X11_readThrees_L60 (nI n) (5 + 2 * i) fu) (nI n) (5 + 2 * i) (nI k) (gL R 5 (60 * i + 3 * k)) (gL R 5 (60 * i + 3 * k + 1)) (gL R 5 (60 * i + 3 * k + 2)) C' = some (0, C) := by
      intro C' e
      rw [e, f_X11_readThrees_J164, f_X11_readThrees_J165, if_pos rfl]
    generalize hv : gL R 5 (60 * i + 3 * k) = v at *
    generalize hu : gL R 5 (60 * i + 3 * k + 1) = u at *
    generalize ht : gL R 5 (60 * i + 3 * k + 2) = t at *
    by_cases z1 : v.toInt < 0
    · rw [if_pos (by rw [lg_cmp_lt, l_lt]; exact z1), bad C rfl, decide_eq_false (show ¬ (0 ≤ v.toInt ∧ v.toInt < (nK K 3 : Int)) by omega), bI_f, if_pos i00]
      exact ⟨0, C, rfl, rfl, f1, Or.inl rfl⟩
    rw [if_neg (by rw [lg_cmp_lt, l_lt]; exact z1), gr, if_neg (nn h0), p_count3, bnd_some, hC'.1 3 (by decide), hn3.1]
    by_cases z2 : v.toInt < (nK K 3 : Int)
    rotate_left
    · rw [if_pos (by rw [lg_cmp_ge, l_le, l_i, nI_toInt (by omega)]; omega), bad C rfl, decide_eq_false (show ¬ (0 ≤ v.toInt ∧ v.toInt < (nK K 3 : Int)) by omega), bI_f, if_pos i00]
      exact ⟨0, C, rfl, rfl, f1, Or.inl rfl⟩
    rw [if_neg (by rw [lg_cmp_ge, l_le, l_i, nI_toInt (by omega)]; omega), decide_eq_true (show 0 ≤ v.toInt ∧ v.toInt < (nK K 3 : Int) by omega), bI_t, if_neg i10, bnd_some]
    by_cases z3 : u.toInt < 0
    · rw [if_pos (by rw [lg_cmp_lt, l_lt]; exact z3), bad C rfl, decide_eq_false (show ¬ (0 ≤ u.toInt ∧ u.toInt ≤ ((9 : Nat) : Int)) by omega), bI_f, if_pos i00]
      exact ⟨0, C, rfl, rfl, f1, Or.inl rfl⟩
    rw [if_neg (by rw [lg_cmp_lt, l_lt]; exact z3)]
    by_cases z4 : u.toInt ≤ ((9 : Nat) : Int)
    rotate_left
    · rw [if_pos (by rw [lg_cmp_gt, l_lt, n9]; omega), bad C rfl, decide_eq_false (show ¬ (0 ≤ u.toInt ∧ u.toInt ≤ ((9 : Nat) : Int)) by omega), bI_f, if_pos i00]
      exact ⟨0, C, rfl, rfl, f1, Or.inl rfl⟩
    rw [if_neg (by rw [lg_cmp_gt, l_lt, n9]; omega), decide_eq_true (show 0 ≤ u.toInt ∧ u.toInt ≤ ((9 : Nat) : Int) by omega), bI_t, if_neg i10, if_neg u5, u6, hR.cnt (by decide), hn1.1, ht, r_isFL _ nc, bnd_some]
    by_cases z5 : t.toInt < 0
    · rw [if_pos (by rw [lg_cmp_lt, l_lt]; exact z5), bad C rfl, decide_eq_false (show ¬ (0 ≤ t.toInt ∧ t.toInt ≤ ((nK K 1 : Nat) : Int)) by omega), bI_f, if_pos i00]
      exact ⟨0, C, rfl, rfl, f1, Or.inl rfl⟩
    rw [if_neg (by rw [lg_cmp_lt, l_lt]; exact z5), gr, if_neg (nn h0), p_count1, bnd_some, hC'.1 1 (by decide), hn1.1]
    by_cases z6 : t.toInt ≤ ((nK K 1 : Nat) : Int)
    rotate_left
    · rw [if_pos (by rw [lg_cmp_gt, l_lt, nc]; omega), bad C rfl, decide_eq_false (show ¬ (0 ≤ t.toInt ∧ t.toInt ≤ ((nK K 1 : Nat) : Int)) by omega), bI_f, if_pos i00]
      exact ⟨0, C, rfl, rfl, f1, Or.inl rfl⟩
    rw [if_neg (by rw [lg_cmp_gt, l_lt, nc]; omega), decide_eq_true (show 0 ≤ t.toInt ∧ t.toInt ≤ ((nK K 1 : Nat) : Int) by omega), bI_t, if_neg i10]
    have ev : v = lN (tp R i k) := by
      unfold tp; rw [hv]; exact l_of (n := nK K 3) (by omega) (by omega) (by omega)
    have eu : u = lN (tw R i k) := by
      unfold tw; rw [hu]; exact l_of (n := 10) (by omega) (by omega) (by omega)
    have et : t = lN (tc R i k) := by
      unfold tc; rw [ht]; exact l_of (n := nK K 1 + 1) (by omega) (by omega) (by omega)
    have hk : okT K R i k := by
      refine ⟨⟨hv.trans ev, ?_⟩, ⟨hu.trans eu, ?_⟩, ht.trans et, ?_⟩
      · unfold tp; rw [hv]; omega
      · unfold tw; rw [hu]; omega
      · unfold tc; rw [ht]; omega
    obtain ⟨C1, g1, g2, g3, g4, g5⟩ := p_take (C0 := C0) (C := C) (by rw [gr]; exact h0) (by rw [gr]; exact hC') hw f1 hk f2 f3
    obtain ⟨s, C2, k1, k2, k3, k4⟩ := ih (k + 1) fu C1 (by omega) (by omega) g2 g3 g4
    have l2i : ∀ j, j < 2 ^ 31 → (lN j).toInt32 = nI j := fun j hj => by rw [← nI_l hj, lg_l2i_i2l]
    have b1 := hk.1.2
    have b2 := hk.2.1.2
    have b3 := hk.2.2.2
    rw [f_X11_readThrees_J165, if_neg i10, ev, eu, et, l2i _ (by omega), l2i _ (by omega), l2i _ (by omega), g1, bnd_some, letF, letF, nI_s]
    refine ⟨s, C2, k1, k2, k3, ?_⟩
    rcases k4 with k4 | ⟨k4, k5, k6⟩
    · exact Or.inl k4
    · refine Or.inr ⟨k4, fun x x1 x2 => ?_, k6⟩
      by_cases y : x = k
      · rw [y]; exact hk
      · exact k5 x (by omega) x2
/-- what both say of the threes of a tray -/
theorem threes2 {C R : Mem} {K : Kt} (ho : RelO C R) (h0 : shC (gR C 0 0) = 0) (hC : IsC C (gR C 0 0) K) (hR : IsR R 0 K) (hw : WFK K) (a b : Int32) :
    (∃ (x : Int32) (C' : Mem), ¬ x = 0 ∧ 0 < x ∧ f_X11_readThrees a b C = some (x, C') ∧ f_X12_wrongSeen a b R = some (x, R) ∧ FsC C C') ∨
    ∃ (i n : Nat) (C' : Mem), a = nI i ∧ b = nI n ∧ i < 4 ∧ n ≤ 20 ∧ (∀ k, k < n → okT K R i k) ∧ f_X11_readThrees a b C = some (0, C') ∧ f_X12_wrongSeen a b R = some (0, R) ∧ FsC C C' ∧ (∀ j, bt (gI C' 0 17) j = ngB K R i 1 n j) ∧ ∀ j, bt (gI C' 0 18) j = ngB K R i 2 n j := by
  rw [f_X11_readThrees, f_X12_wrongSeen]
  rcases ix a (n := 4) (by decide) with hx | ⟨i, hi, rfl⟩
  · exact Or.inl ⟨1, C, by decide, by decide, by rw [withinF 4 4 rfl hx, bnd_some, if_pos i00], by rw [r_isTrayF hx, bnd_some, if_pos i00], FsC.rf⟩
  rcases ix b (n := 21) (by decide) with hx | ⟨n, hn, rfl⟩
  · exact Or.inl ⟨1, C, by decide, by decide, by rw [withinT 4 4 rfl (by decide) hi, bnd_some, if_neg i10, withinF 21 21 rfl hx, bnd_some, if_pos i00], by rw [r_isTrayT hi, bnd_some, if_neg i10, r_from0F 21 (by decide) hx (by decide), bnd_some, if_pos i00], FsC.rf⟩
  have qi : ¬ (nI i < 0 ∨ 4 ≤ (nI i).toNatClampNeg) := nI_in hi (by decide)
  have ci : (nI i).toNatClampNeg = i := nI_clamp (by omega)
  rw [withinT 4 4 rfl (by decide) hi, bnd_some, if_neg i10, withinT 21 21 rfl (by decide) hn, bnd_some, if_neg i10, p_trayAt hi, bnd_some, if_neg (nn (shC_tray hi)), f_X8_isMissing, r_isTrayT hi, bnd_some, if_neg i10, r_from0T 21 (by decide) hn (by decide), bnd_some, if_neg i10, if_neg qi, if_neg qi, ci]
  rcases ho.2.1 i hi with ⟨x, y⟩ | ⟨s, m, s1, s2, s3, s4, s5, s6, s7⟩
  · exact Or.inl ⟨2, C, by decide, by decide, by rw [if_pos x, bnd_some, if_neg i10], by rw [if_pos y], FsC.rf⟩
  have m3 : (3 : Int32) * nI n = nI (3 * n) := by rw [litI, pk_mul]
  rw [if_neg (by rw [s3]; exact nI_ne_m1 (by omega)), bnd_some, if_pos i00, m3, p_hasRun s2 s5, bnd_some, s6, if_neg (nI_ne_m1 (by omega)), nI_toInt (by omega), show (0 : Int32).toInt = 0 from rfl]
  by_cases hz : 3 * n ≤ m
  rotate_left
  · exact Or.inl ⟨3, C, by decide, by decide, by rw [decide_eq_false (by omega), bI_f, if_pos i00], by rw [if_neg (nI_ge (by omega) (by omega))], FsC.rf⟩
  have f0 : FsC C (sI (sI C 0 17 0) 0 18 0) := (FsC.rf.sI 17 0 (Or.inl rfl)).sI 18 0 (Or.inr rfl)
  have z0 : ∀ g : Int32, ∀ j, ngB K R i g 0 j = false := fun g j => rfl
  obtain ⟨s, C', k1, k2, k3, k4⟩ := threes_L (C0 := C) h0 hC hR hw hi (n := n) (by omega) hz s2 (fun k hk => (s7 k hk).1) n 0 fz _ (by omega) (by rw [fz_is]; omega) f0 (fun j => by rw [gI_I, if_neg (by omega), gI_same, b_0, z0]) (fun j => by rw [gI_same, b_0, z0])
  have k1' : f_X11_readThrees_L60 (nI n) (5 + 2 * i) fz 0 (sI (sI C 0 17 0) 0 18 0) = some (s, C') := k1
  have k2' : f_X12_wrongSeen_L49 (nI i) (nI n) fz 0 R = some (s, R) := k2
  rw [decide_eq_true (by omega), bI_t, if_neg i10, letF, letF, k1', bnd_some, if_pos (nI_le hz (by omega)), k2', bnd_some]
  rcases k4 with k4 | ⟨k4, k5, k6, k7⟩
  · subst k4
    exact Or.inl ⟨5, C', by decide, by decide, by rw [if_pos rfl], by rw [if_pos rfl], k3⟩
  · subst k4
    exact Or.inr ⟨i, n, C', rfl, rfl, hi, by omega, fun k hk => k5 k (Nat.zero_le _) hk, by rw [if_neg (by decide)], by rw [if_neg (by decide)], k3, k6, k7⟩
