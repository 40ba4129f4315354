/-! LEAST: least, leastBy -/
theorem xor5 : ∀ a, a < 32 → ∀ b, b < 32 → (nI a ^^^ nI b) = nI (a ^^^ b) ∧ a ^^^ b < 32 ∧ popI (nI (a ^^^ b)) ≤ 5 := by decide +kernel
theorem nI_or {a b : Nat} (ha : a < 2 ^ 30) (hb : b < 2 ^ 30) : (nI a ||| nI b) = nI (a ||| b) := by
  have h := Nat.or_lt_two_pow ha hb
  refine b_ext (fun j hj => ?_)
  rw [b_or, bt_nI (by omega), bt_nI (by omega), bt_nI (by omega), Nat.testBit_or]
theorem plan_is {d m s : Nat} (hd : d ≤ 25) (hm : m ≤ 20) (hs : s < 32) : ((nI d <<< ((10 : Int32) &&& 31)) ||| (nI m <<< ((5 : Int32) &&& 31))) ||| nI s = nI (d * 1024 + m * 32 + s) := by
  have e1 : nI d <<< ((10 : Int32) &&& 31) = nI (d * 2 ^ 10) := pk_shlN _ 10 (by decide) (by omega)
  have e2 : nI m <<< ((5 : Int32) &&& 31) = nI (m * 2 ^ 5) := pk_shlN _ 5 (by decide) (by omega)
  have e3 : d * 2 ^ 10 ||| m * 2 ^ 5 = d * 2 ^ 10 + m * 2 ^ 5 := by
    have := Nat.shiftLeft_add_eq_or_of_lt (i := 10) (b := m * 2 ^ 5) (by omega) d
    rw [Nat.shiftLeft_eq] at this
    exact this.symm
  have e4 : (d * 2 ^ 10 + m * 2 ^ 5) ||| s = d * 2 ^ 10 + m * 2 ^ 5 + s := by
    have := Nat.shiftLeft_add_eq_or_of_lt (i := 5) (b := s) (by omega) (d * 2 ^ 5 + m)
    rw [Nat.shiftLeft_eq, show (d * 2 ^ 5 + m) * 2 ^ 5 = d * 2 ^ 10 + m * 2 ^ 5 by omega] at this
    exact this.symm
  rw [e1, e2, nI_or (by omega) (by omega), e3, nI_or (by omega) (by omega), e4]
def FlR (R0 R : Mem) : Prop := (∀ n k, ¬ (n = 0 ∧ (k = 26 ∨ k = 27 ∨ k = 28)) → gI R n k = gI R0 n k) ∧ ∀ n k, gL R n k = gL R0 n k
theorem FlR.rf {C : Mem} : FlR C C := ⟨fun _ _ _ => rfl, fun _ _ => rfl⟩
theorem FlR.sI {R0 R : Mem} (h : FlR R0 R) (k : Nat) (v : Int32) (hk : k = 26 ∨ k = 27 ∨ k = 28) : FlR R0 (sI R 0 k v) := ⟨fun a b z => by rw [gI_I, if_neg (by omega)]; exact h.1 a b z, fun a b => h.2 a b⟩
theorem FlR.eq {R R' : Mem} (h : FlR R R') : EqR R R' := fun n k z => ⟨h.1 n k (by unfold scrR at z; omega), h.2 n k⟩
theorem FlR.sq {R R' : Mem} (h : FlR R R') : SqR R R' := ⟨h.2 _ _, h.2 _ _, h.1 _ _ (by omega), h.1 _ _ (by omega)⟩
theorem IsR.fl {R R' : Mem} {K : Kt} (h : IsR R 0 K) (hw : WFK K) (e : FlR R R') : IsR R' 0 K := h.cg (fun k _ _ => e.1 1 k (by omega)) hw
/-- class and reference hold the same least -/
def LsI (R0 : Mem) (m s : Nat) (b : Int32) (R : Mem) : Prop := FlR R0 R ∧ ((b = -1 ∧ gI R 0 26 = nI 1000000) ∨ ∃ d ml sl, d ≤ 25 ∧ ml ≤ 20 ∧ sl < 32 ∧ b = nI (d * 1024 + ml * 32 + sl) ∧ gI R 0 26 = nI d ∧ gI R 0 27 = nI ml ∧ gI R 0 28 = nI sl ∧ ml * 32 + sl < m * 32 + s)
theorem cueNK' {K : Kt} (hw : WFK K) (g f w sm : Int32) {c : Nat} (hc : c < nK K 1) : (cueN K g f w sm = nI c) ↔ (cueK K g f w sm = nI c) := by
  have := hw.n1
  rw [cueN_K hw]
  rcases cueK_in hw g f w sm with e | ⟨i, h1, e⟩
  · rw [e, if_pos rfl, this.1]
    constructor
    · intro z
      have := nI_inj (by omega) (by omega) z
      omega
    · intro z
      exact absurd z.symm (nI_ne_m1 (by omega))
  · rw [e, if_neg (nI_ne_m1 (by omega))]
theorem least_1 {C R0 : Mem} {K : Kt} (h0 : shC (gR C 0 0) = 0) (hC : IsC C (gR C 0 0) K) (hR : IsR R0 0 K) (hw : WFK K) {p c m f : Nat} (hp : p < nK K 3) (hc : c < nK K 1) (hm : m ≤ 20) (hf : K 12 p = nI f) (hf2 : f + m ≤ 99) :
    ∀ d s fu b R, s + d = 2 ^ nK K 0 → d < fu → LsI R0 m s b R → ∃ b' R', f_X11_leastPlan_L37 (nI c) (gR C 0 0 + 13 + 1 + p) (nI m) fu b (nI s) C = some (b', C) ∧ f_X12_laysLeast_L28 (nI p) (nI c) (nI m) (nI (f + m)) fu (nI s) R = some ((), R') ∧ LsI R0 m (2 ^ nK K 0) b' R' := by
  have hn0 := hw.n0
  have hn1 := hw.n1
  have hn3 := hw.n3
  have h5 : 2 ^ nK K 0 ≤ 32 := Nat.le_trans (Nat.pow_le_pow_right (by decide) hn0.2) (by decide)
  have hpos : 0 < 2 ^ nK K 0 := Nat.pow_pos (by decide)
  have e := hC.2.2.2.1 p hp
  obtain ⟨hg, -, ⟨x, hx, hx2⟩, -⟩ := hw.2.2.2.1 p hp
  obtain ⟨wm, hw9, hwm⟩ := hw.2.2.2.2.2.2.1
  intro d
  induction d with
  | zero =>
    intro s fu b R h1 h2 h3
    obtain ⟨fu, rfl⟩ : ∃ k, fu = k + 1 := ⟨fu - 1, by omega⟩
    have e : s = 2 ^ nK K 0 := by omega
    subst e
    refine ⟨b, R, ?_, ?_, h3⟩
    · rw [f_X11_leastPlan_L37, if_neg (nn h0), p_count0, bnd_some, hC.1 0 (by decide), hn0.1, p_setOfAll, bnd_some, set_is (by omega), if_pos (nI_lt (by omega) (by omega))]
    · rw [f_X12_laysLeast_L28, (hR.fl hw h3.1).cnt (by decide), hn0.1, shl_is _ (by omega), if_pos (Int32.le_refl _)]
  | succ d ih =>
    intro s fu b R h1 h2 h3
    obtain ⟨fu, rfl⟩ : ∃ k, fu = k + 1 := ⟨fu - 1, by omega⟩
    obtain ⟨f1, f2⟩ := h3
    have hR' := hR.fl hw f1
    obtain ⟨x1, x2, x3⟩ := xor5 s (by omega) x hx
    have hd : m + popI (nI (s ^^^ x)) ≤ 25 := by omega
    obtain ⟨r0, r1, r2, r3, r4⟩ := hR'.per hp
    have nlt99 : ¬ (99 : Int32) < nI (f + m) := nI_nlt (a := 99) (by omega) (by omega)
    have ef : K 12 p + nI m = nI (f + m) := by rw [hf, nI_add]
    rw [f_X11_leastPlan_L37, if_neg (nn h0), p_count0, bnd_some, hC.1 0 (by decide), hn0.1, p_setOfAll, bnd_some, set_is (by omega), if_neg (nI_nlt (by omega) (by omega)), e 2 (by decide), show K (11 + 2) p = nI x from hx2, x1, p_bitCount (by omega), bnd_some, nI_add, letF, letF, plan_is hd hm (by omega), if_neg (nn h0), if_neg (nn h0), e 0 (by decide), e 1 (by decide), hC.2.2.2.2.2.2.1, p_cueFor h0 hC hw, bnd_some, show K (11 + 1) p + nI m = nI (f + m) from ef, show K (11 + 0) p = K 11 p from rfl]
    rw [f_X12_laysLeast_L28, hR'.cnt (by decide), hn0.1, shl_is _ (by omega), if_neg (nI_ge (by omega) (by omega)), if_neg nlt99, r_personOf1 (by omega), bnd_some, r1, hx2, x1, r_bits (by omega), bnd_some, nI_add, letF]
    have nxt : ∀ b' R', LsI R0 m (s + 1) b' R' → ∃ b'' R'', f_X11_leastPlan_L37 (nI c) (gR C 0 0 + 13 + 1 + p) (nI m) fu b' (nI (s + 1)) C = some (b'', C) ∧ f_X12_laysLeast_L28 (nI p) (nI c) (nI m) (nI (f + m)) fu (nI (s + 1)) R' = some ((), R'') ∧ LsI R0 m (2 ^ nK K 0) b'' R'' := fun b' R' h => ih (s + 1) fu b' R' (by omega) (by omega) h
    have keep : LsI R0 m (s + 1) b R := ⟨f1, by
      rcases f2 with f2 | ⟨d0, ml, sl, y1, y2, y3, y4, y5, y6, y7, y8⟩
      · exact Or.inl f2
      · exact Or.inr ⟨d0, ml, sl, y1, y2, y3, y4, y5, y6, y7, by omega⟩⟩
    have take : LsI R0 m (s + 1) (nI ((m + popI (nI (s ^^^ x))) * 1024 + m * 32 + s)) (sI (sI (sI R 0 26 (nI (m + popI (nI (s ^^^ x))))) 0 27 (nI m)) 0 28 (nI s)) := ⟨((f1.sI 26 _ (by omega)).sI 27 _ (by omega)).sI 28 _ (by omega), Or.inr ⟨m + popI (nI (s ^^^ x)), m, s, hd, hm, by omega, rfl, by rw [gI_I, if_neg (by omega), gI_I, if_neg (by omega), gI_same], by rw [gI_I, if_neg (by omega), gI_same], gI_same _ _ _ _, by omega⟩⟩
    have cref : f_X12_cueOf (2 - K 11 p) (nI (f + m)) (K 20 0) (nI s) R = some (cueK K (K 11 p) (nI (f + m)) (K 20 0) (nI s), R) := by
      rw [r_cueOf hR' hw rfl hf2 hwm hw9, two_sub hg]
    by_cases zc : cueN K (K 11 p) (nI (f + m)) (K 20 0) (nI s) = nI c
    · have zc2 := (cueNK' hw _ _ _ _ hc).mp zc
      rw [if_pos zc, f_X11_leastPlan_J119, if_neg i10]
      rcases f2 with ⟨y1, y2⟩ | ⟨d0, ml, sl, y1, y2, y3, y4, y5, y6, y7, y8⟩
      · rw [if_pos y1, letF, nI_s, y2, if_neg (nI_ge (by omega) (by omega)), r_personOf3 (by omega), bnd_some, r3, hR'.warm, cref, bnd_some, if_pos zc2, letF, letF, letF, letF]
        exact nxt _ _ take
      · rw [y4, if_neg (nI_ne_m1 (by omega)), y5]
        by_cases zd : d0 ≤ m + popI (nI (s ^^^ x))
        · rw [if_pos (nI_le (by omega) (by omega)), letF, nI_s, if_pos (nI_le zd (by omega)), letF, ← y4]
          exact nxt _ _ keep
        · rw [if_neg (nI_ge (by omega) (by omega)), letF, nI_s, if_neg (nI_ge (by omega) (by omega)), r_personOf3 (by omega), bnd_some, r3, hR'.warm, cref, bnd_some, if_pos zc2, letF, letF, letF, letF]
          exact nxt _ _ take
    · have zc2 := fun z => zc ((cueNK' hw _ _ _ _ hc).mpr z)
      rw [if_neg zc, f_X11_leastPlan_J119, if_pos i00, letF, nI_s]
      by_cases zd : gI R 0 26 ≤ nI (m + popI (nI (s ^^^ x)))
      · rw [if_pos zd, letF]
        exact nxt _ _ keep
      · rw [if_neg zd, r_personOf3 (by omega), bnd_some, r3, hR'.warm, cref, bnd_some, if_neg zc2, letF]
        exact nxt _ _ keep
theorem least_2 {C R0 : Mem} {K : Kt} (h0 : shC (gR C 0 0) = 0) (hC : IsC C (gR C 0 0) K) (hR : IsR R0 0 K) (hw : WFK K) {p c f : Nat} (hp : p < nK K 3) (hc : c < nK K 1) (hf : K 12 p = nI f) (hf2 : f ≤ 99) :
    ∀ d m fu b R, m + d = 21 → d < fu → LsI R0 m 0 b R → ∃ b' R', f_X11_leastPlan_L15 (nI c) (gR C 0 0 + 13 + 1 + p) fu b (nI m) C = some (b', C) ∧ f_X12_laysLeast_L9 (nI p) (nI c) fu (nI m) R = some ((), R') ∧ LsI R0 21 0 b' R' := by
  have hn0 := hw.n0
  have hn3 := hw.n3
  have h5 : 2 ^ nK K 0 ≤ 32 := Nat.le_trans (Nat.pow_le_pow_right (by decide) hn0.2) (by decide)
  have hpos : 0 < 2 ^ nK K 0 := Nat.pow_pos (by decide)
  have e := hC.2.2.2.1 p hp
  have up : ∀ m b R, LsI R0 m (2 ^ nK K 0) b R → LsI R0 (m + 1) 0 b R := by
    intro m b R h
    refine ⟨h.1, ?_⟩
    rcases h.2 with h | ⟨d, ml, sl, y1, y2, y3, y4, y5, y6, y7, y8⟩
    · exact Or.inl h
    · exact Or.inr ⟨d, ml, sl, y1, y2, y3, y4, y5, y6, y7, by omega⟩
  have late : ∀ d m fu b R, m + d = 21 → d < fu → 99 < f + m → LsI R0 m 0 b R → ∃ R', f_X12_laysLeast_L9 (nI p) (nI c) fu (nI m) R = some ((), R') ∧ LsI R0 21 0 b R' := by
    intro d
    induction d with
    | zero =>
      intro m fu b R h1 h2 h3 h4
      obtain ⟨fu, rfl⟩ : ∃ k, fu = k + 1 := ⟨fu - 1, by omega⟩
      have em : m = 21 := by omega
      subst em
      exact ⟨R, by rw [f_X12_laysLeast_L9, if_pos (by decide)], h4⟩
    | succ d ih =>
      intro m fu b R h1 h2 h3 h4
      obtain ⟨fu, rfl⟩ : ∃ k, fu = k + 1 := ⟨fu - 1, by omega⟩
      have hR' := hR.fl hw h4.1
      obtain ⟨g, hg⟩ : ∃ g, fz = g + 1 := ⟨999999, by rw [fz_is]⟩
      have in1 : f_X12_laysLeast_L28 (nI p) (nI c) (nI m) (nI (f + m)) fz 0 R = some ((), R) := by
        rw [hg, f_X12_laysLeast_L28, hR'.cnt (by decide), hn0.1, shl_is _ (by omega), if_neg (show ¬ nI (2 ^ nK K 0) ≤ (0 : Int32) from nI_nle hpos (by omega)), if_pos (show (99 : Int32) < nI (f + m) from nI_lt (a := 99) h3 (by omega))]
      rw [f_X12_laysLeast_L9, if_neg (show ¬ (20 : Int32) < nI m from nI_nlt (a := 20) (by omega) (by omega)), r_personOf0 (by omega), bnd_some, (hR'.per hp).1, hf, nI_add, letF, in1, bnd_some, letF, nI_s]
      refine ih (m + 1) fu b R (by omega) (by omega) (by omega) ⟨h4.1, ?_⟩
      rcases h4.2 with h | ⟨d, ml, sl, y1, y2, y3, y4, y5, y6, y7, y8⟩
      · exact Or.inl h
      · exact Or.inr ⟨d, ml, sl, y1, y2, y3, y4, y5, y6, y7, by omega⟩
  intro d
  induction d with
  | zero =>
    intro m fu b R h1 h2 h3
    obtain ⟨fu, rfl⟩ : ∃ k, fu = k + 1 := ⟨fu - 1, by omega⟩
    have em : m = 21 := by omega
    subst em
    exact ⟨b, R, by rw [f_X11_leastPlan_L15, if_pos (by decide)], by rw [f_X12_laysLeast_L9, if_pos (by decide)], h3⟩
  | succ d ih =>
    intro m fu b R h1 h2 h3
    obtain ⟨fu, rfl⟩ : ∃ k, fu = k + 1 := ⟨fu - 1, by omega⟩
    have hR' := hR.fl hw h3.1
    have n20 : ¬ (20 : Int32) < nI m := nI_nlt (a := 20) (by omega) (by omega)
    by_cases zf : f + m ≤ 99
    · obtain ⟨b', R', a1, a2, a3⟩ := least_1 h0 hC hR hw hp hc (m := m) (by omega) hf zf (2 ^ nK K 0) 0 fz b R (by omega) (by rw [fz_is]; omega) h3
      have a1' : f_X11_leastPlan_L37 (nI c) (gR C 0 0 + 13 + 1 + p) (nI m) fz b 0 C = some (b', C) := a1
      have a2' : f_X12_laysLeast_L28 (nI p) (nI c) (nI m) (nI (f + m)) fz 0 R = some ((), R') := a2
      rw [f_X11_leastPlan_L15, if_neg n20, e 1 (by decide), show K (11 + 1) p = nI f from hf, nI_add, if_neg (show ¬ (99 : Int32) < nI (f + m) from nI_nlt (a := 99) zf (by omega)), a1', bnd_some, letF, nI_s]
      rw [f_X12_laysLeast_L9, if_neg n20, r_personOf0 (by omega), bnd_some, (hR'.per hp).1, hf, nI_add, letF, a2', bnd_some, letF, nI_s]
      exact ih (m + 1) fu b' R' (by omega) (by omega) (up m b' R' a3)
    · obtain ⟨R', a1, a2⟩ := late (d + 1) m (fu + 1) b R (by omega) (by omega) (by omega) h3
      refine ⟨b, R', ?_, a1, a2⟩
      rw [f_X11_leastPlan_L15, if_neg n20, e 1 (by decide), show K (11 + 1) p = nI f from hf, nI_add, if_pos (show (99 : Int32) < nI (f + m) from nI_lt (a := 99) (by omega) (by omega))]
theorem least2 {C R : Mem} {K : Kt} (h0 : shC (gR C 0 0) = 0) (hC : IsC C (gR C 0 0) K) (hR : IsR R 0 K) (hw : WFK K) {p c : Nat} (hp : p < nK K 3) (hc : c < nK K 1) : ∃ b R', f_X11_leastPlan (nI p) (nI c) C = some (b, C) ∧ f_X12_laysLeast (nI p) (nI c) R = some ((), R') ∧ LsI R 21 0 b R' := by
  have hn3 := hw.n3
  obtain ⟨-, ⟨f, hf2, hf⟩, -⟩ := hw.2.2.2.1 p hp
  obtain ⟨b, R', a1, a2, a3⟩ := least_2 (R0 := R) h0 hC hR hw hp hc hf hf2 21 0 fz (-1) (sI R 0 26 1000000) (by omega) (by rw [fz_is]; omega) ⟨FlR.rf.sI 26 _ (by omega), Or.inl ⟨rfl, gI_same _ _ _ _⟩⟩
  have a1' : f_X11_leastPlan_L15 (nI c) (gR C 0 0 + 13 + 1 + p) fz (-1) 0 C = some (b, C) := a1
  have a2' : f_X12_laysLeast_L9 (nI p) (nI c) fz 0 (sI R 0 26 1000000) = some ((), R') := a2
  refine ⟨b, R', ?_, ?_, a3⟩
  · rw [f_X11_leastPlan, if_neg (nn h0), p_personAt (by omega), bnd_some, if_neg (nn (shC_per h0 (by omega))), a1', bnd_some]
  · rw [f_X12_laysLeast, letF, a2', bnd_some]
section LEAST
variable {C R : Mem}
theorem m_least (h : Rel C R) (a b : Int32) : OK2 (f_X11_least a b C) (f_X12_least a b R) := by
  obtain ⟨hs, ho⟩ := h
  obtain ⟨K, hw, hC, hR, h0, h1⟩ := ho.get
  have hn1 := hw.n1
  have hn3 := hw.n3
  rw [f_X11_least, f_X12_least, if_neg (nn h0)]
  rcases ix a (n := nK K 3) (by omega) with hx | ⟨p, hp, rfl⟩
  · rw [hasF 3 3 rfl hC hw (by decide) hx, bnd_some, if_pos i00, r_isPersonF hR hw hx, bnd_some, if_pos i00]
    exact fin_ref hs SqC.rf SqR.rf ho 1
  rw [hasT 3 3 rfl hC hw (by decide) hp, bnd_some, if_neg i10, r_isPersonT hR hw hp, bnd_some, if_neg i10, if_neg (nn h0)]
  rcases ix b (n := nK K 1) (by omega) with hx | ⟨c, hc, rfl⟩
  · rw [hasF 1 1 rfl hC hw (by decide) hx, bnd_some, if_pos i00, r_isF isCueE hR hw (by decide) hx, bnd_some, if_pos i00]
    exact fin_ref hs SqC.rf SqR.rf ho 1
  obtain ⟨l, R', a1, a2, a3, a4⟩ := least2 h0 hC hR hw hp hc
  rw [hasT 1 1 rfl hC hw (by decide) hc, bnd_some, if_neg i10, a1, bnd_some, r_isT isCueE hR hw (by decide) hc, bnd_some, if_neg i10, a2, bnd_some]
  rcases a4 with ⟨y1, y2⟩ | ⟨d, ml, sl, y1, y2, y3, y4, y5, y6, y7, y8⟩
  · rw [if_pos y1, if_pos (show gI R' 0 26 = 1000000 from y2)]
    exact fin_ref hs SqC.rf a3.sq (ho.cg EqC.rf a3.eq) 6
  · have n1 : ¬ nI d = (1000000 : Int32) := fun z => by have := nI_inj (a := d) (b := 1000000) (by omega) (by decide) z; omega
    have sh : nI (d * 1024 + ml * 32 + sl) >>> ((10 : Int32) &&& 31) = nI d := by
      rw [pk_shrN (by omega) _ 10 (by decide)]
      congr 1; omega
    rw [y4, if_neg (nI_ne_m1 (by omega)), y5, if_neg n1, sh]
    exact fin_giv hs SqC.rf a3.sq (ho.cg EqC.rf a3.eq) _
theorem m_leastBy (h : Rel C R) (a b x : Int32) : OK2 (f_X11_leastBy a b x C) (f_X12_leastBy a b x R) := by
  obtain ⟨hs, ho⟩ := h
  obtain ⟨K, hw, hC, hR, h0, h1⟩ := ho.get
  have hn1 := hw.n1
  have hn3 := hw.n3
  rw [f_X11_leastBy, f_X12_leastBy, if_neg (nn h0)]
  rcases ix a (n := nK K 3) (by omega) with hx | ⟨p, hp, rfl⟩
  · rw [hasF 3 3 rfl hC hw (by decide) hx, bnd_some, if_pos i00, r_isPersonF hR hw hx, bnd_some, if_pos i00]
    exact fin_ref hs SqC.rf SqR.rf ho 1
  rw [hasT 3 3 rfl hC hw (by decide) hp, bnd_some, if_neg i10, r_isPersonT hR hw hp, bnd_some, if_neg i10, if_neg (nn h0)]
  rcases ix b (n := nK K 1) (by omega) with hx | ⟨c, hc, rfl⟩
  · rw [hasF 1 1 rfl hC hw (by decide) hx, bnd_some, if_pos i00, r_isF isCueE hR hw (by decide) hx, bnd_some, if_pos i00]
    exact fin_ref hs SqC.rf SqR.rf ho 1
  rw [hasT 1 1 rfl hC hw (by decide) hc, bnd_some, if_neg i10, r_isT isCueE hR hw (by decide) hc, bnd_some, if_neg i10]
  rcases ix x (n := 2) (by decide) with hx | ⟨w, hwm, rfl⟩
  · rw [withinF 2 2 rfl hx, bnd_some, if_pos i00]
    by_cases hd : x < 0
    · rw [if_pos hd]; exact fin_ref hs SqC.rf SqR.rf ho 1
    · have : ¬ x ≤ 1 := by
        have := hx.resolve_left hd
        rw [i_le] at this ⊢
        rw [nI_toInt (by decide)] at this
        rw [show (1 : Int32).toInt = 1 from by decide]
        omega
      rw [if_neg hd, if_neg this]; exact fin_ref hs SqC.rf SqR.rf ho 1
  obtain ⟨l, R', a1, a2, a3, a4⟩ := least2 h0 hC hR hw hp hc
  rw [withinT 2 2 rfl (by decide) hwm, bnd_some, if_neg i10, a1, bnd_some, if_neg (nI_pos (by omega) : ¬ nI w < 0), if_pos (show nI w ≤ (1 : Int32) from nI_le (b := 1) (by omega) (by decide)), a2, bnd_some]
  rcases a4 with ⟨y1, y2⟩ | ⟨d, ml, sl, y1, y2, y3, y4, y5, y6, y7, y8⟩
  · rw [if_pos y1, if_pos (show gI R' 0 26 = 1000000 from y2)]
    exact fin_ref hs SqC.rf a3.sq (ho.cg EqC.rf a3.eq) 6
  · have n1 : ¬ nI d = (1000000 : Int32) := fun z => by have := nI_inj (a := d) (b := 1000000) (by omega) (by decide) z; omega
    have sh : (nI (d * 1024 + ml * 32 + sl) >>> ((5 : Int32) &&& 31)) &&& 31 = nI ml := by
      rw [pk_shrN (by omega) _ 5 (by decide), pk_andN (by omega) 5 (by decide)]
      congr 1; omega
    have sh2 : nI (d * 1024 + ml * 32 + sl) &&& 31 = nI sl := by
      rw [pk_andN (by omega) 5 (by decide)]
      congr 1; omega
    rw [y4, if_neg (nI_ne_m1 (by omega)), y5, if_neg n1]
    by_cases hw0 : nI w = 0
    · rw [if_pos hw0, if_pos hw0, sh, y6]
      exact fin_giv hs SqC.rf a3.sq (ho.cg EqC.rf a3.eq) _
    · rw [if_neg hw0, if_neg hw0, sh2, y7]
      exact fin_giv hs SqC.rf a3.sq (ho.cg EqC.rf a3.eq) _
end LEAST
