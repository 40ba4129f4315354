/-! GAMES: the class, by windows -/
def GmI (C0 : Mem) (sp : Nat) (K : Kt) (C : Mem) : Prop := IsC C sp K ∧ (∀ n k, ¬ n = 24 → (n < sp ∨ sp + 28 ≤ n ∨ n = sp + 2 ∨ n = sp + 24 ∨ n = sp + 25) → gI C n k = gI C0 n k) ∧ (∀ n k, gL C n k = gL C0 n k) ∧ ∀ n k, gR C n k = gR C0 n k
theorem GmI.s24 {C0 C : Mem} {sp : Nat} {K : Kt} (h : GmI C0 sp K C) (hc : shC sp = 0) (hw : WFK K) (k : Nat) (v : Int32) : GmI C0 sp K (sI C 24 k v) := by
  have lo := isC_lo hc
  exact ⟨h.1.cg (fun n j a b => by rw [gI_I, if_neg (by omega)]) hw, fun n j a b => by rw [gI_I, if_neg (by omega)]; exact h.2.1 n j a b, fun n j => h.2.2.1 n j, fun n j => h.2.2.2 n j⟩
theorem GmI.up {C0 C : Mem} {sp : Nat} {K : Kt} (h : GmI C0 sp K C) (hc : shC sp = 0) (hw : WFK K) {f p : Nat} {v : Int32} (hf : f = 12 ∨ f = 13) (hp : p < nK K 3) : GmI C0 sp (upK K f p v) (sI C (sp + 13 + 1 + p) (f - 11) v) := by
  have lo := isC_lo hc
  have hn := hw.n3
  exact ⟨h.1.up hw (by omega) (sp + 13 + 1 + p) (f - 11) (fun a b => gI_I C _ _ a b v) (by omega), fun n j a b => by rw [gI_I, if_neg (by omega)]; exact h.2.1 n j a b, fun n j => h.2.2.1 n j, fun n j => h.2.2.2 n j⟩
theorem d6 {m : Nat} (hm : m ≤ 36) : nI m / 6 = nI (m / 6) ∧ nI m - nI m / 6 * 6 = nI (m % 6) := ⟨pk_div (d := 6) (by omega) (by decide) (by decide), pk_rem (d := 6) (by omega) (by decide) (by decide)⟩
theorem d6' {m : Nat} (hm : m ≤ 36) : nI m - nI (m / 6) * 6 = nI (m % 6) := by rw [← (d6 hm).1]; exact (d6 hm).2
theorem p_worth {C : Mem} {sp : Nat} {K : Kt} (hc : shC sp = 0) (hC : IsC C sp K) (hw : WFK K) (q : Nat) (hq : q < 100) : f_X1_worth sp (nI q) C = some (iI (wqK K q), C) := by
  have hn := hw.n3
  rw [f_X1_worth]
  by_cases z : q < nK K 3
  · rw [hasT 3 3 rfl hC hw (by decide) z, bnd_some, if_neg i10, hC.2.2.2.2.2.2.1, p_senseBefore hc hC hw z, bnd_some, f_X1_worth_J22]
    unfold wqK wvI
    rw [if_pos z, show psenseK K q (K 20 0) = mnK K q from rfl]
    by_cases y : mnK K q = 2
    · rw [if_pos y, if_pos y]; rfl
    · rw [if_neg y, if_neg y]
      by_cases y2 : mnK K q = 1
      · rw [if_pos y2, if_pos y2]; rfl
      · rw [if_neg y2, if_neg y2]; rfl
  · rw [hasF 3 3 rfl hC hw (by decide) (Or.inr (nI_le (by omega) (by omega))), bnd_some, if_pos i00, f_X1_worth_J22, if_neg (by decide), if_neg (by decide)]
    unfold wqK
    rw [if_neg z]
    rfl
theorem p_canBe {C : Mem} {sp : Nat} {K : Kt} (hc : shC sp = 0) (hC : IsC C sp K) (hw : WFK K) {m : Nat} (hm : m ≤ 36) : f_X1_canBe sp (nI m) C = some (bI (lgm K m), C) := by
  have hn := hw.n3
  have hn0 := hw.n0
  rw [f_X1_canBe, letF, letF, (d6 hm).1, d6' hm]
  unfold lgm
  by_cases z : m = 36
  · subst z
    rw [if_neg (by decide)]
    rfl
  · rw [if_pos (show nI m < (36 : Int32) from nI_lt (b := 36) (by omega) (by decide)), decide_eq_false z, Bool.false_or]
    unfold legB
    by_cases z2 : m / 6 < nK K 3
    · obtain ⟨-, ⟨f, hf, hf2⟩, -⟩ := hw.2.2.2.1 _ z2
      rw [hasT 3 3 rfl hC hw (by decide) z2, bnd_some, if_neg i10, decide_eq_true z2, Bool.true_and]
      by_cases z3 : m % 6 = 0
      · rw [z3, if_pos (show nI 0 = 0 from rfl), p_personAt (by omega), bnd_some, if_neg (nn (shC_per hc (by omega))), hC.2.2.2.1 _ z2 1 (by decide), if_pos rfl, show K (11 + 1) (m / 6) = K 12 (m / 6) from rfl, hf2]
        by_cases y : f = 99
        · rw [y, if_pos (by decide)]; rfl
        · rw [if_neg (show ¬ (99 : Int32) ≤ nI f from nI_ge (b := 99) (by omega) (by decide)), decide_eq_true (show ¬ nI f = 99 from fun q => y (nI_inj (by omega) (by decide) q))]; rfl
      · have e1 : nI (m % 6) - 1 = nI (m % 6 - 1) := pk_sub (b := 1) (by omega)
        rw [if_neg (nI_ne0 (by omega) (by omega)), e1, if_neg z3]
        by_cases y : m % 6 ≤ nK K 0
        · rw [hasT 0 0 rfl hC hw (by decide) (by omega), bnd_some, if_neg (nn (Or.inr rfl)), decide_eq_true y]; rfl
        · rw [hasF 0 0 rfl hC hw (by decide) (Or.inr (nI_le (by omega) (by omega))), bnd_some, if_neg (nn (Or.inl rfl)), decide_eq_false y]; rfl
    · rw [hasF 3 3 rfl hC hw (by decide) (Or.inr (nI_le (by omega) (by omega))), bnd_some, if_pos i00, decide_eq_false z2, Bool.false_and]; rfl
theorem shC_nob {c : Nat} (h : shC c = 0) : shC (c + 27) = 5 := by
  rcases isC_cases h with rfl | rfl | rfl | rfl | rfl <;> decide +kernel
theorem p_per6 (c : Nat) (M : Mem) : f_X0_personAt c (nI 6) M = some (c + 27, M) := by
  rw [f_X0_personAt, if_neg (by decide), if_pos (by decide), f_X0_personAt_J22, f_X0_personAt_J26]
theorem p_chg {C0 C : Mem} {sp : Nat} {K : Kt} (hc : shC sp = 0) (h : GmI C0 sp K C) (hw : WFK K) {m : Nat} (hm : m ≤ 36) (hl : lgm K m = true) : ∃ C', f_X1_change sp (nI m) 1 C = some ((), C') ∧ GmI C0 sp (apK K m) C' ∧ ∀ k, gI C' 24 k = gI C 24 k := by
  have hn := hw.n3
  have hn0 := hw.n0
  have lo := isC_lo hc
  rw [f_X1_change, (d6 hm).1, d6' hm]
  unfold apK
  by_cases z : m = 36
  · subst z
    rw [show nI (36 / 6) = nI 6 from rfl, p_per6, bnd_some, if_neg (nn (shC_nob hc)), letF, if_pos (by decide), f_X1_change_J39, if_pos (by decide), if_pos rfl]
    exact ⟨C, rfl, h, fun _ => rfl⟩
  · unfold lgm at hl
    rw [decide_eq_false z, Bool.false_or] at hl
    obtain ⟨h1, h2, h3⟩ := leg_p hl
    have n36 : ¬ (36 : Int32) ≤ nI m := nI_ge (b := 36) (by omega) (by decide)
    rw [p_personAt (by omega), bnd_some, if_neg (nn (shC_per hc (by omega))), letF, if_neg n36, if_neg z]
    by_cases z3 : m % 6 = 0
    · rw [z3, if_pos (show nI 0 = 0 from rfl), letF, h.1.2.2.2.1 _ h1 1 (by decide), if_pos rfl]
      exact ⟨_, rfl, h.up hc hw (f := 12) (Or.inl rfl) h1, fun k => by rw [gI_I, if_neg (by omega)]⟩
    · have e1 : nI (m % 6) - 1 = nI (m % 6 - 1) := pk_sub (b := 1) (by omega)
      rw [if_neg (nI_ne0 (by omega) (by omega)), f_X1_change_J39, if_neg n36, letF, h.1.2.2.2.1 _ h1 2 (by decide), e1, if_neg z3]
      exact ⟨_, rfl, h.up hc hw (f := 13) (Or.inr rfl) h1, fun k => by rw [gI_I, if_neg (by omega)]⟩
theorem p_bak {C0 C : Mem} {sp : Nat} {K : Kt} (hc : shC sp = 0) (hw : WFK K) {m : Nat} (hm : m ≤ 36) (hl : lgm K m = true) (h : GmI C0 sp (apK K m) C) : ∃ C', f_X1_change sp (nI m) (-1) C = some ((), C') ∧ GmI C0 sp K C' ∧ ∀ k, gI C' 24 k = gI C 24 k := by
  have hn := hw.n3
  have hn0 := hw.n0
  have lo := isC_lo hc
  have hwa := apK_wf hw hl
  rw [f_X1_change, (d6 hm).1, d6' hm]
  by_cases z : m = 36
  · subst z
    rw [show nI (36 / 6) = nI 6 from rfl, p_per6, bnd_some, if_neg (nn (shC_nob hc)), letF, if_pos (by decide), f_X1_change_J39, if_pos (by decide)]
    exact ⟨C, rfl, h, fun _ => rfl⟩
  · have hl2 := hl
    unfold lgm at hl2
    rw [decide_eq_false z, Bool.false_or] at hl2
    obtain ⟨h1, h2, h3⟩ := leg_p hl2
    have n36 : ¬ (36 : Int32) ≤ nI m := nI_ge (b := 36) (by omega) (by decide)
    have h1' : m / 6 < nK (apK K m) 3 := by rw [apK_n]; exact h1
    rw [p_personAt (by omega), bnd_some, if_neg (nn (shC_per hc (by omega))), letF, if_neg n36]
    by_cases z3 : m % 6 = 0
    · have ea : apK K m = upK K 12 (m / 6) (K 12 (m / 6) + 1) := by unfold apK; rw [if_neg z, if_pos z3]
      have hv : gI C (sp + 13 + 1 + m / 6) 1 = K 12 (m / 6) + 1 := by
        rw [h.1.2.2.2.1 _ h1' 1 (by decide), ea]
        exact upK_s K 12 (m / 6) _
      have hu := h.up hc hwa (f := 12) (v := K 12 (m / 6) + 1 + -1) (Or.inl rfl) h1'
      rw [ea, back_f] at hu
      rw [z3, if_pos (show nI 0 = 0 from rfl), letF, hv]
      exact ⟨_, rfl, hu, fun k => by rw [gI_I, if_neg (by omega)]⟩
    · have e1 : nI (m % 6) - 1 = nI (m % 6 - 1) := pk_sub (b := 1) (by omega)
      have ea : apK K m = upK K 13 (m / 6) (xorS (K 13 (m / 6)) (m % 6 - 1)) := by unfold apK; rw [if_neg z, if_neg z3]
      have hv : gI C (sp + 13 + 1 + m / 6) 2 = xorS (K 13 (m / 6)) (m % 6 - 1) := by
        rw [h.1.2.2.2.1 _ h1' 2 (by decide), ea]
        exact upK_s K 13 (m / 6) _
      have hu := h.up hc hwa (f := 13) (v := xorS (xorS (K 13 (m / 6)) (m % 6 - 1)) (m % 6 - 1)) (Or.inr rfl) h1'
      rw [ea, back_s] at hu
      rw [if_neg (nI_ne0 (by omega) (by omega)), f_X1_change_J39, if_neg n36, letF, hv, e1]
      exact ⟨_, rfl, hu, fun k => by rw [gI_I, if_neg (by omega)]⟩
/-- what a window tells of a value -/
def ABs (lo hi v r : Int) : Prop := (r ≤ lo → v ≤ r) ∧ (hi ≤ r → r ≤ v) ∧ (lo < r → r < hi → v = r)
def SpecP (C0 : Mem) (sp T t : Nat) (b : Bool) (self : Nat → Int32 → Int32 → Int32 → Int32 → Mem → Rs Int32) (u : Nat) : Prop :=
  ∀ K C lo hi, WFK K → GmI C0 sp K C → gI C 24 1 = iI (stK K) → -7 ≤ lo → lo < hi → hi ≤ 7 → ∃ r C', self sp (nI u) (nI T) (iI lo) (iI hi) C = some (iI r, C') ∧ GmI C0 sp K C' ∧ gI C' 24 1 = iI (stK K) ∧ (0 < u → gI C' 24 0 = gI C 24 0) ∧ -7 ≤ r ∧ r ≤ 7 ∧ ABs lo hi (vaK t b K) r
/-- the first of the best moves -/
def rSt (t : Nat) (K : Kt) (s : Int × Nat) (m : Nat) : Int × Nat := if s.1 < vaK t false (apK K m) then (vaK t false (apK K m), m) else s
/-- one move tried: from the court to what the game behind it answers, and back -/
theorem one_mv {C0 C : Mem} {sp T t u : Nat} {b : Bool} {self : Nat → Int32 → Int32 → Int32 → Int32 → Mem → Rs Int32} (hself : SpecP C0 sp T t b self (u + 1)) (hc : shC sp = 0) {K : Kt} (hw : WFK K) (h : GmI C0 sp K C) (hv : gI C 24 1 = iI (stK K)) {m : Nat} (hm : m ≤ 36) (hl : lgm K m = true) {lo hi : Int} (h1 : -7 ≤ lo) (h2 : lo < hi) (h3 : hi ≤ 7) :
    ∃ e C', GmI C0 sp K C' ∧ gI C' 24 1 = iI (stK K) ∧ gI C' 24 0 = gI C 24 0 ∧ -7 ≤ e ∧ e ≤ 7 ∧ ABs lo hi (vaK t b (apK K m)) e ∧
      ∀ (k : Int32 → Mem → Rs Int32), (letF ((gI C 24 1) : Int32) fun y15 => bnd (f_X1_worth sp (nI m / 6) C) fun r16 M17 => letF (sI M17 24 1 (gI C 24 1 - r16)) fun M19 => bnd (f_X1_change sp (nI m) 1 M19) fun _ M21 => bnd (f_X1_worth sp (nI m / 6) M21) fun r23 M24 => letF (sI M24 24 1 (gI M21 24 1 + r23)) fun M26 => bnd (self sp (nI u + 1) (nI T) (iI lo) (iI hi) M26) fun r27 M28 => bnd (f_X1_change sp (nI m) (-1) M28) fun _ M31 => letF (sI M31 24 1 y15) fun M33 => k r27 M33) = k (iI e) C' := by
  have s1 := stK_in hw
  have hwa := apK_wf hw hl
  obtain ⟨C2, a1, a2, a3⟩ := p_chg hc (h.s24 hc hw 1 (iI (stK K - wqK K (m / 6)))) hw hm hl
  have v2 : gI C2 24 1 = iI (stK K - wqK K (m / 6)) := (a3 1).trans (gI_same _ _ _ _)
  have g3 := a2.s24 hc hwa 1 (iI (stK (apK K m)))
  obtain ⟨e, C4, b1, b2, b3, b4, b5, b6, b7⟩ := hself (apK K m) (sI C2 24 1 (iI (stK (apK K m)))) lo hi hwa g3 (gI_same _ _ _ _) h1 h2 h3
  obtain ⟨C5, d1, d2, d3⟩ := p_bak hc hw hm hl b2
  refine ⟨e, sI C5 24 1 (iI (stK K)), d2.s24 hc hw _ _, gI_same _ _ _ _, ?_, b5, b6, b7, fun k => ?_⟩
  · rw [gI_I, if_neg (by omega), d3, b4 (by omega), gI_I, if_neg (by omega), a3, gI_I, if_neg (by omega)]
  · rw [letF, (d6 hm).1, p_worth hc h.1 hw _ (by omega), bnd_some, letF, hv, iI_sub, a1, bnd_some, p_worth hc a2.1 hwa _ (by omega), bnd_some, letF, v2, iI_add, ← st_ap, nI_s, b1, bnd_some, d1, bnd_some, letF]
theorem lp_mx {C0 : Mem} {sp T t u : Nat} {self : Nat → Int32 → Int32 → Int32 → Int32 → Mem → Rs Int32} (hself : SpecP C0 sp T t false self (u + 1)) (hc : shC sp = 0) (hu : u < 10) {K : Kt} (hw : WFK K) {lo hi : Int} (h1 : -7 ≤ lo) (h2 : lo < hi) (h3 : hi ≤ 7) :
    ∀ d m fu best V C, m + d = 37 → d < fu → GmI C0 sp K C → gI C 24 1 = iI (stK K) → -7 ≤ best → best ≤ 7 → -7 ≤ V → ABs lo hi V best → ∃ r C', f_X1_play_L53 self sp (nI u) (nI T) 1 fu (iI best) (iI (max lo best)) (iI hi) (nI m) C = some (iI r, C') ∧ GmI C0 sp K C' ∧ gI C' 24 1 = iI (stK K) ∧ (0 < u → gI C' 24 0 = gI C 24 0) ∧ -7 ≤ r ∧ r ≤ 7 ∧ ABs lo hi ((mvF K m d).foldl (fun a m => max a (vaK t false (apK K m))) V) r ∧
      (u = 0 → lo = -7 → hi = 7 → best < 7 → ∀ q, gI C 24 0 = nI q → gI C' 24 0 = nI ((mvF K m d).foldl (rSt t K) (V, q)).2) := by
  intro d
  induction d with
  | zero =>
    intro m fu best V C e1 e2 g1 g2 g3 g4 g5 g6
    obtain ⟨fu, rfl⟩ : ∃ k, fu = k + 1 := ⟨fu - 1, by omega⟩
    exact ⟨best, C, by rw [f_X1_play_L53, if_pos (show (36 : Int32) < nI m from nI_lt (a := 36) (by omega) (by omega))], g1, g2, fun _ => rfl, g3, g4, g6, fun _ _ _ _ q hq => hq⟩
  | succ d ih =>
    intro m fu best V C e1 e2 g1 g2 g3 g4 g5 g6
    obtain ⟨fu, rfl⟩ : ∃ k, fu = k + 1 := ⟨fu - 1, by omega⟩
    have n36 : ¬ (36 : Int32) < nI m := nI_nlt (a := 36) (by omega) (by omega)
    have hb : ∀ l : List Nat, (∀ x ∈ l, lgm K x = true) → V ≤ l.foldl (fun a m => max a (vaK t false (apK K m))) V := fun l hl => (fold_mx l V (fun x hx => vaK_in t false _ (apK_wf hw (hl x hx)))).1
    rw [f_X1_play_L53, if_neg n36]
    by_cases zc : hi ≤ best
    · rw [if_pos ((iI_le (by omega) (by omega) (by omega) (by omega)).mpr (show hi ≤ max lo best by omega))]
      have := hb (mvF K m (d + 1)) (fun x hx => (mvF_in hx).2.2)
      obtain ⟨q1, q2, q3⟩ := g6
      have q2' := q2 zc
      exact ⟨best, C, rfl, g1, g2, fun _ => rfl, g3, g4, ⟨fun y => by omega, fun y => by omega, fun y1 y2 => by omega⟩, fun _ _ y _ => by omega⟩
    rw [if_neg (fun q => by have := (iI_le (by omega) (by omega) (by omega) (by omega)).mp q; omega), p_canBe hc g1.1 hw (by omega), bnd_some, mvF_s]
    cases hl : lgm K m with
    | false =>
      rw [bI_f, if_pos i00, letF, nI_s, if_neg (by decide)]
      exact ih (m + 1) fu best V C (by omega) (by omega) g1 g2 g3 g4 g5 g6
    | true =>
      obtain ⟨e, C', a1, a2, a3, a4, a5, a6, a7⟩ := one_mv hself hc hw g1 g2 (m := m) (by omega) hl (lo := max lo best) (hi := hi) (by omega) (by omega) h3
      have hv := vaK_in t false _ (apK_wf hw hl)
      rw [bI_t, if_neg i10, if_pos rfl, List.foldl_cons]
      rw [a7 (fun r27 M33 => if (1 : Int32) = 0 then (if iI best ≤ r27 then (f_X1_play_J199 self (f_X1_play_L53 self sp (nI u) (nI T) 1 fu) sp (nI u) (nI T) 1 (iI best) (iI (max lo best)) (iI hi) (nI m) r27 M33) else (f_X1_play_J178 self (f_X1_play_L53 self sp (nI u) (nI T) 1 fu) sp (nI u) (nI T) 1 (iI (max lo best)) (iI hi) (nI m) r27 M33)) else (if r27 ≤ iI best then (f_X1_play_J199 self (f_X1_play_L53 self sp (nI u) (nI T) 1 fu) sp (nI u) (nI T) 1 (iI best) (iI (max lo best)) (iI hi) (nI m) r27 M33) else (f_X1_play_J178 self (f_X1_play_L53 self sp (nI u) (nI T) 1 fu) sp (nI u) (nI T) 1 (iI (max lo best)) (iI hi) (nI m) r27 M33)))]
      rw [if_neg i10]
      have em : mxI (iI (max lo best)) (iI e) = iI (max lo (max best e)) := by
        rw [iI_mx (by omega) (by omega) (by omega) (by omega)]
        congr 1
        omega
      have j199 : ∀ bb D, f_X1_play_J199 self (f_X1_play_L53 self sp (nI u) (nI T) 1 fu) sp (nI u) (nI T) 1 (iI bb) (iI (max lo best)) (iI hi) (nI m) (iI e) D = f_X1_play_L53 self sp (nI u) (nI T) 1 fu (iI bb) (iI (max lo (max best e))) (iI hi) (nI (m + 1)) D := by
        intro bb D
        rw [f_X1_play_J199, if_neg i10, letF, em, f_X1_play_J216, if_neg i10, letF, nI_s]
      obtain ⟨q1, q2, q3⟩ := g6
      obtain ⟨p1, p2, p3⟩ := a6
      by_cases zu : e ≤ best
      · have eb : max best e = best := by omega
        have hAB : ABs lo hi (max V (vaK t false (apK K m))) best := ⟨fun y => by have := q1 y; have := p1 (by omega); omega, fun y => by omega, fun y1 y2 => by have := q3 y1 y2; have := p1 (by omega); omega⟩
        rw [if_pos ((iI_le (by omega) (by omega) (by omega) (by omega)).mpr zu), j199, eb]
        obtain ⟨r, C2, k1, k2, k3, k4, k5, k6, k7, k8⟩ := ih (m + 1) fu best (max V (vaK t false (apK K m))) C' (by omega) (by omega) a1 a2 g3 g4 (by omega) hAB
        refine ⟨r, C2, k1, k2, k3, fun y => (k4 y).trans a3, k5, k6, k7, fun y1 y2 y3 y4 q hq => ?_⟩
        have hV : V = best := by
          by_cases y5 : lo < best
          · exact q3 y5 (by omega)
          · have := q1 (by omega); omega
        have hle : ¬ V < vaK t false (apK K m) := by have := p1 (by omega); omega
        have := k8 y1 y2 y3 y4 q (a3.trans hq)
        rw [show max V (vaK t false (apK K m)) = V by omega] at this
        rw [List.foldl_cons, show rSt t K (V, q) m = (V, q) by unfold rSt; rw [if_neg hle]]
        exact this
      · have eb : max best e = e := by omega
        have hAB : ABs lo hi (max V (vaK t false (apK K m))) e := by
          refine ⟨fun y => ?_, fun y => ?_, fun y1 y2 => ?_⟩
          · have := q1 (by omega); have := p1 (by omega); omega
          · have := p2 y; omega
          · have := p3 (by omega) y2
            by_cases y5 : lo < best
            · have := q3 y5 (by omega); omega
            · have := q1 (by omega); omega
        rw [if_neg (fun y => zu ((iI_le (by omega) (by omega) (by omega) (by omega)).mp y)), f_X1_play_J178]
        by_cases hu0 : u = 0
        · subst hu0
          rw [if_pos (show nI 0 = 0 from rfl), f_X1_play_J196, letF, j199, eb]
          obtain ⟨r, C2, k1, k2, k3, k4, k5, k6, k7, k8⟩ := ih (m + 1) fu e (max V (vaK t false (apK K m))) (sI C' 24 0 (nI m)) (by omega) (by omega) (a1.s24 hc hw _ _) (by rw [gI_I, if_neg (by omega)]; exact a2) a4 a5 (by omega) hAB
          refine ⟨r, C2, k1, k2, k3, fun y => by omega, k5, k6, k7, fun y1 y2 y3 y4 q hq => ?_⟩
          have hV : V = best := by
            by_cases y5 : lo < best
            · exact q3 y5 (by omega)
            · have := q1 (by omega); omega
          have e7 : e < 7 := by
            by_cases y6 : e < 7
            · exact y6
            · have := p2 (by omega); omega
          have he := p3 (by omega) (by omega)
          have := k8 y1 y2 y3 e7 m (gI_same _ _ _ _)
          rw [show max V (vaK t false (apK K m)) = vaK t false (apK K m) by omega] at this
          have hlt : V < vaK t false (apK K m) := by omega
          rw [List.foldl_cons, show rSt t K (V, q) m = (vaK t false (apK K m), m) by unfold rSt; rw [if_pos hlt]]
          exact this
        · rw [if_neg (nI_ne0 (by omega) (by omega)), f_X1_play_J196, letF, j199, eb]
          obtain ⟨r, C2, k1, k2, k3, k4, k5, k6, k7, k8⟩ := ih (m + 1) fu e (max V (vaK t false (apK K m))) (sI C' 24 0 (gI C' 24 0)) (by omega) (by omega) (a1.s24 hc hw _ _) (by rw [gI_I, if_neg (by omega)]; exact a2) a4 a5 (by omega) hAB
          exact ⟨r, C2, k1, k2, k3, fun y => (k4 y).trans ((gI_same _ _ _ _).trans a3), k5, k6, k7, fun y => absurd y hu0⟩
theorem lp_mn {C0 : Mem} {sp T t u : Nat} {self : Nat → Int32 → Int32 → Int32 → Int32 → Mem → Rs Int32} (hself : SpecP C0 sp T t true self (u + 1)) (hc : shC sp = 0) (hu : u < 10) (hu0 : ¬ u = 0) {K : Kt} (hw : WFK K) {lo hi : Int} (h1 : -7 ≤ lo) (h2 : lo < hi) (h3 : hi ≤ 7) :
    ∀ d m fu best V C, m + d = 37 → d < fu → GmI C0 sp K C → gI C 24 1 = iI (stK K) → -7 ≤ best → best ≤ 7 → V ≤ 7 → ABs lo hi V best → ∃ r C', f_X1_play_L53 self sp (nI u) (nI T) 0 fu (iI best) (iI lo) (iI (min hi best)) (nI m) C = some (iI r, C') ∧ GmI C0 sp K C' ∧ gI C' 24 1 = iI (stK K) ∧ (0 < u → gI C' 24 0 = gI C 24 0) ∧ -7 ≤ r ∧ r ≤ 7 ∧ ABs lo hi ((mvF K m d).foldl (fun a m => min a (vaK t true (apK K m))) V) r := by
  intro d
  induction d with
  | zero =>
    intro m fu best V C e1 e2 g1 g2 g3 g4 g5 g6
    obtain ⟨fu, rfl⟩ : ∃ k, fu = k + 1 := ⟨fu - 1, by omega⟩
    exact ⟨best, C, by rw [f_X1_play_L53, if_pos (show (36 : Int32) < nI m from nI_lt (a := 36) (by omega) (by omega))], g1, g2, fun _ => rfl, g3, g4, g6⟩
  | succ d ih =>
    intro m fu best V C e1 e2 g1 g2 g3 g4 g5 g6
    obtain ⟨fu, rfl⟩ : ∃ k, fu = k + 1 := ⟨fu - 1, by omega⟩
    have n36 : ¬ (36 : Int32) < nI m := nI_nlt (a := 36) (by omega) (by omega)
    have hb : ∀ l : List Nat, (∀ x ∈ l, lgm K x = true) → l.foldl (fun a m => min a (vaK t true (apK K m))) V ≤ V := fun l hl => (fold_mn l V (fun x hx => vaK_in t true _ (apK_wf hw (hl x hx)))).1
    rw [f_X1_play_L53, if_neg n36]
    by_cases zc : best ≤ lo
    · rw [if_pos ((iI_le (by omega) (by omega) (by omega) (by omega)).mpr (show min hi best ≤ lo by omega))]
      have := hb (mvF K m (d + 1)) (fun x hx => (mvF_in hx).2.2)
      obtain ⟨q1, q2, q3⟩ := g6
      have q2' := q1 zc
      exact ⟨best, C, rfl, g1, g2, fun _ => rfl, g3, g4, ⟨fun y => by omega, fun y => by omega, fun y1 y2 => by omega⟩⟩
    rw [if_neg (fun q => by have := (iI_le (by omega) (by omega) (by omega) (by omega)).mp q; omega), p_canBe hc g1.1 hw (by omega), bnd_some, mvF_s]
    cases hl : lgm K m with
    | false =>
      rw [bI_f, if_pos i00, letF, nI_s, if_neg (by decide)]
      exact ih (m + 1) fu best V C (by omega) (by omega) g1 g2 g3 g4 g5 g6
    | true =>
      obtain ⟨e, C', a1, a2, a3, a4, a5, a6, a7⟩ := one_mv hself hc hw g1 g2 (m := m) (by omega) hl (lo := lo) (hi := min hi best) h1 (by omega) (by omega)
      have hv := vaK_in t true _ (apK_wf hw hl)
      rw [bI_t, if_neg i10, if_pos rfl, List.foldl_cons]
      rw [a7 (fun r27 M33 => if (0 : Int32) = 0 then (if iI best ≤ r27 then (f_X1_play_J199 self (f_X1_play_L53 self sp (nI u) (nI T) 0 fu) sp (nI u) (nI T) 0 (iI best) (iI lo) (iI (min hi best)) (nI m) r27 M33) else (f_X1_play_J178 self (f_X1_play_L53 self sp (nI u) (nI T) 0 fu) sp (nI u) (nI T) 0 (iI lo) (iI (min hi best)) (nI m) r27 M33)) else (if r27 ≤ iI best then (f_X1_play_J199 self (f_X1_play_L53 self sp (nI u) (nI T) 0 fu) sp (nI u) (nI T) 0 (iI best) (iI lo) (iI (min hi best)) (nI m) r27 M33) else (f_X1_play_J178 self (f_X1_play_L53 self sp (nI u) (nI T) 0 fu) sp (nI u) (nI T) 0 (iI lo) (iI (min hi best)) (nI m) r27 M33)))]
      rw [if_pos i00]
      have em : mnI (iI (min hi best)) (iI e) = iI (min hi (min best e)) := by
        rw [iI_mn (by omega) (by omega) (by omega) (by omega)]
        congr 1
        omega
      have j199 : ∀ bb D, f_X1_play_J199 self (f_X1_play_L53 self sp (nI u) (nI T) 0 fu) sp (nI u) (nI T) 0 (iI bb) (iI lo) (iI (min hi best)) (nI m) (iI e) D = f_X1_play_L53 self sp (nI u) (nI T) 0 fu (iI bb) (iI lo) (iI (min hi (min best e))) (nI (m + 1)) D := by
        intro bb D
        rw [f_X1_play_J199, if_pos i00, f_X1_play_J216, if_pos i00, letF, em, letF, nI_s]
      obtain ⟨q1, q2, q3⟩ := g6
      obtain ⟨p1, p2, p3⟩ := a6
      by_cases zu : best ≤ e
      · have eb : min best e = best := by omega
        have hAB : ABs lo hi (min V (vaK t true (apK K m))) best := ⟨fun y => by omega, fun y => by have := q2 y; have := p2 (by omega); omega, fun y1 y2 => by have := q3 y1 y2; have := p2 (by omega); omega⟩
        rw [if_pos ((iI_le (by omega) (by omega) (by omega) (by omega)).mpr zu), j199, eb]
        obtain ⟨r, C2, k1, k2, k3, k4, k5, k6, k7⟩ := ih (m + 1) fu best (min V (vaK t true (apK K m))) C' (by omega) (by omega) a1 a2 g3 g4 (by omega) hAB
        exact ⟨r, C2, k1, k2, k3, fun y => (k4 y).trans a3, k5, k6, k7⟩
      · have eb : min best e = e := by omega
        have hAB : ABs lo hi (min V (vaK t true (apK K m))) e := by
          refine ⟨fun y => ?_, fun y => ?_, fun y1 y2 => ?_⟩
          · have := p1 y; omega
          · have := q2 (by omega); have := p2 (by omega); omega
          · have := p3 y1 (by omega)
            by_cases y5 : best < hi
            · have := q3 (by omega) y5; omega
            · have := q2 (by omega); omega
        rw [if_neg (fun y => zu ((iI_le (by omega) (by omega) (by omega) (by omega)).mp y)), f_X1_play_J178, if_neg (nI_ne0 (by omega) (by omega)), f_X1_play_J196, letF, j199, eb]
        obtain ⟨r, C2, k1, k2, k3, k4, k5, k6, k7⟩ := ih (m + 1) fu e (min V (vaK t true (apK K m))) (sI C' 24 0 (gI C' 24 0)) (by omega) (by omega) (a1.s24 hc hw _ _) (by rw [gI_I, if_neg (by omega)]; exact a2) a4 a5 (by omega) hAB
        exact ⟨r, C2, k1, k2, k3, fun y => (k4 y).trans ((gI_same _ _ _ _).trans a3), k5, k6, k7⟩
