/-! AHEAD: freeIn, judgedIn -/
theorem WkR.kn {C R : Mem} {c o : Nat} {K : Kt} (h : WkR C c R o K) : gI C (c + 24) 0 = 0 ∨ gI C (c + 24) 0 = 1 := by
  rcases h with h | h
  · exact Or.inl h.1
  · exact Or.inr h.1
theorem NowC.sp {C : Mem} (h : NowC C) : gR C 0 1 ≠ gR C 0 0 ∧ 27 ≤ gR C 0 1 := by
  rcases h with ⟨a, b⟩ | ⟨a, b⟩ <;> rw [a, b] <;> decide
/-- the spare court of the class is a copy of the court of now -/
theorem spare {C R : Mem} {K : Kt} (ho : RelO C R) (hw : WFK K) (hC : IsC C (gR C 0 0) K) (hW : WkR C (gR C 0 0) R 0 K) (h0 : shC (gR C 0 0) = 0) (h1 : shC (gR C 0 1) = 0) :
    ∃ C', f_X0_copyFrom (gR C 0 1) (gR C 0 0) C = some ((), C') ∧ IsC C' (gR C 0 1) K ∧ EqC C C' ∧ SqC C C' := by
  obtain ⟨sp1, sp2⟩ := ho.1.sp
  obtain ⟨C', e1, e2⟩ := p_copyCourt h1 h0 sp1 hC hw hW.kn
  refine ⟨C', e1, e2.isC hC hw, ⟨fun n k z => e2.1 n k (fun q => z ?_), e2.2.1⟩, (e2.1 _ _ (by omega)).2, (e2.1 _ _ (by omega)).2, (e2.1 _ _ (by omega)).1, (e2.1 _ _ (by omega)).1⟩
  unfold scrC; omega
theorem FrC.eq {C C' : Mem} (h : FrC C C' (gR C 0 1)) : EqC C C' := ⟨fun n k z => ⟨h.1 n k (by unfold scrC at z; omega), h.2.1 n k⟩, h.2.2⟩
theorem FrC.sq {C C' : Mem} {c : Nat} (h : FrC C C' c) (hc : 27 ≤ c) : SqC C C' := ⟨h.2.1 _ _, h.2.1 _ _, h.1 _ _ (by omega), h.1 _ _ (by omega)⟩
theorem tried {R R1 R2 : Mem} {K : Kt} (h1 : ∀ n k, gI R1 n k = if n = 1 ∧ 3012 ≤ k ∧ k < 3012 + 134 then gI R 1 (k - 3012) else gI R n k) (l1 : ∀ n k, gL R1 n k = gL R n k) (h2 : InR R1 K R2) :
    ∃ R3, f_X12_restores 3012 R2 = some ((), R3) ∧ EqR R R3 ∧ SqR R R3 := by
  obtain ⟨R3, e1, e2, e3⟩ := r_restores (o := 3012) (by decide) (by decide) R2
  have all : ∀ n k, ¬ (n = 1 ∧ 3012 ≤ k) → gI R3 n k = gI R n k := by
    intro n k z
    rw [e2]
    by_cases q : n = 1 ∧ k < 134
    · rw [if_pos q, h2.2.1 _ _ (by omega), h1, if_pos (by omega), q.1, show 3012 + k - 3012 = k by omega]
    · rw [if_neg q, h2.2.1 _ _ (by omega), h1, if_neg (by omega)]
  have allL : ∀ n k, gL R3 n k = gL R n k := fun n k => ((e3 n k).trans (h2.2.2 n k)).trans (l1 n k)
  exact ⟨R3, e1, fun n k z => ⟨all n k (by unfold scrR at z; omega), allL n k⟩, allL _ _, allL _ _, all _ _ (by omega), all _ _ (by omega)⟩
/-- the first TERM after which the person is judged -/
def jK (K : Kt) (p : Nat) : Nat → Nat → Option Nat
  | 0, _ => none
  | d + 1, i => if itK K i 14 p = 0 then jK K p d (i + 1) else some i
theorem p_judged {C1 : Mem} {sp : Nat} {K : Kt} (hsp : gR C1 0 1 = sp) (h1 : shC sp = 0) (hw : WFK K) {n : Nat} (hsn : K 20 1 = nI n) (hn : n ≤ 9999) {p : Nat} (hp : p < nK K 3) :
    ∀ d i fu D, i + d = 41 → d < fu → 1 ≤ i → InC C1 sp (itK K (i - 1)) D → ∃ s D' t, f_X11_judgedIn_L52 (nI p) fu (nI i) D = some (s, D') ∧ InC C1 sp (itK K t) D' ∧ (jK K p d i = none → s.1 = 1) ∧ ∀ j, jK K p d i = some j → s = (0, nI j) := by
  have hn3 := hw.n3
  intro d
  induction d with
  | zero =>
    intro i fu D h2 h3 h4 hD
    obtain ⟨fu, rfl⟩ : ∃ k, fu = k + 1 := ⟨fu - 1, by omega⟩
    have e : i = 41 := by omega
    subst e
    exact ⟨(1, nI 41), D, 40, by rw [f_X11_judgedIn_L52, if_pos (show (40 : Int32) < nI 41 by decide)], hD, fun _ => rfl, fun j z => (by cases z)⟩
  | succ d ih =>
    intro i fu D h2 h3 h4 hD
    obtain ⟨fu, rfl⟩ : ∃ k, fu = k + 1 := ⟨fu - 1, by omega⟩
    obtain ⟨a, b, m, hm, e⟩ := itK_wf hw hsn hn (i - 1) (by omega)
    obtain ⟨D', d1, d2⟩ := p_holdTerm h1 hD a e (by omega)
    have d3 : InC C1 sp (itK K i) D' := by
      obtain ⟨k, rfl⟩ : ∃ k, i = k + 1 := ⟨i - 1, by omega⟩
      exact d2
    have g : gR D 0 1 = sp := (hD.2.2.2 _ _).trans hsp
    have g' : gR D' 0 1 = sp := (d3.2.2.2 _ _).trans hsp
    obtain ⟨-, b2, -⟩ := itK_wf hw hsn hn i (by omega)
    have f3 := d3.1.2.2.2.1 p (by rw [b2]; exact hp) 3 (by decide)
    have nlt : ¬ (40 : Int32) < nI i := fun z => by
      have := (nI_ltI (a := 40) (b := i) (by decide) (by omega)).mp z
      omega
    rw [f_X11_judgedIn_L52, if_neg nlt, g, if_neg (nn h1), d1, bnd_some, g', if_neg (nn h1), p_personAt (by omega), bnd_some, if_neg (nn (shC_per h1 (by omega))), f3, jK]
    by_cases hz : itK K i 14 p = 0
    · obtain ⟨s, D'', t, r1, r2, r3⟩ := ih (i + 1) fu D' (by omega) (by omega) (by omega) d3
      rw [if_pos (show itK K i (11 + 3) p = 0 from hz), if_pos hz, letF, nI_s]
      exact ⟨s, D'', t, r1, r2, r3⟩
    · rw [if_neg (show ¬ itK K i (11 + 3) p = 0 from hz), if_neg hz]
      exact ⟨(0, nI i), D', i, rfl, d3, fun z => (by cases z), fun j z => (by cases z; rfl)⟩
theorem r_judged {R1 : Mem} {K : Kt} (hw : WFK K) {n : Nat} (hsn : K 20 1 = nI n) (hn : n ≤ 9999) {p : Nat} (hp : p < nK K 3) :
    ∀ d i fu D, i + d = 40 → d < fu → InR R1 (itK K i) D → ∃ b D' t, f_X12_judgedIn_L40 (nI p) fu (nI i) D = some (b, D') ∧ InR R1 (itK K t) D' ∧ nK (itK K t) 3 = nK K 3 ∧ (jK K p (d + 1) i = none → itK K t 14 p = 0) ∧ ∀ j, jK K p (d + 1) i = some j → b = nI j ∧ ¬ itK K t 14 p = 0 := by
  have hn3 := hw.n3
  intro d
  induction d with
  | zero =>
    intro i fu D h2 h3 hD
    obtain ⟨fu, rfl⟩ : ∃ k, fu = k + 1 := ⟨fu - 1, by omega⟩
    have e : i = 40 := by omega
    subst e
    obtain ⟨-, b2, -⟩ := itK_wf hw hsn hn 40 (by omega)
    refine ⟨nI 40, D, 40, by rw [f_X12_judgedIn_L40, if_pos (show (40 : Int32) ≤ nI 40 by decide)], hD, b2 3, ?_, ?_⟩
    · intro z
      rw [jK] at z
      by_cases hz : itK K 40 14 p = 0
      · exact hz
      · rw [if_neg hz] at z; cases z
    · intro j z
      rw [jK] at z
      by_cases hz : itK K 40 14 p = 0
      · rw [if_pos hz] at z; cases z
      · rw [if_neg hz] at z; cases z; exact ⟨rfl, hz⟩
  | succ d ih =>
    intro i fu D h2 h3 hD
    obtain ⟨fu, rfl⟩ : ∃ k, fu = k + 1 := ⟨fu - 1, by omega⟩
    obtain ⟨-, b2, -⟩ := itK_wf hw hsn hn i (by omega)
    have f3 := (hD.1.per (i := p) (by rw [b2]; exact hp)).2.2.1
    have nlt : ¬ (40 : Int32) ≤ nI i := nI_ge (b := 40) (by omega) (by decide)
    rw [f_X12_judgedIn_L40, if_neg nlt, r_personOf2 (by omega), bnd_some, f3, jK]
    by_cases hz : itK K i 14 p = 0
    · obtain ⟨D', d1, d2⟩ := r_its (K := K) (R0 := R1) hw hsn hn (t := i) (by omega) hD
      obtain ⟨s, D'', t, r1, r2, r3⟩ := ih (i + 1) fu D' (by omega) (by omega) d2
      rw [if_pos hz, if_pos hz, d1, bnd_some, letF, nI_s]
      exact ⟨s, D'', t, r1, r2, r3⟩
    · rw [if_neg hz, if_neg hz]
      exact ⟨nI i, D, i, rfl, hD, b2 3, fun z => (by cases z), fun j z => (by cases z; exact ⟨rfl, hz⟩)⟩
section AHEAD
variable {C R : Mem}
theorem m_freeIn (h : Rel C R) (a : Int32) : OK2 (f_X11_freeIn a C) (f_X12_freeIn a R) := by
  obtain ⟨hs, ho⟩ := h
  obtain ⟨K, hw, ⟨n, hn, hsn⟩, hC, hR, hN, hW, h0, h1⟩ := ho.get5
  obtain ⟨sp1, sp2⟩ := ho.1.sp
  rw [f_X11_freeIn, f_X12_freeIn]
  rcases ix a (n := 41) (by decide) with hx | ⟨t, ht, rfl⟩
  · rw [withinF 41 41 rfl hx, bnd_some, if_pos i00, r_from0F 41 (by decide) hx (by decide), bnd_some, if_pos i00]
    exact fin_ref hs SqC.rf SqR.rf ho 1
  · obtain ⟨C1, e1, e2, e3, e4⟩ := spare ho hw hC hW h0 h1
    have g1 : gR C1 0 1 = gR C 0 1 := e3.2 _ _
    rw [withinT 41 41 rfl (by decide) ht, bnd_some, if_neg i10, if_neg (nn h1), if_neg (nn h0), e1, bnd_some, r_from0T 41 (by decide) ht (by decide), bnd_some, if_neg i10]
    have keyC := loopI (fun fu (D : Mem) i => f_X11_freeIn_L28 (nI t) fu (nI i) D) t (fun i D => InC C1 (gR C 0 1) (itK K i) D) (fun b => b.1 = () ∧ InC C1 (gR C 0 1) (itK K t) b.2)
      (fun fu D hI => ⟨((), D), by rw [f_X11_freeIn_L28, if_pos (Int32.le_refl _)], rfl, hI⟩)
      (fun fu D i hi hI => Or.inl (by
        obtain ⟨D', d1, d2⟩ := p_its (K := K) h1 (C0 := C1) ⟨e2, FrC.rf⟩ hw hsn (by omega) (t := i) (by omega) hI
        have g2 : gR D 0 1 = gR C 0 1 := (hI.2.2.2 _ _).trans g1
        exact ⟨D', d2, by rw [f_X11_freeIn_L28, if_neg (nI_ge hi (by omega)), g2, if_neg (nn h1), d1, bnd_some, letF, nI_s]⟩)) t 0 C1 fz (by omega) (by rw [fz_is]; omega) ⟨e2, FrC.rf⟩
    obtain ⟨⟨u, C2⟩, c1, -, c2⟩ := keyC
    obtain ⟨R1, r1, r2, r3⟩ := r_keeps (o := 3012) (by decide) (by decide) R
    have hR1 : IsR R1 0 K := hR.cg (fun k _ _ => by rw [r2, if_neg (by omega)]) hw
    have keyR := loopI (fun fu (D : Mem) i => f_X12_freeIn_L27 (nI t) fu (nI i) D) t (fun i D => InR R1 (itK K i) D) (fun b => b.1 = () ∧ InR R1 (itK K t) b.2)
      (fun fu D hI => ⟨((), D), by rw [f_X12_freeIn_L27, if_pos (Int32.le_refl _)], rfl, hI⟩)
      (fun fu D i hi hI => Or.inl (by
        obtain ⟨D', d1, d2⟩ := r_its (K := K) (R0 := R1) hw hsn (by omega) (t := i) (by omega) hI
        exact ⟨D', d2, by rw [f_X12_freeIn_L27, if_neg (nI_ge hi (by omega)), d1, bnd_some, letF, nI_s]⟩)) t 0 R1 fz (by omega) (by rw [fz_is]; omega) ⟨hR1, FrR.rf⟩
    obtain ⟨⟨u2, R2⟩, q1, -, q2⟩ := keyR
    obtain ⟨w1, w2, -⟩ := itK_wf hw hsn hn t (by omega)
    obtain ⟨R3, v1, v2, v3⟩ := tried r2 r3 q2
    have g2 : gR C2 0 1 = gR C 0 1 := (c2.2.2.2 _ _).trans g1
    have c1' : f_X11_freeIn_L28 (nI t) fz 0 C1 = some (u, C2) := c1
    have q1' : f_X12_freeIn_L27 (nI t) fz 0 R1 = some (u2, R2) := q1
    have r1' : f_X12_keeps 3012 R = some ((), R1) := r1
    rw [c1', bnd_some, g2, if_neg (nn h1), p_setOfFate h1 c2.1 w1, bnd_some, r1', bnd_some, q1', bnd_some, r_peopleThat q2.1 w1 (by decide), bnd_some, v1, bnd_some]
    have hE : EqC C1 C2 := FrC.eq (by rw [g1]; exact c2.2)
    exact fin_giv hs (e4.tr (c2.2.sq sp2)) v3 (ho.cg (e3.tr hE) v2) _
theorem m_judgedIn (h : Rel C R) (a : Int32) : OK2 (f_X11_judgedIn a C) (f_X12_judgedIn a R) := by
  obtain ⟨hs, ho⟩ := h
  obtain ⟨K, hw, ⟨n, hn, hsn⟩, hC, hR, hN, hW, h0, h1⟩ := ho.get5
  obtain ⟨sp1, sp2⟩ := ho.1.sp
  have hn3 := hw.n3
  rw [f_X11_judgedIn, f_X12_judgedIn, if_neg (nn h0)]
  rcases ix a (n := nK K 3) (by omega) with hx | ⟨p, hp, rfl⟩
  · rw [hasF 3 3 rfl hC hw (by decide) hx, bnd_some, if_pos i00, r_isPersonF hR hw hx, bnd_some, if_pos i00]
    exact fin_ref hs SqC.rf SqR.rf ho 1
  rw [hasT 3 3 rfl hC hw (by decide) hp, bnd_some, if_neg i10, if_neg (nn h0), p_personAt (by omega), bnd_some, if_neg (nn (shC_per h0 (by omega))), hC.2.2.2.1 p hp 3 (by decide), r_isPersonT hR hw hp, bnd_some, if_neg i10, r_personOf2 (by omega), bnd_some, (hR.per hp).2.2.1]
  by_cases hz : K 14 p = 0
  · obtain ⟨C1, e1, e2, e3, e4⟩ := spare ho hw hC hW h0 h1
    have g1 : gR C1 0 1 = gR C 0 1 := e3.2 _ _
    obtain ⟨R1, r1, r2, r3⟩ := r_keeps (o := 3012) (by decide) (by decide) R
    have hR1 : IsR R1 0 K := hR.cg (fun k _ _ => by rw [r2, if_neg (by omega)]) hw
    have r1' : f_X12_keeps 3012 R = some ((), R1) := r1
    obtain ⟨s, C2, t, c1, c2, c3, c4⟩ := p_judged (C1 := C1) g1 h1 hw hsn hn hp 40 1 fz C1 (by omega) (by rw [fz_is]; omega) (by omega) ⟨e2, FrC.rf⟩
    obtain ⟨b, R2, t2, q1, q2, q3, q4, q5⟩ := r_judged (R1 := R1) hw hsn hn hp 40 0 fz R1 (by omega) (by rw [fz_is]; omega) ⟨hR1, FrR.rf⟩
    obtain ⟨R3, v1, v2, v3⟩ := tried r2 r3 q2
    have hj : jK K p 41 0 = jK K p 40 1 := by rw [jK]; exact if_pos hz
    have c1' : f_X11_judgedIn_L52 (nI p) fz 1 C1 = some (s, C2) := c1
    have q1' : f_X12_judgedIn_L40 (nI p) fz 0 R1 = some (b, R2) := q1
    have hE : EqC C1 C2 := FrC.eq (by rw [g1]; exact c2.2)
    have f2 := (q2.1.per (i := p) (by rw [q3]; exact hp)).2.2.1
    rw [if_pos (show K (11 + 3) p = 0 from hz), if_pos hz, if_neg (nn h1), if_neg (nn h0), e1, bnd_some, c1', bnd_some, r1', bnd_some, q1', bnd_some, r_personOf2 (by omega), bnd_some, f2]
    cases hcase : jK K p 40 1 with
    | none =>
      rw [c3 hcase, if_neg (by decide), q4 (by rw [hj]; exact hcase), if_pos rfl, f_X12_judgedIn_J80, v1, bnd_some, if_pos rfl]
      exact fin_ref hs (e4.tr (c2.2.sq sp2)) v3 (ho.cg (e3.tr hE) v2) _
    | some j =>
      obtain ⟨z1, z2⟩ := q5 j (by rw [hj]; exact hcase)
      rw [c4 j hcase, if_pos rfl, if_neg z2, z1, f_X12_judgedIn_J80, v1, bnd_some, if_neg i10]
      exact fin_giv hs (e4.tr (c2.2.sq sp2)) v3 (ho.cg (e3.tr hE) v2) _
  · rw [if_neg (show ¬ K (11 + 3) p = 0 from hz), if_neg hz]
    exact fin_ref hs SqC.rf SqR.rf ho 7
end AHEAD
