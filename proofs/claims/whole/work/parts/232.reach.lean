/-! reach, idle, tells, mute -/
theorem p_countSmells {C0 C : Mem} {c : Nat} {K : Kt} (hc : shC c = 0) (hC : IsC C0 c K) (hw : WFK K) {g : Int32} (hg : g = 1 ∨ g = 2) (f w : Nat) {F G : Nat → Nat} {U : Nat} (h : WsC C0 C F G U) :
    ∃ C', f_X10_countSmells c g (nI f) (nI w) C = some ((), C') ∧ WsC C0 C' (fun r => F r + cWr K g f w r) (fun r => G r + if g = 1 then cWr K g f w r else 0) (U + cWr K g f w 8) := by
  have hn0 := hw.n0
  have hn2 := hw.n2
  obtain ⟨C1, a1, a2⟩ := cs_L hc hC hw hg f w F G U (nK K 2) 0 fz 0 C (by omega) (by rw [fz_is]; omega) (Or.inr (fun s _ => (okA_iff.mpr (fun q _ => by unfold fAs; rw [b_0, Bool.and_false]; rfl)).symm)) (h.fn (fun r _ => ⟨by rw [if_neg (by omega)]; rfl, by rw [if_neg (by omega)]; rfl⟩) rfl)
  rw [lf_0] at a1
  have a1' : f_X10_countSmells_L15 c g (nI f) (nI w) fz (nI (2 ^ nK K 0)) 0 0 C = some (nI (lfW K g f w (nK K 2)), C1) := a1
  refine ⟨sI C1 18 2 (nI (U + cWr K g f w 8)), ?_, ⟨fun n k z => by rw [gI_I, if_neg (by omega)]; exact a2.1.1 n k z, fun n k => a2.1.2.1 n k, fun n k => a2.1.2.2 n k⟩, fun r hr => ?_, gI_same _ _ _ _⟩
  · rw [f_X10_countSmells, p_count0, bnd_some, (h.isC hC hc hw).1 0 (by decide), hn0.1, shl_is _ (by omega), letF, a1', bnd_some, letF, a2.2.2, nI_add, lf_e hw]
  · have q := a2.2.1 r hr
    rw [gI_I, if_neg (by omega), gI_I, if_neg (by omega)]
    try dsimp only at q ⊢
    by_cases y : r < nK K 2
    · rw [if_pos y] at q
      refine ⟨q.1, ?_⟩
      by_cases y2 : g = 1
      · rw [if_pos y2]; rw [if_pos ⟨y, y2⟩] at q; exact q.2
      · rw [if_neg y2]; rw [if_neg (fun k => y2 k.2)] at q; exact q.2
    · have c0 := cW_0 hw g f w (r := r) (by omega) hr
      rw [if_neg y, if_neg (show ¬ (r < nK K 2 ∧ g = 1) from fun k => y k.1)] at q
      rw [c0]
      refine ⟨q.1, ?_⟩
      have : (if g = 1 then 0 else 0) = 0 := by split <;> rfl
      rw [this]
      exact q.2
def dWr (K : Kt) (f w r : Nat) : Nat := cWr K 1 f w r + cWr K 2 f w r
def tA (K : Kt) (r : Nat) : Nat := smN 21 (fun f => smN 10 (fun w => dWr K f w r))
def tG (K : Kt) (r : Nat) : Nat := smN 21 (fun f => smN 10 (fun w => cWr K 1 f w r))
theorem p_countIn {C : Mem} {c : Nat} {K : Kt} (hc : shC c = 0) (hC : IsC C c K) (hw : WFK K) : ∃ C', f_X10_countIn c C = some ((), C') ∧ WsC C C' (tA K) (tG K) (tA K 8) := by
  have key0 := loopI (fun fu (D : Mem) i => f_X10_countIn_L2 c fu (nI i) D) 8 (fun i D => ((∀ n k, ¬ (18 ≤ n ∧ n ≤ 20) → gI D n k = gI C n k) ∧ (∀ n k, gL D n k = gL C n k) ∧ ∀ n k, gR D n k = gR C n k) ∧ ∀ r, r < i → gI D 19 r = 0 ∧ gI D 20 r = 0)
    (fun b => b.1 = () ∧ ((∀ n k, ¬ (18 ≤ n ∧ n ≤ 20) → gI b.2 n k = gI C n k) ∧ (∀ n k, gL b.2 n k = gL C n k) ∧ ∀ n k, gR b.2 n k = gR C n k) ∧ ∀ r, r < 8 → gI b.2 19 r = 0 ∧ gI b.2 20 r = 0)
    (fun fu D hI => ⟨((), D), by rw [f_X10_countIn_L2, if_pos (by decide)], rfl, hI⟩)
    (fun fu D i hi hI => Or.inl ⟨sI (sI D 19 i 0) 20 i 0, ⟨⟨fun n k z => by rw [gI_I, if_neg (by omega), gI_I, if_neg (by omega)]; exact hI.1.1 n k z, fun n k => hI.1.2.1 n k, fun n k => hI.1.2.2 n k⟩, fun r hr => by
      by_cases z : r = i
      · subst z
        exact ⟨by rw [gI_I, if_neg (by omega), gI_same], gI_same _ _ _ _⟩
      · have q := hI.2 r (by omega)
        exact ⟨by rw [gI_I, if_neg (by omega), gI_I, if_neg (by omega)]; exact q.1, by rw [gI_I, if_neg (by omega), gI_I, if_neg (by omega)]; exact q.2⟩⟩, by
      rw [f_X10_countIn_L2, if_neg (show ¬ (8 : Int32) ≤ nI i from nI_ge (b := 8) hi (by decide)), p_put zC_19 hi (by decide), bnd_some, p_put zC_20 hi (by decide), bnd_some, letF, nI_s]⟩) 8 0 C fz (by omega) (by decide) ⟨⟨fun _ _ _ => rfl, fun _ _ => rfl, fun _ _ => rfl⟩, fun r hr => by omega⟩
  obtain ⟨⟨u, D⟩, e1, -, e2, e3⟩ := key0
  have e1' : f_X10_countIn_L2 c fz 0 C = some (u, D) := e1
  have inner : ∀ (f : Nat) (F G : Nat → Nat) (U : Nat) (E : Mem), WsC C E F G U → ∃ E', f_X10_countIn_L47 c (nI f) fz 0 E = some ((), E') ∧ WsC C E' (fun r => F r + smN 10 (fun w => dWr K f w r)) (fun r => G r + smN 10 (fun w => cWr K 1 f w r)) (U + smN 10 (fun w => dWr K f w 8)) := by
    intro f F G U E hE
    have key := loopI (fun fu (D : Mem) i => f_X10_countIn_L47 c (nI f) fu (nI i) D) 10 (fun i D => WsC C D (fun r => F r + smN i (fun w => dWr K f w r)) (fun r => G r + smN i (fun w => cWr K 1 f w r)) (U + smN i (fun w => dWr K f w 8)))
      (fun b => b.1 = () ∧ WsC C b.2 (fun r => F r + smN 10 (fun w => dWr K f w r)) (fun r => G r + smN 10 (fun w => cWr K 1 f w r)) (U + smN 10 (fun w => dWr K f w 8)))
      (fun fu D hI => ⟨((), D), by rw [f_X10_countIn_L47, if_pos (by decide)], rfl, hI⟩)
      (fun fu D i hi hI => Or.inl (by
        obtain ⟨D1, a1, a2⟩ := p_countSmells hc hC hw (g := 1) (Or.inl rfl) f i hI
        obtain ⟨D2, b1, b2⟩ := p_countSmells hc hC hw (g := 2) (Or.inr rfl) f i a2
        refine ⟨D2, b2.fn (fun r _ => ⟨?_, ?_⟩) ?_, ?_⟩
        · rw [smN_s]; show F r + (smN i (fun w => dWr K f w r) + (cWr K 1 f i r + cWr K 2 f i r)) = _; omega
        · rw [smN_s, if_pos rfl, if_neg (by decide)]; omega
        · rw [smN_s]; show U + (smN i (fun w => dWr K f w 8) + (cWr K 1 f i 8 + cWr K 2 f i 8)) = _; omega
        · rw [f_X10_countIn_L47, if_neg (show ¬ (9 : Int32) < nI i from nI_nlt (a := 9) (by omega) (by omega)), a1, bnd_some, b1, bnd_some, letF, nI_s])) 10 0 E fz (by omega) (by decide) (hE.fn (fun r _ => ⟨rfl, rfl⟩) rfl)
    obtain ⟨⟨u, D⟩, k1, -, k2⟩ := key
    exact ⟨D, k1, k2⟩
  have key := loopI (fun fu (D : Mem) i => f_X10_countIn_L39 c fu (nI i) D) 21 (fun i D => WsC C D (fun r => smN i (fun f => smN 10 (fun w => dWr K f w r))) (fun r => smN i (fun f => smN 10 (fun w => cWr K 1 f w r))) (smN i (fun f => smN 10 (fun w => dWr K f w 8))))
    (fun b => b.1 = () ∧ WsC C b.2 (tA K) (tG K) (tA K 8))
    (fun fu D hI => ⟨((), D), by rw [f_X10_countIn_L39, if_pos (by decide)], rfl, hI⟩)
    (fun fu D i hi hI => Or.inl (by
      obtain ⟨D1, a1, a2⟩ := inner i _ _ _ D hI
      refine ⟨D1, a2.fn (fun r _ => ⟨by rw [smN_s], by rw [smN_s]⟩) (by rw [smN_s]), ?_⟩
      rw [f_X10_countIn_L39, if_neg (show ¬ (20 : Int32) < nI i from nI_nlt (a := 20) (by omega) (by omega)), a1, bnd_some, letF, nI_s])) 21 0 (sI D 18 2 0) fz (by omega) (by decide) ⟨⟨fun n k z => by rw [gI_I, if_neg (by omega)]; exact e2.1 n k z, fun n k => e2.2.1 n k, fun n k => e2.2.2 n k⟩, fun r hr => ⟨by rw [gI_I, if_neg (by omega)]; exact (e3 r hr).1, by rw [gI_I, if_neg (by omega)]; exact (e3 r hr).2⟩, gI_same _ _ _ _⟩
  obtain ⟨⟨u2, E⟩, k1, -, k2⟩ := key
  have k1' : f_X10_countIn_L39 c fz 0 (sI D 18 2 0) = some (u2, E) := k1
  exact ⟨E, by rw [f_X10_countIn, e1', bnd_some, letF, k1', bnd_some], k2⟩
/-- the reference's rows -/
def WrR (R0 R : Mem) (F G : Nat → Nat) : Prop := ((∀ n k, ¬ (n = 11 ∨ n = 12) → gI R n k = gI R0 n k) ∧ ∀ n k, gL R n k = gL R0 n k) ∧ ∀ r, r < 9 → gI R 11 r = nI (F r) ∧ gI R 12 r = nI (G r)
theorem WrR.fn {C0 C : Mem} {F G F' G' : Nat → Nat} (h : WrR C0 C F G) (e : ∀ r, r < 9 → F' r = F r ∧ G' r = G r) : WrR C0 C F' G' :=
  ⟨h.1, fun r hr => by rw [(e r hr).1, (e r hr).2]; exact h.2 r hr⟩
theorem WrR.isR {R0 R : Mem} {F G : Nat → Nat} {K : Kt} (h : WrR R0 R F G) (hR : IsR R0 0 K) (hw : WFK K) : IsR R 0 K := hR.cg (fun k _ _ => h.1.1 1 k (by omega)) hw
def ixk (K : Kt) (k s : Nat) : Nat := ixK K (2 - nI (k % 2)) (k / 20) (k / 2 % 10) s
theorem ni_rd {j : Nat} (hj : j < 9) : ¬ (nI j < 0 ∨ 9 ≤ (nI j).toNatClampNeg) ∧ (nI j).toNatClampNeg = j := ⟨nI_in hj (by decide), nI_clamp (by omega)⟩
theorem r_world1 {R0 R : Mem} {F G : Nat → Nat} (h : WrR R0 R F G) {x k : Nat} (hx : x < 9) (hk : k < 420) (rec : Int32 → Mem → Rs Unit) (b1 : Int32) : ∃ R', f_X12_laysWorlds_J78 rec b1 (nI k) (nI x) R = rec (nI (k + 1)) R' ∧ WrR R0 R' (fun r => F r + if x = r then 1 else 0) (fun r => G r + if x = r then k % 2 else 0) := by
  obtain ⟨⟨h1, h2⟩, h3⟩ := h
  obtain ⟨q1, q2⟩ := ni_rd hx
  have q1' : ¬ (nI x < 0 ∨ 9 ≤ x) := fun z => z.elim (nI_pos (by omega)) (by omega)
  have em : nI k - nI k / 2 * 2 = nI (k % 2) := pk_rem (d := 2) (by omega) (by decide) (by decide)
  have b2 : gI (sI R 11 x (nI (F x + 1))) 12 x = nI (G x) := by rw [gI_I, if_neg (by omega)]; exact (h3 x hx).2
  refine ⟨sI (sI R 11 x (nI (F x + 1))) 12 x (nI (G x + k % 2)), ?_, ⟨fun n j z => by rw [gI_I, if_neg (by omega), gI_I, if_neg (by omega)]; exact h1 n j z, fun n j => h2 n j⟩, fun r hr => ?_⟩
  · rw [f_X12_laysWorlds_J78, if_neg q1, if_neg q1, letF, if_neg q1, if_neg q1, letF, letF, q2, (h3 x hx).1, show nI (F x) + 1 = nI (F x + 1) from nI_s _, b2, em, nI_add, nI_s]
  · by_cases z : r = x
    · subst z
      rw [gI_I, if_neg (by omega), gI_same, gI_same]
      dsimp only
      rw [if_pos rfl, if_pos rfl]
      exact ⟨rfl, rfl⟩
    · rw [gI_I, if_neg (by omega), gI_I, if_neg (by omega), gI_I, if_neg (by omega), gI_I, if_neg (by omega)]
      dsimp only
      rw [if_neg (fun q => z q.symm), if_neg (fun q => z q.symm)]
      exact h3 r hr
theorem r_laysWorlds {R : Mem} {K : Kt} (hR : IsR R 0 K) (hw : WFK K) : ∃ R', f_X12_laysWorlds R = some ((), R') ∧ WrR R R' (fun r => smN (2 ^ nK K 0) (fun s => smN 420 (fun k => if ixk K k s = r then 1 else 0))) (fun r => smN (2 ^ nK K 0) (fun s => smN 420 (fun k => if ixk K k s = r then k % 2 else 0))) := by
  have hn0 := hw.n0
  have hn2 := hw.n2
  have h5 : 2 ^ nK K 0 ≤ 32 := Nat.le_trans (Nat.pow_le_pow_right (by decide) hn0.2) (by decide)
  have key0 := loopI (fun fu (D : Mem) i => f_X12_laysWorlds_L2 fu (nI i) D) 9 (fun i D => ((∀ n k, ¬ (n = 11 ∨ n = 12) → gI D n k = gI R n k) ∧ ∀ n k, gL D n k = gL R n k) ∧ ∀ r, r < i → gI D 11 r = 0 ∧ gI D 12 r = 0)
    (fun b => b.1 = () ∧ ((∀ n k, ¬ (n = 11 ∨ n = 12) → gI b.2 n k = gI R n k) ∧ ∀ n k, gL b.2 n k = gL R n k) ∧ ∀ r, r < 9 → gI b.2 11 r = 0 ∧ gI b.2 12 r = 0)
    (fun fu D hI => ⟨((), D), by rw [f_X12_laysWorlds_L2, if_pos (by decide)], rfl, hI⟩)
    (fun fu D i hi hI => Or.inl ⟨sI (sI D 11 i 0) 12 i 0, ⟨⟨fun n k z => by rw [gI_I, if_neg (by omega), gI_I, if_neg (by omega)]; exact hI.1.1 n k z, fun n k => hI.1.2 n k⟩, fun r hr => by
      by_cases z : r = i
      · subst z
        exact ⟨by rw [gI_I, if_neg (by omega), gI_same], gI_same _ _ _ _⟩
      · have q := hI.2 r (by omega)
        exact ⟨by rw [gI_I, if_neg (by omega), gI_I, if_neg (by omega)]; exact q.1, by rw [gI_I, if_neg (by omega), gI_I, if_neg (by omega)]; exact q.2⟩⟩, by
      obtain ⟨q1, q2⟩ := ni_rd hi
      rw [f_X12_laysWorlds_L2, if_neg (show ¬ (8 : Int32) < nI i from nI_nlt (a := 8) (by omega) (by omega)), if_neg q1, letF, if_neg q1, letF, letF, q2, nI_s]⟩) 9 0 R fz (by omega) (by decide) ⟨⟨fun _ _ _ => rfl, fun _ _ => rfl⟩, fun r hr => by omega⟩
  obtain ⟨⟨u, D⟩, e1, -, e2, e3⟩ := key0
  have e1' : f_X12_laysWorlds_L2 fz 0 R = some (u, D) := e1
  have inner : ∀ (s : Nat) (F G : Nat → Nat) (E : Mem), WrR R E F G → ∃ E', f_X12_laysWorlds_L44 (nI s) fz 0 E = some ((), E') ∧ WrR R E' (fun r => F r + smN 420 (fun k => if ixk K k s = r then 1 else 0)) (fun r => G r + smN 420 (fun k => if ixk K k s = r then k % 2 else 0)) := by
    intro s F G E hE
    have key := loopI (fun fu (D : Mem) i => f_X12_laysWorlds_L44 (nI s) fu (nI i) D) 420 (fun i D => WrR R D (fun r => F r + smN i (fun k => if ixk K k s = r then 1 else 0)) (fun r => G r + smN i (fun k => if ixk K k s = r then k % 2 else 0)))
      (fun b => b.1 = () ∧ WrR R b.2 (fun r => F r + smN 420 (fun k => if ixk K k s = r then 1 else 0)) (fun r => G r + smN 420 (fun k => if ixk K k s = r then k % 2 else 0)))
      (fun fu D hI => ⟨((), D), by rw [f_X12_laysWorlds_L44, if_pos (by decide)], rfl, hI⟩)
      (fun fu D i hi hI => Or.inl (by
        have e2 : nI i - nI i / 2 * 2 = nI (i % 2) := pk_rem (d := 2) (by omega) (by decide) (by decide)
        have e20 : nI i / 20 = nI (i / 20) := pk_div (d := 20) (by omega) (by decide) (by decide)
        have d2 : nI i / 2 = nI (i / 2) := pk_div (d := 2) (by omega) (by decide) (by decide)
        have e10 : nI (i / 2) - nI (i / 2) / 10 * 10 = nI (i / 2 % 10) := pk_rem (d := 10) (by omega) (by decide) (by decide)
        have e2' : nI i - nI (i / 2) * 2 = nI (i % 2) := by rw [← d2]; exact e2
        have ix8 := (ix_is hw (2 - nI (i % 2)) (i / 20) (i / 2 % 10) s).2.2.2
        obtain ⟨D1, a1, a2⟩ := r_world1 hI (x := ixk K i s) (k := i) (by unfold ixk; omega) hi (f_X12_laysWorlds_L44 (nI s) fu) (nI s)
        refine ⟨D1, a2.fn (fun r _ => ⟨by rw [smN_s, Nat.add_assoc], by rw [smN_s, Nat.add_assoc]⟩), ?_⟩
        rw [f_X12_laysWorlds_L44, if_neg (show ¬ (420 : Int32) ≤ nI i from nI_ge (b := 420) hi (by decide)), e20, d2, e10, e2', r_firstOf (hI.isR hR hw) hw (f := i / 20) (w := i / 2 % 10) rfl (by omega) rfl (by omega), bnd_some, ← a1]
        by_cases z : ruleK K (2 - nI (i % 2)) (nI (i / 20)) (nI (i / 2 % 10)) (nI s) = -1
        · have : ixk K i s = 8 := by unfold ixk ixK; rw [if_pos z]
          rw [if_pos z, this]
          rfl
        · rw [if_neg z]
          rcases ruleK_in (K := K) (g := 2 - nI (i % 2)) (fed := nI (i / 20)) (warm := nI (i / 2 % 10)) (smells := nI s) with y | ⟨j, j1, -, j2⟩
          · exact absurd y z
          · have : ixk K i s = j := by unfold ixk ixK; rw [if_neg z, j2, nI_clamp (by omega)]
            rw [j2, this])) 420 0 E fz (by omega) (by decide) (hE.fn (fun r _ => ⟨rfl, rfl⟩))
    obtain ⟨⟨u, D⟩, k1, -, k2⟩ := key
    exact ⟨D, k1, k2⟩
  have key := loopI (fun fu (D : Mem) i => f_X12_laysWorlds_L30 fu (nI i) D) (2 ^ nK K 0) (fun i D => WrR R D (fun r => smN i (fun s => smN 420 (fun k => if ixk K k s = r then 1 else 0))) (fun r => smN i (fun s => smN 420 (fun k => if ixk K k s = r then k % 2 else 0))))
    (fun b => b.1 = () ∧ WrR R b.2 (fun r => smN (2 ^ nK K 0) (fun s => smN 420 (fun k => if ixk K k s = r then 1 else 0))) (fun r => smN (2 ^ nK K 0) (fun s => smN 420 (fun k => if ixk K k s = r then k % 2 else 0))))
    (fun fu D hI => ⟨((), D), by rw [f_X12_laysWorlds_L30, (hI.isR hR hw).cnt (by decide), hn0.1, shl_is _ (by omega), if_pos (Int32.le_refl _)], rfl, hI⟩)
    (fun fu D i hi hI => Or.inl (by
      obtain ⟨D1, a1, a2⟩ := inner i _ _ D hI
      refine ⟨D1, a2.fn (fun r _ => ⟨by rw [smN_s], by rw [smN_s]⟩), ?_⟩
      rw [f_X12_laysWorlds_L30, (hI.isR hR hw).cnt (by decide), hn0.1, shl_is _ (by omega), if_neg (nI_ge hi (by omega)), a1, bnd_some, letF, nI_s])) (2 ^ nK K 0) 0 D fz (by omega) (by rw [fz_is]; omega) ⟨e2, e3⟩
  obtain ⟨⟨u2, E⟩, k1, -, k2⟩ := key
  have k1' : f_X12_laysWorlds_L30 fz 0 D = some (u2, E) := k1
  exact ⟨E, by rw [f_X12_laysWorlds, e1', bnd_some, k1', bnd_some], k2⟩
/-- both count alike -/
theorem sum2 (f : Nat → Nat) : smN 2 f = f 0 + f 1 := by rw [smN_s, smN_s]; show 0 + f 0 + f 1 = _; rw [Nat.zero_add]
theorem tot_A (K : Kt) (r : Nat) : smN (2 ^ nK K 0) (fun s => smN 420 (fun k => if ixk K k s = r then 1 else 0)) = tA K r := by
  rw [smN_swap (fun s k => if ixk K k s = r then 1 else 0)]
  rw [show (420 : Nat) = 21 * 20 from rfl, smN_mul]
  refine smN_cg 21 (fun f hf => ?_)
  rw [show (20 : Nat) = 10 * 2 from rfl, smN_mul]
  refine smN_cg 10 (fun w hw => ?_)
  rw [sum2]
  have e : ∀ y, y < 2 → ∀ s, ixk K (f * (10 * 2) + (w * 2 + y)) s = ixK K (2 - nI y) f w s := by
    intro y hy s
    unfold ixk
    rw [show (f * (10 * 2) + (w * 2 + y)) % 2 = y by omega, show (f * (10 * 2) + (w * 2 + y)) / 20 = f by omega, show (f * (10 * 2) + (w * 2 + y)) / 2 % 10 = w by omega]
  have q0 : smN (2 ^ nK K 0) (fun s => if ixk K (f * (10 * 2) + (w * 2 + 0)) s = r then 1 else 0) = cWr K 2 f w r := smN_cg _ (fun s _ => by rw [e 0 (by decide)]; rfl)
  have q1 : smN (2 ^ nK K 0) (fun s => if ixk K (f * (10 * 2) + (w * 2 + 1)) s = r then 1 else 0) = cWr K 1 f w r := smN_cg _ (fun s _ => by rw [e 1 (by decide)]; rfl)
  rw [q0, q1]
  exact Nat.add_comm _ _
theorem tot_G (K : Kt) (r : Nat) : smN (2 ^ nK K 0) (fun s => smN 420 (fun k => if ixk K k s = r then k % 2 else 0)) = tG K r := by
  rw [smN_swap (fun s k => if ixk K k s = r then k % 2 else 0)]
  rw [show (420 : Nat) = 21 * 20 from rfl, smN_mul]
  refine smN_cg 21 (fun f hf => ?_)
  rw [show (20 : Nat) = 10 * 2 from rfl, smN_mul]
  refine smN_cg 10 (fun w hw => ?_)
  rw [sum2]
  have e : ∀ y, y < 2 → ∀ s, ixk K (f * (10 * 2) + (w * 2 + y)) s = ixK K (2 - nI y) f w s := by
    intro y hy s
    unfold ixk
    rw [show (f * (10 * 2) + (w * 2 + y)) % 2 = y by omega, show (f * (10 * 2) + (w * 2 + y)) / 20 = f by omega, show (f * (10 * 2) + (w * 2 + y)) / 2 % 10 = w by omega]
  have m : ∀ y, y < 2 → (f * (10 * 2) + (w * 2 + y)) % 2 = y := fun y hy => by omega
  rw [smN_0 _ (fun s _ => by rw [m 0 (by decide)]; split <;> rfl), Nat.zero_add]
  refine smN_cg _ (fun s _ => ?_)
  rw [e 1 (by decide), m 1 (by decide)]
  rfl
theorem tA_le (K : Kt) (hw : WFK K) (r : Nat) : tA K r ≤ 13440 := by
  have hn0 := hw.n0
  have h5 : 2 ^ nK K 0 ≤ 32 := Nat.le_trans (Nat.pow_le_pow_right (by decide) hn0.2) (by decide)
  have h := smN_le (f := fun f => smN 10 (fun w => dWr K f w r)) (g := fun _ => 640) 21 (fun f _ => by
    have h2 := smN_le (f := fun w => dWr K f w r) (g := fun _ => 64) 10 (fun w _ => by
      have a := cW_le K 1 f w r
      have b := cW_le K 2 f w r
      unfold dWr
      omega)
    rw [smN_c] at h2
    exact h2)
  rw [smN_c] at h
  exact h
theorem tG_le (K : Kt) (hw : WFK K) (r : Nat) : tG K r ≤ tA K r :=
  smN_le 21 (fun f _ => smN_le 10 (fun w _ => Nat.le_add_right _ _))
