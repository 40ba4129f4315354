/-! WEEKS: inside a STEP, in both -/
def FbC (w s : Nat) (C0 C : Mem) : Prop := (∀ a j, ¬ (a = 13 ∧ (j = 4 ∨ j = 5 ∨ j = 6 ∨ j = 8)) → ¬ (a = 16 ∧ j ≠ 2) → ¬ (a = w + 1 ∧ 5 * s ≤ j ∧ j < 5 * s + 5) → gI C a j = gI C0 a j) ∧ (∀ a j, ¬ (a = 13 ∧ j = 7) → gL C a j = gL C0 a j) ∧ ∀ a j, gR C a j = gR C0 a j
def FbR (m : Nat) (R0 R : Mem) : Prop := (∀ a j, ¬ (a = 0 ∧ (j = 12 ∨ j = 13 ∨ j = 14 ∨ j = 15)) → ¬ (a = 1 ∧ 2142 + 6 * m ≤ j ∧ j < 2148 + 6 * m) → gI R a j = gI R0 a j) ∧ ∀ a j, gL R a j = gL R0 a j
theorem FbC.rf {w s : Nat} {C : Mem} : FbC w s C C := ⟨fun _ _ _ _ _ => rfl, fun _ _ _ => rfl, fun _ _ => rfl⟩
theorem FbR.rf {m : Nat} {R : Mem} : FbR m R R := ⟨fun _ _ _ _ => rfl, fun _ _ => rfl⟩
theorem FbC.go {w s : Nat} {C0 C C' : Mem} (h : FbC w s C0 C) (g : GoC C C') : FbC w s C0 C' := ⟨fun a j z1 z2 z3 => (g.1 a j z1).trans (h.1 a j z1 z2 z3), fun a j z1 => (g.2.1 a j z1).trans (h.2.1 a j z1), fun a j => (g.2.2 a j).trans (h.2.2 a j)⟩
theorem FbR.go {m : Nat} {R0 R R' : Mem} (h : FbR m R0 R) (g : GoR R R') : FbR m R0 R' := ⟨fun a j z1 z2 => (g.1 a j z1).trans (h.1 a j z1 z2), fun a j => (g.2 a j).trans (h.2 a j)⟩
theorem FbC.st {w s : Nat} {C0 C : Mem} (h : FbC w s C0 C) {a j : Nat} (v : Int32) (z : (a = 16 ∧ j ≠ 2) ∨ (a = w + 1 ∧ 5 * s ≤ j ∧ j < 5 * s + 5)) : FbC w s C0 (sI C a j v) :=
  ⟨fun a1 j1 z1 z2 z3 => by rw [gI_I, if_neg (by omega)]; exact h.1 a1 j1 z1 z2 z3, fun a1 j1 z1 => h.2.1 a1 j1 z1, h.2.2⟩
theorem FbR.st {m : Nat} {R0 R : Mem} (h : FbR m R0 R) {j : Nat} (v : Int32) (z : 2142 + 6 * m ≤ j ∧ j < 2148 + 6 * m) : FbR m R0 (sI R 1 j v) :=
  ⟨fun a1 j1 z1 z2 => by rw [gI_I, if_neg (by omega)]; exact h.1 a1 j1 z1 z2, h.2⟩
def Bx (B : Nat → Nat) (n c w s m : Nat) : Prop := n ≤ 900 ∧ (∀ k, B k < 256) ∧ w = c + 24 ∧ shC c = 0 ∧ s < 30 ∧ m < 60
def InB (B : Nat → Nat) (n w s m : Nat) (C0 R0 C R : Mem) : Prop := (∃ f e, StT B n C R f e) ∧ FbC w s C0 C ∧ FbR m R0 R
/-- the court that is read beside -/
def CrtW (K : Kt) (d : Nat) (C R : Mem) : Prop := WFK K ∧ (∀ k, k < 6 → gI C (d + 1) k = K 0 k) ∧ (∀ k, k < 6 → gI R 1 k = K 0 k) ∧ NmR C d R 0 K
theorem Par.pre {c : Nat} {C0 R0 C1 R1 : Mem} {X Y : Rs Int32} {Q : Mem → Mem → Prop} (h : Par c C1 R1 X Y Q) (a : PrC c C0 C1) (b : PrR R0 R1) : Par c C0 R0 X Y Q := by
  rcases h with h | h
  · exact Or.inl (h.pre a b)
  · exact Or.inr h
/-- a NAME of one court, while another is made -/
theorem st_name2 {B : Nat → Nat} {n c d : Nat} {C R : Mem} {f e : Nat} (hn : n ≤ 900) (hB : ∀ k, B k < 256) (h : StT B n C R f e) {kd base cnt q : Nat} (hkd : kd < 6) (hcnt : cnt ≤ 6) (hbase : base + 6 ≤ 138) (hc : gI C (d + 1) kd = nI cnt)
    (hN : ∀ i, i < cnt → nmOK (gL C (d + 2) (kd * 6 + i)) (gL R 2 (base + i))) (hq : 2008 ≤ q) (hq2 : q < 2510) : Hlt c C R (f_X4_takeName (nI kd) d C) (f_X12_oldOne (nI base) (nI cnt) (nI q) R) ∨
    ∃ k C' R' f' e', k < cnt ∧ f_X4_takeName (nI kd) d C = some (1, C') ∧ f_X12_oldOne (nI base) (nI cnt) (nI q) R = some (1, R') ∧ StT B n C' R' f' e' ∧ GoC (sI C 16 3 (nI k)) C' ∧ GoR (sI R 1 q (nI k)) R' := by
  obtain ⟨z1, z2⟩ := r_rd (e := nI q) (j := q) rfl (by omega)
  rcases st_isName hn hB h with ⟨b1, b2, b3, b4, b5, b6, b7, b8, b9⟩ | ⟨b1, b2⟩
  · obtain ⟨r, h1, h2, h3⟩ := find2w (C := C) hn hB h.2.1 (Nat.le_of_lt b3) b4 b5 b8 b9 b6 hkd hcnt hbase hc hN
    have hs := (h.s16 3 r).s1 q r
    have g16 : gI (sI C 16 3 r) 16 3 = r := gI_same _ _ _ _
    have g1q : gI (sI R 1 q r) 1 q = r := gI_same _ _ _ _
    rw [f_X4_takeName, if_pos b1, b7, h1, bnd_some, letF, g16, f_X12_oldOne, b2, bnd_some, if_neg i10, h2, bnd_some, if_neg z1, letF, if_neg z1, z2, g1q]
    rcases h3 with rfl | ⟨k, k1, rfl⟩
    · rw [if_pos rfl, if_pos rfl]
      exact Or.inl ((st_stp (c := c) hs hn hB (k := 3) (by omega) (by omega)).chk.pre (PrC.s16 3 _) (PrR.s1 hq hq2 _))
    · obtain ⟨C', R', f', e', a1, a2, a3, a4, a5, -⟩ := st_go hn hB hs
      refine Or.inr ⟨k, C', R', f', e', k1, ?_, ?_, a3, a4, a5⟩
      · rw [if_neg (nI_ne_m1 (by omega)), a1, bnd_some]
      · rw [if_neg (nI_ne_m1 (by omega)), a2, bnd_some]
  · rw [f_X4_takeName, if_neg b1, f_X12_oldOne, b2, bnd_some, if_pos rfl]
    exact Or.inl (st_stp (c := c) h hn hB (k := 2) (by omega) (by omega)).chk
section INB
variable {B : Nat → Nat} {n c d w s m : Nat} {C0 R0 C R : Mem} {K : Kt}
theorem CrtW.fb (X : Bx B n c w s m) (h : CrtW K d C0 R0) (fc : FbC w s C0 C) (fr : FbR m R0 R) (hd : 27 ≤ d ∧ (d + 28 ≤ c ∨ c + 28 ≤ d)) : CrtW K d C R := by
  obtain ⟨h1, h2, h3, h4⟩ := h
  have hw := X.2.2.1
  exact ⟨h1, fun k hk => (fc.1 _ _ (by omega) (by omega) (by omega)).trans (h2 k hk), fun k hk => (fr.1 _ _ (by omega) (by omega)).trans (h3 k hk), fun k hk k2 i hi => by rw [fc.2.1 _ _ (by omega), fr.2]; exact h4 k hk k2 i hi⟩
theorem InB.pr (X : Bx B n c w s m) (h : InB B n w s m C0 R0 C R) : PrC c C0 C ∧ PrR R0 R := by
  obtain ⟨x1, x2, x3, x4, x5, x6⟩ := X
  exact ⟨⟨fun a j z1 z2 z3 => h.2.1.1 a j (by omega) (by omega) (by omega), fun a j z1 z2 => h.2.1.2.1 a j z1, h.2.1.2.2⟩, fun a j z1 z2 z3 => h.2.2.1 a j (by omega) (by omega), fun a j z => h.2.2.2 a j⟩
theorem InB.go {C' R' : Mem} {f e : Nat} (h : InB B n w s m C0 R0 C R) (t : StT B n C' R' f e) (g : GoC C C') (r : GoR R R') : InB B n w s m C0 R0 C' R' := ⟨⟨f, e, t⟩, h.2.1.go g, h.2.2.go r⟩
theorem InB.wC (X : Bx B n c w s m) (h : InB B n w s m C0 R0 C R) {a j : Nat} (v : Int32) (z : (a = 16 ∧ j ≠ 2) ∨ (a = w + 1 ∧ 5 * s ≤ j ∧ j < 5 * s + 5)) : InB B n w s m C0 R0 (sI C a j v) R := by
  obtain ⟨⟨f, e, t⟩, h2, h3⟩ := h
  have lo := isC_lo X.2.2.2.1
  have hw := X.2.2.1
  exact ⟨⟨f, e, t.setC (fun a1 j1 y => by rw [gI_I, if_neg (by omega)]) (fun _ _ _ => rfl)⟩, h2.st v z, h3⟩
theorem InB.wR (h : InB B n w s m C0 R0 C R) {j : Nat} (v : Int32) (z : 2142 + 6 * m ≤ j ∧ j < 2148 + 6 * m) : InB B n w s m C0 R0 C (sI R 1 j v) := by
  obtain ⟨⟨f, e, t⟩, h2, h3⟩ := h
  exact ⟨⟨f, e, t.setR (fun a1 j1 y => by rw [gI_I, if_neg (by omega)])⟩, h2, h3.st v z⟩
theorem ib_go (X : Bx B n c w s m) (h : InB B n w s m C0 R0 C R) : ∃ C' R', f_X7_goOn C = some ((), C') ∧ f_X12_ahead R = some ((), R') ∧ InB B n w s m C0 R0 C' R' ∧ GoC C C' ∧ GoR R R' := by
  obtain ⟨f, e, t⟩ := h.1
  obtain ⟨C', R', f', e', a1, a2, a3, a4, a5, -⟩ := st_go X.1 X.2.1 t
  exact ⟨C', R', a1, a2, h.go a3 a4 a5, a4, a5⟩
theorem ib_fail (X : Bx B n c w s m) (h : InB B n w s m C0 R0 C R) {k : Nat} (h1 : 1 ≤ k) (h9 : k ≤ 9) {Q : Mem → Mem → Prop} : Par c C0 R0 (bnd (f_X7_refuse (nI k) C) fun r M => if ¬ (r = 0 ∨ r = 1) then none else some (r, M)) (bnd (f_X12_fails (nI k) R) fun r M => if ¬ (r = 0 ∨ r = 1) then none else some (r, M)) Q := by
  obtain ⟨f, e, t⟩ := h.1
  exact Or.inl ((st_stp (c := c) t X.1 X.2.1 h1 h9).chk.pre (h.pr X).1 (h.pr X).2)
theorem ib_num (X : Bx B n c w s m) (h : InB B n w s m C0 R0 C R) {lo hi i : Nat} (hlo : lo ≤ 9999) (hhi : hi ≤ 9999) (hi6 : i < 6) :
    Par c C0 R0 (f_X4_takeNumber (nI lo) (nI hi) C) (f_X12_number (nI (2142 + (6 * m + i))) (nI lo) (nI hi) R) (fun C' R' => InB B n w s m C0 R0 C' R' ∧ ∃ v, (lo ≤ v ∧ v ≤ hi) ∧ GoC (sI C 16 3 (nI v)) C' ∧ GoR (sI R 1 (2142 + (6 * m + i)) (nI v)) R') := by
  obtain ⟨f, e, t⟩ := h.1
  have m60 := X.2.2.2.2.2
  rcases st_number (c := c) X.1 X.2.1 t hlo hhi (q := 2142 + (6 * m + i)) (by omega) with hh | ⟨v, C', R', f', e', v1, v2, a1, a2, a3, a4, a5⟩
  · exact Or.inl (hh.pre (h.pr X).1 (h.pr X).2)
  · exact Or.inr ⟨C', R', a1, a2, ((h.wC X (nI v) (Or.inl ⟨rfl, by omega⟩)).wR (nI v) (by omega)).go a3 a4 a5, v, ⟨v1, v2⟩, a4, a5⟩
theorem ib_name (X : Bx B n c w s m) (h : InB B n w s m C0 R0 C R) (hK : CrtW K d C0 R0) (hd : 27 ≤ d ∧ (d + 28 ≤ c ∨ c + 28 ≤ d)) {k base i : Nat} (hb : (k = 0 ∧ base = 0) ∨ (k = 1 ∧ base = 5) ∨ (k = 3 ∧ base = 11)) (hi6 : i < 6) :
    Par c C0 R0 (f_X4_takeName (nI k) d C) (f_X12_oldOne (nI base) (gI R 1 k) (nI (2142 + (6 * m + i))) R) (fun C' R' => InB B n w s m C0 R0 C' R' ∧ ∃ v, v < nK K k ∧ GoC (sI C 16 3 (nI v)) C' ∧ GoR (sI R 1 (2142 + (6 * m + i)) (nI v)) R') := by
  obtain ⟨f, e, t⟩ := h.1
  have m60 := X.2.2.2.2.2
  obtain ⟨hw, k1, k2, k3⟩ := hK.fb X h.2.1 h.2.2 hd
  have w0 := hw.n0.2
  have w1 := hw.n1.2
  have w3 := hw.n3.2
  have kk := (hw.nk (k := k) (by omega)).1
  have k6 : nK K k ≤ 6 := by rcases hb with ⟨rfl, -⟩ | ⟨rfl, -⟩ | ⟨rfl, -⟩ <;> omega
  have eb : nmB.getD k 0 = base := by rcases hb with ⟨rfl, rfl⟩ | ⟨rfl, rfl⟩ | ⟨rfl, rfl⟩ <;> rfl
  rw [k2 k (by omega), kk]
  rcases st_name2 (c := c) (d := d) X.1 X.2.1 t (kd := k) (base := base) (cnt := nK K k) (q := 2142 + (6 * m + i)) (by omega) k6 (by omega) ((k1 k (by omega)).trans kk) (fun i hi => by
    have := k3 k (by omega) (by omega) i hi
    rw [eb] at this
    rw [show base + i = 23 * 0 + base + i by omega]
    exact this) (by omega) (by omega) with hh | ⟨v, C', R', f', e', v1, a1, a2, a3, a4, a5⟩
  · exact Or.inl (hh.pre (h.pr X).1 (h.pr X).2)
  · exact Or.inr ⟨C', R', a1, a2, ((h.wC X (nI v) (Or.inl ⟨rfl, by omega⟩)).wR (nI v) (by omega)).go a3 a4 a5, v, v1, a4, a5⟩
theorem ib_person (X : Bx B n c w s m) (h : InB B n w s m C0 R0 C R) (hK : CrtW K d C0 R0) (hd : 27 ≤ d ∧ (d + 28 ≤ c ∨ c + 28 ≤ d)) {i : Nat} (hi6 : i < 6) :
    Par c C0 R0 (f_X4_takeName 3 d C) (f_X12_personTo (nI (2142 + (6 * m + i))) R) (fun C' R' => InB B n w s m C0 R0 C' R' ∧ ∃ v, v < nK K 3 ∧ GoC (sI C 16 3 (nI v)) C' ∧ GoR (sI R 1 (2142 + (6 * m + i)) (nI v)) R') := by
  rw [f_X12_personTo]
  exact Par.bR (ib_name X h hK hd (k := 3) (base := 11) (Or.inr (Or.inr ⟨rfl, rfl⟩)) hi6)
theorem ib_smell (X : Bx B n c w s m) (h : InB B n w s m C0 R0 C R) (hK : CrtW K d C0 R0) (hd : 27 ≤ d ∧ (d + 28 ≤ c ∨ c + 28 ≤ d)) {i : Nat} (hi6 : i < 6) :
    Par c C0 R0 (f_X4_takeName 0 d C) (f_X12_smellTo (nI (2142 + (6 * m + i))) R) (fun C' R' => InB B n w s m C0 R0 C' R' ∧ ∃ v, v < nK K 0 ∧ GoC (sI C 16 3 (nI v)) C' ∧ GoR (sI R 1 (2142 + (6 * m + i)) (nI v)) R') := by
  rw [f_X12_smellTo]
  exact Par.bR (ib_name X h hK hd (k := 0) (base := 0) (Or.inl ⟨rfl, rfl⟩) hi6)
theorem p_putCell (X : Bx B n c w s m) {i : Nat} (hi : i < 5) (v : Int32) (C : Mem) : f_X9_putCell w (nI s) (nI i) v C = some ((), sI C (w + 1) (5 * s + i) v) := by
  obtain ⟨x1, x2, x3, x4, x5, x6⟩ := X
  have e : nI s * 5 + nI i = nI (5 * s + i) := by rw [litI, pk_mul, nI_add, Nat.mul_comm]
  rw [f_X9_putCell, e, p_put (n := 150) (by rw [x3]; exact alC_wk x4) (by omega) (by decide), bnd_some]
theorem p_keepF (X : Bx B n c w s m) {i : Nat} (hi : i < 5) (C : Mem) : f_X4_keepFound w (nI s) (nI i) C = some (1, sI C (w + 1) (5 * s + i) (gI C 16 3)) := by
  rw [f_X4_keepFound, p_putCell X hi, bnd_some]
theorem ib_cmp (X : Bx B n c w s m) (h : InB B n w s m C0 R0 C R) {F : Mem → Rs Int32}
    (hF : ∀ M, F M = letF (sI M 1 (2142 + (6 * m + 5)) (gI M 0 15)) fun M24 => bnd (f_X12_ahead M24) fun _ M26 => bnd (f_X12_number (nI (2142 + (6 * m + 2))) (nI 0) (nI 9) M26) fun r28 M29 => if ¬ (r28 = 0 ∨ r28 = 1) then none else some (r28, M29)) :
    Par c C0 R0 (f_X4_takeCompare 9 C) (cmpF F R) (fun C' R' => InB B n w s m C0 R0 C' R' ∧ (∃ v lo hi, cmpR 9 (gI R' 1 (2142 + (6 * m + 5))) (gI R' 1 (2142 + (6 * m + 2))) v lo hi ∧ gI C' 16 4 = lo ∧ gI C' 16 5 = hi) ∧ ¬ gI R' 1 (2142 + (6 * m + 5)) = 0 ∧ (∀ a j, a ≠ 13 → a ≠ 16 → gI C' a j = gI C a j) ∧ (∀ j, j ≠ 2142 + (6 * m + 5) → j ≠ 2142 + (6 * m + 2) → gI R' 1 j = gI R 1 j)) := by
  obtain ⟨f, e, t⟩ := h.1
  have m60 := X.2.2.2.2.2
  rcases st_cmp2 (c := c) X.1 X.2.1 t (most := 9) (q := 2142 + (6 * m + 5)) (q2 := 2142 + (6 * m + 2)) (by omega) (by omega) (by omega) (by omega) (by omega) hF with hh | ⟨sg, v, C', R', f', e', lo, hi, a1, a2, a3, a4, a5, a6, a7, a8, a9, g1, g2, g3, R1, g4, g5⟩
  · exact Or.inl (hh.pre (h.pr X).1 (h.pr X).2)
  · have rr := go1 g4
    have rr2 := go1 g5
    refine Or.inr ⟨C', R', a1, a2, ⟨⟨f', e', a3⟩, ⟨fun a j z1 z2 z3 => ?_, fun a j z1 => (g2 a j z1).trans (h.2.1.2.1 a j z1), fun a j => (g3 a j).trans (h.2.1.2.2 a j)⟩, ?_⟩, ⟨nI v, lo, hi, ?_, a6, a7⟩, ?_, fun a j z1 z2 => g1 a j (by omega) (by omega), fun j z1 z2 => (rr2.1 j z2).trans (rr.1 j z1)⟩
    · exact (g1 a j z1 z2).trans (h.2.1.1 a j z1 z2 z3)
    · exact ((h.2.2.st (nI sg) (by omega)).go g4 |>.st (nI v) (by omega)).go g5
    · rw [rr2.2.1, rr2.1 _ (by omega), rr.2.1]; exact a4
    · rw [rr2.1 _ (by omega), rr.2.1]
      exact fun q => by have := nI_inj (b := 0) (by omega) (by omega) q; omega
end INB
