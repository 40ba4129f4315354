/-! TEXTS: steps inside a part, in both -/
def Par (c : Nat) (C0 R0 : Mem) (X Y : Rs Int32) (Q : Mem → Mem → Prop) : Prop := Hlt c C0 R0 X Y ∨ ∃ C' R', X = some (1, C') ∧ Y = some (1, R') ∧ Q C' R'
theorem Par.b {c : Nat} {C0 R0 : Mem} {X Y : Rs Int32} {Q Q2 : Mem → Mem → Prop} {k1 k2 : Int32 → Mem → Rs Int32} (h : Par c C0 R0 X Y Q) (z1 : ∀ M, k1 0 M = some (0, M)) (z2 : ∀ M, k2 0 M = some (0, M))
    (w : ∀ C' R', Q C' R' → Par c C0 R0 (k1 1 C') (k2 1 R') Q2) : Par c C0 R0 (bnd X k1) (bnd Y k2) Q2 := by
  rcases h with ⟨C', R', h1, h2, h3⟩ | ⟨C', R', h1, h2, h3⟩
  · exact Or.inl ⟨C', R', by rw [h1, bnd_some, z1], by rw [h2, bnd_some, z2], h3⟩
  · rw [h1, h2]; exact w C' R' h3
theorem Par.mono {c : Nat} {C0 R0 : Mem} {X Y : Rs Int32} {Q Q2 : Mem → Mem → Prop} (h : Par c C0 R0 X Y Q) (w : ∀ C' R', Q C' R' → Q2 C' R') : Par c C0 R0 X Y Q2 := by
  rcases h with h | ⟨C', R', h1, h2, h3⟩
  · exact Or.inl h
  · exact Or.inr ⟨C', R', h1, h2, w C' R' h3⟩
theorem Par.ok {c : Nat} {C0 R0 C R : Mem} {Q : Mem → Mem → Prop} (h : Q C R) : Par c C0 R0 (some (1, C)) (some (1, R)) Q := Or.inr ⟨C, R, rfl, rfl, h⟩
/-- the same with the class's answer looked at -/
theorem Par.bC {c : Nat} {C0 R0 : Mem} {X Y : Rs Int32} {Q : Mem → Mem → Prop} (h : Par c C0 R0 X Y Q) : Par c C0 R0 (bnd X fun r M => if r = 0 then some (0, M) else some (1, M)) Y Q := by
  rcases h with ⟨C', R', h1, h2, h3⟩ | ⟨C', R', h1, h2, h3⟩
  · exact Or.inl ⟨C', R', by rw [h1]; rfl, h2, h3⟩
  · exact Or.inr ⟨C', R', by rw [h1]; rfl, h2, h3⟩
theorem Par.bK {c : Nat} {C0 R0 : Mem} {X Y : Rs Int32} {Q : Mem → Mem → Prop} (h : Par c C0 R0 X Y Q) : Par c C0 R0 (bnd X fun r M => if ¬ (r = 0 ∨ r = 1) then none else some (r, M)) Y Q := by
  rcases h with ⟨C', R', h1, h2, h3⟩ | ⟨C', R', h1, h2, h3⟩
  · exact Or.inl ⟨C', R', by rw [h1]; rfl, h2, h3⟩
  · exact Or.inr ⟨C', R', by rw [h1]; rfl, h2, h3⟩
theorem Par.bR {c : Nat} {C0 R0 : Mem} {X Y : Rs Int32} {Q : Mem → Mem → Prop} (h : Par c C0 R0 X Y Q) : Par c C0 R0 X (bnd Y fun r M => if ¬ (r = 0 ∨ r = 1) then none else some (r, M)) Q := by
  rcases h with ⟨C', R', h1, h2, h3⟩ | ⟨C', R', h1, h2, h3⟩
  · exact Or.inl ⟨C', R', h1, by rw [h2]; rfl, h3⟩
  · exact Or.inr ⟨C', R', h1, by rw [h2]; rfl, h3⟩
def InS (B : Nat → Nat) (n c kd x : Nat) (C0 R0 C R : Mem) : Prop := (∃ f e, StT B n C R f e) ∧ FnC c kd x C0 C ∧ FnR kd x R0 R
def Cx (B : Nat → Nat) (n c kd x : Nat) : Prop := n ≤ 900 ∧ (∀ k, B k < 256) ∧ kd < 6 ∧ x < mxK.getD kd 0 ∧ shC c = 0
section INP
variable {B : Nat → Nat} {n c kd x : Nat} {C0 R0 C R : Mem}
theorem InS.pr (X : Cx B n c kd x) (h : InS B n c kd x C0 R0 C R) : PrC c C0 C ∧ PrR R0 R := ⟨h.2.1.pr X.2.2.1 X.2.2.2.1, h.2.2.pr X.2.2.1 X.2.2.2.1⟩
theorem InS.go {C' R' : Mem} {f e : Nat} (h : InS B n c kd x C0 R0 C R) (s : StT B n C' R' f e) (g : GoC C C') (r : GoR R R') : InS B n c kd x C0 R0 C' R' := ⟨⟨f, e, s⟩, h.2.1.go g, h.2.2.go r⟩
theorem InS.wC (X : Cx B n c kd x) (h : InS B n c kd x C0 R0 C R) {a j : Nat} (v : Int32) (w : a = 16 ∨ (a = c + 1 ∧ j = kd) ∨ nrC c kd x a j) : InS B n c kd x C0 R0 (sI C a j v) R := by
  obtain ⟨⟨f, e, s⟩, h2, h3⟩ := h
  have lo := isC_lo X.2.2.2.2
  have mx := mxC X.2.2.1 X.2.2.2.1
  refine ⟨⟨f, e, s.setC (fun a1 j1 z => ?_) (fun _ _ _ => rfl)⟩, h2.sI v w, h3⟩
  rw [gI_I, if_neg (by rintro ⟨rfl, rfl⟩; unfold nrC at w; omega)]
theorem InS.wR (h : InS B n c kd x C0 R0 C R) {j : Nat} (v : Int32) (w : nrR kd x j) : InS B n c kd x C0 R0 C (sI R 1 j v) := by
  obtain ⟨⟨f, e, s⟩, h2, h3⟩ := h
  exact ⟨⟨f, e, s.setR (fun a1 j1 z => by rw [gI_I, if_neg (by omega)])⟩, h2, h3.sI v w⟩
theorem nrR_lt (X : Cx B n c kd x) {q : Nat} (h : nrR kd x q) : 2008 ≤ q ∧ q < 2510 := by
  have mx := mxC X.2.2.1 X.2.2.2.1
  unfold nrR at h
  omega
theorem in_go (X : Cx B n c kd x) (h : InS B n c kd x C0 R0 C R) : ∃ C' R', f_X7_goOn C = some ((), C') ∧ f_X12_ahead R = some ((), R') ∧ InS B n c kd x C0 R0 C' R' ∧ GoC C C' ∧ GoR R R' := by
  obtain ⟨f, e, s⟩ := h.1
  obtain ⟨C', R', f', e', a1, a2, a3, a4, a5, -⟩ := st_go X.1 X.2.1 s
  exact ⟨C', R', a1, a2, h.go a3 a4 a5, a4, a5⟩
theorem in_fail (X : Cx B n c kd x) (h : InS B n c kd x C0 R0 C R) {k : Nat} (h1 : 1 ≤ k) (h9 : k ≤ 9) {Q : Mem → Mem → Prop} : Par c C0 R0 (bnd (f_X7_refuse (nI k) C) fun r M => if ¬ (r = 0 ∨ r = 1) then none else some (r, M)) (bnd (f_X12_fails (nI k) R) fun r M => if ¬ (r = 0 ∨ r = 1) then none else some (r, M)) Q := by
  obtain ⟨f, e, s⟩ := h.1
  exact Or.inl ((st_stp (c := c) s X.1 X.2.1 h1 h9).chk.pre (h.pr X).1 (h.pr X).2)
theorem in_take (X : Cx B n c kd x) (h : InS B n c kd x C0 R0 C R) {t : Nat} (ht : t < 29) : Par c C0 R0 (f_X4_take (nI t) C) (f_X12_wantWord (nI (kwP.getD t 0)) R) (fun C' R' => InS B n c kd x C0 R0 C' R' ∧ GoC C C' ∧ GoR R R') := by
  obtain ⟨f, e, s⟩ := h.1
  rcases st_take (c := c) X.1 X.2.1 s ht with hh | ⟨C', R', f', e', a1, a2, a3, a4, a5⟩
  · exact Or.inl (hh.pre (h.pr X).1 (h.pr X).2)
  · exact Or.inr ⟨C', R', a1, a2, h.go a3 a4 a5, a4, a5⟩
theorem in_semi (X : Cx B n c kd x) (h : InS B n c kd x C0 R0 C R) : Par c C0 R0 (f_X4_take 59 C) (f_X12_wantSign 59 R) (fun C' R' => InS B n c kd x C0 R0 C' R' ∧ GoC C C' ∧ GoR R R') := by
  obtain ⟨f, e, s⟩ := h.1
  rcases st_semi (c := c) X.1 X.2.1 s with hh | ⟨C', R', f', e', a1, a2, a3, a4, a5⟩
  · exact Or.inl (hh.pre (h.pr X).1 (h.pr X).2)
  · exact Or.inr ⟨C', R', a1, a2, h.go a3 a4 a5, a4, a5⟩
theorem in_skip (X : Cx B n c kd x) (h : InS B n c kd x C0 R0 C R) {t : Nat} (ht : t < 29) : (f_X4_skip (nI t) C = some (0, C) ∧ f_X12_isThere (nI (kwP.getD t 0)) R = some (0, R)) ∨
    ∃ C' R', f_X4_skip (nI t) C = some (1, C') ∧ f_X12_isThere (nI (kwP.getD t 0)) R = some (1, R') ∧ InS B n c kd x C0 R0 C' R' ∧ GoC C C' ∧ GoR R R' := by
  obtain ⟨f, e, s⟩ := h.1
  rcases st_skip X.1 X.2.1 s ht with hh | ⟨C', R', f', e', a1, a2, a3, a4, a5⟩
  · exact Or.inl hh
  · exact Or.inr ⟨C', R', a1, a2, h.go a3 a4 a5, a4, a5⟩
theorem go16 {k : Nat} {v : Int32} {C' : Mem} (h : GoC (sI C 16 k v) C') : (∀ a j, a ≠ 13 → a ≠ 16 → gI C' a j = gI C a j) ∧ gI C' 16 k = v ∧ (∀ a j, a ≠ 13 → gL C' a j = gL C a j) :=
  ⟨fun a j z1 z2 => by rw [h.1 a j (by omega), gI_I, if_neg (by omega)], by rw [h.1 _ _ (by omega), gI_same], fun a j z => (h.2.1 a j (by omega)).trans rfl⟩
theorem go1 {q : Nat} {v : Int32} {R' : Mem} (h : GoR (sI R 1 q v) R') : (∀ j, j ≠ q → gI R' 1 j = gI R 1 j) ∧ gI R' 1 q = v ∧ (∀ a j, gL R' a j = gL R a j) :=
  ⟨fun j z => by rw [h.1 _ _ (by omega), gI_I, if_neg (by omega)], by rw [h.1 _ _ (by omega), gI_same], fun a j => (h.2 a j).trans rfl⟩
theorem InS.goS (X : Cx B n c kd x) {C' R' : Mem} {f e q : Nat} {u v : Int32} (h : InS B n c kd x C0 R0 C R) (s : StT B n C' R' f e) (g : GoC (sI C 16 3 u) C') (r : GoR (sI R 1 q v) R') (w : nrR kd x q) : InS B n c kd x C0 R0 C' R' :=
  ((h.wC X u (Or.inl rfl)).wR v w).go s g r
theorem in_num (X : Cx B n c kd x) (h : InS B n c kd x C0 R0 C R) {lo hi q : Nat} (hlo : lo ≤ 9999) (hhi : hi ≤ 9999) (hq : nrR kd x q) :
    Par c C0 R0 (f_X4_takeNumber (nI lo) (nI hi) C) (f_X12_number (nI q) (nI lo) (nI hi) R) (fun C' R' => InS B n c kd x C0 R0 C' R' ∧ ∃ v, lo ≤ v ∧ v ≤ hi ∧ GoC (sI C 16 3 (nI v)) C' ∧ GoR (sI R 1 q (nI v)) R') := by
  obtain ⟨f, e, s⟩ := h.1
  have ql := nrR_lt X hq
  rcases st_number (c := c) X.1 X.2.1 s hlo hhi (q := q) (by omega) with hh | ⟨v, C', R', f', e', v1, v2, a1, a2, a3, a4, a5⟩
  · exact Or.inl (hh.pre (h.pr X).1 (h.pr X).2)
  · exact Or.inr ⟨C', R', a1, a2, h.goS X a3 a4 a5 hq, v, v1, v2, a4, a5⟩
/-- counts and NAMES of other kinds stand as they stood -/
theorem in_cnt (X : Cx B n c kd x) (h : InS B n c kd x C0 R0 C R) {K : Kt} (hw : WFK K) (iC : IsC C0 c K) (iR : IsR R0 2008 K) {k : Nat} (hk : k < 6) (z : k ≠ kd) : gI C (c + 1) k = nI (nK K k) ∧ gI R 1 (2008 + k) = nI (nK K k) := by
  have lo := isC_lo X.2.2.2.2
  have mx := mxC X.2.2.1 X.2.2.2.1
  have e := (hw.nk hk).1
  exact ⟨((h.2.1.1 _ _ (by omega) (by omega) (by omega) (by unfold nrC; omega)).trans (iC.1 k hk)).trans e, ((h.2.2.1 _ _ (by omega) (by unfold nrR; omega)).trans (iR.1 k hk)).trans e⟩
theorem in_nm (X : Cx B n c kd x) (h : InS B n c kd x C0 R0 C R) {K : Kt} (hw : WFK K) (iN : NmR C0 c R0 4 K) {k base : Nat} (hb : (k = 0 ∧ base = 92) ∨ (k = 1 ∧ base = 97) ∨ (k = 3 ∧ base = 103)) (z : k ≠ kd) :
    ∀ i, i < nK K k → nmOK (gL C (c + 2) (k * 6 + i)) (gL R 2 (base + i)) := by
  intro i hi
  have lo := isC_lo X.2.2.2.2
  have mx := mxC X.2.2.1 X.2.2.2.1
  obtain ⟨n0, n1, n3, n4⟩ := nmC kd
  have w0 := hw.n0.2
  have w1 := hw.n1.2
  have w3 := hw.n3.2
  have q := iN k (by omega) (by omega) i hi
  have e1 : gL C (c + 2) (k * 6 + i) = gL C0 (c + 2) (k * 6 + i) := h.2.1.2.1 _ _ (by omega) (by rcases hb with ⟨rfl, -⟩ | ⟨rfl, -⟩ | ⟨rfl, -⟩ <;> omega)
  have eb : 23 * 4 + nmB.getD k 0 + i = base + i := by rcases hb with ⟨rfl, rfl⟩ | ⟨rfl, rfl⟩ | ⟨rfl, rfl⟩ <;> rfl
  rw [eb] at q
  have e2 : gL R 2 (base + i) = gL R0 2 (base + i) := by
    refine h.2.2.2 _ _ ?_
    rintro ⟨y1, y2, -, y4⟩
    rcases mx with ⟨m1, m2⟩ | ⟨m1, m2⟩ | ⟨m1, m2⟩ | ⟨m1, m2⟩ | ⟨m1, m2⟩ | ⟨m1, m2⟩
    · rw [n0 m1] at y4; rcases hb with ⟨rfl, rfl⟩ | ⟨rfl, rfl⟩ | ⟨rfl, rfl⟩ <;> omega
    · rw [n1 m1] at y4; rcases hb with ⟨rfl, rfl⟩ | ⟨rfl, rfl⟩ | ⟨rfl, rfl⟩ <;> omega
    · exact y1 m1
    · rw [n3 m1] at y4; rcases hb with ⟨rfl, rfl⟩ | ⟨rfl, rfl⟩ | ⟨rfl, rfl⟩ <;> omega
    · rw [n4 m1] at y4; rcases hb with ⟨rfl, rfl⟩ | ⟨rfl, rfl⟩ | ⟨rfl, rfl⟩ <;> omega
    · exact y2 m1
  rw [e1, e2]
  exact q
theorem in_name (X : Cx B n c kd x) (h : InS B n c kd x C0 R0 C R) {K : Kt} (hw : WFK K) (iC : IsC C0 c K) (iR : IsR R0 2008 K) (iN : NmR C0 c R0 4 K) {k base q : Nat} (hb : (k = 0 ∧ base = 92) ∨ (k = 1 ∧ base = 97) ∨ (k = 3 ∧ base = 103)) (z : k ≠ kd) (hq : nrR kd x q) :
    Par c C0 R0 (f_X4_takeName (nI k) c C) (f_X12_oldOne (nI base) (nI (nK K k)) (nI q) R) (fun C' R' => InS B n c kd x C0 R0 C' R' ∧ ∃ v, v < nK K k ∧ GoC (sI C 16 3 (nI v)) C' ∧ GoR (sI R 1 q (nI v)) R') := by
  obtain ⟨f, e, s⟩ := h.1
  have ql := nrR_lt X hq
  have w0 := hw.n0.2
  have w1 := hw.n1.2
  have w3 := hw.n3.2
  rcases st_name (c := c) X.1 X.2.1 s (kd := k) (base := base) (cnt := nK K k) (q := q) (by omega) (by rcases hb with ⟨rfl, -⟩ | ⟨rfl, -⟩ | ⟨rfl, -⟩ <;> omega) (by omega) (in_cnt X h hw iC iR (by omega) z).1 (in_nm X h hw iN hb z) ql.1 ql.2 with hh | ⟨v, C', R', f', e', v1, a1, a2, a3, a4, a5⟩
  · exact Or.inl (hh.pre (h.pr X).1 (h.pr X).2)
  · exact Or.inr ⟨C', R', a1, a2, h.goS X a3 a4 a5 hq, v, v1, a4, a5⟩
theorem in_cmp (X : Cx B n c kd x) (h : InS B n c kd x C0 R0 C R) {most q q2 : Nat} (hm : most ≤ 99) (hq : nrR kd x q) (hq2 : nrR kd x q2) (hne : q ≠ q2) {F : Mem → Rs Int32}
    (hF : ∀ M, F M = letF (sI M 1 q (gI M 0 15)) fun M24 => bnd (f_X12_ahead M24) fun _ M26 => bnd (f_X12_number (nI q2) (nI 0) (nI most) M26) fun r28 M29 => if ¬ (r28 = 0 ∨ r28 = 1) then none else some (r28, M29)) :
    Par c C0 R0 (f_X4_takeCompare (nI most) C) (cmpF F R) (fun C' R' => InS B n c kd x C0 R0 C' R' ∧ (∃ v lo hi, cmpR most (gI R' 1 q) (gI R' 1 q2) v lo hi ∧ gI C' 16 3 = v ∧ gI C' 16 4 = lo ∧ gI C' 16 5 = hi) ∧ (∀ a j, a ≠ 13 → a ≠ 16 → gI C' a j = gI C a j) ∧ (∀ j, j ≠ q → j ≠ q2 → gI R' 1 j = gI R 1 j)) := by
  obtain ⟨f, e, s⟩ := h.1
  have ql := nrR_lt X hq
  have ql2 := nrR_lt X hq2
  rcases st_cmp (c := c) X.1 X.2.1 s hm ql.1 ql.2 ql2.1 ql2.2 hF with hh | ⟨sg, v, C', R', f', e', lo, hi, a1, a2, a3, a4, a5, a6, a7, a8, a9, g1, g2, g3, R1, g4, g5⟩
  · exact Or.inl (hh.pre (h.pr X).1 (h.pr X).2)
  · have rr := (go1 g4)
    have rr2 := (go1 g5)
    refine Or.inr ⟨C', R', a1, a2, ⟨⟨f', e', a3⟩, ⟨fun a j z1 z2 z3 z4 => (g1 a j (by omega) z2).trans (h.2.1.1 a j z1 z2 z3 z4), fun a j z1 z2 => (g2 a j z1).trans (h.2.1.2.1 a j z1 z2), fun a j => (g3 a j).trans (h.2.1.2.2 a j)⟩, ?_⟩, ⟨nI v, lo, hi, ?_, a5, a6, a7⟩, fun a j z1 z2 => g1 a j (by omega) z2, fun j z1 z2 => (rr2.1 j z2).trans (rr.1 j z1)⟩
    · exact ((h.2.2.sI (nI sg) hq).go g4 |>.sI (nI v) hq2).go g5
    · rw [rr2.2.1, rr2.1 q hne, rr.2.1]; exact a4
end INP
