/-! SITTINGS and TERMS, on a value, in the class's memory, in the reference's -/
def FrC (C0 C : Mem) (c : Nat) : Prop := (∀ n k, (n < c ∨ c + 28 ≤ n ∨ n = c + 2 ∨ n = c + 24 ∨ n = c + 25) → gI C n k = gI C0 n k) ∧ (∀ n k, gL C n k = gL C0 n k) ∧ ∀ n k, gR C n k = gR C0 n k
def FrR (R0 R : Mem) : Prop := (∀ n k, ¬ (n = 1 ∧ k < 134 ∧ k ≠ 8) → gI R n k = gI R0 n k) ∧ ∀ n k, gL R n k = gL R0 n k
theorem FrC.rf {C : Mem} {c : Nat} : FrC C C c := ⟨fun _ _ _ => rfl, fun _ _ => rfl, fun _ _ => rfl⟩
theorem FrR.rf {R : Mem} : FrR R R := ⟨fun _ _ _ => rfl, fun _ _ => rfl⟩
theorem FrC.sI {C0 C : Mem} {c : Nat} (h : FrC C0 C c) (n k : Nat) (v : Int32) (hn : c ≤ n ∧ n < c + 28 ∧ n ≠ c + 2 ∧ n ≠ c + 24 ∧ n ≠ c + 25) : FrC C0 (sI C n k v) c :=
  ⟨fun a b z => by rw [gI_I, if_neg (by omega)]; exact h.1 a b z, fun a b => h.2.1 a b, fun a b => h.2.2 a b⟩
theorem FrR.sI {R0 R : Mem} (h : FrR R0 R) (k : Nat) (v : Int32) (hk : k < 134 ∧ k ≠ 8) : FrR R0 (sI R 1 k v) :=
  ⟨fun a b z => by rw [gI_I, if_neg (by omega)]; exact h.1 a b z, fun a b => h.2 a b⟩
def InC (C0 : Mem) (c : Nat) (K : Kt) (C : Mem) : Prop := IsC C c K ∧ FrC C0 C c
def InR (R0 : Mem) (K : Kt) (R : Mem) : Prop := IsR R 0 K ∧ FrR R0 R
theorem InC.up {C0 C : Mem} {c : Nat} {K : Kt} (h : InC C0 c K C) (hw : WFK K) {f i : Nat} {v : Int32} (hf : 0 < f) (n k : Nat)
    (w : (f = 1 ∧ n = c + 3 ∧ k = i) ∨ (11 ≤ f ∧ f ≤ 15 ∧ n = c + 13 + 1 + i ∧ k + 11 = f ∧ i < 6) ∨ (f = 16 ∧ n = c + 20 ∧ k = i) ∨ (f = 20 ∧ i = 0 ∧ n = c ∧ k = 12) ∨ (f = 20 ∧ i = 1 ∧ n = c ∧ k = 13)) : InC C0 c (upK K f i v) (sI C n k v) :=
  ⟨h.1.up hw hf n k (fun a b => gI_I C n k a b v) w, h.2.sI n k v (by omega)⟩
theorem InR.up {R0 R : Mem} {K : Kt} (h : InR R0 K R) (hw : WFK K) {f i : Nat} {v x : Int32} (hf : 0 < f) (k : Nat) (hx : x = if f = 11 then 2 - v else v)
    (w : (f = 1 ∧ k = 10 + i ∧ i < 6) ∨ (f = 12 ∧ k = 72 + 5 * i ∧ i < 6) ∨ (f = 13 ∧ k = 72 + 5 * i + 1 ∧ i < 6) ∨ (f = 14 ∧ k = 72 + 5 * i + 2 ∧ i < 6) ∨ (f = 11 ∧ k = 72 + 5 * i + 3 ∧ i < 6) ∨ (f = 15 ∧ k = 72 + 5 * i + 4 ∧ i < 6) ∨ (f = 16 ∧ k = 102 + 2 * i ∧ i < 6) ∨ (f = 20 ∧ i = 0 ∧ k = 6) ∨ (f = 20 ∧ i = 1 ∧ k = 7)) : InR R0 (upK K f i v) (sI R 1 k x) :=
  ⟨h.1.up hw hf k (fun b => by rw [gI_I]; simp) hx (by omega), h.2.sI k x (by omega)⟩
/-- which changes keep a court what it is -/
def okV (K : Kt) (f i : Nat) (v : Int32) : Prop :=
  (f = 1 ∧ ∃ n : Nat, n ≤ 2 ∧ v = nI n) ∨ (f = 11 ∧ (v = 1 ∨ v = 2)) ∨ (f = 12 ∧ ∃ n : Nat, n ≤ 99 ∧ v = nI n) ∨ (f = 13 ∧ ∃ n : Nat, n < 32 ∧ v = nI n) ∨ (f = 14 ∧ ∃ n : Nat, n ≤ 2 ∧ v = nI n) ∨ f = 15 ∨ (f = 16 ∧ ∃ n : Nat, n ≤ 16 ∧ v = nI n) ∨ (f = 20 ∧ i = 0 ∧ ∃ n : Nat, n ≤ 9 ∧ v = nI n) ∨ (f = 20 ∧ i = 1 ∧ ∃ n : Nat, n ≤ 30000 ∧ v = nI n)
theorem okV.pos {K : Kt} {f i : Nat} {v : Int32} (h : okV K f i v) : 0 < f ∧ ¬ (2 ≤ f ∧ f ≤ 10) ∧ ¬ (17 ≤ f ∧ f ≤ 19) := by
  rcases h with ⟨a, -⟩ | ⟨a, -⟩ | ⟨a, -⟩ | ⟨a, -⟩ | ⟨a, -⟩ | a | ⟨a, -⟩ | ⟨a, -⟩ | ⟨a, -⟩ <;> omega
theorem upK_c {K : Kt} {f i : Nat} {v : Int32} {P : Int32 → Prop} (a b : Nat) (h1 : a = f → b = i → P v) (h2 : P (K a b)) : P (upK K f i v a b) := by
  by_cases z : a = f ∧ b = i
  · obtain ⟨rfl, rfl⟩ := z
    rw [upK_s]; exact h1 rfl rfl
  · rw [upK_n z]; exact h2
theorem WFK.up {K : Kt} (hw : WFK K) {f i : Nat} {v : Int32} (h : okV K f i v) : WFK (upK K f i v) := by
  obtain ⟨h0, n1, n2⟩ := h.pos
  obtain ⟨w0, w1, w2, w3, w4, w5, w6, w7⟩ := hw
  unfold okV at h
  refine ⟨fun k hk => ?_, fun j hj => ?_, fun j hj => ?_, fun j hj => ?_, fun j hj => ?_, fun j hj => ?_, ?_, ?_⟩ <;> (try rw [upK_nK h0] at hj)
  · rw [upK_nK h0, upK_n (by omega)]; exact w0 k hk
  · refine upK_c (P := fun x => ∃ n : Nat, n ≤ 2 ∧ x = nI n) _ _ (fun a b => ?_) (w1 j hj)
    subst a; simpa using h
  · rw [upK_nK h0, upK_nK h0, upK_n (by omega), upK_n (by omega), upK_n (by omega)]; exact w2 j hj
  · obtain ⟨a1, a2, a3, a4⟩ := w3 j hj
    refine ⟨upK_c (P := fun x => x = 1 ∨ x = 2) _ _ (fun a b => ?_) a1, upK_c (P := fun x => ∃ n : Nat, n ≤ 99 ∧ x = nI n) _ _ (fun a b => ?_) a2, upK_c (P := fun x => ∃ n : Nat, n < 32 ∧ x = nI n) _ _ (fun a b => ?_) a3, upK_c (P := fun x => ∃ n : Nat, n ≤ 2 ∧ x = nI n) _ _ (fun a b => ?_) a4⟩ <;> (subst a; simpa using h)
  · obtain ⟨a1, a2⟩ := w4 j hj
    refine ⟨upK_c (P := fun x => ∃ n : Nat, n ≤ 16 ∧ x = nI n) _ _ (fun a b => ?_) a1, ?_⟩
    · subst a; simpa using h
    · rw [upK_n (by omega)]; exact a2
  · rw [upK_nK h0, upK_n (by omega), upK_n (by omega)]; exact w5 j hj
  · refine upK_c (P := fun x => ∃ n : Nat, n ≤ 9 ∧ x = nI n) _ _ (fun a b => ?_) w6
    subst a; subst b; simpa using h
  · refine upK_c (P := fun x => ∃ n : Nat, n ≤ 30000 ∧ x = nI n) _ _ (fun a b => ?_) w7
    subst a; subst b; simpa using h
/-- one SITTING -/
def sitK (K : Kt) (p : Nat) : Kt := upK (upK (upK K 20 0 (mnI 9 (K 20 0 + 1))) 20 1 (K 20 1 + 1)) 15 p (K 15 p + 1)
theorem warm_up {K : Kt} (hw : WFK K) : ∃ n : Nat, n ≤ 9 ∧ mnI 9 (K 20 0 + 1) = nI n := by
  obtain ⟨n, h1, h2⟩ := hw.2.2.2.2.2.2.1
  rw [h2]
  exact (by decide +kernel : ∀ n, n ≤ 9 → ∃ m : Nat, m ≤ 9 ∧ mnI 9 (nI n + 1) = nI m) n h1
theorem sitK_wf {K : Kt} (hw : WFK K) {p n : Nat} (hs : K 20 1 = nI n) (hn : n < 30000) : WFK (sitK K p) ∧ WFK (upK K 20 0 (mnI 9 (K 20 0 + 1))) ∧ WFK (upK (upK K 20 0 (mnI 9 (K 20 0 + 1))) 20 1 (K 20 1 + 1)) := by
  obtain ⟨w, h1, h2⟩ := warm_up hw
  have a1 : WFK (upK K 20 0 (mnI 9 (K 20 0 + 1))) := hw.up (Or.inr (Or.inr (Or.inr (Or.inr (Or.inr (Or.inr (Or.inr (Or.inl ⟨rfl, rfl, w, h1, h2⟩))))))))
  have a2 : WFK (upK (upK K 20 0 (mnI 9 (K 20 0 + 1))) 20 1 (K 20 1 + 1)) := a1.up (Or.inr (Or.inr (Or.inr (Or.inr (Or.inr (Or.inr (Or.inr (Or.inr ⟨rfl, rfl, n + 1, by omega, by rw [hs, nI_1]⟩))))))))
  exact ⟨a2.up (Or.inr (Or.inr (Or.inr (Or.inr (Or.inr (Or.inl rfl)))))), a1, a2⟩
theorem sitK_nK (K : Kt) (p k : Nat) : nK (sitK K p) k = nK K k := by
  unfold sitK; rw [upK_nK (by decide), upK_nK (by decide), upK_nK (by decide)]
theorem sitK_sat {K : Kt} {p n : Nat} (hs : K 20 1 = nI n) : sitK K p 20 1 = nI (n + 1) := by
  unfold sitK; rw [upK_n (by omega), upK_s, hs, nI_1]
theorem p_sitBefore {C0 C : Mem} {c : Nat} {K : Kt} (hc : shC c = 0) (h : InC C0 c K C) (hw : WFK K) {n : Nat} (hs : K 20 1 = nI n) (hn : n < 30000) {p : Nat} (hp : p < nK K 3) :
    ∃ C', f_X0_sitBefore c (nI p) C = some (pcueN K p (K 20 0), C') ∧ InC C0 c (sitK K p) C' := by
  have hn3 := hw.n3
  obtain ⟨a0, a1, a2⟩ := sitK_wf hw (p := p) hs hn
  have hC := h.1
  have s1 := h.up hw (f := 20) (i := 0) (v := mnI 9 (K 20 0 + 1)) (by decide) c 12 (by omega)
  have s2 := s1.up a1 (f := 20) (i := 1) (v := K 20 1 + 1) (by decide) c 13 (by omega)
  have s3 := s2.up a2 (f := 15) (i := p) (v := K 15 p + 1) (by decide) (c + 13 + 1 + p) 4 (by omega)
  refine ⟨_, ?_, s3⟩
  rw [f_X0_sitBefore, hC.2.2.2.2.2.2.1, p_cueBefore hc hC hw hp, bnd_some, letF, letF, letF, hC.2.2.2.2.2.2.1, p_personAt (by omega), bnd_some, if_neg (nn (shC_per hc (by omega))), letF]
  have e1 : gI (sI C c 12 (mnI 9 (K 20 0 + 1))) c 13 = K 20 1 := by rw [gI_I, if_neg (by omega)]; exact hC.2.2.2.2.2.2.2
  rw [e1]
  have e2 : gI (sI (sI C c 12 (mnI 9 (K 20 0 + 1))) c 13 (K 20 1 + 1)) (c + 13 + 1 + p) 4 = K 15 p := by
    rw [gI_I, if_neg (by omega), gI_I, if_neg (by omega)]
    exact hC.2.2.2.1 p hp 4 (by decide)
  rw [e2]
theorem r_sits {R0 R : Mem} {K : Kt} (h : InR R0 K R) (hw : WFK K) {n : Nat} (hs : K 20 1 = nI n) (hn : n < 30000) {p : Nat} (hp : p < nK K 3) :
    ∃ R', f_X12_sits (nI p) R = some (pcueK K p (K 20 0), R') ∧ InR R0 (sitK K p) R' := by
  have hn3 := hw.n3
  obtain ⟨a0, a1, a2⟩ := sitK_wf hw (p := p) hs hn
  have hR := h.1
  obtain ⟨w, hw9, hwm⟩ := hw.2.2.2.2.2.2.1
  have s1 := h.up hw (f := 20) (i := 0) (v := mnI 9 (K 20 0 + 1)) (x := mnI 9 (K 20 0 + 1)) (by decide) 6 rfl (by omega)
  have s2 := s1.up a1 (f := 20) (i := 1) (v := K 20 1 + 1) (x := K 20 1 + 1) (by decide) 7 rfl (by omega)
  have s3 := s2.up a2 (f := 15) (i := p) (v := K 15 p + 1) (x := K 15 p + 1) (by decide) (72 + 5 * p + 4) rfl (by omega)
  refine ⟨_, ?_, s3⟩
  obtain ⟨q1, q2⟩ := r_rd (e := 72 + 5 * nI p + 4) (j := 72 + 5 * p + 4) (by rw [litI, litI, litI, pk_mul, nI_add, nI_add]) (by omega)
  rw [f_X12_sits, hR.warm, r_pcueFor hR hw hp hwm hw9, bnd_some, letF, letF, letF, hR.warm, f_X12_personRow, bnd_some, letF, if_neg q1, if_neg q1, letF, q2]
  have e1 : gI (sI R 1 6 (mnI 9 (K 20 0 + 1))) 1 7 = K 20 1 := by rw [gI_I, if_neg (by omega)]; exact hR.sat
  rw [e1]
  have e2 : gI (sI (sI R 1 6 (mnI 9 (K 20 0 + 1))) 1 7 (K 20 1 + 1)) 1 (72 + 5 * p + 4) = K 15 p := by
    rw [gI_I, if_neg (by omega), gI_I, if_neg (by omega)]
    exact (hR.per hp).2.2.2.2
  rw [e2]
/-- a TERM: who is freed, and the court behind it -/
def fateK (s : Int32) : Int32 := if s = 2 then 1 else if s = 1 then 2 else 0
def tstK (p : Nat) (x : Int32 × Kt) : Int32 × Kt :=
  if x.2 14 p = 0 then ((if psenseK x.2 p (x.2 20 0) = 2 then x.1 ||| ((1 : Int32) <<< (nI p &&& 31)) else x.1), upK (sitK x.2 p) 14 p (fateK (psenseK x.2 p (x.2 20 0)))) else x
def termK (K : Kt) : Int32 × Kt := foldN tstK (nK K 3) 0 (0, K)
theorem fateK_in (s : Int32) : ∃ n : Nat, n ≤ 2 ∧ fateK s = nI n := by
  unfold fateK
  split
  · exact ⟨1, by decide, rfl⟩
  · split
    · exact ⟨2, by decide, rfl⟩
    · exact ⟨0, by decide, rfl⟩
theorem okFate {K : Kt} {p : Nat} {s : Int32} : okV K 14 p (fateK s) := Or.inr (Or.inr (Or.inr (Or.inr (Or.inl ⟨rfl, fateK_in s⟩))))
theorem p_term_L {C0 : Mem} {c : Nat} (hc : shC c = 0) (N : Nat) : ∀ d i fu (a : Int32) (K : Kt) (C : Mem) (n : Nat), i + d = N → d < fu → nK K 3 = N → InC C0 c K C → WFK K → K 20 1 = nI n → n + d ≤ 30000 →
    ∃ C', f_X0_holdTerm_L4 c fu a (nI i) C = some ((foldN tstK d i (a, K)).1, C') ∧ InC C0 c (foldN tstK d i (a, K)).2 C' := by
  intro d
  induction d with
  | zero =>
    intro i fu a K C n h1 h2 h3 h hw hs hn
    obtain ⟨fu, rfl⟩ : ∃ k, fu = k + 1 := ⟨fu - 1, by omega⟩
    have hn3 := hw.n3
    refine ⟨C, ?_, h⟩
    rw [f_X0_holdTerm_L4, p_count3, bnd_some, h.1.1 3 (by decide), hn3.1, if_pos (nI_le (by omega) (by omega))]
    rfl
  | succ d ih =>
    intro i fu a K C n h1 h2 h3 h hw hs hn
    obtain ⟨fu, rfl⟩ : ∃ k, fu = k + 1 := ⟨fu - 1, by omega⟩
    have hn3 := hw.n3
    have hi : i < nK K 3 := by omega
    have e := h.1.2.2.2.1 i hi 3 (by decide)
    rw [f_X0_holdTerm_L4, p_count3, bnd_some, h.1.1 3 (by decide), hn3.1, if_neg (nI_ge hi (by omega)), p_personAt (by omega), bnd_some, if_neg (nn (shC_per hc (by omega))), e, foldN]
    by_cases h14 : K 14 i = 0
    · obtain ⟨C1, e1, e2⟩ := p_sitBefore hc h hw hs (by omega) hi
      have hw1 := (sitK_wf hw (p := i) hs (by omega)).1
      have hn1 := hw.n1
      have es : f_X0_senseOf c (pcueN K i (K 20 0)) C1 = some (psenseK K i (K 20 0), C1) := by
        rw [pcueN, cueN_K hw, psenseK, meanK, pcueK]
        rcases cueK_in hw (K 11 i) (K 12 i) (K 20 0) (K 13 i) with e | ⟨j, h1, e⟩
        · have := p_senseOfN e2.1 hw1
          rw [e, if_pos rfl, if_pos rfl]
          rw [show sitK K i 0 1 = K 0 1 from by unfold sitK; rw [upK_n (by omega), upK_n (by omega), upK_n (by omega)]] at this
          exact this
        · rw [e, if_neg (nI_ne_m1 (by omega)), if_neg (nI_ne_m1 (by omega)), p_senseOf hc e2.1 hw1 (by rw [sitK_nK]; exact h1), nI_clamp (by omega)]
          rw [show sitK K i 1 j = K 1 j from by unfold sitK; rw [upK_n (by omega), upK_n (by omega), upK_n (by omega)]]
      rw [if_pos (show K (11 + 3) i = 0 from h14), e1, bnd_some, es, bnd_some]
      have e3 := e2.up hw1 (f := 14) (i := i) (v := fateK (psenseK K i (K 20 0))) (by decide) (c + 13 + 1 + i) 3 (by omega)
      have hw2 := hw1.up (okFate (p := i) (s := psenseK K i (K 20 0)))
      have hs2 : upK (sitK K i) 14 i (fateK (psenseK K i (K 20 0))) 20 1 = nI (n + 1) := by rw [upK_n (by omega)]; exact sitK_sat hs
      have hnk : nK (upK (sitK K i) 14 i (fateK (psenseK K i (K 20 0)))) 3 = N := by rw [upK_nK (by decide), sitK_nK]; exact h3
      have key := fun a' => ih (i + 1) fu a' _ _ (n + 1) (by omega) (by omega) hnk e3 hw2 hs2 (by omega)
      rw [show tstK i (a, K) = ((if psenseK K i (K 20 0) = 2 then a ||| ((1 : Int32) <<< (nI i &&& 31)) else a), upK (sitK K i) 14 i (fateK (psenseK K i (K 20 0)))) from by rw [tstK, if_pos h14]]
      by_cases g2 : psenseK K i (K 20 0) = 2
      · obtain ⟨C', f1, f2⟩ := key (a ||| ((1 : Int32) <<< (nI i &&& 31)))
        rw [if_pos g2, f_X0_holdTerm_J59, letF, if_pos g2, letF, letF, nI_1, if_pos g2]
        refine ⟨C', ?_, f2⟩
        rw [← f1, show fateK (psenseK K i (K 20 0)) = 1 from by rw [g2]; rfl]
      · obtain ⟨C', f1, f2⟩ := key a
        rw [if_neg g2, if_neg g2]
        refine ⟨C', ?_, f2⟩
        rw [← f1]
        by_cases g1 : psenseK K i (K 20 0) = 1
        · rw [if_pos g1, f_X0_holdTerm_J59, letF, if_neg g2, letF, letF, nI_1, or0, show fateK (psenseK K i (K 20 0)) = 2 from by rw [g1]; rfl]
        · rw [if_neg g1, f_X0_holdTerm_J59, letF, if_neg g2, letF, letF, nI_1, or0, show fateK (psenseK K i (K 20 0)) = 0 from by rw [fateK, if_neg g2, if_neg g1]]
    · rw [if_neg (show ¬ K (11 + 3) i = 0 from h14), letF, nI_1, show tstK i (a, K) = (a, K) from by rw [tstK, if_neg h14]]
      exact ih (i + 1) fu a K C n (by omega) (by omega) h3 h hw hs (by omega)
theorem p_holdTerm {C0 C : Mem} {c : Nat} {K : Kt} (hc : shC c = 0) (h : InC C0 c K C) (hw : WFK K) {n : Nat} (hs : K 20 1 = nI n) (hn : n + 6 ≤ 30000) : ∃ C', f_X0_holdTerm c C = some ((termK K).1, C') ∧ InC C0 c (termK K).2 C' := by
  have hn3 := hw.n3
  obtain ⟨C', e1, e2⟩ := p_term_L (C0 := C0) hc (nK K 3) (nK K 3) 0 fz 0 K C n (by omega) (by rw [fz_is]; omega) rfl h hw hs (by omega)
  refine ⟨C', ?_, e2⟩
  rw [f_X0_holdTerm]
  erw [e1]
  rw [bnd_some]
  rfl
theorem r_term_L {R0 : Mem} (N : Nat) (b1 : Int32) : ∀ d i fu (a : Int32) (K : Kt) (R : Mem) (n : Nat), i + d = N → d < fu → nK K 3 = N → InR R0 K R → WFK K → K 20 1 = nI n → n + d ≤ 30000 → (∀ j, i ≤ j → j < N → inS b1 (nI j) = decide (K 14 j = 0)) →
    ∃ R', f_X12_terms_L10 b1 fu a (nI i) R = some ((foldN tstK d i (a, K)).1, R') ∧ InR R0 (foldN tstK d i (a, K)).2 R' := by
  intro d
  induction d with
  | zero =>
    intro i fu a K R n h1 h2 h3 h hw hs hn hb
    obtain ⟨fu, rfl⟩ : ∃ k, fu = k + 1 := ⟨fu - 1, by omega⟩
    have hn3 := hw.n3
    refine ⟨R, ?_, h⟩
    rw [f_X12_terms_L10, h.1.cnt (by decide), hn3.1, if_pos (nI_le (by omega) (by omega))]
    rfl
  | succ d ih =>
    intro i fu a K R n h1 h2 h3 h hw hs hn hb
    obtain ⟨fu, rfl⟩ : ∃ k, fu = k + 1 := ⟨fu - 1, by omega⟩
    have hn3 := hw.n3
    have hi : i < nK K 3 := by omega
    rw [f_X12_terms_L10, h.1.cnt (by decide), hn3.1, if_neg (nI_ge hi (by omega)), r_isIn, bnd_some, hb i (Nat.le_refl _) (by omega), foldN]
    by_cases h14 : K 14 i = 0
    · obtain ⟨R1, e1, e2⟩ := r_sits h hw hs (by omega) hi
      have hw1 := (sitK_wf hw (p := i) hs (by omega)).1
      have hn1 := hw.n1
      rw [decide_eq_true h14, bI_t, if_neg i10, e1, bnd_some]
      have e3 := e2.up hw1 (f := 14) (i := i) (v := fateK (psenseK K i (K 20 0))) (x := fateK (psenseK K i (K 20 0))) (by decide) (72 + 5 * i + 2) rfl (by omega)
      have hw2 := hw1.up (okFate (p := i) (s := psenseK K i (K 20 0)))
      have hs2 : upK (sitK K i) 14 i (fateK (psenseK K i (K 20 0))) 20 1 = nI (n + 1) := by rw [upK_n (by omega)]; exact sitK_sat hs
      have hnk : nK (upK (sitK K i) 14 i (fateK (psenseK K i (K 20 0)))) 3 = N := by rw [upK_nK (by decide), sitK_nK]; exact h3
      have hb2 : ∀ j, i + 1 ≤ j → j < N → inS b1 (nI j) = decide (upK (sitK K i) 14 i (fateK (psenseK K i (K 20 0))) 14 j = 0) := fun j z1 z2 => by
        rw [hb j (by omega) z2, upK_n (by omega)]
        unfold sitK
        rw [upK_n (by omega), upK_n (by omega), upK_n (by omega)]
      have key := fun a' => ih (i + 1) fu a' _ _ (n + 1) (by omega) (by omega) hnk e3 hw2 hs2 (by omega) hb2
      rw [show tstK i (a, K) = ((if psenseK K i (K 20 0) = 2 then a ||| ((1 : Int32) <<< (nI i &&& 31)) else a), upK (sitK K i) 14 i (fateK (psenseK K i (K 20 0)))) from by rw [tstK, if_pos h14]]
      -- the sense that the reference reads
      have main : ∀ s, s = psenseK K i (K 20 0) → ∃ R', f_X12_terms_J59 (f_X12_terms_L10 b1 fu) b1 a (nI i) s R1 = some ((foldN tstK d (i + 1) ((if psenseK K i (K 20 0) = 2 then a ||| ((1 : Int32) <<< (nI i &&& 31)) else a), upK (sitK K i) 14 i (fateK (psenseK K i (K 20 0))))).1, R') ∧ InR R0 (foldN tstK d (i + 1) ((if psenseK K i (K 20 0) = 2 then a ||| ((1 : Int32) <<< (nI i &&& 31)) else a), upK (sitK K i) 14 i (fateK (psenseK K i (K 20 0))))).2 R' := by
        intro s hse
        obtain ⟨q1, q2⟩ := r_rd (e := 72 + 5 * nI i + 2) (j := 72 + 5 * i + 2) (by rw [litI, litI, litI, pk_mul, nI_add, nI_add]) (by omega)
        rw [f_X12_terms_J59, f_X12_personRow, bnd_some, f_X12_terms_J84, f_X12_terms_J84, if_neg q1, if_neg q1, letF, letF, q2]
        obtain ⟨ns, hs1, hs2⟩ := psenseK_in hw i (K 20 0)
        rw [← hse] at hs2
        rcases (show ns = 0 ∨ ns = 1 ∨ ns = 2 by omega) with rfl | rfl | rfl
        · obtain ⟨R', f1, f2⟩ := key a
          rw [hs2] at hse
          rw [hs2, if_pos (show nI 0 = (0 : Int32) from rfl), if_neg (show ¬ nI 0 = (2 : Int32) by decide), letF, letF, or0, nI_1, ← hse, if_neg (show ¬ nI 0 = (2 : Int32) by decide)]
          rw [← hse] at f1 f2
          exact ⟨R', f1, f2⟩
        · obtain ⟨R', f1, f2⟩ := key a
          rw [hs2] at hse
          rw [hs2, if_neg (show ¬ nI 1 = (0 : Int32) by decide), letF, if_neg (show ¬ nI 1 = (2 : Int32) by decide), letF, letF, or0, nI_1, ← hse, if_neg (show ¬ nI 1 = (2 : Int32) by decide)]
          rw [← hse] at f1 f2
          exact ⟨R', f1, f2⟩
        · obtain ⟨R', f1, f2⟩ := key (a ||| ((1 : Int32) <<< (nI i &&& 31)))
          rw [hs2] at hse
          rw [hs2, if_neg (show ¬ nI 2 = (0 : Int32) by decide), letF, if_pos (show nI 2 = (2 : Int32) from rfl), letF, letF, nI_1, ← hse, if_pos (show nI 2 = (2 : Int32) from rfl)]
          rw [← hse] at f1 f2
          exact ⟨R', f1, f2⟩
      rcases cueK_in hw (K 11 i) (K 12 i) (K 20 0) (K 13 i) with e | ⟨j, h1, e⟩
      · rw [if_pos (show pcueK K i (K 20 0) = -1 from e)]
        exact main 0 (by rw [psenseK, meanK, pcueK, e, if_pos rfl])
      · obtain ⟨q1, q2⟩ := r_rd (e := 10 + nI j) (j := 10 + j) (by rw [litI, nI_add]) (by omega)
        rw [show pcueK K i (K 20 0) = nI j from e, if_neg (nI_ne_m1 (by omega)), if_neg q1, q2, e2.1.sense (by rw [sitK_nK]; exact h1)]
        refine main _ ?_
        rw [psenseK, meanK, pcueK, e, if_neg (nI_ne_m1 (by omega)), nI_clamp (by omega)]
        unfold sitK
        rw [upK_n (by omega), upK_n (by omega), upK_n (by omega)]
    · rw [decide_eq_false h14, bI_f, if_pos i00, letF, nI_1, show tstK i (a, K) = (a, K) from by rw [tstK, if_neg h14]]
      exact ih (i + 1) fu a K R n (by omega) (by omega) h3 h hw hs (by omega) (fun j z1 z2 => hb j (by omega) z2)
theorem r_terms {R0 R : Mem} {K : Kt} (h : InR R0 K R) (hw : WFK K) {n : Nat} (hs : K 20 1 = nI n) (hn : n + 6 ≤ 30000) : ∃ R', f_X12_terms R = some ((termK K).1, R') ∧ InR R0 (termK K).2 R' := by
  have hn3 := hw.n3
  obtain ⟨R', e1, e2⟩ := r_term_L (R0 := R0) (nK K 3) (setB (fun i => decide (K 14 i = 0)) (nK K 3)) (nK K 3) 0 fz 0 K R n (by omega) (by rw [fz_is]; omega) rfl h hw hs (by omega) (fun j _ z => inS_setB _ (by omega) z)
  refine ⟨R', ?_, e2⟩
  rw [f_X12_terms, r_peopleThat h.1 hw (by decide), bnd_some]
  erw [e1]
  rw [bnd_some]
  rfl
/-- what a TERM keeps, and how many SITTINGS it adds -/
theorem term_fold : ∀ d i (x : Int32 × Kt) (n : Nat), WFK x.2 → x.2 20 1 = nI n → n + d ≤ 30000 → WFK (foldN tstK d i x).2 ∧ (∀ k, nK (foldN tstK d i x).2 k = nK x.2 k) ∧ (foldN tstK d i x).2 20 1 = nI (foldN (fun j a => a + if decide (x.2 14 j = 0) = true then 1 else 0) d i n) := by
  intro d
  induction d with
  | zero => intro i x n hw hs hn; exact ⟨hw, fun _ => rfl, hs⟩
  | succ d ih =>
    intro i x n hw hs hn
    rw [foldN, foldN]
    by_cases h14 : x.2 14 i = 0
    · have e : tstK i x = ((if psenseK x.2 i (x.2 20 0) = 2 then x.1 ||| ((1 : Int32) <<< (nI i &&& 31)) else x.1), upK (sitK x.2 i) 14 i (fateK (psenseK x.2 i (x.2 20 0)))) := by rw [tstK, if_pos h14]
      obtain ⟨a, b, c⟩ := ih (i + 1) (tstK i x) (n + 1) (by rw [e]; exact (sitK_wf hw (p := i) hs (by omega)).1.up okFate) (by rw [e]; show upK (sitK x.2 i) 14 i (fateK (psenseK x.2 i (x.2 20 0))) 20 1 = _; rw [upK_n (by omega)]; exact sitK_sat hs) (by omega)
      refine ⟨a, fun k => by rw [b k, e]; show nK (upK (sitK x.2 i) 14 i (fateK (psenseK x.2 i (x.2 20 0)))) k = _; rw [upK_nK (by decide), sitK_nK], ?_⟩
      rw [c, decide_eq_true h14, if_pos rfl]
      congr 1
      refine foldN_congr d (i + 1) (n + 1) (fun j a z1 z2 => ?_)
      rw [e]
      show a + (if decide (upK (sitK x.2 i) 14 i (fateK (psenseK x.2 i (x.2 20 0))) 14 j = 0) = true then 1 else 0) = _
      rw [upK_n (by omega)]
      unfold sitK
      rw [upK_n (by omega), upK_n (by omega), upK_n (by omega)]
    · have e : tstK i x = x := by rw [tstK, if_neg h14]
      obtain ⟨a, b, c⟩ := ih (i + 1) x n hw hs (by omega)
      rw [e, decide_eq_false h14, if_neg (by decide)]
      exact ⟨a, b, c⟩
theorem termK_wf {K : Kt} (hw : WFK K) {n : Nat} (hs : K 20 1 = nI n) (hn : n + 6 ≤ 30000) : WFK (termK K).2 ∧ (∀ k, nK (termK K).2 k = nK K k) ∧ (termK K).2 20 1 = nI (n + cntP (fun i => decide (K 14 i = 0)) (nK K 3)) := by
  have hn3 := hw.n3
  obtain ⟨a, b, c⟩ := term_fold (nK K 3) 0 (0, K) n hw hs (by omega)
  refine ⟨a, b, c.trans ?_⟩
  have : ∀ (d i a b : Nat), foldN (fun j a => a + if decide (K 14 j = 0) = true then 1 else 0) d i (a + b) = a + foldN (fun j a => a + if decide (K 14 j = 0) = true then 1 else 0) d i b := by
    intro d
    induction d with
    | zero => intro i a b; rfl
    | succ d ih => intro i a b; rw [foldN, foldN, ← ih, Nat.add_assoc]
  have e := this (nK K 3) 0 n 0
  rw [Nat.add_zero] at e
  rw [e]
  rfl
