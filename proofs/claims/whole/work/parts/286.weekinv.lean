/-! WEEKS as they are read: rows that stand, rows still open -/
def OpnR (K : Kt) (cl at_ : Nat → Int32) (k s : Nat) : Prop :=
  (at_ (6 * k) = 23 ∧ cl (5 * s) = 23 ∧ ∃ n : Nat, 1 ≤ n ∧ n ≤ 99 ∧ at_ (6 * k + 1) = nI n ∧ cl (5 * s + 2) = nI n) ∨
  (cl (5 * s) = 22 ∧
    ((at_ (6 * k) = 2226 ∧ cl (5 * s + 1) = 25 ∧ ∃ q, q < nK K 3 ∧ at_ (6 * k + 1) = nI q ∧ cl (5 * s + 2) = nI q ∧ ∃ n, n < nK K 1 ∧ at_ (6 * k + 2) = nI n ∧ cl (5 * s + 3) = nI n) ∨
     (at_ (6 * k) = 2227 ∧ cl (5 * s + 1) = 26 ∧ ∃ q, q < nK K 3 ∧ at_ (6 * k + 1) = nI q ∧ cl (5 * s + 2) = nI q) ∨
     (at_ (6 * k) = 2228 ∧ cl (5 * s + 1) = 27 ∧ ∃ q, q < nK K 3 ∧ at_ (6 * k + 1) = nI q ∧ cl (5 * s + 2) = nI q) ∨
     (at_ (6 * k) = 2211 ∧ cl (5 * s + 1) = 11 ∧ ¬ at_ (6 * k + 5) = 0 ∧ ∃ x, cmpR 9 (at_ (6 * k + 5)) (at_ (6 * k + 2)) x (cl (5 * s + 2)) (cl (5 * s + 3)))))
def SmpR (K : Kt) (cl at_ : Nat → Int32) (k s : Nat) : Prop :=
  (∃ kd : Nat, 15 ≤ kd ∧ kd ≤ 21 ∧ at_ (6 * k) = nI kd ∧ cl (5 * s) = nI kd ∧
    ((kd = 15 ∧ ∃ p, p < nK K 3 ∧ at_ (6 * k + 1) = nI p ∧ cl (5 * s + 2) = nI p) ∨ kd = 16 ∨
     (kd = 17 ∧ ∃ p, p < nK K 3 ∧ at_ (6 * k + 1) = nI p ∧ cl (5 * s + 2) = nI p ∧ ∃ n, 1 ≤ n ∧ n ≤ 9 ∧ at_ (6 * k + 2) = nI n ∧ cl (5 * s + 3) = nI n) ∨
     ((kd = 18 ∨ kd = 19) ∧ ∃ p, p < nK K 3 ∧ at_ (6 * k + 1) = nI p ∧ cl (5 * s + 2) = nI p ∧ ∃ n, n < nK K 0 ∧ at_ (6 * k + 2) = nI n ∧ cl (5 * s + 3) = nI n) ∨ kd = 20 ∨ kd = 21)) ∨
  (at_ (6 * k) = 25 ∧ cl (5 * s) = 24)
def NstW (at_ : Nat → Int32) (m k p : Nat) : Prop := ∀ j o, k < j → j < p → at_ (6 * j) = 24 → at_ (6 * j + 4) = nI o → o < m → k < o
theorem OpnR.ne {K : Kt} {cl at_ : Nat → Int32} {k s : Nat} (h : OpnR K cl at_ k s) : ¬ at_ (6 * k) = 24 ∧ (at_ (6 * k) = 23 ∨ ∃ t : Nat, 2200 ≤ t ∧ t < 2300 ∧ at_ (6 * k) = nI t) ∧ (at_ (6 * k) = 23 ∨ 2200 ≤ (at_ (6 * k)).toInt) := by
  rcases h with ⟨h, -⟩ | ⟨-, ⟨h, -⟩ | ⟨h, -⟩ | ⟨h, -⟩ | ⟨h, -⟩⟩
  · exact ⟨by rw [h]; decide, Or.inl h, Or.inl h⟩
  · exact ⟨by rw [h]; decide, Or.inr ⟨2226, by omega, by omega, h⟩, Or.inr (by rw [h]; decide)⟩
  · exact ⟨by rw [h]; decide, Or.inr ⟨2227, by omega, by omega, h⟩, Or.inr (by rw [h]; decide)⟩
  · exact ⟨by rw [h]; decide, Or.inr ⟨2228, by omega, by omega, h⟩, Or.inr (by rw [h]; decide)⟩
  · exact ⟨by rw [h]; decide, Or.inr ⟨2211, by omega, by omega, h⟩, Or.inr (by rw [h]; decide)⟩
theorem SmpR.ne {K : Kt} {cl at_ : Nat → Int32} {k s : Nat} (h : SmpR K cl at_ k s) : ¬ at_ (6 * k) = 24 ∧ ¬ (at_ (6 * k) = 23 ∨ 2200 ≤ (at_ (6 * k)).toInt) := by
  rcases h with ⟨kd, h1, h2, h, -⟩ | ⟨h, -⟩
  · rw [h, nI_toInt (by omega)]
    exact ⟨fun q => by have := nI_inj (b := 24) (by omega) (by omega) q; omega, fun q => by
      rcases q with q | q
      · have := nI_inj (b := 23) (by omega) (by omega) q; omega
      · omega⟩
  · rw [h]; decide
theorem OpnR.cg {K : Kt} {cl at_ cl' at' : Nat → Int32} {k s : Nat} (h : OpnR K cl at_ k s) (e : ∀ i, i < 6 → i ≠ 4 → at' (6 * k + i) = at_ (6 * k + i)) (e2 : ∀ i, i < 4 → cl' (5 * s + i) = cl (5 * s + i)) : OpnR K cl' at' k s := by
  have a0 : at' (6 * k) = at_ (6 * k) := e 0 (by omega) (by omega)
  have c0 : cl' (5 * s) = cl (5 * s) := e2 0 (by omega)
  unfold OpnR
  rw [a0, e 1 (by omega) (by omega), e 2 (by omega) (by omega), e 5 (by omega) (by omega), c0, e2 1 (by omega), e2 2 (by omega), e2 3 (by omega)]
  exact h
theorem SmpR.cg {K : Kt} {cl at_ cl' at' : Nat → Int32} {k s : Nat} (h : SmpR K cl at_ k s) (e : ∀ i, i < 6 → i ≠ 4 → at' (6 * k + i) = at_ (6 * k + i)) (e2 : ∀ i, i < 4 → cl' (5 * s + i) = cl (5 * s + i)) : SmpR K cl' at' k s := by
  have a0 : at' (6 * k) = at_ (6 * k) := e 0 (by omega) (by omega)
  have c0 : cl' (5 * s) = cl (5 * s) := e2 0 (by omega)
  unfold SmpR
  rw [a0, e 1 (by omega) (by omega), e 2 (by omega) (by omega), c0, e2 2 (by omega), e2 3 (by omega)]
  exact h
theorem rowW_is {K : Kt} {cl at_ : Nat → Int32} {m k : Nat} : rowW K cl at_ m k ↔ ((at_ (6 * k) = 24 ∧ ∃ o, o < k ∧ at_ (6 * k + 4) = nI o ∧ at_ (6 * o + 4) = nI k ∧ (at_ (6 * o) = 23 ∨ ∃ t : Nat, 2200 ≤ t ∧ t < 2300 ∧ at_ (6 * o) = nI t)) ∨
    (cntW at_ k < 30 ∧ (SmpR K cl at_ k (cntW at_ k) ∨ ∃ p, k < p ∧ p < m ∧ at_ (6 * k + 4) = nI p ∧ at_ (6 * p) = 24 ∧ at_ (6 * p + 4) = nI k ∧ cl (5 * cntW at_ k + 4) = nI (cntW at_ p) ∧ NstW at_ m k p ∧ OpnR K cl at_ k (cntW at_ k)))) := by
  unfold rowW
  constructor
  · rintro (h | ⟨s, rfl, h2, h | h | h⟩)
    · exact Or.inl h
    · exact Or.inr ⟨h2, Or.inl (Or.inl h)⟩
    · exact Or.inr ⟨h2, Or.inl (Or.inr h)⟩
    · exact Or.inr ⟨h2, Or.inr h⟩
  · rintro (h | ⟨h2, (h | h) | h⟩)
    · exact Or.inl h
    · exact Or.inr ⟨_, rfl, h2, Or.inl h⟩
    · exact Or.inr ⟨_, rfl, h2, Or.inr (Or.inl h)⟩
    · exact Or.inr ⟨_, rfl, h2, Or.inr (Or.inr h)⟩
theorem cntW_s (at_ : Nat → Int32) (k : Nat) : cntW at_ (k + 1) = cntW at_ k + if at_ (6 * k) = 24 then 0 else 1 := rfl
theorem cntW_cg {at_ at' : Nat → Int32} {m : Nat} (e : ∀ j, j < m → at' (6 * j) = at_ (6 * j)) : ∀ k, k ≤ m → cntW at' k = cntW at_ k := by
  intro k
  induction k with
  | zero => intro _; rfl
  | succ k ih => intro hk; rw [cntW, cntW, ih (by omega), e k (by omega)]
theorem depW_cg {at_ at' : Nat → Int32} {m : Nat} (e : ∀ j, j < m → at' (6 * j) = at_ (6 * j)) : ∀ k, k ≤ m → depW at' k = depW at_ k := by
  intro k
  induction k with
  | zero => intro _; rfl
  | succ k ih => intro hk; rw [depW, depW, ih (by omega), e k (by omega)]
theorem cntW_mo {at_ : Nat → Int32} : ∀ d k, cntW at_ k ≤ cntW at_ (k + d) := by
  intro d
  induction d with
  | zero => intro k; exact Nat.le_refl _
  | succ d ih =>
    intro k
    have := ih k
    rw [← Nat.add_assoc, cntW]
    omega
theorem cntW_lt {at_ : Nat → Int32} {k j : Nat} (h : k < j) (n : ¬ at_ (6 * k) = 24) : cntW at_ k < cntW at_ j := by
  have a := cntW_mo (at_ := at_) (j - (k + 1)) (k + 1)
  rw [show k + 1 + (j - (k + 1)) = j by omega, cntW_s, if_neg n] at a
  omega
/-- a row that stands goes on standing -/
theorem rowW_ext {K : Kt} {cl at_ cl' at' : Nat → Int32} {m k o : Nat} (hk : k < m) (hko : k ≠ o) (h : rowW K cl at_ m k) (ho : o < m → at_ (6 * o + 4) = 0 ∧ ¬ at_ (6 * o) = 24) (hm : m < 2 ^ 31)
    (e1 : ∀ j, j < 6 * m → j ≠ 6 * o + 4 → at' j = at_ j) (e2 : ∀ j, j < 5 * cntW at_ m → j ≠ 5 * cntW at_ o + 4 → cl' j = cl j) : rowW K cl' at' (m + 1) k := by
  have ec := cntW_cg (m := m) (at_ := at_) (at' := at') (fun j hj => e1 _ (by omega) (by omega))
  rw [rowW_is] at h ⊢
  rw [ec k (by omega), e1 (6 * k) (by omega) (by omega), e1 (6 * k + 4) (by omega) (by omega)]
  rcases h with ⟨h1, o1, h2, h3, h4, h5⟩ | ⟨h1, h⟩
  · refine Or.inl ⟨h1, o1, h2, h3, ?_, ?_⟩
    · have : o1 ≠ o := by
        intro z
        subst z
        have := (ho (by omega)).1
        rw [h4] at this
        have := nI_inj (b := 0) (by omega) (by omega) this
        omega
      rw [e1 _ (by omega) (by omega)]; exact h4
    · rw [e1 _ (by omega) (by omega)]; exact h5
  · refine Or.inr ⟨h1, ?_⟩
    rcases h with h | ⟨p, p1, p2, p3, p4, p5, p6, p7, p8⟩
    · have lt := cntW_lt hk h.ne.1
      exact Or.inl (h.cg (fun i i1 i2 => e1 _ (by omega) (by omega)) (fun i i1 => e2 _ (by omega) (by omega)))
    · have n24 := p8.ne.1
      have lt := cntW_lt hk n24
      have pne : p ≠ o := fun z => by subst z; exact (ho p2).2 p4
      have cne : cntW at_ k ≠ cntW at_ o := by
        rcases Nat.lt_or_ge k o with z | z
        · have := cntW_lt z n24; omega
        · have := cntW_lt (show o < k by omega) (ho (by omega)).2; omega
      refine Or.inr ⟨p, p1, by omega, p3, ?_, ?_, ?_, ?_, ?_⟩
      · rw [e1 _ (by omega) (by omega)]; exact p4
      · rw [e1 _ (by omega) (by omega)]; exact p5
      · rw [e2 _ (by omega) (by omega), ec p (by omega)]; exact p6
      · intro j o2 j1 j2 j3 j4 j5
        rw [e1 _ (by omega) (by omega)] at j3
        have jne : j ≠ o := fun z => by subst z; exact (ho (by omega)).2 j3
        rw [e1 _ (by omega) (by omega)] at j4
        by_cases z : o2 < m
        · exact p7 j o2 j1 j2 j3 j4 z
        · omega
      · exact p8.cg (fun i i1 i2 => e1 _ (by omega) (by omega)) (fun i i1 => e2 _ (by omega) (by omega))
def WkI (K : Kt) (cl at_ : Nat → Int32) (m : Nat) (os : List Nat) : Prop :=
  (∀ k, k < m → k ∉ os → rowW K cl at_ m k) ∧
  (∀ k, k ∈ os → k < m ∧ at_ (6 * k + 4) = 0 ∧ cntW at_ k < 30 ∧ OpnR K cl at_ k (cntW at_ k) ∧ NstW at_ m k m) ∧
  os.Pairwise (fun a b => b < a) ∧ depW at_ m = os.length ∧ (∀ k, k ≤ m → 0 ≤ depW at_ k ∧ depW at_ k ≤ 3) ∧ m + os.length ≤ 2 * cntW at_ m ∧ cntW at_ m ≤ 30
theorem WkI.nil {K : Kt} {cl at_ : Nat → Int32} : WkI K cl at_ 0 [] :=
  ⟨fun k hk => by omega, fun k hk => by simp at hk, List.Pairwise.nil, rfl, fun k hk => by rw [show k = 0 by omega, depW]; omega, by simp, by rw [cntW]; omega⟩
/-- an open row goes on being open -/
theorem open_ext {K : Kt} {cl at_ cl' at' : Nat → Int32} {m k o : Nat} (hk : k < m) (hko : k ≠ o) (h : at_ (6 * k + 4) = 0 ∧ cntW at_ k < 30 ∧ OpnR K cl at_ k (cntW at_ k) ∧ NstW at_ m k m) (ho : o < m → at_ (6 * o + 4) = 0 ∧ ¬ at_ (6 * o) = 24)
    (e1 : ∀ j, j < 6 * m → j ≠ 6 * o + 4 → at' j = at_ j) (e2 : ∀ j, j < 5 * cntW at_ m → j ≠ 5 * cntW at_ o + 4 → cl' j = cl j) (en : ¬ at' (6 * m) = 24 ∨ (at' (6 * m + 4) = nI o ∧ k < o ∧ o < m ∧ m < 2 ^ 30)) :
    at' (6 * k + 4) = 0 ∧ cntW at' k < 30 ∧ OpnR K cl' at' k (cntW at' k) ∧ NstW at' (m + 1) k (m + 1) := by
  have ec := cntW_cg (m := m) (at_ := at_) (at' := at') (fun j hj => e1 _ (by omega) (by omega))
  obtain ⟨h1, h2, h3, h4⟩ := h
  have lt := cntW_lt hk h3.ne.1
  rw [ec k (by omega), e1 _ (by omega) (by omega)]
  refine ⟨h1, h2, h3.cg (fun i i1 i2 => e1 _ (by omega) (by omega)) (fun i i1 => e2 _ (by omega) (by omega)), fun j o2 j1 j2 j3 j4 j5 => ?_⟩
  by_cases z : j = m
  · subst z
    rcases en with en | ⟨en, q1, q2, q3⟩
    · exact absurd j3 en
    · rw [en] at j4
      have := nI_inj (by omega) (by omega) j4
      omega
  · rw [e1 _ (by omega) (by omega)] at j3
    have jne : j ≠ o := fun z => by subst z; exact (ho (by omega)).2 j3
    rw [e1 _ (by omega) (by omega)] at j4
    by_cases z : o2 < m
    · exact h4 j o2 j1 (by omega) j3 j4 z
    · omega
section WSTEP
variable {K : Kt} {cl at_ cl' at' : Nat → Int32} {m : Nat} {os : List Nat}
theorem WkI.m60 (h : WkI K cl at_ m os) : m ≤ 60 := by
  obtain ⟨-, -, -, -, -, h6, h7⟩ := h
  omega
theorem dep_ext (h : WkI K cl at_ m os) (e : ∀ j, j < m → at' (6 * j) = at_ (6 * j)) {d : Nat} (hd : d ≤ 3) (hx : depW at' (m + 1) = d) : ∀ k, k ≤ m + 1 → 0 ≤ depW at' k ∧ depW at' k ≤ 3 := by
  intro k hk
  by_cases z : k = m + 1
  · subst z; rw [hx]; omega
  · rw [depW_cg e k (by omega)]; exact h.2.2.2.2.1 k (by omega)
/-- a STEP that opens nothing -/
theorem WkI.smp (h : WkI K cl at_ m os) (hs : cntW at_ m < 30) (e1 : ∀ j, j < 6 * m → at' j = at_ j) (e2 : ∀ j, j < 5 * cntW at_ m → cl' j = cl j) (r : SmpR K cl' at' m (cntW at_ m)) : WkI K cl' at' (m + 1) os := by
  have m60 := h.m60
  have dx := fun (d : Nat) => dep_ext (at' := at') (d := d) h (fun j hj => e1 _ (by omega))
  have ec := cntW_cg (m := m) (at_ := at_) (at' := at') (fun j hj => e1 _ (by omega))
  have ed := depW_cg (m := m) (at_ := at_) (at' := at') (fun j hj => e1 _ (by omega))
  obtain ⟨h1, h2, h3, h4, h5, h6, h7⟩ := h
  obtain ⟨r1, r2⟩ := r.ne
  have d3 : os.length ≤ 3 := by have := (h5 m (by omega)).2; omega
  have dd : depW at' (m + 1) = os.length := by rw [depW, if_neg r1, if_neg r2, ed m (by omega), h4]; omega
  have om : ∀ o, m ≤ o → (o < m → at_ (6 * o + 4) = 0 ∧ ¬ at_ (6 * o) = 24) := fun o a b => by omega
  refine ⟨fun k hk hn => ?_, fun k hk => ?_, h3, dd, dx _ d3 dd, ?_, ?_⟩
  · by_cases z : k = m
    · subst z
      rw [rowW_is, ec k (by omega)]
      exact Or.inr ⟨hs, Or.inl r⟩
    · exact rowW_ext (o := m) (by omega) z (h1 k (by omega) hn) (om m (by omega)) (by omega) (fun j a _ => e1 j a) (fun j a _ => e2 j a)
  · obtain ⟨a, b⟩ := h2 k hk
    exact ⟨by omega, open_ext (o := m) a (by omega) b (om m (by omega)) (fun j a _ => e1 j a) (fun j a _ => e2 j a) (Or.inl r1)⟩
  · rw [cntW_s, if_neg r1, ec m (by omega)]; omega
  · rw [cntW_s, if_neg r1, ec m (by omega)]; omega
/-- one that opens -/
theorem WkI.opn (h : WkI K cl at_ m os) (hs : cntW at_ m < 30) (hd : os.length < 3) (e1 : ∀ j, j < 6 * m → at' j = at_ j) (e2 : ∀ j, j < 5 * cntW at_ m → cl' j = cl j) (r : OpnR K cl' at' m (cntW at_ m)) (r4 : at' (6 * m + 4) = 0) : WkI K cl' at' (m + 1) (m :: os) := by
  have m60 := h.m60
  have dx := fun (d : Nat) => dep_ext (at' := at') (d := d) h (fun j hj => e1 _ (by omega))
  have ec := cntW_cg (m := m) (at_ := at_) (at' := at') (fun j hj => e1 _ (by omega))
  have ed := depW_cg (m := m) (at_ := at_) (at' := at') (fun j hj => e1 _ (by omega))
  obtain ⟨h1, h2, h3, h4, h5, h6, h7⟩ := h
  obtain ⟨r1, -, r2⟩ := r.ne
  have dd : depW at' (m + 1) = ((m :: os).length : Nat) := by rw [depW, if_neg r1, if_pos r2, ed m (by omega), h4, List.length_cons]; omega
  have om : ∀ o, m ≤ o → (o < m → at_ (6 * o + 4) = 0 ∧ ¬ at_ (6 * o) = 24) := fun o a b => by omega
  refine ⟨fun k hk hn => ?_, fun k hk => ?_, List.Pairwise.cons (fun b hb => (h2 b hb).1) h3, dd, dx _ (by rw [List.length_cons]; omega) dd, ?_, ?_⟩
  · have z : k ≠ m := fun z => hn (by rw [z]; exact List.mem_cons_self)
    exact rowW_ext (o := m) (by omega) z (h1 k (by omega) (fun q => hn (List.mem_cons_of_mem _ q))) (om m (by omega)) (by omega) (fun j a _ => e1 j a) (fun j a _ => e2 j a)
  · rcases List.mem_cons.mp hk with z | hk
    · subst z
      refine ⟨by omega, r4, by rw [ec k (by omega)]; exact hs, by rw [ec k (by omega)]; exact r, fun j o j1 j2 => by omega⟩
    · obtain ⟨a, b⟩ := h2 k hk
      exact ⟨by omega, open_ext (o := m) a (by omega) b (om m (by omega)) (fun j a _ => e1 j a) (fun j a _ => e2 j a) (Or.inl r1)⟩
  · rw [cntW_s, if_neg r1, ec m (by omega), List.length_cons]; omega
  · rw [cntW_s, if_neg r1, ec m (by omega)]; omega
/-- an END -/
theorem WkI.cls {o : Nat} (h : WkI K cl at_ m (o :: os)) (e1 : ∀ j, j < 6 * m → j ≠ 6 * o + 4 → at' j = at_ j) (e2 : ∀ j, j < 5 * cntW at_ m → j ≠ 5 * cntW at_ o + 4 → cl' j = cl j) (r0 : at' (6 * m) = 24) (r4 : at' (6 * m + 4) = nI o) (r5 : at' (6 * o + 4) = nI m) (r6 : cl' (5 * cntW at_ o + 4) = nI (cntW at_ m)) : WkI K cl' at' (m + 1) os := by
  have m60 := h.m60
  have dx := fun (d : Nat) => dep_ext (at' := at') (d := d) h (fun j hj => e1 _ (by omega) (by omega))
  have ec := cntW_cg (m := m) (at_ := at_) (at' := at') (fun j hj => e1 _ (by omega) (by omega))
  have ed := depW_cg (m := m) (at_ := at_) (at' := at') (fun j hj => e1 _ (by omega) (by omega))
  obtain ⟨h1, h2, h3, h4, h5, h6, h7⟩ := h
  obtain ⟨g1, g2, g3, g4, g5⟩ := h2 o List.mem_cons_self
  obtain ⟨n1, n2, n3⟩ := g4.ne
  have lt := cntW_lt g1 n1
  rw [List.length_cons] at h4 h6
  have d3 : os.length ≤ 3 := by have := (h5 m (by omega)).2; omega
  have dd : depW at' (m + 1) = os.length := by rw [depW, if_pos r0, ed m (by omega), h4]; omega
  have om : (o < m → at_ (6 * o + 4) = 0 ∧ ¬ at_ (6 * o) = 24) := fun _ => ⟨g2, n1⟩
  have op : OpnR K cl' at' o (cntW at_ o) := g4.cg (fun i i1 i2 => e1 _ (by omega) (by omega)) (fun i i1 => e2 _ (by omega) (by omega))
  refine ⟨fun k hk hn => ?_, fun k hk => ?_, (List.pairwise_cons.mp h3).2, dd, dx _ d3 dd, ?_, ?_⟩
  · by_cases z : k = m
    · subst z
      rw [rowW_is]
      exact Or.inl ⟨r0, o, g1, r4, r5, by rw [e1 _ (by omega) (by omega)]; exact n2⟩
    · by_cases zo : k = o
      · subst zo
        rw [rowW_is, ec k (by omega)]
        refine Or.inr ⟨g3, Or.inr ⟨m, g1, by omega, r5, r0, r4, by rw [r6, ec m (by omega)], fun j o2 j1 j2 j3 j4 j5 => ?_, op⟩⟩
        rw [e1 _ (by omega) (by omega)] at j3
        rw [e1 _ (by omega) (by omega)] at j4
        by_cases z2 : o2 < m
        · exact g5 j o2 j1 j2 j3 j4 z2
        · omega
      · refine rowW_ext (o := o) (by omega) zo (h1 k (by omega) (fun q => ?_)) om (by omega) e1 e2
        rcases List.mem_cons.mp q with q | q
        · exact zo q
        · exact hn q
  · obtain ⟨a, b⟩ := h2 k (List.mem_cons_of_mem _ hk)
    have kl : k < o := (List.pairwise_cons.mp h3).1 k hk
    exact ⟨by omega, open_ext (o := o) a (by omega) b om e1 e2 (Or.inr ⟨r4, kl, g1, by omega⟩)⟩
  · rw [cntW_s, if_pos r0, ec m (by omega)]; omega
  · rw [cntW_s, if_pos r0, ec m (by omega)]; omega
end WSTEP
