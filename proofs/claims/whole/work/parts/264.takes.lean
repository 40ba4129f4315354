/-! TEXTS: skip, take, signs, numbers -/
def PrC (c : Nat) (C C' : Mem) : Prop := (∀ a k, ¬ (a = 13 ∧ k ≠ 2) → ¬ (a = 16 ∨ a = 17) → ¬ (c ≤ a ∧ a < c + 28) → gI C' a k = gI C a k) ∧ (∀ a k, ¬ (a = 13 ∧ k = 7) → ¬ a = c + 2 → gL C' a k = gL C a k) ∧ ∀ a k, gR C' a k = gR C a k
def PrR (R R' : Mem) : Prop := (∀ a k, ¬ (a = 0 ∧ 12 ≤ k ∧ k ≤ 22 ∧ k ≠ 16) → ¬ (a = 1 ∧ 2008 ≤ k ∧ k < 2510) → ¬ a = 8 → gI R' a k = gI R a k) ∧ ∀ a k, ¬ (a = 2 ∧ 92 ≤ k ∧ k < 115) → gL R' a k = gL R a k
theorem PrC.rf {c : Nat} {C : Mem} : PrC c C C := ⟨fun _ _ _ _ _ => rfl, fun _ _ _ _ => rfl, fun _ _ => rfl⟩
theorem PrR.rf {R : Mem} : PrR R R := ⟨fun _ _ _ _ _ => rfl, fun _ _ _ => rfl⟩
theorem PrC.tr {c : Nat} {C C1 C2 : Mem} (h : PrC c C C1) (g : PrC c C1 C2) : PrC c C C2 := ⟨fun a k x y z => (g.1 a k x y z).trans (h.1 a k x y z), fun a k x y => (g.2.1 a k x y).trans (h.2.1 a k x y), fun a k => (g.2.2 a k).trans (h.2.2 a k)⟩
theorem PrR.tr {R R1 R2 : Mem} (h : PrR R R1) (g : PrR R1 R2) : PrR R R2 := ⟨fun a k x y z => (g.1 a k x y z).trans (h.1 a k x y z), fun a k x => (g.2 a k x).trans (h.2 a k x)⟩
theorem GoC.pr {C C' : Mem} (c : Nat) (h : GoC C C') : PrC c C C' := ⟨fun a k x y z => h.1 a k (by omega), fun a k x y => h.2.1 a k x, h.2.2⟩
theorem GoR.pr {R R' : Mem} (h : GoR R R') : PrR R R' := ⟨fun a k x y z => h.1 a k (by omega), fun a k x => h.2 a k⟩
/-- both stop -/
def Hlt (c : Nat) (C R : Mem) (X Y : Rs Int32) : Prop := ∃ C' R', X = some (0, C') ∧ Y = some (0, R') ∧ FlT C' R' ∧ PrC c C C' ∧ PrR R R'
section TAKES
variable {B : Nat → Nat} {n c : Nat} {C R : Mem} {f e : Nat}
theorem StT.setC {C' : Mem} (h : StT B n C R f e) (e1 : ∀ a k, a = 13 ∨ a = 14 → gI C' a k = gI C a k) (e2 : ∀ a k, a = 13 ∨ a = 15 → gL C' a k = gL C a k) : StT B n C' R f e := by
  obtain ⟨⟨a1, a2⟩, h2, h3, h4, h5⟩ := h
  refine ⟨⟨(e1 _ _ (by omega)).trans a1, fun k hk => (e1 _ _ (by omega)).trans (a2 k hk)⟩, h2, h3.cg (fun k => e2 _ _ (by omega)), ?_, h5⟩
  unfold TkR at h4 ⊢
  rw [e1 13 4 (by omega), e1 13 5 (by omega), e1 13 6 (by omega), e1 13 8 (by omega), e2 13 7 (by omega)]
  exact h4
theorem StT.setR {R' : Mem} (h : StT B n C R f e) (e1 : ∀ a k, a = 0 ∨ a = 7 → gI R' a k = gI R a k) : StT B n C R' f e := by
  obtain ⟨h1, ⟨a1, a2⟩, h3, h4, h5⟩ := h
  refine ⟨h1, ⟨(e1 _ _ (by omega)).trans a1, fun k hk => by rw [e1 _ _ (by omega)]; exact a2 k hk⟩, h3, ?_, (e1 _ _ (by omega)).trans h5⟩
  unfold TkR at h4 ⊢
  rw [e1 0 12 (by omega), e1 0 13 (by omega), e1 0 14 (by omega), e1 0 15 (by omega)]
  exact h4
theorem st_stp (h : StT B n C R f e) (hn : n ≤ 900) (hB : ∀ k, B k < 256) {k : Nat} (h1 : 1 ≤ k) (h9 : k ≤ 9) : Hlt c C R (f_X7_refuse (nI k) C) (f_X12_fails (nI k) R) := by
  obtain ⟨C', R', a1, a2, a3, a4, a5, a6, a7, a8⟩ := st_fail h hn hB h1 h9
  exact ⟨C', R', a1, a2, a3, ⟨fun a k x y z => a4 a k (by omega), fun a k _ _ => a5 a k, a6⟩, fun a k x y z => a7 a k (by omega), fun a k _ => a8 a k⟩
theorem Hlt.chk {X Y : Rs Int32} (h : Hlt c C R X Y) : Hlt c C R (bnd X fun r M => if ¬ (r = 0 ∨ r = 1) then none else some (r, M)) (bnd Y fun r M => if ¬ (r = 0 ∨ r = 1) then none else some (r, M)) := by
  obtain ⟨C', R', h1, h2, h3⟩ := h
  exact ⟨C', R', by rw [h1, bnd_some, fin_b (Or.inl rfl)], by rw [h2, bnd_some, fin_b (Or.inl rfl)], h3⟩
theorem kwP_ne {s t : Nat} (hs : s < 29) (ht : t < 29) (h : s ≠ t) : ¬ nI (kwP.getD s 0) = nI (kwP.getD t 0) := by
  obtain ⟨t1, -, -⟩ := kw_tab
  intro z
  have a := t1 s hs
  have b := t1 t ht
  have e := nI_inj (by omega) (by omega) z
  rw [e] at a
  omega
theorem st_skip (hn : n ≤ 900) (hB : ∀ k, B k < 256) (h : StT B n C R f e) {t : Nat} (ht : t < 29) :
    (f_X4_skip (nI t) C = some (0, C) ∧ f_X12_isThere (nI (kwP.getD t 0)) R = some (0, R)) ∨
    ∃ C' R' f' e', f_X4_skip (nI t) C = some (1, C') ∧ f_X12_isThere (nI (kwP.getD t 0)) R = some (1, R') ∧ StT B n C' R' f' e' ∧ GoC C C' ∧ GoR R R' := by
  obtain ⟨s, s1, s2, -, -, s5⟩ := tk_num h hn hB
  have k29 := (kw_tab.1 t ht).1
  by_cases z : s = t
  · subst z
    rcases s5 with ⟨-, s5⟩ | ⟨y, -⟩
    · obtain ⟨C', R', f', e', a1, a2, a3, a4, a5, -⟩ := st_go hn hB h
      exact Or.inr ⟨C', R', f', e', by rw [f_X4_skip, s2, if_pos rfl, a1, bnd_some], by rw [f_X12_isThere, s5, bnd_some, if_pos rfl, a2, bnd_some], a3, a4, a5⟩
    · omega
  · have ne : ¬ nI s = nI t := fun q => z (nI_inj (by omega) (by omega) q)
    refine Or.inl ⟨by rw [f_X4_skip, s2, if_neg ne], ?_⟩
    rcases s5 with ⟨y, s5⟩ | ⟨-, s5⟩
    · rw [f_X12_isThere, s5, bnd_some, if_neg (kwP_ne y ht z)]
    · rw [f_X12_isThere, s5, bnd_some, if_neg (fun q => nI_ne_m1 (by omega) q.symm)]
theorem st_take (hn : n ≤ 900) (hB : ∀ k, B k < 256) (h : StT B n C R f e) {t : Nat} (ht : t < 29) :
    Hlt c C R (f_X4_take (nI t) C) (f_X12_wantWord (nI (kwP.getD t 0)) R) ∨
    ∃ C' R' f' e', f_X4_take (nI t) C = some (1, C') ∧ f_X12_wantWord (nI (kwP.getD t 0)) R = some (1, R') ∧ StT B n C' R' f' e' ∧ GoC C C' ∧ GoR R R' := by
  obtain ⟨s, s1, s2, -, -, s5⟩ := tk_num h hn hB
  have k29 := (kw_tab.1 t ht).1
  by_cases z : s = t
  · subst z
    rcases s5 with ⟨-, s5⟩ | ⟨y, -⟩
    · obtain ⟨C', R', f', e', a1, a2, a3, a4, a5, -⟩ := st_go hn hB h
      exact Or.inr ⟨C', R', f', e', by rw [f_X4_take, f_X4_skip, s2, if_pos rfl, a1, bnd_some, bnd_some, if_neg i10], by rw [f_X12_wantWord, s5, bnd_some, if_pos rfl, a2, bnd_some], a3, a4, a5⟩
    · omega
  · have ne : ¬ nI s = nI t := fun q => z (nI_inj (by omega) (by omega) q)
    obtain ⟨C', R', g1, g2, g3⟩ := st_stp (c := c) h hn hB (k := 2) (by omega) (by omega)
    have g1' : f_X7_refuse 2 C = some (0, C') := g1
    have g2' : f_X12_fails 2 R = some (0, R') := g2
    refine Or.inl ⟨C', R', by rw [f_X4_take, f_X4_skip, s2, if_neg ne, bnd_some, if_pos rfl, g1', bnd_some, if_pos rfl], ?_, g3⟩
    rcases s5 with ⟨y, s5⟩ | ⟨-, s5⟩
    · rw [f_X12_wantWord, s5, bnd_some, if_neg (kwP_ne y ht z), g2', bnd_some, fin_b (Or.inl rfl)]
    · rw [f_X12_wantWord, s5, bnd_some, if_neg (fun q => nI_ne_m1 (by omega) q.symm), g2', bnd_some, fin_b (Or.inl rfl)]
/-- a sign is the same on both sides -/
theorem st_isSign (h : StT B n C R f e) {s : Nat} (hs : s = 59 ∨ s = 60 ∨ s = 61 ∨ s = 62) : (gI C 13 6 = nI s ∧ f_X12_isSign (nI s) R = some (1, R) ∧ gI R 0 15 = nI s) ∨ (¬ gI C 13 6 = nI s ∧ f_X12_isSign (nI s) R = some (0, R)) := by
  obtain ⟨h1, h2, h3, ⟨a1, a2, a3, a4, a5, a6, a7⟩, h5⟩ := h
  have ne : ∀ t : Nat, t < 59 → gI C 13 6 = nI t → ¬ gI C 13 6 = nI s := fun t ht z q => by
    have := nI_inj (by omega) (by omega) (z.symm.trans q)
    omega
  rcases a7 with ⟨b1, b2, b3⟩ | ⟨b1, b2, b3, b4⟩ | ⟨b1, v, b2, b3, b4, b5, b6⟩ | ⟨b1, s', b2, b3, b4, b5⟩ | ⟨b1, b2, b3⟩
  · exact Or.inr ⟨ne 32 (by omega) b2, by rw [f_X12_isSign, b3, if_neg (by decide)]⟩
  · refine Or.inr ⟨?_, by rw [f_X12_isSign, b3, if_neg (by decide)]⟩
    rcases b4 with ⟨-, c2⟩ | ⟨-, -, c3⟩
    · exact ne 30 (by omega) c2
    · have := findW_le (wrd B f (e - f)) 29 0
      exact ne _ (by unfold kwI; omega) c3
  · exact Or.inr ⟨ne 31 (by omega) b3, by rw [f_X12_isSign, b4, if_neg (by decide)]⟩
  · by_cases z : s' = s
    · subst z
      exact Or.inl ⟨b3, by rw [f_X12_isSign, b4, if_pos rfl, b5, if_pos rfl], b5⟩
    · have ns : ¬ nI s' = nI s := fun q => z (nI_inj (by omega) (by omega) q)
      exact Or.inr ⟨by rw [b3]; exact ns, by rw [f_X12_isSign, b4, if_pos rfl, b5, if_neg ns]⟩
  · exact Or.inr ⟨ne 33 (by omega) b2, by rw [f_X12_isSign, b3, if_neg (by decide)]⟩
theorem st_semi (hn : n ≤ 900) (hB : ∀ k, B k < 256) (h : StT B n C R f e) : Hlt c C R (f_X4_take 59 C) (f_X12_wantSign 59 R) ∨
    ∃ C' R' f' e', f_X4_take 59 C = some (1, C') ∧ f_X12_wantSign 59 R = some (1, R') ∧ StT B n C' R' f' e' ∧ GoC C C' ∧ GoR R R' := by
  have e59 : (59 : Int32) = nI 59 := rfl
  rw [e59]
  rcases st_isSign h (s := 59) (by omega) with ⟨b1, b2, -⟩ | ⟨b1, b2⟩
  · obtain ⟨C', R', f', e', a1, a2, a3, a4, a5, -⟩ := st_go hn hB h
    exact Or.inr ⟨C', R', f', e', by rw [f_X4_take, f_X4_skip, b1, if_pos rfl, a1, bnd_some, bnd_some, if_neg i10], by rw [f_X12_wantSign, b2, bnd_some, if_neg i10, a2, bnd_some], a3, a4, a5⟩
  · obtain ⟨C', R', g1, g2, g3⟩ := st_stp (c := c) h hn hB (k := 2) (by omega) (by omega)
    have g1' : f_X7_refuse 2 C = some (0, C') := g1
    have g2' : f_X12_fails 2 R = some (0, R') := g2
    exact Or.inl ⟨C', R', by rw [f_X4_take, f_X4_skip, if_neg b1, bnd_some, if_pos rfl, g1', bnd_some, if_pos rfl], by rw [f_X12_wantSign, b2, bnd_some, if_pos rfl, g2', bnd_some, fin_b (Or.inl rfl)], g3⟩
end TAKES
