/-! TEXTS: inWords; the two numbers of a keyword -/
def findR (w : List Nat) : Nat → Nat → Nat
  | 0, i => i
  | d + 1, i => if rkw i = w then i else findR w d (i + 1)
def rwI (w : List Nat) : Nat := findR w 29 0
theorem getD_in (w : List Nat) {i : Nat} (h : i < w.length) : w.getD i 0 = w[i] := by
  rw [List.getD_eq_getElem?_getD, List.getElem?_eq_getElem h]
  rfl
theorem wrd_eq {B : Nat → Nat} {f d : Nat} (w : List Nat) : w = wrd B f d ↔ (w.length = d ∧ ∀ i, i < w.length → w.getD i 0 = B (f + i)) := by
  have ll : (wrd B f d).length = d := by unfold wrd; rw [List.length_map, List.length_range']
  have gg : ∀ i, i < d → (wrd B f d).getD i 0 = B (f + i) := fun i hi => by
    unfold wrd
    rw [List.getD_eq_getElem?_getD, List.getElem?_map, List.getElem?_range' hi, Nat.one_mul]
    rfl
  constructor
  · rintro rfl
    exact ⟨ll, fun i hi => gg i (by rw [ll] at hi; exact hi)⟩
  · rintro ⟨h1, h2⟩
    refine List.ext_getElem (h1.trans ll.symm) (fun i a b => ?_)
    have e1 := h2 i a
    have e2 := gg i (by omega)
    rw [getD_in _ a] at e1
    rw [getD_in _ b] at e2
    exact e1.trans e2.symm
section INW2
variable {B : Nat → Nat} {n : Nat} {R : Mem}
theorem r_L14 (hn : n ≤ 900) (hB : ∀ k, B k < 256) (hR : TxR B n R) {f e : Nat} (hfe : f ≤ e) (he : e ≤ n) (r13 : gI R 0 13 = nI f) (r14 : gI R 0 14 = nI e) : ∀ d i fu, i + d = 29 → d < fu → ∃ s, f_X12_inWords_L14 fu (nI i) (nI (stW i)) R = some ((s, nI (findR (wrd B f (e - f)) d i)), R) ∧ ((s = 0 ∧ findR (wrd B f (e - f)) d i < 29) ∨ (s = 1 ∧ findR (wrd B f (e - f)) d i = 29)) := by
  have s29 := st29
  have hlen : f_J0_length_8abf5 1 R = some (nI (stW 29), R) := by rw [s29.1]; rfl
  intro d
  induction d with
  | zero =>
    intro i fu h1 h2
    obtain ⟨fu, rfl⟩ : ∃ k, fu = k + 1 := ⟨fu - 1, by omega⟩
    have : i = 29 := by omega
    subst this
    exact ⟨1, by rw [f_X12_inWords_L14, hlen, bnd_some, if_pos (Int32.le_refl _), findR], Or.inr ⟨rfl, rfl⟩⟩
  | succ d ih =>
    intro i fu h1 h2
    obtain ⟨fu, rfl⟩ : ∃ k, fu = k + 1 := ⟨fu - 1, by omega⟩
    have hi : i < 29 := by omega
    obtain ⟨q1, q2, q3, q4, q5⟩ := kw_chr i hi
    have l25 := r_L25 hi (nI i) (nI (stW i)) R (rkw i).length 0 fz (by omega) (by rw [fz_is]; omega)
    rw [Nat.add_zero] at l25
    have e1 : nI (stW i + (rkw i).length) - nI (stW i) = nI (rkw i).length := by
      rw [pk_sub (by omega)]
      congr 1
      omega
    have e2 : nI e - nI f = nI (e - f) := pk_sub hfe
    have nx : nI (stW i + (rkw i).length) + 1 = nI (stW (i + 1)) := by rw [nI_s]; rfl
    rw [f_X12_inWords_L14, hlen, bnd_some, if_neg (show ¬ nI (stW 29) ≤ nI (stW i) from nI_ge (by omega) (by omega)), l25, bnd_some, r13, r14, e1, e2, findR]
    have skip : ∀ s0 : Int32, f_X12_inWords_L68 (nI i) (nI (stW i)) (nI (stW i + (rkw i).length)) fz s0 (nI (stW i)) R = some (0, R) → f_X12_inWords_J63 (f_X12_inWords_L14 fu) (nI i) (nI (stW i)) (nI (stW i + (rkw i).length)) s0 R = f_X12_inWords_L14 fu (nI (i + 1)) (nI (stW (i + 1))) R := by
      intro s0 h
      rw [f_X12_inWords_J63, h, bnd_some, if_pos rfl, letF, letF, nx, nI_s]
    by_cases hl : (rkw i).length = e - f
    · rw [if_pos (show nI (rkw i).length = nI (e - f) by rw [hl])]
      obtain ⟨s, w1, w2⟩ := r_L68 hn hB hR hi (show f + (rkw i).length ≤ n by omega) r13 (nI i) (rkw i).length 0 fz (by omega) (by rw [fz_is]; omega) (fun k hk => absurd hk (by omega))
      rw [Nat.add_zero] at w1
      rcases w2 with ⟨rfl, w2⟩ | ⟨rfl, k, w2, w3⟩
      · have : rkw i = wrd B f (e - f) := (wrd_eq _).mpr ⟨hl, w2⟩
        rw [if_pos this, f_X12_inWords_J63, w1, bnd_some, if_neg i10]
        exact ⟨0, rfl, Or.inl ⟨rfl, hi⟩⟩
      · have : ¬ rkw i = wrd B f (e - f) := fun q => w3 (((wrd_eq _).mp q).2 k w2)
        rw [if_neg this, skip 1 w1]
        exact ih (i + 1) fu (by omega) (by omega)
    · have ne : ¬ nI (rkw i).length = nI (e - f) := fun q => hl (nI_inj (by omega) (by omega) q)
      have : ¬ rkw i = wrd B f (e - f) := fun q => hl ((wrd_eq _).mp q).1
      have w1 : f_X12_inWords_L68 (nI i) (nI (stW i)) (nI (stW i + (rkw i).length)) fz 0 (nI (stW i)) R = some (0, R) := by
        have : fz = (fz - 1) + 1 := by rw [fz_is]
        rw [this, f_X12_inWords_L68]
        by_cases y : nI (stW i + (rkw i).length) ≤ nI (stW i)
        · rw [if_pos y]
        · rw [if_neg y, if_pos rfl]
      rw [if_neg ne, if_neg this, skip 0 w1]
      exact ih (i + 1) fu (by omega) (by omega)
theorem r_inWords (hn : n ≤ 900) (hB : ∀ k, B k < 256) (hR : TxR B n R) {f e : Nat} (hfe : f ≤ e) (he : e ≤ n) (r13 : gI R 0 13 = nI f) (r14 : gI R 0 14 = nI e) (r12 : gI R 0 12 = 2) :
    f_X12_inWords R = some (if rwI (wrd B f (e - f)) < 29 then nI (rwI (wrd B f (e - f))) else -1, R) := by
  obtain ⟨s, h1, h2⟩ := r_L14 hn hB hR hfe he r13 r14 29 0 fz (by omega) (by rw [fz_is]; omega)
  have h1' : f_X12_inWords_L14 fz 0 1 R = some ((s, nI (findR (wrd B f (e - f)) 29 0)), R) := h1
  rw [f_X12_inWords, if_pos r12, h1', bnd_some]
  unfold rwI
  rcases h2 with ⟨rfl, h2⟩ | ⟨rfl, h2⟩
  · rw [if_pos rfl, if_pos h2]
  · rw [if_neg (show ¬ (1 : Nat) = 0 by decide), if_neg (by omega)]
theorem r_inWordsN (r12 : ¬ gI R 0 12 = 2) : f_X12_inWords R = some (-1, R) := by rw [f_X12_inWords, if_neg r12]
end INW2
/-- both numbers of a word -/
theorem findW_is (w : List Nat) : ∀ d i, i + d = 29 → (findW w d i < 29 ∧ kwL.getD (findW w d i) [] = w ∧ i ≤ findW w d i) ∨ (findW w d i = 29 ∧ ∀ k, i ≤ k → k < 29 → ¬ kwL.getD k [] = w) := by
  intro d
  induction d with
  | zero => intro i h; exact Or.inr ⟨by rw [findW]; omega, fun k h1 h2 => by omega⟩
  | succ d ih =>
    intro i h
    rw [findW]
    by_cases z : kwL.getD i [] = w
    · rw [if_pos z]; exact Or.inl ⟨by omega, z, Nat.le_refl _⟩
    · rw [if_neg z]
      rcases ih (i + 1) (by omega) with ⟨a, b, c⟩ | ⟨a, b⟩
      · exact Or.inl ⟨a, b, by omega⟩
      · refine Or.inr ⟨a, fun k h1 h2 => ?_⟩
        by_cases y : k = i
        · rw [y]; exact z
        · exact b k (by omega) h2
theorem findR_is (w : List Nat) : ∀ d i, i + d = 29 → (findR w d i < 29 ∧ rkw (findR w d i) = w ∧ i ≤ findR w d i) ∨ (findR w d i = 29 ∧ ∀ k, i ≤ k → k < 29 → ¬ rkw k = w) := by
  intro d
  induction d with
  | zero => intro i h; exact Or.inr ⟨by rw [findR]; omega, fun k h1 h2 => by omega⟩
  | succ d ih =>
    intro i h
    rw [findR]
    by_cases z : rkw i = w
    · rw [if_pos z]; exact Or.inl ⟨by omega, z, Nat.le_refl _⟩
    · rw [if_neg z]
      rcases ih (i + 1) (by omega) with ⟨a, b, c⟩ | ⟨a, b⟩
      · exact Or.inl ⟨a, b, by omega⟩
      · refine Or.inr ⟨a, fun k h1 h2 => ?_⟩
        by_cases y : k = i
        · rw [y]; exact z
        · exact b k (by omega) h2
theorem kw_tab : (∀ i, i < 29 → kwP.getD i 0 < 29 ∧ kwQ.getD (kwP.getD i 0) 0 = i) ∧ (∀ j, j < 29 → kwQ.getD j 0 < 29 ∧ kwP.getD (kwQ.getD j 0) 0 = j) ∧ ∀ i, i < 29 → ∀ j, j < 29 → kwL.getD i [] = kwL.getD j [] → i = j := by decide +kernel
theorem kw_both (w : List Nat) : (kwI w < 29 ∧ rwI w = kwP.getD (kwI w) 0 ∧ rwI w < 29) ∨ (kwI w = 29 ∧ rwI w = 29) := by
  obtain ⟨t1, t2, t3⟩ := kw_tab
  unfold kwI rwI
  rcases findW_is w 29 0 (by omega) with ⟨a, b, -⟩ | ⟨a, b⟩ <;> rcases findR_is w 29 0 (by omega) with ⟨a2, b2, -⟩ | ⟨a2, b2⟩
  · refine Or.inl ⟨a, ?_, a2⟩
    have e := t3 _ a _ (t2 _ a2).1 (b.trans b2.symm)
    rw [e, (t2 _ a2).2]
  · exfalso
    refine b2 (kwP.getD (findW w 29 0) 0) (by omega) (t1 _ a).1 ?_
    unfold rkw
    rw [(t1 _ a).2]
    exact b
  · exact absurd b2 (b _ (by omega) (t2 _ a2).1)
  · exact Or.inr ⟨a, a2⟩
