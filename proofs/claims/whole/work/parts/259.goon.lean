/-! TEXTS: the next TOKEN, in both -/
def findW (w : List Nat) : Nat → Nat → Nat
  | 0, i => i
  | d + 1, i => if kwL.getD i [] = w then i else findW w d (i + 1)
def kwI (w : List Nat) : Nat := findW w 29 0
theorem kw_lets : ∀ i, i < 29 → (kwL.getD i []).length ≤ 8 ∧ (kwL.getD i []).all (fun x => decide (97 ≤ x) && decide (x ≤ 122)) = true := by decide +kernel
theorem kw_let {i : Nat} (hi : i < 29) : lets (kwL.getD i []) := fun x hx => by
  have := List.all_eq_true.mp (kw_lets i hi).2 x hx
  simp only [Bool.and_eq_true, decide_eq_true_eq] at this
  exact this
theorem p_kwL {C : Mem} (hk : KwC C) {w : List Nat} (hw : lets w) (hl : w.length ≤ 8) (h7 : gL C 13 7 = lN (code27 w)) : ∀ d i fu, i + d = 29 → d < fu → ∃ s, f_X7_keywordOrName_L2 fu (nI i) C = some ((s, nI (findW w d i)), C) ∧ (s = 0 ∨ (s = 1 ∧ findW w d i = 29)) := by
  have lt : ∀ u : List Nat, u.length ≤ 8 → lets u → code27 u < 2 ^ 63 := fun u h1 h2 => Nat.lt_of_lt_of_le (code27_lt 8 u h1 h2) (by decide)
  intro d
  induction d with
  | zero =>
    intro i fu h1 h2
    obtain ⟨fu, rfl⟩ : ∃ k, fu = k + 1 := ⟨fu - 1, by omega⟩
    refine ⟨1, ?_, Or.inr ⟨rfl, by rw [findW]; omega⟩⟩
    rw [f_X7_keywordOrName_L2, show i = 29 by omega, if_pos (show (29 : Int32) ≤ nI 29 by decide), findW]
  | succ d ih =>
    intro i fu h1 h2
    obtain ⟨fu, rfl⟩ : ∃ k, fu = k + 1 := ⟨fu - 1, by omega⟩
    rw [f_X7_keywordOrName_L2, if_neg (show ¬ (29 : Int32) ≤ nI i from nI_ge (b := 29) (by omega) (by decide)), if_neg (show ¬ (nI i < 0 ∨ 29 ≤ (nI i).toNatClampNeg) from nI_in (by omega) (by decide)), nI_clamp (by omega), hk i (by omega), h7, findW]
    have e : lg_cmp (lN (code27 (kwL.getD i []))) (lN (code27 w)) = 0 ↔ kwL.getD i [] = w := by
      rw [lg_cmp_eq, pk_lEQ (lt _ (kw_lets i (by omega)).1 (kw_let (by omega))) (lt w hl hw)]
      exact (code_inj _ _ _ (Nat.le_refl _) (kw_let (by omega)) hw).1
    by_cases z : kwL.getD i [] = w
    · rw [if_pos (e.mpr z), if_pos z]
      exact ⟨0, rfl, Or.inl rfl⟩
    · rw [if_neg (fun q => z (e.mp q)), if_neg z, letF, nI_s]
      exact ih (i + 1) fu (by omega) (by omega)
theorem p_kw {C : Mem} (hk : KwC C) {w : List Nat} (hw : lets w) (hl : w.length ≤ 8) (h7 : gL C 13 7 = lN (code27 w)) : f_X7_keywordOrName C = some (nI (kwI w), C) := by
  obtain ⟨s, h1, h2⟩ := p_kwL hk hw hl h7 29 0 fz (by omega) (by rw [fz_is]; omega)
  have h1' : f_X7_keywordOrName_L2 fz 0 C = some ((s, nI (findW w 29 0)), C) := h1
  rw [f_X7_keywordOrName, h1', bnd_some]
  rcases h2 with rfl | ⟨rfl, h2⟩
  · rw [if_pos rfl]; rfl
  · rw [if_neg (show ¬ (1 : Nat) = 0 by decide)]
    unfold kwI
    rw [h2]
    rfl
theorem findW_le (w : List Nat) : ∀ d i, findW w d i ≤ i + d := by
  intro d
  induction d with
  | zero => intro i; exact Nat.le_refl _
  | succ d ih =>
    intro i
    rw [findW]
    have := ih (i + 1)
    split <;> omega
def TkR (B : Nat → Nat) (n : Nat) (C R : Mem) (f e : Nat) : Prop := f ≤ e ∧ e ≤ n ∧ gI C 13 4 = nI e ∧ gI R 0 14 = nI e ∧ gI C 13 5 = nI f ∧ gI R 0 13 = nI f ∧
  ((f = n ∧ gI C 13 6 = 32 ∧ gI R 0 12 = 0) ∨
   (f < e ∧ lets (wrd B f (e - f)) ∧ gI R 0 12 = 2 ∧ ((8 < e - f ∧ gI C 13 6 = 30) ∨ (e - f ≤ 8 ∧ gL C 13 7 = lN (code27 (wrd B f (e - f))) ∧ gI C 13 6 = nI (kwI (wrd B f (e - f)))))) ∨
   (f < e ∧ ∃ v : Nat, v ≤ 9999 ∧ gI C 13 6 = 31 ∧ gI R 0 12 = 3 ∧ gI C 13 8 = nI v ∧ gI R 0 15 = nI v) ∨
   (f < e ∧ ∃ s : Nat, (s = 59 ∨ s = 60 ∨ s = 61 ∨ s = 62) ∧ gI C 13 6 = nI s ∧ gI R 0 12 = 4 ∧ gI R 0 15 = nI s) ∨
   (f < e ∧ gI C 13 6 = 33 ∧ gI R 0 12 = 1))
def GoC (C C' : Mem) : Prop := (∀ a k, ¬ (a = 13 ∧ (k = 4 ∨ k = 5 ∨ k = 6 ∨ k = 8)) → gI C' a k = gI C a k) ∧ (∀ a k, ¬ (a = 13 ∧ k = 7) → gL C' a k = gL C a k) ∧ ∀ a k, gR C' a k = gR C a k
def GoR (R R' : Mem) : Prop := (∀ a k, ¬ (a = 0 ∧ (k = 12 ∨ k = 13 ∨ k = 14 ∨ k = 15)) → gI R' a k = gI R a k) ∧ ∀ a k, gL R' a k = gL R a k
theorem GoC.rf {C : Mem} : GoC C C := ⟨fun _ _ _ => rfl, fun _ _ _ => rfl, fun _ _ => rfl⟩
theorem GoR.rf {R : Mem} : GoR R R := ⟨fun _ _ _ => rfl, fun _ _ => rfl⟩
theorem GoC.tr {C C1 C2 : Mem} (h : GoC C C1) (g : GoC C1 C2) : GoC C C2 := ⟨fun a k z => (g.1 a k z).trans (h.1 a k z), fun a k z => (g.2.1 a k z).trans (h.2.1 a k z), fun a k => (g.2.2 a k).trans (h.2.2 a k)⟩
theorem GoR.tr {R R1 R2 : Mem} (h : GoR R R1) (g : GoR R1 R2) : GoR R R2 := ⟨fun a k z => (g.1 a k z).trans (h.1 a k z), fun a k => (g.2 a k).trans (h.2 a k)⟩
theorem GoC.sI {C C1 : Mem} (h : GoC C C1) (k : Nat) (v : Int32) (hk : k = 4 ∨ k = 5 ∨ k = 6 ∨ k = 8) : GoC C (sI C1 13 k v) := ⟨fun a j z => by rw [gI_I, if_neg (by omega)]; exact h.1 a j z, fun a j z => h.2.1 a j z, h.2.2⟩
theorem GoC.sL {C C1 : Mem} (h : GoC C C1) (v : Int64) : GoC C (sL C1 13 7 v) := ⟨fun a j z => h.1 a j z, fun a j z => by rw [gL_L, if_neg (by omega)]; exact h.2.1 a j z, h.2.2⟩
theorem GoR.sI {R R1 : Mem} (h : GoR R R1) (k : Nat) (v : Int32) (hk : k = 12 ∨ k = 13 ∨ k = 14 ∨ k = 15) : GoR R (sI R1 0 k v) := ⟨fun a j z => by rw [gI_I, if_neg (by omega)]; exact h.1 a j z, fun a j => h.2 a j⟩
theorem spn_gt {B : Nat → Nat} {P : Nat → Bool} {d i : Nat} (hd : 0 < d) (h : P (B i) = true) : i < spn B P d i := by
  obtain ⟨d, rfl⟩ : ∃ k, d = k + 1 := ⟨d - 1, by omega⟩
  rw [spn, if_pos h]
  have := (spn_ge B P d (i + 1)).1
  omega
theorem p_byteAny {C : Mem} {k : Nat} (hk : k ≤ 900) : ∃ r, f_X7_byteAt (nI k) C = some (r, C) := by
  rw [f_X7_byteAt, if_neg (nI_pos (by omega))]
  by_cases z : (900 : Int32) ≤ nI k
  · exact ⟨_, by rw [if_pos z]⟩
  · have : k < 900 := by
      rcases Nat.lt_or_ge k 900 with h | h
      · exact h
      · exact absurd (nI_le (a := 900) (b := k) h (by omega)) z
    exact ⟨_, by rw [if_neg z, if_neg (show ¬ (nI k < 0 ∨ 900 ≤ (nI k).toNatClampNeg) from nI_in this (by decide))]⟩
