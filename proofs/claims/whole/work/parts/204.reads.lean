/-! READS: status, top, bottom, fault, sense, rule, person, reader, word, cue, cueAt, bears, lived -/
theorem i10 : ¬ (1 : Int32) = 0 := by decide
theorem i00 : (0 : Int32) = 0 := rfl
theorem nn {p : Prop} (h : p) : ¬ ¬ p := fun z => z h
theorem ix (x : Int32) {n : Nat} (hn : n < 2 ^ 31) : (x < 0 ∨ nI n ≤ x) ∨ ∃ j : Nat, j < n ∧ x = nI j := by
  rcases pk_ix x hn with h | h | h
  · exact Or.inl (Or.inl h)
  · exact Or.inl (Or.inr h)
  · exact Or.inr h
theorem NowC.sh {C : Mem} (h : NowC C) : shC (gR C 0 0) = 0 ∧ shC (gR C 0 1) = 0 := by
  rcases h with ⟨a, b⟩ | ⟨a, b⟩ <;> rw [a, b] <;> exact ⟨by decide +kernel, by decide +kernel⟩
theorem RelO.get {C R : Mem} (h : RelO C R) : ∃ K : Kt, WFK K ∧ IsC C (gR C 0 0) K ∧ IsR R 0 K ∧ shC (gR C 0 0) = 0 ∧ shC (gR C 0 1) = 0 := by
  obtain ⟨hn, -, -, -, -, ⟨K, a, -, b, c, -, -⟩, -⟩ := h
  exact ⟨K, a, b, c, hn.sh.1, hn.sh.2⟩
theorem WFK.nk {K : Kt} (h : WFK K) {k : Nat} (hk : k < 6) : K 0 k = nI (nK K k) ∧ nK K k ≤ 10 := by
  have q := h.1 k hk
  refine ⟨q.1, Nat.le_trans q.2 ?_⟩
  exact (by decide : ∀ k, k < 6 → mxK.getD k 0 ≤ 10) k hk
theorem hasT (k : Nat) (kk : Int32) {C : Mem} {c : Nat} {K : Kt} (hl : kk = nI k) (hC : IsC C c K) (hw : WFK K) (hk : k < 6) {j : Nat} (hj : j < nK K k) : f_X0_has c kk (nI j) C = some (1, C) := by
  have q := hw.nk hk
  rw [hl, p_has (n := nK K k) hk ((hC.1 k hk).trans q.1) (by omega), nI_toInt (by omega), show decide (0 ≤ (j : Int) ∧ (j : Int) < (nK K k : Int)) = true from decide_eq_true ⟨by omega, by omega⟩]
  rfl
theorem hasF (k : Nat) (kk : Int32) {C : Mem} {c : Nat} {K : Kt} (hl : kk = nI k) (hC : IsC C c K) (hw : WFK K) (hk : k < 6) {x : Int32} (hx : x < 0 ∨ nI (nK K k) ≤ x) : f_X0_has c kk x C = some (0, C) := by
  have q := hw.nk hk
  rw [hl, p_has (n := nK K k) hk ((hC.1 k hk).trans q.1) (by omega), show decide (0 ≤ x.toInt ∧ x.toInt < (nK K k : Int)) = false from decide_eq_false (fun z => ?_)]
  · rfl
  · rcases hx with h | h
    · rw [i_lt] at h
      have := z.1
      simp at h
      omega
    · rw [i_le, nI_toInt (by omega)] at h
      omega
theorem withinT (n : Nat) (b : Int32) (hb : b = nI n) (hn : n < 2 ^ 31) {j : Nat} (hj : j < n) (M : Mem) : f_X11_within (nI j) b M = some (1, M) := by rw [hb]; exact p_within_t hj hn M
theorem withinF (n : Nat) (b : Int32) {x : Int32} (hb : b = nI n) (hx : x < 0 ∨ nI n ≤ x) (M : Mem) : f_X11_within x b M = some (0, M) := by
  rcases hx with h | h
  · exact p_within_lo h M
  · rw [hb]; exact p_within_hi h M
theorem r_isT {f : Int32 → Mem → Rs Int32} {k : Nat} (hf : ∀ a M, f a M = if a < 0 then (some ((0 : Int32), M)) else (if (gI M 1 k) ≤ a then (some ((0 : Int32), M)) else (some ((1 : Int32), M)))) {R : Mem} {K : Kt} (hR : IsR R 0 K) (hw : WFK K) (hk : k < 6) {j : Nat} (hj : j < nK K k) : f (nI j) R = some (1, R) := by
  have q := hw.nk hk
  rw [hf, if_neg (nI_pos (by omega)), hR.cnt hk, q.1, if_neg (nI_ge hj (by omega))]
theorem r_isF {f : Int32 → Mem → Rs Int32} {k : Nat} (hf : ∀ a M, f a M = if a < 0 then (some ((0 : Int32), M)) else (if (gI M 1 k) ≤ a then (some ((0 : Int32), M)) else (some ((1 : Int32), M)))) {R : Mem} {K : Kt} (hR : IsR R 0 K) (hw : WFK K) (hk : k < 6) {x : Int32} (hx : x < 0 ∨ nI (nK K k) ≤ x) : f x R = some (0, R) := by
  have q := hw.nk hk
  rw [hf]
  by_cases h : x < 0
  · rw [if_pos h]
  · rw [if_neg h, hR.cnt hk, q.1, if_pos (hx.resolve_left h)]
theorem isCueE (a : Int32) (M : Mem) : f_X12_isCue a M = if a < 0 then (some ((0 : Int32), M)) else (if (gI M 1 1) ≤ a then (some ((0 : Int32), M)) else (some ((1 : Int32), M))) := rfl
theorem isSmellE (a : Int32) (M : Mem) : f_X12_isSmell a M = if a < 0 then (some ((0 : Int32), M)) else (if (gI M 1 0) ≤ a then (some ((0 : Int32), M)) else (some ((1 : Int32), M))) := rfl
theorem isRuleE (a : Int32) (M : Mem) : f_X12_isRule a M = if a < 0 then (some ((0 : Int32), M)) else (if (gI M 1 2) ≤ a then (some ((0 : Int32), M)) else (some ((1 : Int32), M))) := rfl
theorem isReaderE (a : Int32) (M : Mem) : f_X12_isReader a M = if a < 0 then (some ((0 : Int32), M)) else (if (gI M 1 4) ≤ a then (some ((0 : Int32), M)) else (some ((1 : Int32), M))) := rfl
theorem l_lt (a b : Int64) : a < b ↔ a.toInt < b.toInt := Int64.lt_iff_toInt_lt
theorem l_le (a b : Int64) : a ≤ b ↔ a.toInt ≤ b.toInt := Int64.le_iff_toInt_le
theorem l_i (x : Int32) : x.toInt64.toInt = x.toInt := Int32.toInt_toInt64 x
theorem r_isPersonT {R : Mem} {K : Kt} (hR : IsR R 0 K) (hw : WFK K) {j : Nat} (hj : j < nK K 3) : f_X12_isPerson ((nI j).toInt64) R = some (1, R) := by
  have q := hw.n3
  rw [f_X12_isPerson, hR.cnt (by decide), q.1, if_neg (by rw [lg_cmp_lt, l_lt, l_i, nI_toInt (by omega), show (0 : Int64).toInt = 0 from rfl]; omega), if_neg (by rw [lg_cmp_ge, l_le, l_i, l_i, nI_toInt (by omega), nI_toInt (by omega)]; omega)]
theorem r_isPersonF {R : Mem} {K : Kt} (hR : IsR R 0 K) (hw : WFK K) {x : Int32} (hx : x < 0 ∨ nI (nK K 3) ≤ x) : f_X12_isPerson (x.toInt64) R = some (0, R) := by
  have q := hw.n3
  rw [f_X12_isPerson, hR.cnt (by decide), q.1]
  by_cases h : x < 0
  · rw [if_pos (by rw [lg_cmp_lt, l_lt, l_i, show (0 : Int64).toInt = 0 from rfl]; rw [i_lt] at h; exact h)]
  · have h2 := hx.resolve_left h
    rw [i_lt] at h
    rw [i_le] at h2
    rw [if_neg (by rw [lg_cmp_lt, l_lt, l_i, show (0 : Int64).toInt = 0 from rfl]; exact h), if_pos (by rw [lg_cmp_ge, l_le, l_i, l_i]; exact h2)]
theorem r_isFromT {x : Int32} {lo hi : Int64} (h1 : lo.toInt ≤ x.toInt) (h2 : x.toInt ≤ hi.toInt) (R : Mem) : f_X12_isFrom (x.toInt64) lo hi R = some (1, R) := by
  rw [f_X12_isFrom, if_neg (by rw [lg_cmp_lt, l_lt, l_i]; omega), if_neg (by rw [lg_cmp_gt, l_lt, l_i]; omega)]
theorem r_isFromF {x : Int32} {lo hi : Int64} (h : x.toInt < lo.toInt ∨ hi.toInt < x.toInt) (R : Mem) : f_X12_isFrom (x.toInt64) lo hi R = some (0, R) := by
  rw [f_X12_isFrom]
  by_cases h1 : x.toInt < lo.toInt
  · rw [if_pos (by rw [lg_cmp_lt, l_lt, l_i]; exact h1)]
  · rw [if_neg (by rw [lg_cmp_lt, l_lt, l_i]; exact h1), if_pos (by rw [lg_cmp_gt, l_lt, l_i]; exact h.resolve_left h1)]
/-- from 0 to n - 1, as both test it -/
theorem r_from0T (n : Nat) {hi : Int64} (hh : hi.toInt = (n : Int) - 1) {j : Nat} (hj : j < n) (hn : n < 2 ^ 31) (R : Mem) : f_X12_isFrom ((nI j).toInt64) 0 hi R = some (1, R) :=
  r_isFromT (by rw [nI_toInt (by omega), show (0 : Int64).toInt = 0 from rfl]; omega) (by rw [nI_toInt (by omega), hh]; omega) R
theorem r_from0F (n : Nat) {hi : Int64} (hh : hi.toInt = (n : Int) - 1) {x : Int32} (hx : x < 0 ∨ nI n ≤ x) (hn : n < 2 ^ 31) (R : Mem) : f_X12_isFrom (x.toInt64) 0 hi R = some (0, R) := by
  refine r_isFromF ?_ R
  rcases hx with h | h
  · rw [i_lt] at h
    exact Or.inl h
  · rw [i_le, nI_toInt hn] at h
    exact Or.inr (by rw [hh]; omega)
theorem fin_orN {C C' R R' : Mem} (h : RelS C R) (e : SqC C C') (f : SqR R R') (ho : RelO C' R') (v : Int32) {x : Rs Int32} (hx : x = if v = -1 then bnd (f_X11_refused 6 C') fun r M => some (r, M) else bnd (f_X11_given v C') fun r M => some (r, M)) : OK2 x (bnd (f_X12_orNone v R') fun r M => some (r, M)) := by
  subst hx
  rw [f_X12_orNone]
  by_cases hv : v = -1
  · rw [if_pos hv, if_pos hv]
    exact ⟨-1, _, _, rfl, rfl, Rel.st h e f ho 6⟩
  · rw [if_neg hv, if_neg hv]
    exact ⟨v, _, _, rfl, rfl, Rel.st h e f ho 0⟩
section READS
variable {C R : Mem}
theorem m_status (h : Rel C R) : OK2 (f_X11_status C) (f_X12_status R) := ⟨_, C, R, rfl, by rw [f_X12_status, h.1.1], h⟩
theorem m_top (h : Rel C R) : OK2 (f_X11_top C) (f_X12_top R) := ⟨_, C, R, rfl, by rw [f_X12_top, h.1.2.1], h⟩
theorem m_bottom (h : Rel C R) : OK2 (f_X11_bottom C) (f_X12_bottom R) := ⟨_, C, R, rfl, by rw [f_X12_bottom, h.1.2.2.1], h⟩
theorem m_fault (h : Rel C R) (a : Int32) : OK2 (f_X11_fault a C) (f_X12_fault a R) := by
  rw [f_X11_fault, f_X12_fault]
  obtain ⟨-, -, -, e1, e2⟩ := h.1
  by_cases h1 : a = 0
  · rw [if_pos h1, if_pos h1, e1]; exact ⟨_, C, R, rfl, rfl, h⟩
  rw [if_neg h1, if_neg h1]
  by_cases h2 : a = 1
  · rw [if_pos h2, if_pos h2, e2]; exact ⟨_, C, R, rfl, rfl, h⟩
  rw [if_neg h2, if_neg h2]; exact ⟨_, C, R, rfl, rfl, h⟩
theorem m_lived (h : Rel C R) (a : Int32) : OK2 (f_X11_lived a C) (f_X12_lived a R) := by
  obtain ⟨hs, ho⟩ := h
  obtain ⟨-, -, -, ⟨⟨e1, e2⟩, e3⟩, -⟩ := id ho
  rw [f_X11_lived, f_X12_lived]
  rcases ix a (n := 5) (by decide) with hx | ⟨j, hj, rfl⟩
  · rw [withinF 5 5 rfl hx, bnd_some, if_pos i00]
    by_cases h0 : a < 0
    · rw [if_pos h0]; exact fin_ref hs SqC.rf SqR.rf ho 1
    · have h5 : ¬ a ≤ 4 := by
        have := hx.resolve_left h0
        rw [i_le] at this ⊢
        rw [nI_toInt (by decide)] at this
        rw [show (4 : Int32).toInt = 4 from by decide]
        omega
      rw [if_neg h0, if_neg h5]; exact fin_ref hs SqC.rf SqR.rf ho 1
  · rw [withinT 5 5 rfl (by decide) hj, bnd_some, if_neg i10, if_neg (nI_pos (by omega)), if_pos (show nI j ≤ (4 : Int32) from nI_le (b := 4) (by omega) (by decide)), e1]
    by_cases h1 : gI R 0 40 = 0
    · rw [if_pos h1, if_pos h1]; exact fin_ref hs SqC.rf SqR.rf ho 6
    · rw [if_neg h1, if_neg h1, if_neg (nI_in hj (by decide)), nI_clamp (by omega), p_cell (n := 5) zC_26 hj (by decide), bnd_some, e3 j hj]
      exact fin_giv hs SqC.rf SqR.rf ho _
theorem m_sense (h : Rel C R) (a : Int32) : OK2 (f_X11_sense a C) (f_X12_sense a R) := by
  obtain ⟨hs, ho⟩ := h
  obtain ⟨K, hw, hC, hR, h0, h1⟩ := ho.get
  have hn := hw.n1
  rw [f_X11_sense, f_X12_sense, if_neg (nn h0)]
  rcases ix a (n := nK K 1) (by omega) with hx | ⟨j, hj, rfl⟩
  · rw [hasF 1 1 rfl hC hw (by decide) hx, bnd_some, if_pos i00, r_isF isCueE hR hw (by decide) hx, bnd_some, if_pos i00]
    exact fin_ref hs SqC.rf SqR.rf ho 1
  · obtain ⟨q1, q2⟩ := r_rd (e := 10 + nI j) (j := 10 + j) (by rw [litI, nI_add]) (by omega)
    rw [hasT 1 1 rfl hC hw (by decide) hj, bnd_some, if_neg i10, if_neg (nn h0), r_isT isCueE hR hw (by decide) hj, bnd_some, if_neg i10, if_neg q1, q2, p_senseOf h0 hC hw hj, bnd_some, hR.sense hj]
    exact fin_giv hs SqC.rf SqR.rf ho _
theorem m_cueAt (h : Rel C R) (a b : Int32) : OK2 (f_X11_cueAt a b C) (f_X12_cueAt a b R) := by
  obtain ⟨hs, ho⟩ := h
  obtain ⟨K, hw, hC, hR, h0, h1⟩ := ho.get
  have hn := hw.n3
  have hn1 := hw.n1
  rw [f_X11_cueAt, f_X12_cueAt, if_neg (nn h0)]
  rcases ix a (n := nK K 3) (by omega) with hx | ⟨j, hj, rfl⟩
  · rw [hasF 3 3 rfl hC hw (by decide) hx, bnd_some, if_pos i00, r_isPersonF hR hw hx, bnd_some, if_pos i00]
    exact fin_ref hs SqC.rf SqR.rf ho 1
  · rw [hasT 3 3 rfl hC hw (by decide) hj, bnd_some, if_neg i10, r_isPersonT hR hw hj, bnd_some, if_neg i10]
    rcases ix b (n := 10) (by decide) with hx | ⟨w, hwm, rfl⟩
    · rw [withinF 10 10 rfl hx, bnd_some, if_pos i00, r_from0F 10 (by decide) hx (by decide), bnd_some, if_pos i00]
      exact fin_ref hs SqC.rf SqR.rf ho 1
    · rw [withinT 10 10 rfl (by decide) hwm, bnd_some, if_neg i10, if_neg (nn h0), r_from0T 10 (by decide) hwm (by decide), bnd_some, if_neg i10, p_cueBefore h0 hC hw hj, bnd_some, if_neg (nn h0), r_pcueFor hR hw hj rfl (by omega), bnd_some]
      refine fin_orN hs SqC.rf SqR.rf ho _ ?_
      rw [pcueN, cueN_K hw, pcueK]
      rcases cueK_in hw (K 11 j) (K 12 j) (nI w) (K 13 j) with e | ⟨i, h1, e⟩
      · rw [e, if_pos rfl, if_pos rfl, hn1.1, hasF 1 1 rfl hC hw (by decide) (Or.inr (Int32.le_refl _)), bnd_some, if_pos i00]
      · rw [e, if_neg (nI_ne_m1 (by omega)), if_neg (nI_ne_m1 (by omega)), hasT 1 1 rfl hC hw (by decide) h1, bnd_some, if_neg i10]
theorem m_cue (h : Rel C R) (a : Int32) : OK2 (f_X11_cue a C) (f_X12_cue a R) := by
  obtain ⟨K, hw, hC, hR, h0, h1⟩ := h.2.get
  have h2 := m_cueAt h a (gI C (gR C 0 0) 12)
  obtain ⟨w, hw9, hwm⟩ := hw.2.2.2.2.2.2.1
  rw [hC.2.2.2.2.2.2.1, hwm] at h2
  rw [f_X11_cue, if_neg (nn h0), hC.2.2.2.2.2.2.1, hwm]
  obtain ⟨r, C', R', e1, e2, e3⟩ := h2
  refine ⟨r, C', R', by rw [e1]; rfl, ?_, e3⟩
  rw [f_X12_cueAt] at e2
  rw [f_X12_cue]
  cases hp : f_X12_isPerson a.toInt64 R with
  | none => rw [hp] at e2; cases e2
  | some x =>
    obtain ⟨v, R1⟩ := x
    rw [hp, bnd_some] at e2
    rw [bnd_some]
    by_cases hv : v = 0
    · rw [if_pos hv] at e2 ⊢; exact e2
    · rw [if_neg hv] at e2 ⊢
      rw [r_from0T 10 (by decide) (by omega) (by decide), bnd_some, if_neg i10] at e2
      have hR1 : R1 = R := by
        rw [f_X12_isPerson] at hp
        repeat' split at hp
        all_goals (cases hp; rfl)
      subst hR1
      rw [hR.warm, hwm]
      exact e2
theorem m_bears (h : Rel C R) (a : Int32) : OK2 (f_X11_bears a C) (f_X12_bears a R) := by
  obtain ⟨hs, ho⟩ := h
  obtain ⟨K, hw, hC, hR, h0, h1⟩ := ho.get
  have hn := hw.n3
  obtain ⟨w, hw9, hwm⟩ := hw.2.2.2.2.2.2.1
  rw [f_X11_bears, f_X12_bears, if_neg (nn h0)]
  rcases ix a (n := nK K 3) (by omega) with hx | ⟨j, hj, rfl⟩
  · rw [hasF 3 3 rfl hC hw (by decide) hx, bnd_some, if_pos i00, r_isPersonF hR hw hx, bnd_some, if_pos i00]
    exact fin_ref hs SqC.rf SqR.rf ho 1
  · have e := hC.2.2.2.1 j hj
    rw [hasT 3 3 rfl hC hw (by decide) hj, bnd_some, if_neg i10, if_neg (nn h0), p_personAt (by omega), bnd_some, if_neg (nn (shC_per h0 (by omega))), if_neg (nn h0), if_neg (nn h0), e 0 (by decide), e 1 (by decide), e 2 (by decide), hC.2.2.2.2.2.2.1, p_ruleFor h0 hC hw, bnd_some,
      r_isPersonT hR hw hj, bnd_some, if_neg i10, hR.warm, r_pruleFor hR hw hj hwm hw9, bnd_some]
    exact fin_orN hs SqC.rf SqR.rf ho _ rfl
theorem small5 {a : Int32} (h0 : ¬ a < 0) (hx : nI 5 ≤ a) : ¬ a ≤ 4 := by
  rw [i_le] at hx ⊢
  rw [nI_toInt (by decide)] at hx
  rw [show (4 : Int32).toInt = 4 from by decide]
  omega
theorem m_person (h : Rel C R) (a b : Int32) : OK2 (f_X11_person a b C) (f_X12_person a b R) := by
  obtain ⟨hs, ho⟩ := h
  obtain ⟨K, hw, hC, hR, h0, h1⟩ := ho.get
  have hn := hw.n3
  rw [f_X11_person, f_X12_person, if_neg (nn h0)]
  rcases ix a (n := nK K 3) (by omega) with hx | ⟨j, hj, rfl⟩
  · rw [hasF 3 3 rfl hC hw (by decide) hx, bnd_some, if_pos i00, r_isPersonF hR hw hx, bnd_some, if_pos i00]
    exact fin_ref hs SqC.rf SqR.rf ho 1
  · have e := hC.2.2.2.1 j hj
    obtain ⟨f0, f1, f2, f3, f4⟩ := hR.per hj
    obtain ⟨hg, -⟩ := hw.2.2.2.1 j hj
    rw [hasT 3 3 rfl hC hw (by decide) hj, bnd_some, if_neg i10, if_neg (nn h0), p_personAt (by omega), bnd_some, if_neg (nn (shC_per h0 (by omega))), r_isPersonT hR hw hj, bnd_some, if_neg i10]
    rcases ix b (n := 5) (by decide) with hx | ⟨w, hwm, rfl⟩
    · have hne : ∀ v : Nat, v < 5 → ¬ b = nI v := by
        intro v hv z
        subst z
        rcases hx with h | h
        · exact nI_pos (by omega) h
        · exact nI_ge hv (by decide) h
      rw [if_neg (show ¬ b = 0 from hne 0 (by decide)), if_neg (show ¬ b = 1 from hne 1 (by decide)), if_neg (show ¬ b = 2 from hne 2 (by decide)), if_neg (show ¬ b = 3 from hne 3 (by decide)), if_neg (show ¬ b = 4 from hne 4 (by decide))]
      by_cases hb : b < 0
      · rw [if_pos hb]; exact fin_ref hs SqC.rf SqR.rf ho 1
      · rw [if_neg hb, if_neg (small5 hb (hx.resolve_left hb))]; exact fin_ref hs SqC.rf SqR.rf ho 1
    · rw [if_neg (nI_pos (by omega) : ¬ nI w < 0), if_pos (show nI w ≤ (4 : Int32) from nI_le (b := 4) (by omega) (by decide)), r_personOf (by omega) (by omega), bnd_some]
      rcases (show w = 0 ∨ w = 1 ∨ w = 2 ∨ w = 3 ∨ w = 4 by omega) with rfl | rfl | rfl | rfl | rfl
      · rw [if_pos (show nI 0 = (0 : Int32) from rfl), f0, e 1 (by decide)]; exact fin_giv hs SqC.rf SqR.rf ho _
      · rw [if_neg (show ¬ nI 1 = (0 : Int32) by decide), if_pos (show nI 1 = (1 : Int32) from rfl), f1, e 2 (by decide)]; exact fin_giv hs SqC.rf SqR.rf ho _
      · rw [if_neg (show ¬ nI 2 = (0 : Int32) by decide), if_neg (show ¬ nI 2 = (1 : Int32) by decide), if_pos (show nI 2 = (2 : Int32) from rfl), f2, e 3 (by decide)]; exact fin_giv hs SqC.rf SqR.rf ho _
      · rw [if_neg (show ¬ nI 3 = (0 : Int32) by decide), if_neg (show ¬ nI 3 = (1 : Int32) by decide), if_neg (show ¬ nI 3 = (2 : Int32) by decide), if_pos (show nI 3 = (3 : Int32) from rfl), f3, e 0 (by decide)]
        rcases hg with g | g
        · rw [if_pos (show K (11 + 0) j = 1 from g), g]; exact fin_giv hs SqC.rf SqR.rf ho _
        · rw [if_neg (show ¬ K (11 + 0) j = 1 from by rw [show K (11 + 0) j = 2 from g]; decide), g]; exact fin_giv hs SqC.rf SqR.rf ho _
      · rw [if_neg (show ¬ nI 4 = (0 : Int32) by decide), if_neg (show ¬ nI 4 = (1 : Int32) by decide), if_neg (show ¬ nI 4 = (2 : Int32) by decide), if_neg (show ¬ nI 4 = (3 : Int32) by decide), if_pos (show nI 4 = (4 : Int32) from rfl), f4, e 4 (by decide)]; exact fin_giv hs SqC.rf SqR.rf ho _
end READS
