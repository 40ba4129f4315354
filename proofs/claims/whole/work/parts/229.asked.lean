/-! ask: the reference's questions, one by one -/
theorem div10 {k : Nat} (hk : k < 2 ^ 31) : nI k / 10 = nI (k / 10) ∧ nI k - nI k / 10 * 10 = nI (k % 10) := ⟨pk_div (d := 10) hk (by decide) (by decide), pk_rem (d := 10) hk (by decide) (by decide)⟩
theorem r_val {R0 R : Mem} {K : Kt} (hR : IsR R0 0 K) (hw : WFK K) {i n k : Nat} (hT : ∀ k, k < n → okT K R0 i k) (hL : LdF K R0 i n (2 ^ nK K 3) R) (hk : k < 10 * nK K 3) (hz : ¬ allW K R0 i n = 0) :
    ∃ R', f_X12_mostAlike (nI k / 10) (nI k - nI k / 10 * 10) R = some (nI (if gdB K R0 i n k = true then allW K R0 i n / 2 else allW K R0 i n), R') ∧ LdF K R0 i n (2 ^ nK K 3) R' := by
  have hn := hw.n3
  obtain ⟨d1, d2⟩ := div10 (k := k) (by omega)
  obtain ⟨R', e1, e2⟩ := r_most hR hw hL (p := k / 10) (w := k % 10) (by omega) (by omega)
  refine ⟨R', ?_, e2⟩
  rw [d2, d1, e1]
  congr 3
  unfold gdB
  rcases gui3 hT (p := k / 10) (by omega) hz with ⟨c1, A, c2, c3, c4⟩ | ⟨c1, c2, c3⟩ | ⟨c1, c2, c3⟩
  · rw [c1, c4]
    cases disB K (k / 10) (k % 10) with
    | true => simp; omega
    | false => rfl
  · rw [c1, c3, show (!true && disB K (k / 10) (k % 10)) = false from rfl, if_neg (by decide : ¬ false = true)]
    split
    · omega
    · rfl
  · rw [c1, c3, show (!true && disB K (k / 10) (k % 10)) = false from rfl, if_neg (by decide : ¬ false = true)]
    split
    · omega
    · rfl
theorem r_after {R0 : Mem} {K : Kt} (hR : IsR R0 0 K) (hw : WFK K) {i n k0 : Nat} (hT : ∀ k, k < n → okT K R0 i k) (hz : ¬ allW K R0 i n = 0) (a3 : Int32) :
    ∀ d k fu D, k + d = 10 * nK K 3 → d < fu → LdF K R0 i n (2 ^ nK K 3) D → ∃ D', f_X12_ask_L65 a3 fu (nI (allW K R0 i n / 2)) (nI k0) (nI k) D = some (nI k0, D') ∧ LdF K R0 i n (2 ^ nK K 3) D' := by
  have hn := hw.n3
  have h6 := pow_le6 hn.2
  have le : allW K R0 i n ≤ 2 ^ nK K 3 := cnt_le _ _
  have m10 : (10 : Int32) * nI (nK K 3) = nI (10 * nK K 3) := by rw [litI, pk_mul]
  intro d
  induction d with
  | zero =>
    intro k fu D h1 h2 h3
    obtain ⟨fu, rfl⟩ : ∃ k, fu = k + 1 := ⟨fu - 1, by omega⟩
    have e : k = 10 * nK K 3 := by omega
    subst e
    exact ⟨D, by rw [f_X12_ask_L65, (hR.fg hw h3.1).cnt (by decide), hn.1, m10, if_pos (Int32.le_refl _)], h3⟩
  | succ d ih =>
    intro k fu D h1 h2 h3
    obtain ⟨fu, rfl⟩ : ∃ k, fu = k + 1 := ⟨fu - 1, by omega⟩
    obtain ⟨D1, e1, e2⟩ := r_val hR hw hT h3 (k := k) (by omega) hz
    have nlt : ¬ nI (if gdB K R0 i n k = true then allW K R0 i n / 2 else allW K R0 i n) < nI (allW K R0 i n / 2) := nI_nlt (by split <;> omega) (by split <;> omega)
    rw [f_X12_ask_L65, (hR.fg hw h3.1).cnt (by decide), hn.1, m10, if_neg (nI_ge (by omega) (by omega)), e1, bnd_some, if_neg nlt, letF, nI_s]
    exact ih (k + 1) fu D1 (by omega) (by omega) e2
theorem r_before {R0 : Mem} {K : Kt} (hR : IsR R0 0 K) (hw : WFK K) {i n : Nat} (hT : ∀ k, k < n → okT K R0 i k) (hz : 2 ≤ allW K R0 i n) (a3 : Int32) :
    ∀ d k fu D l, k + d = 10 * nK K 3 → d < fu → LdF K R0 i n (2 ^ nK K 3) D → (∀ j, j < k → gdB K R0 i n j = false) → (l = allW K R0 i n ∨ (k = 0 ∧ l = 1000000)) → ∃ q D', f_X12_ask_L65 a3 fu (nI l) (nI 0) (nI k) D = some (nI q, D') ∧ LdF K R0 i n (2 ^ nK K 3) D' ∧ ((q < 10 * nK K 3 ∧ gdB K R0 i n q = true ∧ ∀ j, j < q → gdB K R0 i n j = false) ∨ (q = 0 ∧ ∀ j, j < 10 * nK K 3 → gdB K R0 i n j = false)) := by
  have hn := hw.n3
  have h6 := pow_le6 hn.2
  have le : allW K R0 i n ≤ 2 ^ nK K 3 := cnt_le _ _
  have m10 : (10 : Int32) * nI (nK K 3) = nI (10 * nK K 3) := by rw [litI, pk_mul]
  intro d
  induction d with
  | zero =>
    intro k fu D l h1 h2 h3 h4 h5
    obtain ⟨fu, rfl⟩ : ∃ k, fu = k + 1 := ⟨fu - 1, by omega⟩
    have e : k = 10 * nK K 3 := by omega
    subst e
    exact ⟨0, D, by rw [f_X12_ask_L65, (hR.fg hw h3.1).cnt (by decide), hn.1, m10, if_pos (Int32.le_refl _)], h3, Or.inr ⟨rfl, h4⟩⟩
  | succ d ih =>
    intro k fu D l h1 h2 h3 h4 h5
    obtain ⟨fu, rfl⟩ : ∃ k, fu = k + 1 := ⟨fu - 1, by omega⟩
    obtain ⟨D1, e1, e2⟩ := r_val hR hw hT h3 (k := k) (by omega) (by omega)
    have hl : l ≤ 1000000 := by omega
    rw [f_X12_ask_L65, (hR.fg hw h3.1).cnt (by decide), hn.1, m10, if_neg (nI_ge (by omega) (by omega)), e1, bnd_some]
    cases e : gdB K R0 i n k with
    | true =>
      obtain ⟨D', a1, a2⟩ := r_after hR hw (k0 := k) hT (by omega) a3 d (k + 1) fu D1 (by omega) (by omega) e2
      rw [if_pos rfl, if_pos (nI_lt (by omega) (by omega)), letF, nI_s]
      exact ⟨k, D', a1, a2, Or.inl ⟨by omega, e, h4⟩⟩
    | false =>
      have nx : ∀ j, j < k + 1 → gdB K R0 i n j = false := fun j hj => by
        by_cases y : j = k
        · rw [y]; exact e
        · exact h4 j (by omega)
      rw [show ∀ x y : Nat, (if false = true then x else y) = y from fun _ _ => rfl]
      rcases h5 with h5 | ⟨h5, h6⟩
      · rw [if_neg (nI_nlt (by omega) (by omega)), letF, nI_s]
        exact ih (k + 1) fu D1 l (by omega) (by omega) e2 nx (Or.inl h5)
      · subst h5
        rw [if_pos (nI_lt (by omega) (by omega)), letF, nI_s]
        exact ih (0 + 1) fu D1 _ (by omega) (by omega) e2 nx (Or.inl rfl)
section ASK
variable {C R : Mem}
theorem m_ask (h : Rel C R) (a b d : Int32) : OK2 (f_X11_ask a b d C) (f_X12_ask a b d R) := by
  obtain ⟨hs, ho⟩ := h
  obtain ⟨K, hw, hC, hR, h0, h1⟩ := ho.get
  have hn3 := hw.n3
  have h6 := pow_le6 hn3.2
  rw [f_X11_ask, f_X12_ask]
  rcases ix d (n := 2) (by decide) with hx | ⟨w, hwm, rfl⟩
  · have eJ : f_X12_ask_J9 a b d R = bnd (f_X12_refuse 1 R) fun r M => some (r, M) := by rw [f_X12_ask_J9, f_X12_ask_J19, if_neg (by decide)]
    rw [withinF 2 2 rfl hx, bnd_some, if_pos i00, f_X11_ask_J18, if_neg i10, eJ]
    by_cases hd : d < 0
    · rw [if_pos hd]; exact fin_ref hs SqC.rf SqR.rf ho 1
    · have : ¬ d ≤ 1 := by
        have := hx.resolve_left hd
        rw [i_le] at this ⊢
        rw [nI_toInt (by decide)] at this
        rw [show (1 : Int32).toInt = 1 from by decide]
        omega
      rw [if_neg hd, if_neg this]; exact fin_ref hs SqC.rf SqR.rf ho 1
  rw [withinT 2 2 rfl (by decide) hwm, bnd_some, if_neg i10, if_neg (nI_pos (by omega) : ¬ nI w < 0), if_pos (show nI w ≤ (1 : Int32) from nI_le (b := 1) (by omega) (by decide))]
  rcases threes2 ho h0 hC hR hw a b with ⟨x, C', x1, x2, e1, e2, e3⟩ | ⟨i, n, C', rfl, rfl, hi, hn, hT, e1, e2, e3, e4, e5⟩
  · rw [e1, e2, bnd_some, bnd_some, f_X11_ask_J18, f_X12_ask_J19, if_neg x1, if_neg (Int32.not_le.mpr x2)]
    exact fin_ref hs e3.sq SqR.rf (ho.cg e3.eq EqR.rf) x
  · obtain ⟨R', r1, r2⟩ := r_laysFits hR hw hi hn hT
    have g0 : gR C' 0 0 = gR C 0 0 := e3.2.2 _ _
    have le : allW K R i n ≤ 2 ^ nK K 3 := cnt_le _ _
    have a24 : gI R' 0 24 = nI (allW K R i n) := r2.2.2
    have h0' : shC (gR C' 0 0) = 0 := by rw [g0]; exact h0
    have hC' : IsC C' (gR C' 0 0) K := by rw [g0]; exact hC.fs h0 hw e3
    rw [e1, e2, bnd_some, bnd_some, f_X11_ask_J18, f_X12_ask_J19, if_pos i00, if_pos (Int32.le_refl _), p_ways h0' hC' hw hT e4 e5, bnd_some, r1, bnd_some, a24]
    by_cases hz : 2 ≤ allW K R i n
    · obtain ⟨s, s1, s2⟩ := ask_2 h0' hC' hw (R := R) (i := i) (n := n) e4 e5 (nK K 3) 0 fz (by omega) (by rw [fz_is]; omega) (fun k hk => by omega)
      obtain ⟨q, R2, q1, q2, q3⟩ := r_before hR hw hT hz (nI w) (10 * nK K 3) 0 fz R' 1000000 (by omega) (by rw [fz_is]; omega) r2 (fun k hk => by omega) (Or.inr ⟨rfl, rfl⟩)
      have s1' : f_X11_bestQuestion_L2 fz 0 C' = some (s, C') := s1
      have q1' : f_X12_ask_L65 (nI w) fz 1000000 0 0 R' = some (nI q, R2) := q1
      have hq : f_X11_bestQuestion C' = some (nI q, C') := by
        rw [f_X11_bestQuestion, s1', bnd_some]
        rcases s2 with ⟨s3, p', w', s4, s5, s6, s7, s8⟩ | ⟨s3, s4⟩
        · rw [if_pos s3, s6]
          have e10 : nI p' * 10 + nI w' = nI (10 * p' + w') := by rw [litI, pk_mul, nI_add, Nat.mul_comm]
          rw [e10]
          rcases q3 with ⟨q3, q4, q5⟩ | ⟨q3, q4⟩
          · have : q = 10 * p' + w' := by
              rcases Nat.lt_trichotomy q (10 * p' + w') with y | y | y
              · rw [s8 q y] at q4; cases q4
              · exact y
              · rw [q5 _ y] at s7; cases s7
            rw [this]
          · rw [q4 (10 * p' + w') (by omega)] at s7; cases s7
        · rw [if_neg (by rw [s3]; decide)]
          rcases q3 with ⟨q3, q4, q5⟩ | ⟨q3, q4⟩
          · rw [s4 q q3] at q4; cases q4
          · rw [q3]; rfl
      rw [if_pos (show (2 : Int32) ≤ nI (allW K R i n) from nI_le (a := 2) hz (by omega)), if_pos (show (2 : Int32) ≤ nI (allW K R i n) from nI_le (a := 2) hz (by omega)), hq, bnd_some, q1', bnd_some]
      by_cases hw0 : nI w = 0
      · rw [if_pos hw0, if_pos hw0]
        exact fin_giv hs e3.sq q2.1.sq (ho.cg e3.eq q2.1.eq) _
      · rw [if_neg hw0, if_neg hw0]
        exact fin_giv hs e3.sq q2.1.sq (ho.cg e3.eq q2.1.eq) _
    · have : ¬ (2 : Int32) ≤ nI (allW K R i n) := nI_ge (b := 2) (by omega) (by decide)
      rw [if_neg this, if_neg this]
      exact fin_ref hs e3.sq r2.1.sq (ho.cg e3.eq r2.1.eq) 6
end ASK
