/-! LIFE: STOP, WHEN and LOOP -/
section OPENS
variable {C0 R0 C R C' R' : Mem} {c m : Nat} {K0 K K' : Kt} {n x : Nat}
theorem does_opn {j : Nat} (hj : j < 60) (h15 : ∀ v : Nat, 15 ≤ v → v ≤ 21 → ¬ gI R 1 (134 + 6 * j) = nI v) : f_X12_does (nI (134 + 6 * j)) R = some (1, R) := by
  obtain ⟨z1, z2⟩ := r_row (i := 0) hj (by omega) (e := nI (134 + 6 * j)) rfl
  obtain ⟨z3, z4⟩ := r_row (i := 1) hj (by omega) (e := nI (134 + 6 * j) + 1) (nI_s _)
  obtain ⟨z5, z6⟩ := r_row (i := 2) hj (by omega) (e := nI (134 + 6 * j) + 2) (nI_add _ 2)
  rw [f_X12_does, if_neg z3, z4, letF, if_neg z5, z6, letF, if_neg z1, show (nI (134 + 6 * j)).toNatClampNeg = 134 + 6 * j from z2, letF, if_neg (show ¬ gI R 1 (134 + 6 * j) = (15 : Int32) from h15 15 (by omega) (by omega)), if_neg (show ¬ gI R 1 (134 + 6 * j) = (16 : Int32) from h15 16 (by omega) (by omega)), if_neg (show ¬ gI R 1 (134 + 6 * j) = (17 : Int32) from h15 17 (by omega) (by omega)), if_neg (show ¬ gI R 1 (134 + 6 * j) = (18 : Int32) from h15 18 (by omega) (by omega)), if_neg (show ¬ gI R 1 (134 + 6 * j) = (19 : Int32) from h15 19 (by omega) (by omega)), if_neg (show ¬ gI R 1 (134 + 6 * j) = (20 : Int32) from h15 20 (by omega) (by omega)), if_neg (show ¬ gI R 1 (134 + 6 * j) = (21 : Int32) from h15 21 (by omega) (by omega))]
theorem row_stp (hc : shC c = 0) (hm0 : gI R0 1 8 = nI m) (hm : m ≤ 60) {j s : Nat} (hj : j < m) (hs : s < 30) (h25 : gI R0 1 (134 + 6 * j) = 25) (h24 : gI C0 (c + 25) (5 * s) = 24) (hn : n < 300) (h : Run C0 c R0 K0 n C R) :
    ∃ C' R', Fin2 C0 c R0 K0 C' R' 1 ∧ (∀ self a3 a4 fu b7, ¬ (30 : Int32) ≤ b7 → ¬ a3 ≤ nI s → f_X2_runSteps_L12 self c a3 a4 (c + 24) (fu + 2) (nI s) b7 C = some ((), C')) ∧ Ev 1 j 1 R (1, R') := by
  obtain ⟨K, x, hk, h5, h6⟩ := h
  have h3 := hk.2.2.2.2.2.2.2.2.1
  have h11 := hk.2.2.2.2.2.2.2.2.2.2.1
  have st := hk.step hc
  have lo := isC_lo hc
  have ca : f_X9_cellAt (c + 24) (nI s) 0 (sI C 25 3 (nI (n + 1))) = some (24, sI C 25 3 (nI (n + 1))) := by
    have := p_cellAt (i := 0) hc hs (by omega) (sI C 25 3 (nI (n + 1)))
    rw [show 5 * s + 0 = 5 * s from rfl, st.cl hc, h24] at this
    exact this
  have m4 : gI (sI C 25 3 (nI (n + 1))) 25 4 = gI C 25 4 := by rw [gI_I, if_neg (by omega)]
  refine ⟨sI (sI (sI C 25 3 (nI (n + 1))) 25 6 1) 25 4 (gI C 25 4 + 0), sI R 0 36 (nI (n + 1)), ⟨n + 1, K, x, by omega, ?_, by rw [gI_I, if_neg (by omega), gI_same], Or.inr ⟨rfl, by rw [gI_I, if_neg (by omega), gI_I, if_neg (by omega), gI_I, if_neg (by omega), h5]⟩⟩, fun self a3 a4 fu b7 z1 z2 => ?_, ?_⟩
  · exact hk.set hc (fun a k z => by rw [gI_I, if_neg (by omega), gI_I, if_neg (by omega), gI_I, if_neg (by omega)]) (fun _ _ => rfl) (fun _ _ => rfl) (fun a k z1 z2 z3 => by rw [gI_I, if_neg (by omega)]) (fun _ _ => rfl) (by rw [gI_I, if_neg (by omega), gI_I, if_neg (by omega), gI_same]) (gI_same _ _ _ _) (by rw [gI_same, gI_I, if_neg (by omega), Int32.add_zero, h11])
  · rw [f_X2_runSteps_L12, if_neg z1, if_neg z2, p_comes h3 h6 hn, bnd_some, if_neg i10, ca, bnd_some, letF, if_neg (show ¬ (24 : Int32) = 22 by decide), if_neg (show ¬ (24 : Int32) = 23 by decide), f_X2_does, show (2 : Int32) = nI 2 from rfl, show (3 : Int32) = nI 3 from rfl, p_cellAt hc hs (by omega), bnd_some, p_cellAt hc hs (by omega), bnd_some, if_neg (show ¬ (24 : Int32) = 15 by decide), if_neg (show ¬ (24 : Int32) = 16 by decide), if_neg (show ¬ (24 : Int32) = 17 by decide), if_neg (show ¬ (24 : Int32) = 18 by decide), if_neg (show ¬ (24 : Int32) = 19 by decide), if_neg (show ¬ (24 : Int32) = 20 by decide), if_neg (show ¬ (24 : Int32) = 21 by decide), letF, bnd_some, if_neg i10, m4, letF, letF]
    exact over_L12 _ _ _ _ _ _ _ _ (by rw [gI_I, if_neg (by omega), gI_same])
  · refine ev_row (hk.m8.trans hm0) hm hj (by rw [hk.at, h25]; decide) (fun fu => ?_)
    rw [r_come hk hm0 hm hj hn, if_pos h25]
/-- what a row that opens a block leads to -/
theorem row_opn (hc : shC c = 0) (hm0 : gI R0 1 8 = nI m) (hm : m ≤ 60) {j p s cp : Nat} (hj : j < m) (hp : p < 60) (hs : s < 30) (hrow : opnW K0 (fun k => gI C0 (c + 25) k) (fun k => gI R0 1 (134 + k)) j s) (hbe : gI R0 1 (134 + 6 * j + 4) = nI p) (hcp : gI C0 (c + 25) (5 * s + 4) = nI cp) (hn : n < 300) (h : Run C0 c R0 K0 n C R) :
    ∃ T C' R', Run C0 c R0 K0 (n + 1) C' R' ∧ (∀ k, k ≠ j → gI R' 17 k = gI R 17 k) ∧ (∀ self a3 a4 fu b7, ¬ (30 : Int32) ≤ b7 → ¬ a3 ≤ nI s → f_X2_runSteps_L12 self c a3 a4 (c + 24) (fu + 1) (nI s) b7 C = bnd (f_X2_runSteps_L109 self c a3 a4 (c + 24) (nI s) b7 (nI cp) (nI T) fz 0 C') fun _ M => f_X2_runSteps_L12 self c a3 a4 (c + 24) fu (nI cp) (b7 + 1) M) ∧
      ((T = 0 ∧ ∀ nb f out, nb ≤ 6200 → Ev nb (p + 1) f R' out → Ev 1 j (f + 1) R out) ∨
       ∃ t, T = t + 1 ∧ t ≤ 98 ∧ ((gI R0 1 (134 + 6 * j) = 23 ∧ gI R' 17 j = nI t) ∨ (¬ gI R0 1 (134 + 6 * j) = 23 ∧ t = 0)) ∧ ∀ nb f out, nb ≤ 6200 → Ev nb (j + 1) f R' out → Ev 1 j (f + 1) R out) := by
  obtain ⟨K, x, hk, h5, h6⟩ := h
  have h3 := hk.2.2.2.2.2.2.2.2.1
  have h11 := hk.2.2.2.2.2.2.2.2.2.2.1
  have st := hk.step hc
  have lo := isC_lo hc
  obtain ⟨z1, z2⟩ := r_row (j := j) (i := 0) (by omega) (by omega) (e := nI (134 + 6 * j)) rfl
  have z2' : (nI (134 + 6 * j)).toNatClampNeg = 134 + 6 * j := z2
  obtain ⟨z3, z4⟩ := r_row (j := j) (i := 1) (by omega) (by omega) (e := nI (134 + 6 * j) + 1) (nI_s _)
  obtain ⟨z5, z6⟩ := r_row (j := j) (i := 4) (by omega) (by omega) (e := nI (134 + 6 * j) + 4) (nI_add _ 4)
  obtain ⟨y1, y2, y3⟩ := o_rd (o := j) (by omega)
  have run1 : Run C0 c R0 K0 (n + 1) (sI C 25 3 (nI (n + 1))) (sI R 0 36 (nI (n + 1))) := ⟨K, x, st, by rw [gI_I, if_neg (by omega), h5], by rw [gI_I, if_neg (by omega), h6]⟩
  have l17 : ∀ k, gI (sI R 0 36 (nI (n + 1))) 17 k = gI R 17 k := fun k => by rw [gI_I, if_neg (by omega)]
  have id18 : sI (sI R 0 36 (nI (n + 1))) 18 0 (gI R 18 0 + 0) = sI R 0 36 (nI (n + 1)) := by
    have e : gI R 18 0 + 0 = gI (sI R 0 36 (nI (n + 1))) 18 0 := by rw [Int32.add_zero, gI_I, if_neg (by omega)]
    rw [e, sI_id]
  have e1 : gI (sI R 0 36 (nI (n + 1))) 1 (134 + 6 * j) = gI R0 1 (134 + 6 * j) := st.at _
  have e4 : gI (sI R 0 36 (nI (n + 1))) 1 (134 + 6 * j + 4) = nI p := (st.at (6 * j + 4)).trans hbe
  have ca : ∀ i, i < 5 → f_X9_cellAt (c + 24) (nI s) (nI i) (sI C 25 3 (nI (n + 1))) = some (gI C0 (c + 25) (5 * s + i), sI C 25 3 (nI (n + 1))) := fun i hi => by
    rw [p_cellAt hc hs hi, st.cl hc]
  have ca0 : f_X9_cellAt (c + 24) (nI s) 0 (sI C 25 3 (nI (n + 1))) = some (gI C0 (c + 25) (5 * s), sI C 25 3 (nI (n + 1))) := ca 0 (by omega)
  have ca4 : f_X9_cellAt (c + 24) (nI s) 4 (sI C 25 3 (nI (n + 1))) = some (nI cp, sI C 25 3 (nI (n + 1))) := by rw [← hcp]; exact ca 4 (by omega)
  have ca2 : f_X9_cellAt (c + 24) (nI s) 2 (sI C 25 3 (nI (n + 1))) = some (gI C0 (c + 25) (5 * s + 2), sI C 25 3 (nI (n + 1))) := ca 2 (by omega)
  have c0 : (0 : Int32).toNatClampNeg = 0 := by decide
  have b0 : ¬ ((0 : Int32) < 0 ∨ 5 ≤ (0 : Int32).toNatClampNeg) := by decide
  rcases hrow with ⟨a1, a2, v, v1, v2, v3, v4⟩ | ⟨a2, hw⟩
  · have a1' : gI R0 1 (134 + 6 * j) = 23 := a1
    have a2' : gI C0 (c + 25) (5 * s) = 23 := a2
    have v3' : gI (sI R 0 36 (nI (n + 1))) 1 (134 + 6 * j + 1) = nI v := (st.at (6 * j + 1)).trans v3
    have v4' : gI C0 (c + 25) (5 * s + 2) = nI v := v4
    have e1' : gI (sI (sI R 0 36 (nI (n + 1))) 17 j (nI (v - 1))) 1 (134 + 6 * j) = gI R0 1 (134 + 6 * j) := by rw [gI_I, if_neg (by omega), e1]
    have ev : nI v - 1 = nI (v - 1) := pk_sub (a := v) (b := 1) v1
    refine ⟨v, sI C 25 3 (nI (n + 1)), sI (sI R 0 36 (nI (n + 1))) 17 j (nI (v - 1)), ⟨K, x, ?_, run1.choose_spec.choose_spec.2.1, run1.choose_spec.choose_spec.2.2⟩, fun k hk' => by rw [gI_I, if_neg (by omega), l17], fun self a3 a4 fu b7 w1 w2 => ?_, Or.inr ⟨v - 1, by omega, by omega, Or.inl ⟨a1', gI_same _ _ _ _⟩, fun nb f out hnb hev => ?_⟩⟩
    · exact st.set hc (fun _ _ _ => rfl) (fun _ _ => rfl) (fun _ _ => rfl) (fun a k z1 z2 z3 => by rw [gI_I, if_neg (by omega)]) (fun _ _ => rfl) (gI_same _ _ _ _) (by rw [gI_I, if_neg (by omega), gI_same]) (by rw [gI_I, if_neg (by omega), gI_I, if_neg (by omega), gI_I, if_neg (by omega), h11])
    · rw [f_X2_runSteps_L12, if_neg w1, if_neg w2, p_comes h3 h6 hn, bnd_some, if_neg i10, ca0, bnd_some, a2', letF, if_neg (show ¬ (23 : Int32) = 22 by decide), if_pos rfl, f_X2_runSteps_J62, ca4, bnd_some, if_pos rfl, ca2, bnd_some, v4', f_X2_runSteps_J104]
      rfl
    · obtain ⟨k', R'', g1, g2⟩ := ev_call hev hnb
      refine ev_row (hk.m8.trans hm0) hm hj (by rw [hk.at, a1']; decide) (fun fu => ?_)
      have d : f_X12_does (nI (134 + 6 * j)) (sI R 0 36 (nI (n + 1))) = some (1, sI R 0 36 (nI (n + 1))) := does_opn (by omega) (fun v w1 w2 => by
        rw [e1, a1']
        exact fun z => by have := nI_inj (a := 23) (b := v) (by omega) (by omega) z; omega)
      rw [← Nat.add_assoc, r_come hk hm0 hm hj hn, a1', if_neg (show ¬ (23 : Int32) = 25 by decide), d, bnd_some, if_neg i10, f_X12_lives_J112, if_neg b0, c0, id18, letF, if_neg z1, z2', e1, a1', if_pos rfl, if_neg z3, z4, if_neg y3, y2, v3', ev, letF, f_X12_lives_J141, if_neg z1, z2', e1', a1', if_pos (show (23 : Int32) < 2200 by decide), nI_s, g1, bnd_some]
      exact g2 fu
  · obtain ⟨b, q1, q2⟩ := holds2 hc st (j := j) (by omega) hs hw
    have a2' : gI C0 (c + 25) (5 * s) = 22 := a2
    have big : ¬ gI R0 1 (134 + 6 * j) < (2200 : Int32) ∧ ¬ gI R0 1 (134 + 6 * j) = 23 ∧ ¬ gI R0 1 (134 + 6 * j) = 24 ∧ ¬ gI R0 1 (134 + 6 * j) = 25 ∧ ∀ v : Nat, 15 ≤ v → v ≤ 21 → ¬ gI R0 1 (134 + 6 * j) = nI v := by
      have : ∃ u : Nat, 2200 ≤ u ∧ u < 2300 ∧ gI R0 1 (134 + 6 * j) = nI u := by
        rcases hw with ⟨h, -⟩ | ⟨h, -⟩ | ⟨h, -⟩ | ⟨h, -⟩
        · exact ⟨2226, by omega, by omega, h⟩
        · exact ⟨2227, by omega, by omega, h⟩
        · exact ⟨2228, by omega, by omega, h⟩
        · exact ⟨2211, by omega, by omega, h⟩
      obtain ⟨u, u1, u2, u3⟩ := this
      rw [u3]
      have ne : ∀ v : Nat, v < 2200 → ¬ nI u = nI v := fun v w z => by have := nI_inj (by omega) (by omega) z; omega
      exact ⟨nI_nlt (b := 2200) u1 (by omega), ne 23 (by omega), ne 24 (by omega), ne 25 (by omega), fun v _ w => ne v (by omega)⟩
    obtain ⟨g22, g23, g24, g25, gd⟩ := big
    have d : f_X12_does (nI (134 + 6 * j)) (sI R 0 36 (nI (n + 1))) = some (1, sI R 0 36 (nI (n + 1))) := does_opn (by omega) (fun v w1 w2 => by rw [e1]; exact gd v w1 w2)
    have ref : ∀ f out, (∀ fu, (if bI b = 0 then bnd (f_X12_behindEnds (nI (p + 1)) (sI R 0 36 (nI (n + 1)))) (fun r M => f_X12_lives_L32 (fu + f) r M) else bnd (f_X12_behindEnds (nI (j + 1)) (sI R 0 36 (nI (n + 1)))) (fun r M => f_X12_lives_L32 (fu + f) r M)) = some out) → Ev 1 j (f + 1) R out := by
      intro f out hh
      refine ev_row (hk.m8.trans hm0) hm hj (by rw [hk.at]; exact g24) (fun fu => ?_)
      rw [← Nat.add_assoc, r_come hk hm0 hm hj hn, if_neg g25, d, bnd_some, if_neg i10, f_X12_lives_J112, if_neg b0, c0, id18, letF, if_neg z1, z2', e1, if_neg g23, f_X12_lives_J141, if_neg z1, z2', e1, if_neg g22, q2, bnd_some, if_neg z5, z6, e4, nI_s, nI_s]
      exact hh fu
    refine ⟨if b = true then 1 else 0, sI C 25 3 (nI (n + 1)), sI R 0 36 (nI (n + 1)), run1, fun k _ => l17 k, fun self a3 a4 fu b7 w1 w2 => ?_, ?_⟩
    · rw [f_X2_runSteps_L12, if_neg w1, if_neg w2, p_comes h3 h6 hn, bnd_some, if_neg i10, ca0, bnd_some, a2', letF, if_pos rfl, f_X2_runSteps_J62, ca4, bnd_some, if_neg (show ¬ (22 : Int32) = 23 by decide), q1, bnd_some, f_X2_runSteps_J104, f_X2_runSteps_J104]
      cases b <;> rfl
    · cases b with
      | false =>
        refine Or.inl ⟨rfl, fun nb f out hnb hev => ref f out (fun fu => ?_)⟩
        obtain ⟨k', R'', g1, g2⟩ := ev_call hev hnb
        rw [if_pos (show bI false = 0 from rfl), g1, bnd_some]
        exact g2 fu
      | true =>
        refine Or.inr ⟨0, rfl, by omega, Or.inr ⟨g23, rfl⟩, fun nb f out hnb hev => ref f out (fun fu => ?_)⟩
        obtain ⟨k', R'', g1, g2⟩ := ev_call hev hnb
        rw [if_neg (show ¬ bI true = 0 by decide), g1, bnd_some]
        exact g2 fu
end OPENS
