/-! LIFE: where the reference comes to next -/
def Ev (nb k f : Nat) (R : Mem) (out : Nat × Mem) : Prop := ∃ k' R', (∀ fu, f_X12_behindEnds_L2 (fu + nb) (nI k) R = some (nI k', R')) ∧ ∀ fu, f_X12_lives_L32 (fu + f) (nI k') R' = some out
theorem Ev.mono {nb k f nb' f' : Nat} {R : Mem} {out : Nat × Mem} (h : Ev nb k f R out) (h1 : nb ≤ nb') (h2 : f ≤ f') : Ev nb' k f' R out := by
  obtain ⟨k', R', a, b⟩ := h
  refine ⟨k', R', fun fu => ?_, fun fu => ?_⟩
  · rw [show fu + nb' = fu + (nb' - nb) + nb by omega]; exact a _
  · rw [show fu + f' = fu + (f' - f) + f by omega]; exact b _
section ENDS
variable {R : Mem} {m : Nat} {out : Nat × Mem}
theorem r_at {j i : Nat} (hj : j < 60) (hi : i < 6) {e : Int32} (he : e = nI (134 + 6 * j + i)) : ¬ (e < 0 ∨ 3548 ≤ e.toNatClampNeg) ∧ e.toNatClampNeg = 134 + 6 * j + i := r_rd he (by omega)
theorem r_at0 {j : Nat} (hj : j < 60) : ¬ ((134 : Int32) + (6 : Int32) * nI j < 0 ∨ 3548 ≤ ((134 : Int32) + (6 : Int32) * nI j).toNatClampNeg) ∧ ((134 : Int32) + (6 : Int32) * nI j).toNatClampNeg = 134 + 6 * j := r_rd (by rw [litI, litI, pk_mul, nI_add]) (by omega)
theorem ev_row (hm : gI R 1 8 = nI m) (hm2 : m ≤ 60) {j f : Nat} (hj : j < m) (h24 : ¬ gI R 1 (134 + 6 * j) = 24) (h : ∀ fu, f_X12_lives_L32 (fu + f) (nI j) R = some out) : Ev 1 j f R out := by
  obtain ⟨z1, z2⟩ := r_at0 (j := j) (by omega)
  refine ⟨j, R, fun fu => ?_, h⟩
  rw [f_X12_behindEnds_L2, hm, if_neg (show ¬ nI m ≤ nI j from nI_ge hj (by omega)), if_neg z1, z2, if_neg h24]
theorem ev_end (hm : gI R 1 8 = nI m) (hm2 : m ≤ 60) : Ev 1 m 1 R (2, R) := by
  refine ⟨m, R, fun fu => ?_, fun fu => ?_⟩
  · rw [f_X12_behindEnds_L2, hm, if_pos (Int32.le_refl _)]
  · rw [f_X12_lives_L32, hm, if_pos (Int32.le_refl _)]
theorem o_rd {o : Nat} (ho : o < 80) : ¬ (nI o < 0 ∨ 80 ≤ o) ∧ (nI o).toNatClampNeg = o ∧ ¬ (nI o < 0 ∨ 80 ≤ (nI o).toNatClampNeg) :=
  ⟨fun z => z.elim (nI_pos (by omega)) (by omega), nI_clamp (by omega), nI_in ho (by decide)⟩
theorem ev_next (hm : gI R 1 8 = nI m) (hm2 : m ≤ 60) {p o nb f : Nat} (hp : p < m) (ho : o < p) (h24 : gI R 1 (134 + 6 * p) = 24) (hop : gI R 1 (134 + 6 * p + 4) = nI o) (hno : ¬ gI R 1 (134 + 6 * o) = 23 ∨ gI R 17 o ≤ 0) (h : Ev nb (p + 1) f R out) : Ev (nb + 1) p f R out := by
  obtain ⟨z1, z2⟩ := r_at0 (j := p) (by omega)
  obtain ⟨z3, z4⟩ := r_at0 (j := o) (by omega)
  obtain ⟨z5, z6⟩ := r_at (j := p) (i := 4) (by omega) (by omega) (e := (134 : Int32) + (6 : Int32) * nI p + 4) (by rw [litI, litI, litI, pk_mul, nI_add, nI_add])
  obtain ⟨y1, y2, y3⟩ := o_rd (o := o) (by omega)
  obtain ⟨k', R', a, b⟩ := h
  refine ⟨k', R', fun fu => ?_, b⟩
  have fin : f_X12_behindEnds_J78 (f_X12_behindEnds_L2 (fu + nb)) (nI p) (nI o) R = some (nI k', R') := by
    rw [f_X12_behindEnds_J78, f_X12_behindEnds_J79, if_neg y3, if_pos rfl, f_X12_behindEnds_J98, if_neg y3, letF, if_pos rfl, letF, nI_s, y2, Int32.sub_zero, sI_id]
    exact a fu
  rw [← Nat.add_assoc, f_X12_behindEnds_L2, hm, if_neg (show ¬ nI m ≤ nI p from nI_ge hp (by omega)), if_neg z1, z2, if_pos h24, if_neg z5, z6, hop, letF, if_neg z3, z4]
  rcases hno with h1 | h1
  · rw [if_neg h1, fin]
  · by_cases h2 : gI R 1 (134 + 6 * o) = 23
    · rw [if_pos h2, if_neg y3, y2, if_pos h1, fin]
    · rw [if_neg h2, fin]
theorem ev_again (hm : gI R 1 8 = nI m) (hm2 : m ≤ 60) {p o nb f t : Nat} (hp : p < m) (ho : o < p) (h24 : gI R 1 (134 + 6 * p) = 24) (hop : gI R 1 (134 + 6 * p + 4) = nI o) (h23 : gI R 1 (134 + 6 * o) = 23) (ht : t < 100) (hl : gI R 17 o = nI (t + 1)) (h : Ev nb (o + 1) f (sI R 17 o (nI t)) out) : Ev (nb + 1) p f R out := by
  obtain ⟨z1, z2⟩ := r_at0 (j := p) (by omega)
  obtain ⟨z3, z4⟩ := r_at0 (j := o) (by omega)
  obtain ⟨z5, z6⟩ := r_at (j := p) (i := 4) (by omega) (by omega) (e := (134 : Int32) + (6 : Int32) * nI p + 4) (by rw [litI, litI, litI, pk_mul, nI_add, nI_add])
  obtain ⟨y1, y2, y3⟩ := o_rd (o := o) (by omega)
  obtain ⟨k', R', a, b⟩ := h
  refine ⟨k', R', fun fu => ?_, b⟩
  have e : nI (t + 1) - 1 = nI t := pk_sub (a := t + 1) (b := 1) (by omega)
  rw [← Nat.add_assoc, f_X12_behindEnds_L2, hm, if_neg (show ¬ nI m ≤ nI p from nI_ge hp (by omega)), if_neg z1, z2, if_pos h24, if_neg z5, z6, hop, letF, if_neg z3, z4, if_pos h23, if_neg y3, y2, hl, if_neg (show ¬ nI (t + 1) ≤ 0 from nI_nle (by omega) (by omega)), f_X12_behindEnds_J79, if_neg y3, if_neg i10, y2, hl, f_X12_behindEnds_J98, if_neg y3, letF, y2, if_neg i10, letF, nI_s, e]
  exact a fu
/-- a call of behindEnds -/
theorem ev_call {nb k f : Nat} (h : Ev nb k f R out) (hnb : nb ≤ 6200) : ∃ k' R', f_X12_behindEnds (nI k) R = some (nI k', R') ∧ ∀ fu, f_X12_lives_L32 (fu + f) (nI k') R' = some out := by
  obtain ⟨k', R', a, b⟩ := h
  refine ⟨k', R', ?_, b⟩
  have := a (fz - nb)
  rw [show fz - nb + nb = fz by rw [fz_is]; omega] at this
  rw [f_X12_behindEnds, this, bnd_some]
end ENDS
