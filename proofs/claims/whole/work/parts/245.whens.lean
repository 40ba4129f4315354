/-! LIFE: what a WHEN asks; the reference's ends -/
def whnW (K : Kt) (cl at_ : Nat → Int32) (k s : Nat) : Prop :=
  (at_ (6 * k) = 2226 ∧ cl (5 * s + 1) = 25 ∧ ∃ q, q < nK K 3 ∧ at_ (6 * k + 1) = nI q ∧ cl (5 * s + 2) = nI q ∧ ∃ n, n < nK K 1 ∧ at_ (6 * k + 2) = nI n ∧ cl (5 * s + 3) = nI n) ∨
  (at_ (6 * k) = 2227 ∧ cl (5 * s + 1) = 26 ∧ ∃ q, q < nK K 3 ∧ at_ (6 * k + 1) = nI q ∧ cl (5 * s + 2) = nI q) ∨
  (at_ (6 * k) = 2228 ∧ cl (5 * s + 1) = 27 ∧ ∃ q, q < nK K 3 ∧ at_ (6 * k + 1) = nI q ∧ cl (5 * s + 2) = nI q) ∨
  (at_ (6 * k) = 2211 ∧ cl (5 * s + 1) = 11 ∧ ¬ at_ (6 * k + 5) = 0 ∧ ∃ x, cmpR 9 (at_ (6 * k + 5)) (at_ (6 * k + 2)) x (cl (5 * s + 2)) (cl (5 * s + 3)))
section WHENS
variable {C0 R0 C R C' R' : Mem} {c : Nat} {K0 K K' : Kt} {n x : Nat}
theorem i_b (p : Prop) [Decidable p] (M : Mem) : (if p then some ((1 : Int32), M) else some ((0 : Int32), M)) = some (bI (decide p), M) := by
  by_cases h : p
  · rw [if_pos h, decide_eq_true h]; rfl
  · rw [if_neg h, decide_eq_false h]; rfl
theorem holds2 (hc : shC c = 0) (h : SimK C0 c R0 K0 n K x C R) {j s : Nat} (hj : j < 60) (hs : s < 30) (hrow : whnW K0 (fun k => gI C0 (c + 25) k) (fun k => gI R0 1 (134 + k)) j s) :
    ∃ b, f_X2_holds c (nI s) C = some (bI b, C) ∧ f_X12_holds (nI (134 + 6 * j)) R = some (bI b, R) := by
  have hw := h.1
  have hn1 := hw.n1
  have hn3 := hw.n3
  have hnk := h.2.2.1
  have h5 := h.2.2.2.2.1.1
  have h6 := h.2.2.2.2.2.1.1
  obtain ⟨w, hw9, hwm⟩ := hw.2.2.2.2.2.2.1
  obtain ⟨z1, z2⟩ := r_row (i := 0) hj (by omega) (e := nI (134 + 6 * j)) rfl
  obtain ⟨z3, z4⟩ := r_row (i := 1) hj (by omega) (e := nI (134 + 6 * j) + 1) (nI_s _)
  obtain ⟨z5, z6⟩ := r_row (i := 2) hj (by omega) (e := nI (134 + 6 * j) + 2) (nI_add _ 2)
  obtain ⟨z7, z8⟩ := r_row (i := 5) hj (by omega) (e := nI (134 + 6 * j) + 5) (nI_add _ 5)
  have wc : gI C c 12 = K 20 0 := h5.2.2.2.2.2.2.1
  rw [f_X2_holds, show (2 : Int32) = nI 2 from rfl, show (3 : Int32) = nI 3 from rfl, show (1 : Int32) = nI 1 from rfl, p_cellAt hc hs (by omega), bnd_some, p_cellAt hc hs (by omega), bnd_some, p_cellAt hc hs (by omega), bnd_some, h.cl hc, h.cl hc, h.cl hc, wc,
    f_X12_holds, if_neg z1, show (nI (134 + 6 * j)).toNatClampNeg = 134 + 6 * j from z2, letF, if_neg z3, z4, letF, h6.warm, show gI R 1 (134 + 6 * j) = gI R0 1 (134 + 6 * j) from h.at (6 * j), show gI R 1 (134 + 6 * j + 1) = gI R0 1 (134 + (6 * j + 1)) from h.at (6 * j + 1)]
  rcases hrow with ⟨a1, a2, q, q1, q2, q3, v, v1, v2, v3⟩ | ⟨a1, a2, q, q1, q2, q3⟩ | ⟨a1, a2, q, q1, q2, q3⟩ | ⟨a1, a2, a3, y, a4⟩
  · have a1' : gI R0 1 (134 + 6 * j) = 2226 := a1
    have a2' : gI C0 (c + 25) (5 * s + 1) = 25 := a2
    have q2' : gI R0 1 (134 + (6 * j + 1)) = nI q := q2
    have q3' : gI C0 (c + 25) (5 * s + 2) = nI q := q3
    have v2' : gI R 1 (134 + 6 * j + 2) = nI v := (h.at (6 * j + 2)).trans v2
    have v3' : gI C0 (c + 25) (5 * s + 3) = nI v := v3
    have hq : q < nK K 3 := by rw [hnk]; exact q1
    have hv : v < nK K 1 := by rw [hnk]; exact v1
    have e := cueNK hw q (K 20 0) (a := nI v) rfl hv
    rw [a1', a2', q2', q3', v3', if_pos rfl, p_cueBefore hc h5 hw hq, bnd_some, if_pos (show (2226 : Int32) - 2200 = 26 by decide), r_pcueFor h6 hw hq hwm hw9, bnd_some, if_neg z5, z6, v2']
    refine ⟨decide (pcueK K q (K 20 0) = nI v), ?_, i_b _ _⟩
    rw [← i_b]
    by_cases z : pcueN K q (K 20 0) = nI v
    · rw [if_pos z, if_pos (e.mp z)]; rfl
    · rw [if_neg z, if_neg (fun y => z (e.mpr y))]
  · have a1' : gI R0 1 (134 + 6 * j) = 2227 := a1
    have a2' : gI C0 (c + 25) (5 * s + 1) = 26 := a2
    have q2' : gI R0 1 (134 + (6 * j + 1)) = nI q := q2
    have q3' : gI C0 (c + 25) (5 * s + 2) = nI q := q3
    have hq : q < nK K 3 := by rw [hnk]; exact q1
    rw [a1', a2', q2', q3', if_neg (show ¬ (26 : Int32) = 25 by decide), if_pos rfl, p_personAt (by omega), bnd_some, if_neg (nn (shC_per hc (by omega))), if_neg (show ¬ (2227 : Int32) - 2200 = 26 by decide), if_pos (show (2227 : Int32) - 2200 = 27 by decide), r_personOf2 (by omega), bnd_some, (h6.per hq).2.2.1, show gI C (c + 13 + 1 + q) 3 = K 14 q from h5.2.2.2.1 q hq 3 (by decide)]
    exact ⟨decide (K 14 q = 2), i_b _ _, i_b _ _⟩
  · have a1' : gI R0 1 (134 + 6 * j) = 2228 := a1
    have a2' : gI C0 (c + 25) (5 * s + 1) = 27 := a2
    have q2' : gI R0 1 (134 + (6 * j + 1)) = nI q := q2
    have q3' : gI C0 (c + 25) (5 * s + 2) = nI q := q3
    have hq : q < nK K 3 := by rw [hnk]; exact q1
    rw [a1', a2', q2', q3', if_neg (show ¬ (27 : Int32) = 25 by decide), if_neg (show ¬ (27 : Int32) = 26 by decide), if_pos rfl, p_personAt (by omega), bnd_some, if_neg (nn (shC_per hc (by omega))), if_neg (show ¬ (2228 : Int32) - 2200 = 26 by decide), if_neg (show ¬ (2228 : Int32) - 2200 = 27 by decide), if_pos (show (2228 : Int32) - 2200 = 28 by decide), r_personOf2 (by omega), bnd_some, (h6.per hq).2.2.1, show gI C (c + 13 + 1 + q) 3 = K 14 q from h5.2.2.2.1 q hq 3 (by decide)]
    exact ⟨decide (K 14 q = 1), i_b _ _, i_b _ _⟩
  · have a1' : gI R0 1 (134 + 6 * j) = 2211 := a1
    have a2' : gI C0 (c + 25) (5 * s + 1) = 11 := a2
    have v2' : gI R 1 (134 + 6 * j + 2) = gI R0 1 (134 + (6 * j + 2)) := h.at (6 * j + 2)
    have v5' : gI R 1 (134 + 6 * j + 5) = gI R0 1 (134 + (6 * j + 5)) := h.at (6 * j + 5)
    have so := r_isSo (most := 9) (by omega) hw9 hwm a4 R
    rw [a1', a2', if_neg (show ¬ (11 : Int32) = 25 by decide), if_neg (show ¬ (11 : Int32) = 26 by decide), if_neg (show ¬ (11 : Int32) = 27 by decide), if_neg (show ¬ (2211 : Int32) - 2200 = 26 by decide), if_neg (show ¬ (2211 : Int32) - 2200 = 27 by decide), if_neg (show ¬ (2211 : Int32) - 2200 = 28 by decide), if_neg z7, if_neg z5, z6, z8, v2', v5', so, bnd_some, fin_b (bI_b _)]
    refine ⟨_, ?_, rfl⟩
    by_cases y1 : K 20 0 < gI C0 (c + 25) (5 * s + 2)
    · rw [if_pos y1, decide_eq_true y1]; rfl
    · rw [if_neg y1, decide_eq_false y1]
      by_cases y2 : gI C0 (c + 25) (5 * s + 3) < K 20 0
      · rw [if_pos y2, decide_eq_true y2]; rfl
      · rw [if_neg y2, decide_eq_false y2]; rfl
end WHENS
