/-! LIFE: the rows of each kind -/
section ROWS2
variable {C0 R0 C R C' R' : Mem} {c m : Nat} {K0 K K' : Kt} {n x : Nat}
theorem lf_after (rec : Int32 → Mem → Rs Nat) (hs : SimK C0 c R0 K0 n K x C R) {j : Nat} (hj : j < 60) (h23 : ¬ gI R0 1 (134 + 6 * j) = 23) (h22 : gI R0 1 (134 + 6 * j) < (2200 : Int32)) (v w : Int32) :
    f_X12_lives_J112 rec (nI j) (nI (134 + 6 * j)) 0 v w R = bnd (f_X12_behindEnds (nI (j + 1)) (sI R 18 0 (v + w))) fun r M => rec r M := by
  obtain ⟨z1, z2⟩ := r_row (j := j) (i := 0) hj (by omega) (e := nI (134 + 6 * j)) rfl
  have z2' : (nI (134 + 6 * j)).toNatClampNeg = 134 + 6 * j := z2
  have e : gI (sI R 18 0 (v + w)) 1 (134 + 6 * j) = gI R0 1 (134 + 6 * j) := by rw [gI_I, if_neg (by omega)]; exact hs.at _
  rw [f_X12_lives_J112, if_neg (show ¬ ((0 : Int32) < 0 ∨ 5 ≤ (0 : Int32).toNatClampNeg) by decide), letF, if_neg z1, z2', show (0 : Int32).toNatClampNeg = 0 by decide, e, if_neg h23, f_X12_lives_J141, if_neg z1, z2', e, if_pos h22, nI_s]
theorem at_lt {k kd : Nat} (h : gI R0 1 k = nI kd) (hk : kd ≤ 21) : ¬ gI R0 1 k = 24 ∧ ¬ gI R0 1 k = 23 ∧ ¬ gI R0 1 k = 25 ∧ gI R0 1 k < (2200 : Int32) := by
  have ne : ∀ v : Nat, 21 < v → v < 100 → ¬ nI kd = nI v := fun v h1 h2 z => by have := nI_inj (by omega) (by omega) z; omega
  rw [h]
  exact ⟨ne 24 (by omega) (by omega), ne 23 (by omega) (by omega), ne 25 (by omega) (by omega), nI_lt (b := 2200) (by omega) (by decide)⟩
theorem row_smp (hc : shC c = 0) (hm0 : gI R0 1 8 = nI m) (hm : m ≤ 60) {j s : Nat} (hj : j < m) (hs : s < 30) (hrow : smpW K0 (fun k => gI C0 (c + 25) k) (fun k => gI R0 1 (134 + k)) j s) (hn : n < 300) (h : Run C0 c R0 K0 n C R) :
    ∃ C' R', Run C0 c R0 K0 (n + 1) C' R' ∧ (∀ k, gI R' 17 k = gI R 17 k) ∧ (∀ self a3 a4 fu b7, ¬ (30 : Int32) ≤ b7 → ¬ a3 ≤ nI s → f_X2_runSteps_L12 self c a3 a4 (c + 24) (fu + 1) (nI s) b7 C = f_X2_runSteps_L12 self c a3 a4 (c + 24) fu (nI (s + 1)) (b7 + 1) C') ∧
      ∀ nb f out, nb ≤ 6200 → Ev nb (j + 1) f R' out → Ev 1 j (f + 1) R out := by
  obtain ⟨K, x, hk, h5, h6⟩ := h
  have h3 := hk.2.2.2.2.2.2.2.2.1
  have h11 := hk.2.2.2.2.2.2.2.2.2.2.1
  have st := hk.step hc
  obtain ⟨kd, k1, k2, k3, k4, b, C1, R1, K1, x1, b1, d1, d2, d3, d4, d5⟩ := does2 hc st (j := j) (by omega) hs hrow
  have lo := isC_lo hc
  have k3' : gI (sI C 25 3 (nI (n + 1))) (c + 25) (5 * s) = nI kd := k3
  have k4' : gI R0 1 (134 + 6 * j) = nI kd := by
    have := st.at (6 * j)
    rw [k4] at this
    exact this.symm
  obtain ⟨a1, a2, a3, a4⟩ := at_lt k4' k2
  have w := d4
  obtain ⟨o4, o5, o6⟩ := w
  have e4 : gI C1 25 4 = gI C 25 4 := o4.trans (by rw [gI_I, if_neg (by omega)])
  have e18 : gI R1 18 0 = gI R 18 0 := d5.2.trans (by rw [gI_I, if_neg (by omega)])
  have n22 : ¬ nI kd = (22 : Int32) := fun z => by have := nI_inj (a := kd) (b := 22) (by omega) (by omega) z; omega
  have n23 : ¬ nI kd = (23 : Int32) := fun z => by have := nI_inj (a := kd) (b := 23) (by omega) (by omega) z; omega
  have m4 : gI (sI C 25 3 (nI (n + 1))) 25 4 = gI C 25 4 := by rw [gI_I, if_neg (by omega)]
  have ca : f_X9_cellAt (c + 24) (nI s) 0 (sI C 25 3 (nI (n + 1))) = some (nI kd, sI C 25 3 (nI (n + 1))) := by
    have := p_cellAt (i := 0) hc hs (by omega) (sI C 25 3 (nI (n + 1)))
    rw [show 5 * s + 0 = 5 * s from rfl, k3'] at this
    exact this
  have d3n := d3.2.2.2.2.2.2.2.2
  -- the miss
  have fin : ∀ v : Int32, Run C0 c R0 K0 (n + 1) (sI C1 25 4 (gI C 25 4 + v)) (sI R1 18 0 (gI R 18 0 + v)) := fun v =>
    ⟨K1, x1, d3.set hc (fun a k z => by rw [gI_I, if_neg (by omega)]) (fun _ _ => rfl) (fun _ _ => rfl) (fun a k z1 z2 z3 => by rw [gI_I, if_neg (by omega)]) (fun _ _ => rfl) (by rw [gI_I, if_neg (by omega)]; exact d3n.1) (by rw [gI_I, if_neg (by omega)]; exact d3n.2.1) (by rw [gI_same, gI_same, h11]),
      by rw [gI_I, if_neg (by omega), o5, gI_I, if_neg (by omega), h5], by rw [gI_I, if_neg (by omega), o6, gI_I, if_neg (by omega), h6]⟩
  have l17 : ∀ v k, gI (sI R1 18 0 v) 17 k = gI R 17 k := fun v k => by rw [gI_I, if_neg (by omega), d5.1 k, gI_I, if_neg (by omega)]
  have cls : ∀ v : Int32, (∀ self a3 a4 fu b7, ¬ (30 : Int32) ≤ b7 → ¬ a3 ≤ nI s → f_X2_runSteps_L12 self c a3 a4 (c + 24) (fu + 1) (nI s) b7 C = (if b = 0 then (letF (sI C1 25 4 (gI C 25 4 + 1)) fun M20 => letF (b7 + (1 : Int32) : Int32) fun y21 => f_X2_runSteps_L12 self c a3 a4 (c + 24) fu (nI (s + 1)) y21 M20) else (letF (sI C1 25 4 (gI C 25 4 + 0)) fun M22 => letF (b7 + (1 : Int32) : Int32) fun y23 => f_X2_runSteps_L12 self c a3 a4 (c + 24) fu (nI (s + 1)) y23 M22))) := by
    intro v self a3 a4 fu b7 z1 z2
    rw [f_X2_runSteps_L12, if_neg z1, if_neg z2, p_comes h3 h6 hn, bnd_some, if_neg i10, ca, bnd_some, letF, if_neg n22, if_neg n23, d1, bnd_some, m4, nI_s]
  have ref : ∀ nb f out, nb ≤ 6200 → Ev nb (j + 1) f (sI R1 18 0 (gI R 18 0 + (if b = 0 then 1 else 0))) out → Ev 1 j (f + 1) R out := by
    intro nb f out hnb hev
    obtain ⟨k', R'', g1, g2⟩ := ev_call hev hnb
    refine ev_row (hk.m8.trans hm0) hm hj (by rw [hk.at]; exact a1) (fun fu => ?_)
    rw [← Nat.add_assoc, r_come hk hm0 hm hj hn, if_neg a3, d2, bnd_some, lf_after _ d3 (by omega) a2 a4, lf_after _ d3 (by omega) a2 a4]
    rcases b1 with rfl | rfl
    · rw [if_pos rfl] at g1 ⊢
      rw [g1, bnd_some]
      exact g2 fu
    · rw [if_neg i10] at g1 ⊢
      rw [g1, bnd_some]
      exact g2 fu
  rcases b1 with rfl | rfl
  · refine ⟨_, _, fin 1, l17 _, fun self a3 a4 fu b7 z1 z2 => ?_, ref⟩
    rw [cls 1 self a3 a4 fu b7 z1 z2, if_pos rfl, letF, letF]
  · refine ⟨_, _, fin 0, l17 _, fun self a3 a4 fu b7 z1 z2 => ?_, ref⟩
    rw [cls 0 self a3 a4 fu b7 z1 z2, if_neg i10, letF, letF]
end ROWS2
