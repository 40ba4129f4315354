/-! TEXTS: isTaken -/
section TAKEN
variable {B : Nat → Nat} {n c : Nat} {C R : Mem} {K : Kt}
theorem taken2 (hn : n ≤ 900) (hB : ∀ k, B k < 256) (hR : TxR B n R) {f e : Nat} (hfe : f ≤ e) (he : e ≤ n) (h8 : e - f ≤ 8) (r13 : gI R 0 13 = nI f) (r14 : gI R 0 14 = nI e) (hw : lets (wrd B f (e - f))) (hK : WFK K)
    (hC : ∀ k, k < 6 → gI C (c + 1) k = K 0 k) (hR1 : ∀ k, k < 6 → gI R 1 (2008 + k) = K 0 k) (hN : NmR C c R 4 K) : ∃ b, f_X0_isTaken c (lN (code27 (wrd B f (e - f)))) C = some (bI b, C) ∧ f_X12_isTaken R = some (bI b, R) := by
  have k0 := hK.n0
  have k1 := hK.n1
  have k3 := hK.n3
  have k4 := hK.n4
  obtain ⟨r0, a0, b0, -⟩ := find2w (C := C) (c := c) (kd := 0) (base := 92) (cnt := nK K 0) hn hB hR hfe he h8 r13 r14 hw (by omega) (by omega) (by omega) ((hC 0 (by omega)).trans k0.1) (fun i hi => hN 0 (by omega) (by omega) i hi)
  obtain ⟨r1, a1, b1, -⟩ := find2w (C := C) (c := c) (kd := 1) (base := 97) (cnt := nK K 1) hn hB hR hfe he h8 r13 r14 hw (by omega) (by omega) (by omega) ((hC 1 (by omega)).trans k1.1) (fun i hi => hN 1 (by omega) (by omega) i hi)
  obtain ⟨r3, a3, b3, -⟩ := find2w (C := C) (c := c) (kd := 3) (base := 103) (cnt := nK K 3) hn hB hR hfe he h8 r13 r14 hw (by omega) (by omega) (by omega) ((hC 3 (by omega)).trans k3.1) (fun i hi => hN 3 (by omega) (by omega) i hi)
  obtain ⟨r4, a4, b4, -⟩ := find2w (C := C) (c := c) (kd := 4) (base := 109) (cnt := nK K 4) hn hB hR hfe he h8 r13 r14 hw (by omega) (by omega) (by omega) ((hC 4 (by omega)).trans k4.1) (fun i hi => hN 4 (by omega) (by omega) i hi)
  have b0' : f_X12_findHere 92 (nI (nK K 0)) R = some (r0, R) := b0
  have b1' : f_X12_findHere 97 (nI (nK K 1)) R = some (r1, R) := b1
  have b3' : f_X12_findHere 103 (nI (nK K 3)) R = some (r3, R) := b3
  have b4' : f_X12_findHere 109 (nI (nK K 4)) R = some (r4, R) := b4
  have a0' : f_X0_numberOf c 0 (lN (code27 (wrd B f (e - f)))) C = some (r0, C) := a0
  have a1' : f_X0_numberOf c 1 (lN (code27 (wrd B f (e - f)))) C = some (r1, C) := a1
  have a3' : f_X0_numberOf c 3 (lN (code27 (wrd B f (e - f)))) C = some (r3, C) := a3
  have a4' : f_X0_numberOf c 4 (lN (code27 (wrd B f (e - f)))) C = some (r4, C) := a4
  have g0 : gI R 1 2008 = nI (nK K 0) := (hR1 0 (by omega)).trans k0.1
  have g1 : gI R 1 2009 = nI (nK K 1) := (hR1 1 (by omega)).trans k1.1
  have g3 : gI R 1 2011 = nI (nK K 3) := (hR1 3 (by omega)).trans k3.1
  have g4 : gI R 1 2012 = nI (nK K 4) := (hR1 4 (by omega)).trans k4.1
  rw [f_X0_isTaken, a0', bnd_some, f_X12_isTaken, g0, b0', bnd_some]
  by_cases z0 : r0 = -1
  · rw [if_pos z0, if_pos z0, a1', bnd_some, g1, b1', bnd_some]
    by_cases z1 : r1 = -1
    · rw [if_pos z1, if_pos z1, a3', bnd_some, g3, b3', bnd_some]
      by_cases z3 : r3 = -1
      · rw [if_pos z3, if_pos z3, a4', bnd_some, g4, b4', bnd_some]
        by_cases z4 : r4 = -1
        · rw [if_pos z4, if_pos z4]; exact ⟨false, rfl, rfl⟩
        · rw [if_neg z4, if_neg z4]; exact ⟨true, rfl, rfl⟩
      · rw [if_neg z3, if_neg z3]; exact ⟨true, rfl, rfl⟩
    · rw [if_neg z1, if_neg z1]; exact ⟨true, rfl, rfl⟩
  · rw [if_neg z0, if_neg z0]; exact ⟨true, rfl, rfl⟩
end TAKEN
