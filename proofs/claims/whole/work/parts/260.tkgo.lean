/-! TEXTS: goOn and ahead come to the same TOKEN -/
theorem TxC.gi {B : Nat → Nat} {n : Nat} {C C' : Mem} (h : TxC B n C) (g : GoC C C') : TxC B n C' := ⟨(g.1 _ _ (by omega)).trans h.1, fun k hk => (g.1 _ _ (by omega)).trans (h.2 k hk)⟩
theorem TxR.gi {B : Nat → Nat} {n : Nat} {R R' : Mem} (h : TxR B n R) (g : GoR R R') : TxR B n R' := ⟨(g.1 _ _ (by omega)).trans h.1, fun k hk => by rw [g.1 _ _ (by omega)]; exact h.2 k hk⟩
theorem KwC.gi {C C' : Mem} (h : KwC C) (g : GoC C C') : KwC C' := h.cg (fun k => g.2.1 _ _ (by omega))
theorem tk_go {B : Nat → Nat} {n : Nat} {C R : Mem} (hn : n ≤ 900) (hB : ∀ k, B k < 256) (hC : TxC B n C) (hR : TxR B n R) (hk : KwC C) {e0 : Nat} (he : e0 ≤ n) (c4 : gI C 13 4 = nI e0) (r14 : gI R 0 14 = nI e0) :
    ∃ C' R' f e, f_X7_goOn C = some ((), C') ∧ f_X12_ahead R = some ((), R') ∧ TkR B n C' R' f e ∧ GoC C C' ∧ GoR R R' ∧ e0 ≤ f := by
  obtain ⟨g1, g2⟩ := spn_ge B isBl (n - e0) e0
  have p0 := p_L0 hn hB (n - e0) e0 fz C (by omega) (by rw [fz_is]; omega) hC c4
  have r0 := r_L0 hn hB (n - e0) e0 fz R (by omega) (by rw [fz_is]; omega) hR r14
  generalize hf : spn B isBl (n - e0) e0 = f at *
  have gC2 : GoC C (sI (sI C 13 4 (nI f)) 13 5 (nI f)) := (GoC.rf.sI 4 _ (by omega)).sI 5 _ (by omega)
  have gR2 : GoR R (sI (sI R 0 14 (nI f)) 0 13 (nI f)) := (GoR.rf.sI 14 _ (by omega)).sI 13 _ (by omega)
  have hC2 := hC.gi gC2
  have hR2 := hR.gi gR2
  have c24 : gI (sI (sI C 13 4 (nI f)) 13 5 (nI f)) 13 4 = nI f := by rw [gI_I, if_neg (by omega), gI_same]
  have c25 : gI (sI (sI C 13 4 (nI f)) 13 5 (nI f)) 13 5 = nI f := gI_same _ _ _ _
  have r24 : gI (sI (sI R 0 14 (nI f)) 0 13 (nI f)) 0 14 = nI f := by rw [gI_I, if_neg (by omega), gI_same]
  have r23 : gI (sI (sI R 0 14 (nI f)) 0 13 (nI f)) 0 13 = nI f := gI_same _ _ _ _
  have c14 : gI (sI C 13 4 (nI f)) 13 4 = nI f := gI_same _ _ _ _
  have r14f : gI (sI R 0 14 (nI f)) 0 14 = nI f := gI_same _ _ _ _
  rw [f_X7_goOn, p0, bnd_some, letF, c14, c25, f_X12_ahead, r0, bnd_some, letF, r14f, r24]
  generalize hC2e : sI (sI C 13 4 (nI f)) 13 5 (nI f) = C2 at *
  generalize hR2e : sI (sI R 0 14 (nI f)) 0 13 (nI f) = R2 at *
  by_cases hfn : f = n
  · subst hfn
    obtain ⟨r, hr⟩ := p_byteAny (C := C2) (k := f) hn
    rw [hr, bnd_some, c25, hC2.1, if_neg (show ¬ nI f < nI f from nI_nlt (a := f) (b := f) (Nat.le_refl _) (by omega)), letF, r_byteN hR2 (Nat.le_refl _) (by omega), bnd_some, letF, if_pos rfl, letF]
    refine ⟨_, _, f, f, rfl, rfl, ⟨Nat.le_refl _, Nat.le_refl _, ?_, ?_, ?_, ?_, Or.inl ⟨rfl, gI_same _ _ _ _, gI_same _ _ _ _⟩⟩, gC2.sI 6 _ (by omega), (gR2.sI 15 _ (by omega)).sI 12 _ (by omega), by omega⟩
    · rw [gI_I, if_neg (by omega), c24]
    · rw [gI_I, if_neg (by omega), gI_I, if_neg (by omega), r24]
    · rw [gI_I, if_neg (by omega), c25]
    · rw [gI_I, if_neg (by omega), gI_I, if_neg (by omega), r23]
  have hlt : f < n := by omega
  have nm1 : ¬ nI (B f) = (-1 : Int32) := nI_ne_m1 (by have := hB f; omega)
  rw [p_byteAt hC2 hn hlt, bnd_some, c25, hC2.1, if_pos (show nI f < nI n from nI_lt hlt (by omega)), p_letter (hB f), bnd_some, r_byteAt hR2 hn hlt, bnd_some, letF, letF, if_neg nm1, r_small (hB f), bnd_some]
  cases hle : isLe (B f) with
  | true =>
    have gt := spn_gt (B := B) (P := isLe) (d := n - f) (i := f) (by omega) hle
    have ge := (spn_ge B isLe (n - f) f).2
    have all := spn_all B isLe (n - f) f
    have pL := p_L87 hn hB (n - f) f fz (sL C2 13 7 0) (by omega) (by rw [fz_is]; omega) (hC2.goL 7 0) (by rw [gI_L]; exact c24)
    have rL := r_L81 hn hB (n - f) f fz (sI R2 0 15 (nI (B f))) (by omega) (by rw [fz_is]; omega) (hR2.go 15 _ (by decide)) (by rw [gI_I, if_neg (by omega), r24])
    generalize spn B isLe (n - f) f = e at *
    have lw : lets (wrd B f (e - f)) := fun x hx => by
      unfold wrd at hx
      rw [List.mem_map] at hx
      obtain ⟨k, hk1, rfl⟩ := hx
      rw [List.mem_range'_1] at hk1
      have := all k (by omega) (by omega)
      unfold isLe at this
      simp only [Bool.and_eq_true, decide_eq_true_eq] at this
      exact this
    have ll : (wrd B f (e - f)).length = e - f := by unfold wrd; rw [List.length_map, List.length_range']
    have nm : nmS B (e - f) f 0 = lN (code27 (wrd B f (e - f))) := by
      rw [show (0 : Int64) = lN 0 from rfl, nmS_is hB (e - f) f 0 (fun k y1 y2 => all k (by omega) (by omega)), code27, cd_wrd]
    have g70 : gL (sL C2 13 7 0) 13 7 = 0 := by rw [gL_L, if_pos ⟨rfl, rfl⟩]
    rw [g70, sL_sL, nm] at pL
    have w4 : gI (sI (sL C2 13 7 (lN (code27 (wrd B f (e - f))))) 13 4 (nI e)) 13 4 = nI e := gI_same _ _ _ _
    have w5 : gI (sI (sL C2 13 7 (lN (code27 (wrd B f (e - f))))) 13 4 (nI e)) 13 5 = nI f := by rw [gI_I, if_neg (by omega), gI_L]; exact c25
    have w7 : gL (sI (sL C2 13 7 (lN (code27 (wrd B f (e - f))))) 13 4 (nI e)) 13 7 = lN (code27 (wrd B f (e - f))) := by rw [gL_I, gL_L, if_pos ⟨rfl, rfl⟩]
    have gC4 : GoC C (sI (sL C2 13 7 (lN (code27 (wrd B f (e - f))))) 13 4 (nI e)) := (gC2.sL _).sI 4 _ (by omega)
    have ef : nI e - nI f = nI (e - f) := pk_sub (by omega)
    have rfin : ∀ k, k ≠ 12 → gI (sI (sI (sI R2 0 15 (nI (B f))) 0 14 (nI e)) 0 12 2) 0 k = gI (sI (sI R2 0 15 (nI (B f))) 0 14 (nI e)) 0 k := fun k hk => by rw [gI_I, if_neg (by omega)]
    rw [if_neg (show ¬ bI true = 0 by decide), pL, bnd_some, if_neg (show ¬ bI true = 0 by decide), rL, bnd_some, letF, w4, w5, ef]
    have r14' : gI (sI (sI (sI R2 0 15 (nI (B f))) 0 14 (nI e)) 0 12 2) 0 14 = nI e := by rw [rfin 14 (by decide), gI_same]
    have r13' : gI (sI (sI (sI R2 0 15 (nI (B f))) 0 14 (nI e)) 0 12 2) 0 13 = nI f := by rw [rfin 13 (by decide), gI_I, if_neg (by omega), gI_I, if_neg (by omega), r23]
    have gRf : GoR R (sI (sI (sI R2 0 15 (nI (B f))) 0 14 (nI e)) 0 12 2) := ((gR2.sI 15 _ (by omega)).sI 14 _ (by omega)).sI 12 _ (by omega)
    by_cases h8 : e - f ≤ 8
    · rw [if_pos (show nI (e - f) ≤ (8 : Int32) from nI_le (b := 8) h8 (by decide)), p_kw (hk.gi gC4) lw (by omega) w7, bnd_some, letF]
      refine ⟨_, _, f, e, rfl, rfl, ⟨by omega, by omega, ?_, r14', ?_, r13', Or.inr (Or.inl ⟨gt, lw, gI_same _ _ _ _, Or.inr ⟨h8, ?_, gI_same _ _ _ _⟩⟩)⟩, gC4.sI 6 _ (by omega), gRf, by omega⟩
      · rw [gI_I, if_neg (by omega), w4]
      · rw [gI_I, if_neg (by omega), w5]
      · rw [gL_I, w7]
    · rw [if_neg (show ¬ nI (e - f) ≤ (8 : Int32) from nI_ge (a := 8) (by omega) (by omega)), letF]
      refine ⟨_, _, f, e, rfl, rfl, ⟨by omega, by omega, ?_, r14', ?_, r13', Or.inr (Or.inl ⟨gt, lw, gI_same _ _ _ _, Or.inl ⟨by omega, gI_same _ _ _ _⟩⟩)⟩, gC4.sI 6 _ (by omega), gRf, by omega⟩
      · rw [gI_I, if_neg (by omega), w4]
      · rw [gI_I, if_neg (by omega), w5]
  | false =>
    rw [if_pos (show bI false = 0 from rfl), p_digit (hB f), bnd_some, if_pos (show bI false = 0 from rfl), r_digit (hB f), bnd_some]
    cases hdg : isDg (B f) with
    | true =>
      have gt := spn_gt (B := B) (P := isDg) (d := n - f) (i := f) (by omega) hdg
      have ge := (spn_ge B isDg (n - f) f).2
      have all := spn_all B isDg (n - f) f
      have pL := p_L186 hn hB (n - f) f fz (sI C2 13 8 0) (by omega) (by rw [fz_is]; omega) (hC2.go 8 0 (by decide)) (by rw [gI_I, if_neg (by omega)]; exact c24)
      have rL := r_L128 hn hB (n - f) f fz (sI (sI R2 0 15 (nI (B f))) 0 15 0) (by omega) (by rw [fz_is]; omega) ((hR2.go 15 _ (by decide)).go 15 _ (by decide)) (by rw [gI_I, if_neg (by omega), gI_I, if_neg (by omega), r24])
      generalize spn B isDg (n - f) f = e at *
      rw [gI_same, sI_sI] at pL
      rw [gI_same, sI_sI, sI_sI] at rL
      have ef : nI e - nI f = nI (e - f) := pk_sub (by omega)
      have w4 : gI (sI (sI C2 13 8 (vlS B (e - f) f 0)) 13 4 (nI e)) 13 4 = nI e := gI_same _ _ _ _
      have w5 : gI (sI (sI C2 13 8 (vlS B (e - f) f 0)) 13 4 (nI e)) 13 5 = nI f := by rw [gI_I, if_neg (by omega), gI_I, if_neg (by omega)]; exact c25
      have w8 : gI (sI (sI C2 13 8 (vlS B (e - f) f 0)) 13 4 (nI e)) 13 8 = vlS B (e - f) f 0 := by rw [gI_I, if_neg (by omega), gI_same]
      have u4 : gI (sI (sI R2 0 15 (vrS B (e - f) f 0)) 0 14 (nI e)) 0 14 = nI e := gI_same _ _ _ _
      have u3 : gI (sI (sI R2 0 15 (vrS B (e - f) f 0)) 0 14 (nI e)) 0 13 = nI f := by rw [gI_I, if_neg (by omega), gI_I, if_neg (by omega), r23]
      have u5 : gI (sI (sI R2 0 15 (vrS B (e - f) f 0)) 0 14 (nI e)) 0 15 = vrS B (e - f) f 0 := by rw [gI_I, if_neg (by omega), gI_same]
      have gC4 : GoC C (sI (sI C2 13 8 (vlS B (e - f) f 0)) 13 4 (nI e)) := (gC2.sI 8 _ (by omega)).sI 4 _ (by omega)
      have gR4 : GoR R (sI (sI R2 0 15 (vrS B (e - f) f 0)) 0 14 (nI e)) := (gR2.sI 15 _ (by omega)).sI 14 _ (by omega)
      rw [if_neg (show ¬ bI true = 0 by decide), letF, pL, bnd_some, w4, w5, ef, if_neg (show ¬ bI true = 0 by decide), letF, letF, letF, sI_sI, rL, bnd_some, u4, u3, ef]
      have ck : ∀ v k, k ≠ 6 → gI (sI (sI (sI C2 13 8 (vlS B (e - f) f 0)) 13 4 (nI e)) 13 6 v) 13 k = gI (sI (sI C2 13 8 (vlS B (e - f) f 0)) 13 4 (nI e)) 13 k := fun v k hk => by rw [gI_I, if_neg (by omega)]
      have rk : ∀ v k, k ≠ 12 → gI (sI (sI (sI R2 0 15 (vrS B (e - f) f 0)) 0 14 (nI e)) 0 12 v) 0 k = gI (sI (sI R2 0 15 (vrS B (e - f) f 0)) 0 14 (nI e)) 0 k := fun v k hk => by rw [gI_I, if_neg (by omega)]
      by_cases h4 : e - f ≤ 4
      · have c1 : nI (e - f) ≤ (4 : Int32) := nI_le (b := 4) h4 (by decide)
        have hp : (0 + 1) * 10 ^ (e - f) ≤ 10000 := by
          rw [Nat.zero_add, Nat.one_mul]
          exact Nat.pow_le_pow_right (by omega) h4
        obtain ⟨q1, q2, q3⟩ := vals_eq (B := B) (e - f) f 0 (fun k y1 y2 => all k (by omega) (by omega)) hp
        rw [if_pos c1, if_pos c1, letF]
        exact ⟨_, _, f, e, rfl, rfl, ⟨by omega, by omega, (ck _ 4 (by decide)).trans w4, (rk _ 14 (by decide)).trans u4, (ck _ 5 (by decide)).trans w5, (rk _ 13 (by decide)).trans u3, Or.inr (Or.inr (Or.inl ⟨gt, dgN B (e - f) f 0, q3, gI_same _ _ _ _, gI_same _ _ _ _, ((ck _ 8 (by decide)).trans w8).trans q1, ((rk _ 15 (by decide)).trans u5).trans q2⟩))⟩, gC4.sI 6 _ (by omega), gR4.sI 12 _ (by omega), by omega⟩
      · have c1 : ¬ nI (e - f) ≤ (4 : Int32) := nI_ge (a := 4) (by omega) (by omega)
        rw [if_neg c1, if_neg c1, letF]
        exact ⟨_, _, f, e, rfl, rfl, ⟨by omega, by omega, (ck _ 4 (by decide)).trans w4, (rk _ 14 (by decide)).trans u4, (ck _ 5 (by decide)).trans w5, (rk _ 13 (by decide)).trans u3, Or.inr (Or.inr (Or.inr (Or.inr ⟨gt, gI_same _ _ _ _, gI_same _ _ _ _⟩)))⟩, gC4.sI 6 _ (by omega), gR4.sI 12 _ (by omega), by omega⟩
    | false =>
      have r3 : gI (sI R2 0 15 (nI (B f))) 0 14 + 1 = nI (f + 1) := by rw [gI_I, if_neg (by omega), r24, nI_s]
      have w5 : gI (sI C2 13 4 (nI (f + 1))) 13 5 = nI f := by rw [gI_I, if_neg (by omega)]; exact c25
      have u3 : gI (sI (sI R2 0 15 (nI (B f))) 0 14 (nI (f + 1))) 0 13 = nI f := by rw [gI_I, if_neg (by omega), gI_I, if_neg (by omega), r23]
      have u5 : gI (sI (sI R2 0 15 (nI (B f))) 0 14 (nI (f + 1))) 0 15 = nI (B f) := by rw [gI_I, if_neg (by omega), gI_same]
      have gC4 : GoC C (sI C2 13 4 (nI (f + 1))) := gC2.sI 4 _ (by omega)
      have gR4 : GoR R (sI (sI R2 0 15 (nI (B f))) 0 14 (nI (f + 1))) := (gR2.sI 15 _ (by omega)).sI 14 _ (by omega)
      have ck : ∀ v k, k ≠ 6 → gI (sI (sI C2 13 4 (nI (f + 1))) 13 6 v) 13 k = gI (sI C2 13 4 (nI (f + 1))) 13 k := fun v k hk => by rw [gI_I, if_neg (by omega)]
      have rk : ∀ v k, k ≠ 12 → gI (sI (sI (sI R2 0 15 (nI (B f))) 0 14 (nI (f + 1))) 0 12 v) 0 k = gI (sI (sI R2 0 15 (nI (B f))) 0 14 (nI (f + 1))) 0 k := fun v k hk => by rw [gI_I, if_neg (by omega)]
      rw [if_pos (show bI false = 0 from rfl), letF, c24, nI_s, f_X7_isSign, if_pos (show bI false = 0 from rfl), letF, r3]
      have eq : ∀ v : Nat, v < 256 → (nI (B f) = nI v ↔ B f = v) := fun v hv => ⟨nI_inj (by have := hB f; omega) (by omega), fun z => by rw [z]⟩
      have sg : (B f = 59 ∨ B f = 60 ∨ B f = 61 ∨ B f = 62) → ∃ C' R' f' e, (some ((), sI (sI C2 13 4 (nI (f + 1))) 13 6 (nI (B f))) : Rs Unit) = some ((), C') ∧ (some ((), sI (sI (sI R2 0 15 (nI (B f))) 0 14 (nI (f + 1))) 0 12 4) : Rs Unit) = some ((), R') ∧ TkR B n C' R' f' e ∧ GoC C C' ∧ GoR R R' ∧ e0 ≤ f' := fun hs =>
        ⟨_, _, f, f + 1, rfl, rfl, ⟨by omega, by omega, (ck _ 4 (by decide)).trans (gI_same _ _ _ _), (rk _ 14 (by decide)).trans (gI_same _ _ _ _), (ck _ 5 (by decide)).trans w5, (rk _ 13 (by decide)).trans u3, Or.inr (Or.inr (Or.inr (Or.inl ⟨by omega, B f, hs, gI_same _ _ _ _, gI_same _ _ _ _, (rk _ 15 (by decide)).trans u5⟩)))⟩, gC4.sI 6 _ (by omega), gR4.sI 12 _ (by omega), by omega⟩
      have e59 : nI (B f) = (59 : Int32) ↔ B f = 59 := eq 59 (by omega)
      have e60 : nI (B f) = (60 : Int32) ↔ B f = 60 := eq 60 (by omega)
      have e61 : nI (B f) = (61 : Int32) ↔ B f = 61 := eq 61 (by omega)
      have e62 : nI (B f) = (62 : Int32) ↔ B f = 62 := eq 62 (by omega)
      simp only [e59, e60, e61, e62]
      by_cases s59 : B f = 59
      · rw [if_pos s59, bnd_some, if_neg i10, letF, if_pos s59, letF]
        exact sg (by omega)
      by_cases s60 : B f = 60
      · rw [if_neg s59, if_pos s60, bnd_some, if_neg i10, letF, if_neg s59, if_pos s60, letF]
        exact sg (by omega)
      by_cases s62 : B f = 62
      · rw [if_neg s59, if_neg s60, if_pos s62, bnd_some, if_neg i10, letF, if_neg s59, if_neg s60, if_pos s62, letF]
        exact sg (by omega)
      by_cases s61 : B f = 61
      · rw [if_neg s59, if_neg s60, if_neg s62, if_pos s61, bnd_some, if_neg i10, letF, if_neg s59, if_neg s60, if_neg s62, if_pos s61, letF]
        exact sg (by omega)
      rw [if_neg s59, if_neg s60, if_neg s62, if_neg s61, bnd_some, if_pos rfl, letF, if_neg s59, if_neg s60, if_neg s62, if_neg s61, letF]
      exact ⟨_, _, f, f + 1, rfl, rfl, ⟨by omega, by omega, (ck _ 4 (by decide)).trans (gI_same _ _ _ _), (rk _ 14 (by decide)).trans (gI_same _ _ _ _), (ck _ 5 (by decide)).trans w5, (rk _ 13 (by decide)).trans u3, Or.inr (Or.inr (Or.inr (Or.inr ⟨by omega, gI_same _ _ _ _, gI_same _ _ _ _⟩)))⟩, gC4.sI 6 _ (by omega), gR4.sI 12 _ (by omega), by omega⟩
