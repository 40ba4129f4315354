/-! TEXTS: numbers and names -/
section NUMS
variable {B : Nat → Nat} {n c : Nat} {C R : Mem} {f e : Nat}
theorem tk_ne (h : StT B n C R f e) {t : Nat} (hC : gI C 13 6 = nI t) (ht : t < 100) {u : Nat} (hu : u < 100) (z : t ≠ u) : ¬ gI C 13 6 = nI u := fun q => z (nI_inj (by omega) (by omega) (hC.symm.trans q))
theorem st_isNum (h : StT B n C R f e) : (gI C 13 6 = 31 ∧ gI R 0 12 = 3 ∧ ∃ v : Nat, v ≤ 9999 ∧ gI C 13 8 = nI v ∧ gI R 0 15 = nI v) ∨ (¬ gI C 13 6 = 31 ∧ ¬ gI R 0 12 = 3) := by
  have h' := h
  obtain ⟨h1, h2, h3, ⟨a1, a2, a3, a4, a5, a6, a7⟩, h5⟩ := h'
  rcases a7 with ⟨b1, b2, b3⟩ | ⟨b1, b2, b3, b4⟩ | ⟨b1, v, b2, b3, b4, b5, b6⟩ | ⟨b1, s', b2, b3, b4, b5⟩ | ⟨b1, b2, b3⟩
  · exact Or.inr ⟨tk_ne h (t := 32) b2 (by omega) (u := 31) (by omega) (by omega), by rw [b3]; decide⟩
  · refine Or.inr ⟨?_, by rw [b3]; decide⟩
    rcases b4 with ⟨-, c2⟩ | ⟨-, -, c3⟩
    · exact tk_ne h (t := 30) c2 (by omega) (u := 31) (by omega) (by omega)
    · have := findW_le (wrd B f (e - f)) 29 0
      have k29 : kwI (wrd B f (e - f)) ≤ 29 := by unfold kwI; omega
      exact tk_ne h c3 (by omega) (u := 31) (by omega) (by omega)
  · exact Or.inl ⟨b3, b4, v, b2, b5, b6⟩
  · exact Or.inr ⟨tk_ne h b3 (by omega) (u := 31) (by omega) (by omega), by rw [b4]; decide⟩
  · exact Or.inr ⟨tk_ne h (t := 33) b2 (by omega) (u := 31) (by omega) (by omega), by rw [b3]; decide⟩
theorem st_number (hn : n ≤ 900) (hB : ∀ k, B k < 256) (h : StT B n C R f e) {lo hi q : Nat} (hlo : lo ≤ 9999) (hhi : hi ≤ 9999) (hq : q < 3548) : Hlt c C R (f_X4_takeNumber (nI lo) (nI hi) C) (f_X12_number (nI q) (nI lo) (nI hi) R) ∨
    ∃ v C' R' f' e', lo ≤ v ∧ v ≤ hi ∧ f_X4_takeNumber (nI lo) (nI hi) C = some (1, C') ∧ f_X12_number (nI q) (nI lo) (nI hi) R = some (1, R') ∧ StT B n C' R' f' e' ∧ GoC (sI C 16 3 (nI v)) C' ∧ GoR (sI R 1 q (nI v)) R' := by
  obtain ⟨z1, z2⟩ := r_rd (e := nI q) (j := q) rfl hq
  have s2 := (st_stp (c := c) h hn hB (k := 2) (by omega) (by omega)).chk
  have s4 := (st_stp (c := c) h hn hB (k := 4) (by omega) (by omega)).chk
  rcases st_isNum h with ⟨b1, b2, v, b3, b4, b5⟩ | ⟨b1, b2⟩
  · rw [f_X4_takeNumber, b1, if_pos rfl, b4, f_X12_number, b2, if_pos rfl, b5]
    by_cases y1 : v < lo
    · rw [if_pos (nI_lt y1 (by omega)), if_pos (nI_lt y1 (by omega))]
      exact Or.inl s4
    · have n1 : ¬ nI v < nI lo := nI_nlt (by omega) (by omega)
      rw [if_neg n1, if_neg n1]
      by_cases y2 : v ≤ hi
      · have n2 : nI v ≤ nI hi := nI_le y2 (by omega)
        have hs : StT B n (sI C 16 3 (nI v)) (sI R 1 q (nI v)) f e := (h.setC (C' := sI C 16 3 (nI v)) (fun a k z => by rw [gI_I, if_neg (by omega)]) (fun a k _ => rfl)).setR (fun a k z => by rw [gI_I, if_neg (by omega)])
        obtain ⟨C', R', f', e', a1, a2, a3, a4, a5, -⟩ := st_go hn hB hs
        refine Or.inr ⟨v, C', R', f', e', by omega, y2, ?_, ?_, a3, a4, a5⟩
        · rw [if_pos n2, letF, a1, bnd_some]
        · rw [if_pos n2, if_neg z1, z2, letF, a2, bnd_some]
      · have n2 : ¬ nI v ≤ nI hi := nI_ge (by omega) (by omega)
        rw [if_neg n2, if_neg n2]
        exact Or.inl s4
  · rw [f_X4_takeNumber, if_neg b1, f_X12_number, if_neg b2]
    exact Or.inl s2
/-- a NAME, on both sides -/
theorem st_isName (hn : n ≤ 900) (hB : ∀ k, B k < 256) (h : StT B n C R f e) : (gI C 13 6 = 29 ∧ f_X12_isName R = some (1, R) ∧ f < e ∧ e ≤ n ∧ e - f ≤ 8 ∧ lets (wrd B f (e - f)) ∧ gL C 13 7 = lN (code27 (wrd B f (e - f))) ∧ gI R 0 13 = nI f ∧ gI R 0 14 = nI e) ∨ (¬ gI C 13 6 = 29 ∧ f_X12_isName R = some (0, R)) := by
  have h' := h
  obtain ⟨h1, h2, h3, ⟨a1, a2, a3, a4, a5, a6, a7⟩, h5⟩ := h'
  rcases a7 with ⟨b1, b2, b3⟩ | ⟨b1, b2, b3, b4⟩ | ⟨b1, v, b2, b3, b4, b5, b6⟩ | ⟨b1, s', b2, b3, b4, b5⟩ | ⟨b1, b2, b3⟩
  · exact Or.inr ⟨tk_ne h (t := 32) b2 (by omega) (u := 29) (by omega) (by omega), by rw [f_X12_isName, b3, if_neg (by decide)]⟩
  · have w := r_inWords hn hB h2 a1 a2 a6 a4 b3
    have ef : nI e - nI f = nI (e - f) := pk_sub a1
    rcases b4 with ⟨c1, c2⟩ | ⟨c1, c2, c3⟩
    · refine Or.inr ⟨tk_ne h (t := 30) c2 (by omega) (u := 29) (by omega) (by omega), ?_⟩
      rw [f_X12_isName, if_pos b3, a4, a6, ef, if_pos (show (8 : Int32) < nI (e - f) from nI_lt (a := 8) c1 (by omega))]
    · have n8 : ¬ (8 : Int32) < nI (e - f) := nI_nlt (b := e - f) (a := 8) c1 (by omega)
      rcases kw_both (wrd B f (e - f)) with ⟨x1, x2, x3⟩ | ⟨x1, x2⟩
      · refine Or.inr ⟨tk_ne h c3 (by omega) (u := 29) (by omega) (by omega), ?_⟩
        rw [f_X12_isName, if_pos b3, a4, a6, ef, if_neg n8, w, if_pos x3, bnd_some, if_neg (nI_ne_m1 (by omega))]
      · refine Or.inl ⟨by rw [c3, x1]; rfl, ?_, b1, a2, c1, b2, c2, a6, a4⟩
        rw [f_X12_isName, if_pos b3, a4, a6, ef, if_neg n8, w, x2, if_neg (by omega), bnd_some, if_pos rfl]
  · exact Or.inr ⟨tk_ne h (t := 31) b3 (by omega) (u := 29) (by omega) (by omega), by rw [f_X12_isName, b4, if_neg (by decide)]⟩
  · exact Or.inr ⟨tk_ne h b3 (by omega) (u := 29) (by omega) (by omega), by rw [f_X12_isName, b4, if_neg (by decide)]⟩
  · exact Or.inr ⟨tk_ne h (t := 33) b2 (by omega) (u := 29) (by omega) (by omega), by rw [f_X12_isName, b3, if_neg (by decide)]⟩
end NUMS
