/-! TEXTS: a NAME that stands, a new NAME -/
section TNAME
variable {B : Nat → Nat} {n c : Nat} {C R : Mem} {f e : Nat}
theorem find2w (hn : n ≤ 900) (hB : ∀ k, B k < 256) (hR : TxR B n R) {f e : Nat} (hfe : f ≤ e) (he : e ≤ n) (h8 : e - f ≤ 8) (r13 : gI R 0 13 = nI f) (r14 : gI R 0 14 = nI e) (hw : lets (wrd B f (e - f))) {c kd base cnt : Nat} (hkd : kd < 6) (hcnt : cnt ≤ 6) (hbase : base + 6 ≤ 138) (hc : gI C (c + 1) kd = nI cnt)
    (hN : ∀ i, i < cnt → nmOK (gL C (c + 2) (kd * 6 + i)) (gL R 2 (base + i))) : ∃ r : Int32, f_X0_numberOf c (nI kd) (lN (code27 (wrd B f (e - f)))) C = some (r, C) ∧ f_X12_findHere (nI base) (nI cnt) R = some (r, R) ∧ (r = -1 ∨ ∃ k, k < cnt ∧ r = nI k) := by
  obtain ⟨s, r, h1, h2, h3⟩ := find2 hn hB hR hfe he h8 r13 r14 hw hkd hcnt hbase hc hN cnt 0 fz (by omega) (by rw [fz_is]; omega)
  have h1' : f_X0_numberOf_L3 c (nI kd) (lN (code27 (wrd B f (e - f)))) fz 0 C = some ((s, nI r), C) := h1
  have h2' : f_X12_findHere_L2 (nI base) (nI cnt) fz 0 R = some ((s, nI r), R) := h2
  rw [f_X0_numberOf, h1', bnd_some, f_X12_findHere, h2', bnd_some]
  rcases h3 with ⟨rfl, h3⟩ | rfl
  · exact ⟨nI r, by rw [if_pos rfl], by rw [if_pos rfl], Or.inr ⟨r, h3, rfl⟩⟩
  · exact ⟨-1, by rw [if_neg (show ¬ (1 : Nat) = 0 by decide)], by rw [if_neg (show ¬ (1 : Nat) = 0 by decide)], Or.inl rfl⟩
theorem Hlt.pre {C1 R1 : Mem} {X Y : Rs Int32} (h : Hlt c C1 R1 X Y) (a : PrC c C C1) (b : PrR R R1) : Hlt c C R X Y := by
  obtain ⟨C', R', h1, h2, h3, h4, h5⟩ := h
  exact ⟨C', R', h1, h2, h3, a.tr h4, b.tr h5⟩
theorem PrC.s16 (k : Nat) (v : Int32) : PrC c C (sI C 16 k v) := ⟨fun a j x y z => by rw [gI_I, if_neg (by omega)], fun _ _ _ _ => rfl, fun _ _ => rfl⟩
theorem PrR.s1 {q : Nat} (h1 : 2008 ≤ q) (h2 : q < 2510) (v : Int32) : PrR R (sI R 1 q v) := ⟨fun a j x y z => by rw [gI_I, if_neg (by omega)], fun _ _ _ => rfl⟩
theorem StT.s16 (h : StT B n C R f e) (k : Nat) (v : Int32) : StT B n (sI C 16 k v) R f e := h.setC (fun a j z => by rw [gI_I, if_neg (by omega)]) (fun _ _ _ => rfl)
theorem StT.s1 (h : StT B n C R f e) (q : Nat) (v : Int32) : StT B n C (sI R 1 q v) f e := h.setR (fun a j z => by rw [gI_I, if_neg (by omega)])
theorem st_name (hn : n ≤ 900) (hB : ∀ k, B k < 256) (h : StT B n C R f e) {kd base cnt q : Nat} (hkd : kd < 6) (hcnt : cnt ≤ 6) (hbase : base + 6 ≤ 138) (hc : gI C (c + 1) kd = nI cnt)
    (hN : ∀ i, i < cnt → nmOK (gL C (c + 2) (kd * 6 + i)) (gL R 2 (base + i))) (hq : 2008 ≤ q) (hq2 : q < 2510) : Hlt c C R (f_X4_takeName (nI kd) c C) (f_X12_oldOne (nI base) (nI cnt) (nI q) R) ∨
    ∃ k C' R' f' e', k < cnt ∧ f_X4_takeName (nI kd) c C = some (1, C') ∧ f_X12_oldOne (nI base) (nI cnt) (nI q) R = some (1, R') ∧ StT B n C' R' f' e' ∧ GoC (sI C 16 3 (nI k)) C' ∧ GoR (sI R 1 q (nI k)) R' := by
  obtain ⟨z1, z2⟩ := r_rd (e := nI q) (j := q) rfl (by omega)
  rcases st_isName hn hB h with ⟨b1, b2, b3, b4, b5, b6, b7, b8, b9⟩ | ⟨b1, b2⟩
  · obtain ⟨r, h1, h2, h3⟩ := find2w (C := C) hn hB h.2.1 (Nat.le_of_lt b3) b4 b5 b8 b9 b6 hkd hcnt hbase hc hN
    have hs := (h.s16 3 r).s1 q r
    have g16 : gI (sI C 16 3 r) 16 3 = r := gI_same _ _ _ _
    have g1q : gI (sI R 1 q r) 1 q = r := gI_same _ _ _ _
    rw [f_X4_takeName, if_pos b1, b7, h1, bnd_some, letF, g16, f_X12_oldOne, b2, bnd_some, if_neg i10, h2, bnd_some, if_neg z1, letF, if_neg z1, z2, g1q]
    rcases h3 with rfl | ⟨k, k1, rfl⟩
    · rw [if_pos rfl, if_pos rfl]
      exact Or.inl ((st_stp (c := c) hs hn hB (k := 3) (by omega) (by omega)).chk.pre (PrC.s16 3 _) (PrR.s1 hq hq2 _))
    · obtain ⟨C', R', f', e', a1, a2, a3, a4, a5, -⟩ := st_go hn hB hs
      refine Or.inr ⟨k, C', R', f', e', k1, ?_, ?_, a3, a4, a5⟩
      · rw [if_neg (nI_ne_m1 (by omega)), a1, bnd_some]
      · rw [if_neg (nI_ne_m1 (by omega)), a2, bnd_some]
  · rw [f_X4_takeName, if_neg b1, f_X12_oldOne, b2, bnd_some, if_pos rfl]
    exact Or.inl (st_stp (c := c) h hn hB (k := 2) (by omega) (by omega)).chk
end TNAME
