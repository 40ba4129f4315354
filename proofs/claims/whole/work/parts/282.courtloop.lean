/-! TEXTS: all parts of a court, in both -/
theorem c_loop {c : Nat} {C C' : Mem} {r i : Int32} {fu : Nat} (hi : ¬ 900 ≤ i) (ht : ¬ gI C 13 6 = 32) (h : partC c C = some (r, C')) : f_X4_readCourt_L14 c (fu + 1) i C = if r = 0 then some (0, C') else f_X4_readCourt_L14 c fu (i + 1) C' := by
  rw [partC] at h
  obtain ⟨r1, M1, e1, h⟩ := bnd_inv h
  rw [f_X4_readCourt_L14, if_neg hi, if_neg ht, letF, e1, bnd_some]
  by_cases z1 : r1 = 0
  · rw [if_pos z1] at h
    cases h
    rw [if_pos z1, if_pos rfl]
  rw [if_neg z1] at h
  obtain ⟨r2, M2, e2, h⟩ := bnd_inv h
  rw [if_neg z1, e2, bnd_some]
  by_cases z2 : r2 = 0
  · rw [if_pos z2] at h
    cases h
    rw [if_pos z2, if_pos rfl]
  rw [if_neg z2] at h
  rw [if_neg z2, h, bnd_some]
  rfl
section CLOOP
variable {B : Nat → Nat} {n c : Nat}
theorem court_loop (hc : shC c = 0) (hn : n ≤ 900) (hB : ∀ k, B k < 256) : ∀ d i f e K C R fu fu2, d + sumK K = 41 → i = sumK K → d + 1 < fu → d + 2 < fu2 → PtI B n c C R f e K →
    ∃ s C' R', f_X4_readCourt_L14 c fu (nI i) C = some (s, C') ∧ f_X12_court_L26 fu2 1 R = some ((), R') ∧ PrC c C C' ∧ PrR R R' ∧ ((s = 0 ∧ FlT C' R') ∨ (s = 1 ∧ ∃ K f e, PtI B n c C' R' f e K)) := by
  intro d
  induction d with
  | zero =>
    intro i f e K C R fu fu2 h1 h2 h3 h4 h
    obtain ⟨fu, rfl⟩ : ∃ k, fu = k + 1 := ⟨fu - 1, by omega⟩
    obtain ⟨fu2, rfl⟩ : ∃ k, fu2 = k + 2 := ⟨fu2 - 2, by omega⟩
    obtain ⟨t, t1, t2, -, t4, -⟩ := tk_num h.1 hn hB
    have i9 : ¬ (900 : Int32) ≤ nI i := nI_ge (b := 900) (by omega) (by omega)
    by_cases z : t = 32
    · refine ⟨1, C, R, ?_, ?_, PrC.rf, PrR.rf, Or.inr ⟨rfl, K, f, e, h⟩⟩
      · rw [f_X4_readCourt_L14, if_neg i9, t2, if_pos (by rw [z]; rfl)]
      · rw [f_X12_court_L26, if_neg i10, if_pos (t4.mp z)]
    · have ne : ¬ gI C 13 6 = 32 := fun q => z (nI_inj (b := 32) (by omega) (by omega) (t2.symm.trans q))
      rcases st_part hc hn hB h with ⟨C', R', a1, a2, a3, a4, a5⟩ | ⟨C', R', a1, a2, K', f', e', a3, a4, a5, a6⟩
      · refine ⟨0, C', R', ?_, ?_, a4, a5, Or.inl ⟨rfl, a3⟩⟩
        · rw [c_loop i9 ne a1, if_pos rfl]
        · rw [f_X12_court_L26, if_neg i10, if_neg (fun q => z (t4.mpr q)), a2, bnd_some, f_X12_court_L26, if_pos rfl]
      · have := sumK_le a3.2.1
        omega
  | succ d ih =>
    intro i f e K C R fu fu2 h1 h2 h3 h4 h
    obtain ⟨fu, rfl⟩ : ∃ k, fu = k + 1 := ⟨fu - 1, by omega⟩
    obtain ⟨fu2, rfl⟩ : ∃ k, fu2 = k + 2 := ⟨fu2 - 2, by omega⟩
    obtain ⟨t, t1, t2, -, t4, -⟩ := tk_num h.1 hn hB
    have i9 : ¬ (900 : Int32) ≤ nI i := nI_ge (b := 900) (by omega) (by omega)
    by_cases z : t = 32
    · refine ⟨1, C, R, ?_, ?_, PrC.rf, PrR.rf, Or.inr ⟨rfl, K, f, e, h⟩⟩
      · rw [f_X4_readCourt_L14, if_neg i9, t2, if_pos (by rw [z]; rfl)]
      · rw [f_X12_court_L26, if_neg i10, if_pos (t4.mp z)]
    · have ne : ¬ gI C 13 6 = 32 := fun q => z (nI_inj (b := 32) (by omega) (by omega) (t2.symm.trans q))
      rcases st_part hc hn hB h with ⟨C', R', a1, a2, a3, a4, a5⟩ | ⟨C', R', a1, a2, K', f', e', a3, a4, a5, a6⟩
      · refine ⟨0, C', R', ?_, ?_, a4, a5, Or.inl ⟨rfl, a3⟩⟩
        · rw [c_loop i9 ne a1, if_pos rfl]
        · rw [f_X12_court_L26, if_neg i10, if_neg (fun q => z (t4.mpr q)), a2, bnd_some, f_X12_court_L26, if_pos rfl]
      · obtain ⟨s, C2, R2, b1, b2, b3, b4, b5⟩ := ih (i + 1) f' e' K' C' R' fu (fu2 + 1) (by omega) (by omega) (by omega) (by omega) a3
        refine ⟨s, C2, R2, ?_, ?_, a5.tr b3, a6.tr b4, b5⟩
        · rw [c_loop i9 ne a1, if_neg i10, nI_s]; exact b1
        · rw [f_X12_court_L26, if_neg i10, if_neg (fun q => z (t4.mpr q)), a2, bnd_some]; exact b2
end CLOOP
