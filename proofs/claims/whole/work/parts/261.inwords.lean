/-! TEXTS: keywords of the reference -/
/-- the class's number of a keyword to the reference's -/
def kwP : List Nat := [0, 1, 2, 3, 4, 5, 6, 8, 9, 7, 10, 11, 12, 13, 14, 15, 16, 17, 18, 19, 20, 21, 22, 23, 25, 26, 27, 28, 24]
/-- the class's keyword of the reference's number -/
def kwQ : List Nat := [0, 1, 2, 3, 4, 5, 6, 9, 7, 8, 10, 11, 12, 13, 14, 15, 16, 17, 18, 19, 20, 21, 22, 23, 28, 24, 25, 26, 27]
def rkw (j : Nat) : List Nat := kwL.getD (kwQ.getD j 0) []
def stW : Nat → Nat
  | 0 => 1
  | j + 1 => stW j + (rkw j).length + 1
theorem kw_len : stW 29 = lenKS.getD 1 0 := by decide +kernel
theorem kw_chr : ∀ j, j < 29 → (∀ k, k < (rkw j).length → (bytKS.getD 1 []).getD (stW j + k) 0 &&& 255 = nI ((rkw j).getD k 0)) ∧ (bytKS.getD 1 []).getD (stW j + (rkw j).length) 0 &&& 255 = 32 ∧ (rkw j).length ≤ 7 ∧ 1 ≤ (rkw j).length ∧ stW j + (rkw j).length < stW 29 := by decide +kernel
theorem kw_ltr : ∀ j, j < 29 → ∀ k, k < (rkw j).length → 97 ≤ (rkw j).getD k 0 ∧ (rkw j).getD k 0 ≤ 122 := by decide +kernel
theorem st29 : stW 29 = lenKS.getD 1 0 ∧ stW 29 < 1000 := by decide +kernel
theorem kw_at {j k : Nat} (hj : j < 29) (hk : k < (rkw j).length) (M : Mem) : f_J0_charAt_5068e 1 (nI (stW j + k)) M = some (nI ((rkw j).getD k 0), M) := by
  obtain ⟨h1, h2, h3, h4, h5⟩ := kw_chr j hj
  have s := st29
  rw [show f_J0_charAt_5068e = fS_chr from rfl, fS_chr, ← s.1, if_neg (show ¬ (nI (stW j + k) < 0 ∨ stW 29 ≤ (nI (stW j + k)).toNatClampNeg) from nI_in (by omega) (by omega)), nI_clamp (by omega), h1 k hk]
theorem kw_sp {j : Nat} (hj : j < 29) (M : Mem) : f_J0_charAt_5068e 1 (nI (stW j + (rkw j).length)) M = some (32, M) := by
  obtain ⟨h1, h2, h3, h4, h5⟩ := kw_chr j hj
  have s := st29
  rw [show f_J0_charAt_5068e = fS_chr from rfl, fS_chr, ← s.1, if_neg (show ¬ (nI (stW j + (rkw j).length) < 0 ∨ stW 29 ≤ (nI (stW j + (rkw j).length)).toNatClampNeg) from nI_in (by omega) (by omega)), nI_clamp (by omega), h2]
theorem r_L25 {j : Nat} (hj : j < 29) (b2 b3 : Int32) (M : Mem) : ∀ d k fu, k + d = (rkw j).length → d < fu → f_X12_inWords_L25 b2 b3 fu (nI (stW j + k)) M = some (nI (stW j + (rkw j).length), M) := by
  obtain ⟨h1, h2, h3, h4, h5⟩ := kw_chr j hj
  have s := st29
  intro d
  induction d with
  | zero =>
    intro k fu e1 e2
    obtain ⟨fu, rfl⟩ : ∃ k, fu = k + 1 := ⟨fu - 1, by omega⟩
    have : k = (rkw j).length := by omega
    subst this
    rw [f_X12_inWords_L25, kw_sp hj, bnd_some, if_pos rfl]
  | succ d ih =>
    intro k fu e1 e2
    obtain ⟨fu, rfl⟩ : ∃ k, fu = k + 1 := ⟨fu - 1, by omega⟩
    have l := kw_ltr j hj k (by omega)
    have ne : ¬ nI ((rkw j).getD k 0) = (32 : Int32) := fun z => by have := nI_inj (b := 32) (by omega) (by omega) z; omega
    rw [f_X12_inWords_L25, kw_at hj (by omega), bnd_some, if_neg ne, letF, nI_s, show stW j + k + 1 = stW j + (k + 1) by omega]
    exact ih (k + 1) fu (by omega) (by omega)
section INW
variable {B : Nat → Nat} {n : Nat} {R : Mem}
theorem r_L68 (hn : n ≤ 900) (hB : ∀ k, B k < 256) (hR : TxR B n R) {f j : Nat} (hj : j < 29) (hf : f + (rkw j).length ≤ n) (r13 : gI R 0 13 = nI f) (b2 : Int32) : ∀ d k fu, k + d = (rkw j).length → d + 1 < fu → (∀ i, i < k → (rkw j).getD i 0 = B (f + i)) →
    ∃ s : Int32, f_X12_inWords_L68 b2 (nI (stW j)) (nI (stW j + (rkw j).length)) fu 1 (nI (stW j + k)) R = some (s, R) ∧ ((s = 1 ∧ ∀ i, i < (rkw j).length → (rkw j).getD i 0 = B (f + i)) ∨ (s = 0 ∧ ∃ i, i < (rkw j).length ∧ ¬ (rkw j).getD i 0 = B (f + i))) := by
  obtain ⟨h1, h2, h3, h4, h5⟩ := kw_chr j hj
  have s := st29
  intro d
  induction d with
  | zero =>
    intro k fu e1 e2 e3
    obtain ⟨fu, rfl⟩ : ∃ k, fu = k + 1 := ⟨fu - 1, by omega⟩
    refine ⟨1, ?_, Or.inl ⟨rfl, fun i hi => e3 i (by omega)⟩⟩
    rw [f_X12_inWords_L68, show k = (rkw j).length by omega, if_pos (Int32.le_refl _)]
  | succ d ih =>
    intro k fu e1 e2 e3
    obtain ⟨fu, rfl⟩ : ∃ k, fu = k + 2 := ⟨fu - 2, by omega⟩
    have l := kw_ltr j hj k (by omega)
    have hb := hB (f + k)
    have e : nI f + nI (stW j + k) - nI (stW j) = nI (f + k) := by
      rw [nI_add, pk_sub (by omega)]
      congr 1
      omega
    rw [f_X12_inWords_L68, if_neg (show ¬ nI (stW j + (rkw j).length) ≤ nI (stW j + k) from nI_ge (by omega) (by omega)), if_neg i10, kw_at hj (by omega), bnd_some, r13, e, r_byteAt hR hn (by omega), bnd_some]
    by_cases z : (rkw j).getD k 0 = B (f + k)
    · rw [if_pos (by rw [z]), letF, nI_s, show stW j + k + 1 = stW j + (k + 1) by omega]
      exact ih (k + 1) (fu + 1) (by omega) (by omega) (fun i hi => by
        by_cases y : i = k
        · rw [y]; exact z
        · exact e3 i (by omega))
    · have ne : ¬ nI ((rkw j).getD k 0) = nI (B (f + k)) := fun q => z (nI_inj (by omega) (by omega) q)
      rw [if_neg ne, letF, nI_s, f_X12_inWords_L68]
      refine ⟨0, ?_, Or.inr ⟨rfl, k, by omega, z⟩⟩
      by_cases y : nI (stW j + (rkw j).length) ≤ nI (stW j + k + 1)
      · rw [if_pos y]
      · rw [if_neg y, if_pos rfl]
end INW
