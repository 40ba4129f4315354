/-! TEXTS: the code of a NAME in the reference -/
theorem sh8 : ((8 : Int32).toInt64 &&& 63) = lN 8 := by decide +kernel
theorem sh8b : ((lN 8).toBitVec.smod 64).toNat = 8 := by decide +kernel
theorem lN_bv (n : Nat) : (lN n).toBitVec = BitVec.ofNat 64 n := rfl
theorem shl8 {a b : Nat} (ha : a < 2 ^ 56) (hb : b < 256) : (lN a <<< ((8 : Int32).toInt64 &&& 63)) ||| (nI b).toInt64 = lN (a * 256 + b) := by
  rw [sh8, nI_l (by omega)]
  apply Int64.toBitVec_inj.mp
  rw [Int64.toBitVec_or, Int64.toBitVec_shiftLeft, lN_bv a, lN_bv b, lN_bv (a * 256 + b)]
  apply BitVec.eq_of_toNat_eq
  rw [BitVec.toNat_or, BitVec.shiftLeft_eq', BitVec.toNat_shiftLeft, sh8b, BitVec.toNat_ofNat, BitVec.toNat_ofNat, BitVec.toNat_ofNat, Nat.mod_eq_of_lt (show a < 2 ^ 64 by omega), Nat.mod_eq_of_lt (show b < 2 ^ 64 by omega), Nat.mod_eq_of_lt (show a * 256 + b < 2 ^ 64 by omega), Nat.mod_eq_of_lt (show a <<< 8 < 2 ^ 64 by rw [Nat.shiftLeft_eq]; omega), ← Nat.shiftLeft_add_eq_or_of_lt (show b < 2 ^ 8 by omega), Nat.shiftLeft_eq]
def c2N (B : Nat → Nat) : Nat → Nat → Nat → Nat
  | 0, _, a => a
  | d + 1, i, a => c2N B d (i + 1) (a * 256 + B i)
theorem c2_wrd {B : Nat → Nat} : ∀ d i a, (wrd B i d).foldl (fun a x => a * 256 + x) a = c2N B d i a := by
  intro d
  induction d with
  | zero => intro i a; rfl
  | succ d ih =>
    intro i a
    rw [c2N, ← ih (i + 1)]
    unfold wrd
    rw [List.range'_succ, List.map_cons, List.foldl_cons]
section NAMES
variable {B : Nat → Nat} {n : Nat} {R : Mem}
theorem r_nameL (hn : n ≤ 900) (hB : ∀ k, B k < 256) (hR : TxR B n R) {e : Nat} (he : e ≤ n) (r14 : gI R 0 14 = nI e) : ∀ d i a fu, i + d = e → d < fu → (a + 1) * 256 ^ d ≤ 2 ^ 64 → f_X12_nameHere_L7 fu (lN a) (nI i) R = some (lN (c2N B d i a), R) := by
  intro d
  induction d with
  | zero =>
    intro i a fu h1 h2 h3
    obtain ⟨fu, rfl⟩ : ∃ k, fu = k + 1 := ⟨fu - 1, by omega⟩
    rw [f_X12_nameHere_L7, r14, show i = e by omega, if_pos (Int32.le_refl _), c2N]
  | succ d ih =>
    intro i a fu h1 h2 h3
    obtain ⟨fu, rfl⟩ : ∃ k, fu = k + 1 := ⟨fu - 1, by omega⟩
    have hb := hB i
    have hp : 1 ≤ 256 ^ d := Nat.one_le_pow _ _ (by omega)
    have h4 : (a + 1) * 256 * 256 ^ d ≤ 2 ^ 64 := by rw [Nat.mul_assoc, ← Nat.pow_succ']; exact h3
    have h5 : (a + 1) * 256 ≤ 2 ^ 64 := Nat.le_trans (Nat.le_mul_of_pos_right _ hp) h4
    have h6 : (a * 256 + B i + 1) * 256 ^ d ≤ 2 ^ 64 := Nat.le_trans (Nat.mul_le_mul_right _ (by omega)) h4
    rw [f_X12_nameHere_L7, r14, if_neg (show ¬ nI e ≤ nI i from nI_ge (by omega) (by omega)), r_byteAt hR hn (by omega), bnd_some, shl8 (by omega) hb, letF, letF, nI_s, c2N]
    exact ih (i + 1) _ fu (by omega) (by omega) h6
theorem r_nameHere (hn : n ≤ 900) (hB : ∀ k, B k < 256) (hR : TxR B n R) {f e : Nat} (hfe : f ≤ e) (he : e ≤ n) (h8 : e - f ≤ 8) (r13 : gI R 0 13 = nI f) (r14 : gI R 0 14 = nI e) : f_X12_nameHere R = some (lN (code256 (wrd B f (e - f))), R) := by
  have hp : (0 + 1) * 256 ^ (e - f) ≤ 2 ^ 64 := by
    rw [Nat.zero_add, Nat.one_mul]
    exact Nat.le_trans (Nat.pow_le_pow_right (by omega) h8) (by decide)
  have key := r_nameL hn hB hR he r14 (e - f) f 0 fz (by omega) (by rw [fz_is]; omega) hp
  have key' : f_X12_nameHere_L7 fz 0 (nI f) R = some (lN (c2N B (e - f) f 0), R) := key
  rw [f_X12_nameHere, r13, letF, key', bnd_some, code256, c2_wrd]
theorem code256_lt : ∀ (n : Nat) (w : List Nat), w.length ≤ n + 1 → lets w → code256 w < 123 * 256 ^ n := by
  intro n
  induction n with
  | zero =>
    intro w h hw
    rcases List.eq_nil_or_concat w with rfl | ⟨w', x, rfl⟩
    · decide
    · rw [List.concat_eq_append] at *
      have hx := hw x (by simp)
      simp only [List.length_append, List.length_cons, List.length_nil] at h
      have h1 : w' = [] := List.length_eq_zero_iff.mp (by omega)
      subst h1
      rw [code256_snoc, show code256 [] = 0 from rfl]
      omega
  | succ n ih =>
    intro w h hw
    rcases List.eq_nil_or_concat w with rfl | ⟨w', x, rfl⟩
    · exact Nat.mul_pos (by omega) (Nat.pow_pos (by omega))
    · rw [List.concat_eq_append] at *
      have hx := hw x (by simp)
      simp only [List.length_append, List.length_cons, List.length_nil] at h
      have := ih w' (by omega) (fun z hz => hw z (by simp [hz]))
      rw [code256_snoc, Nat.pow_succ]
      omega
theorem code_ok {w : List Nat} (hw : lets w) (hl : w.length ≤ 8) : code27 w < 2 ^ 63 ∧ code256 w < 2 ^ 63 :=
  ⟨Nat.lt_of_lt_of_le (code27_lt 8 w hl hw) (by decide), Nat.lt_of_lt_of_le (code256_lt 7 w hl hw) (by decide)⟩
/-- one NAME of each side against the word here -/
theorem nm_same {a b : Int64} (h : nmOK a b) {w : List Nat} (hw : lets w) (hl : w.length ≤ 8) : (lg_cmp a (lN (code27 w)) = 0 ↔ lg_cmp b (lN (code256 w)) = 0) := by
  obtain ⟨u, u1, u2, u3, rfl, rfl⟩ := h
  have hu : lets u := u3
  obtain ⟨x1, x2⟩ := code_ok hu u2
  obtain ⟨y1, y2⟩ := code_ok hw hl
  have i := code_inj _ u w (Nat.le_refl _) hu hw
  rw [lg_cmp_eq, lg_cmp_eq, pk_lEQ x1 y1, pk_lEQ x2 y2, i.1, i.2]
theorem find2 {C : Mem} (hn : n ≤ 900) (hB : ∀ k, B k < 256) (hR : TxR B n R) {f e : Nat} (hfe : f ≤ e) (he : e ≤ n) (h8 : e - f ≤ 8) (r13 : gI R 0 13 = nI f) (r14 : gI R 0 14 = nI e) (hw : lets (wrd B f (e - f))) {c kd base cnt : Nat} (hkd : kd < 6) (hcnt : cnt ≤ 6) (hbase : base + 6 ≤ 138) (hc : gI C (c + 1) kd = nI cnt)
    (hN : ∀ i, i < cnt → nmOK (gL C (c + 2) (kd * 6 + i)) (gL R 2 (base + i))) : ∀ d i fu, i + d = cnt → d < fu → ∃ s r : Nat, f_X0_numberOf_L3 c (nI kd) (lN (code27 (wrd B f (e - f)))) fu (nI i) C = some ((s, nI r), C) ∧ f_X12_findHere_L2 (nI base) (nI cnt) fu (nI i) R = some ((s, nI r), R) ∧ ((s = 0 ∧ r < cnt) ∨ s = 1) := by
  have ll : (wrd B f (e - f)).length = e - f := by unfold wrd; rw [List.length_map, List.length_range']
  have hct : f_X0_countOf c (nI kd) C = some (nI cnt, C) := by
    rw [p_countOf hkd C, hc]
  intro d
  induction d with
  | zero =>
    intro i fu h1 h2
    obtain ⟨fu, rfl⟩ : ∃ k, fu = k + 1 := ⟨fu - 1, by omega⟩
    have : i = cnt := by omega
    subst this
    exact ⟨1, i, by rw [f_X0_numberOf_L3, hct, bnd_some, if_pos (Int32.le_refl _)], by rw [f_X12_findHere_L2, if_pos (Int32.le_refl _)], Or.inr rfl⟩
  | succ d ih =>
    intro i fu h1 h2
    obtain ⟨fu, rfl⟩ : ∃ k, fu = k + 1 := ⟨fu - 1, by omega⟩
    have hi : i < cnt := by omega
    have n1 : ¬ nI cnt ≤ nI i := nI_ge hi (by omega)
    have n2 : ¬ (6 : Int32) ≤ nI i := nI_ge (b := 6) (by omega) (by decide)
    have e1 : nI kd * 6 + nI i = nI (kd * 6 + i) := by rw [litI, pk_mul, nI_add]
    have e2 : nI base + nI i = nI (base + i) := nI_add _ _
    have b1 : ¬ (nI (kd * 6 + i) < 0 ∨ 36 ≤ (nI (kd * 6 + i)).toNatClampNeg) := nI_in (by omega) (by decide)
    have b2 : ¬ (nI (base + i) < 0 ∨ 138 ≤ (nI (base + i)).toNatClampNeg) := nI_in (by omega) (by decide)
    have sm := nm_same (hN i hi) hw (by omega)
    rw [f_X0_numberOf_L3, hct, bnd_some, if_neg n1, if_neg n2, e1, letF, withinT 36 36 rfl (by decide) (by omega), bnd_some, if_neg i10, if_neg b1, nI_clamp (by omega), f_X12_findHere_L2, if_neg n1, e2, if_neg b2, r_nameHere hn hB hR hfe he h8 r13 r14, bnd_some, nI_clamp (by omega)]
    by_cases z : lg_cmp (gL C (c + 2) (kd * 6 + i)) (lN (code27 (wrd B f (e - f)))) = 0
    · rw [if_pos z, if_pos (sm.mp z)]
      exact ⟨0, i, rfl, rfl, Or.inl ⟨rfl, hi⟩⟩
    · rw [if_neg z, if_neg (fun q => z (sm.mpr q)), letF, letF, nI_s]
      exact ih (i + 1) fu (by omega) (by omega)
end NAMES
