/-! TEXTS: the values of words and numbers -/
def dgN (B : Nat → Nat) : Nat → Nat → Nat → Nat
  | 0, _, a => a
  | d + 1, i, a => dgN B d (i + 1) (a * 10 + B i - 48)
def cdN (B : Nat → Nat) : Nat → Nat → Nat → Nat
  | 0, _, a => a
  | d + 1, i, a => cdN B d (i + 1) (a * 27 + (B i - 96))
def wrd (B : Nat → Nat) (f d : Nat) : List Nat := (List.range' f d).map B
theorem vals_eq {B : Nat → Nat} : ∀ d i a, (∀ k, i ≤ k → k < i + d → isDg (B k) = true) → (a + 1) * 10 ^ d ≤ 10000 → vlS B d i (nI a) = nI (dgN B d i a) ∧ vrS B d i (nI a) = nI (dgN B d i a) ∧ dgN B d i a ≤ 9999 := by
  intro d
  induction d with
  | zero => intro i a _ h; rw [Nat.pow_zero] at h; exact ⟨rfl, rfl, by rw [dgN]; omega⟩
  | succ d ih =>
    intro i a hd h
    have h0 := hd i (Nat.le_refl _) (by omega)
    unfold isDg at h0
    simp only [Bool.and_eq_true, decide_eq_true_eq] at h0
    have hp : 1 ≤ 10 ^ d := Nat.one_le_pow _ _ (by omega)
    have hs : (a * 10 + B i - 48 + 1) * 10 ^ d ≤ 10000 := by
      refine Nat.le_trans (Nat.mul_le_mul_right _ (show a * 10 + B i - 48 + 1 ≤ (a + 1) * 10 by omega)) ?_
      rw [Nat.mul_assoc, ← Nat.pow_succ']
      exact h
    have hb : a * 10 + B i - 48 + 1 ≤ 10000 := Nat.le_trans (Nat.le_mul_of_pos_right _ hp) hs
    have e1 : nI a * 10 + nI (B i) - 48 = nI (a * 10 + B i - 48) := by
      rw [litI, pk_mul, nI_add]
      exact pk_sub (b := 48) (by omega)
    have e2 : (10 : Int32) * nI a + nI (B i) - 48 = nI (a * 10 + B i - 48) := by
      rw [litI, pk_mul, nI_add, Nat.mul_comm]
      exact pk_sub (b := 48) (by omega)
    have e3 : mnI 100000 (nI (a * 10 + B i - 48)) = nI (a * 10 + B i - 48) := by
      unfold mnI
      rw [if_pos (show nI (a * 10 + B i - 48) < (100000 : Int32) from nI_lt (b := 100000) (by omega) (by decide))]
    rw [vlS, vrS, dgN, e1, e2, e3]
    exact ih (i + 1) _ (fun k y1 y2 => hd k (by omega) (by omega)) hs
theorem lN_mul27 (a : Nat) : lN a * 27 = lN (a * 27) := (Int64.ofNat_mul a 27).symm
theorem lN_sub97 {x : Nat} (h : 97 ≤ x) : lN x - 97 = lN (x - 97) := by
  have e : lN x = lN (x - 97) + lN 97 := by rw [lN_add]; congr 1; omega
  rw [e]
  exact Int64.add_sub_cancel _ _
theorem nmS_is {B : Nat → Nat} (hB : ∀ k, B k < 256) : ∀ d i a, (∀ k, i ≤ k → k < i + d → isLe (B k) = true) → nmS B d i (lN a) = lN (cdN B d i a) := by
  intro d
  induction d with
  | zero => intro i a _; rfl
  | succ d ih =>
    intro i a hd
    have h0 := hd i (Nat.le_refl _) (by omega)
    unfold isLe at h0
    simp only [Bool.and_eq_true, decide_eq_true_eq] at h0
    have e : lN a * 27 + (nI (B i)).toInt64 - 97 + 1 = lN (a * 27 + (B i - 96)) := by
      rw [lN_mul27, nI_l (by omega), lN_add, lN_sub97 (by omega), show (1 : Int64) = lN 1 from rfl, lN_add]
      congr 1
      omega
    rw [nmS, cdN, e]
    exact ih (i + 1) _ (fun k y1 y2 => hd k (by omega) (by omega))
theorem cd_wrd {B : Nat → Nat} : ∀ d i a, (wrd B i d).foldl (fun a x => a * 27 + (x - 96)) a = cdN B d i a := by
  intro d
  induction d with
  | zero => intro i a; rfl
  | succ d ih =>
    intro i a
    rw [cdN, ← ih (i + 1)]
    unfold wrd
    rw [List.range'_succ, List.map_cons, List.foldl_cons]
theorem code27_snoc (w : List Nat) (x : Nat) : code27 (w ++ [x]) = code27 w * 27 + (x - 96) := by
  unfold code27
  rw [List.foldl_append]
  rfl
theorem code256_snoc (w : List Nat) (x : Nat) : code256 (w ++ [x]) = code256 w * 256 + x := by
  unfold code256
  rw [List.foldl_append]
  rfl
def lets (w : List Nat) : Prop := ∀ x ∈ w, 97 ≤ x ∧ x ≤ 122
theorem code_inj : ∀ (n : Nat) (u v : List Nat), u.length + v.length ≤ n → lets u → lets v → (code27 u = code27 v ↔ u = v) ∧ (code256 u = code256 v ↔ u = v) := by
  intro n
  induction n with
  | zero =>
    intro u v h _ _
    have h1 : u = [] := List.length_eq_zero_iff.mp (by omega)
    have h2 : v = [] := List.length_eq_zero_iff.mp (by omega)
    subst h1 h2
    exact ⟨⟨fun _ => rfl, fun _ => rfl⟩, ⟨fun _ => rfl, fun _ => rfl⟩⟩
  | succ n ih =>
    intro u v h hu hv
    rcases List.eq_nil_or_concat u with rfl | ⟨u', x, rfl⟩
    · rcases List.eq_nil_or_concat v with rfl | ⟨v', y, rfl⟩
      · exact ⟨⟨fun _ => rfl, fun _ => rfl⟩, ⟨fun _ => rfl, fun _ => rfl⟩⟩
      · rw [List.concat_eq_append] at *
        have hy := hv y (by simp)
        refine ⟨⟨fun q => ?_, fun q => ?_⟩, ⟨fun q => ?_, fun q => ?_⟩⟩
        · rw [code27_snoc, show code27 [] = 0 from rfl] at q; omega
        · exact absurd q (by simp)
        · rw [code256_snoc, show code256 [] = 0 from rfl] at q; omega
        · exact absurd q (by simp)
    · rcases List.eq_nil_or_concat v with rfl | ⟨v', y, rfl⟩
      · rw [List.concat_eq_append] at *
        have hx := hu x (by simp)
        refine ⟨⟨fun q => ?_, fun q => ?_⟩, ⟨fun q => ?_, fun q => ?_⟩⟩
        · rw [code27_snoc, show code27 [] = 0 from rfl] at q; omega
        · exact absurd q (by simp)
        · rw [code256_snoc, show code256 [] = 0 from rfl] at q; omega
        · exact absurd q (by simp)
      · rw [List.concat_eq_append, List.concat_eq_append] at *
        have hx := hu x (by simp)
        have hy := hv y (by simp)
        simp only [List.length_append, List.length_cons, List.length_nil] at h
        have hi := ih u' v' (by omega) (fun z hz => hu z (by simp [hz])) (fun z hz => hv z (by simp [hz]))
        refine ⟨⟨fun q => ?_, fun q => by rw [q]⟩, ⟨fun q => ?_, fun q => by rw [q]⟩⟩
        · rw [code27_snoc, code27_snoc] at q
          have e1 : code27 u' = code27 v' := by omega
          have e2 : x = y := by omega
          rw [hi.1.mp e1, e2]
        · rw [code256_snoc, code256_snoc] at q
          have e1 : code256 u' = code256 v' := by omega
          have e2 : x = y := by omega
          rw [hi.2.mp e1, e2]
theorem code27_lt : ∀ (n : Nat) (w : List Nat), w.length ≤ n → lets w → code27 w < 27 ^ n := by
  intro n
  induction n with
  | zero =>
    intro w h _
    have h1 : w = [] := List.length_eq_zero_iff.mp (by omega)
    subst h1
    decide
  | succ n ih =>
    intro w h hw
    rcases List.eq_nil_or_concat w with rfl | ⟨w', x, rfl⟩
    · exact Nat.pow_pos (by omega)
    · rw [List.concat_eq_append] at *
      have hx := hw x (by simp)
      simp only [List.length_append, List.length_cons, List.length_nil] at h
      have := ih w' (by omega) (fun z hz => hw z (by simp [hz]))
      rw [code27_snoc, Nat.pow_succ]
      omega
