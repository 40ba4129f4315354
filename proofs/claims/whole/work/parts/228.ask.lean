/-! ask -/
def disB (K : Kt) (p w : Nat) : Bool := !decide (cueN K 1 (K 12 p) (nI w) (K 13 p) = cueN K 2 (K 12 p) (nI w) (K 13 p))
def gdB (K : Kt) (R : Mem) (i n k : Nat) : Bool := !cloB K R i n (k / 10) && disB K (k / 10) (k % 10)
theorem k10 (p w : Nat) (hw : w < 10) : (10 * p + w) / 10 = p ∧ (10 * p + w) % 10 = w := by omega
theorem ask_1 {C R : Mem} {K : Kt} (h0 : shC (gR C 0 0) = 0) (hC : IsC C (gR C 0 0) K) (hw : WFK K) {i n p : Nat} (hp : p < nK K 3) (b1 : ∀ j, bt (gI C 0 17) j = ngB K R i 1 n j) (b2 : ∀ j, bt (gI C 0 18) j = ngB K R i 2 n j) :
    ∀ d w fu, w + d = 10 → d < fu → ∃ s : Nat × Int32, f_X11_bestQuestion_L25 (nI p) (gR C 0 0 + 13 + 1 + p) fu (nI w) C = some (s, C) ∧ ((s.1 = 0 ∧ ∃ w', w ≤ w' ∧ w' < 10 ∧ s.2 = nI w' ∧ gdB K R i n (10 * p + w') = true ∧ ∀ j, w ≤ j → j < w' → gdB K R i n (10 * p + j) = false) ∨ (s.1 = 1 ∧ ∀ j, w ≤ j → j < 10 → gdB K R i n (10 * p + j) = false)) := by
  have hn := hw.n3
  have e := hC.2.2.2.1 p hp
  intro d
  induction d with
  | zero =>
    intro w fu h1 h2
    obtain ⟨fu, rfl⟩ : ∃ k, fu = k + 1 := ⟨fu - 1, by omega⟩
    exact ⟨(1, nI w), by rw [f_X11_bestQuestion_L25, if_pos (show (9 : Int32) < nI w from nI_lt (a := 9) (by omega) (by omega))], Or.inr ⟨rfl, fun j j1 j2 => by omega⟩⟩
  | succ d ih =>
    intro w fu h1 h2
    obtain ⟨fu, rfl⟩ : ∃ k, fu = k + 1 := ⟨fu - 1, by omega⟩
    obtain ⟨k1, k2⟩ := k10 p w (by omega)
    rw [f_X11_bestQuestion_L25, if_neg (show ¬ (9 : Int32) < nI w from nI_nlt (a := 9) (by omega) (by omega)), p_isOpen (by omega) b1 b2, bnd_some]
    cases hcl : cloB K R i n p with
    | true =>
      refine ⟨(1, nI w), by rw [show bI (!true) = 0 from rfl, if_pos i00], Or.inr ⟨rfl, fun j j1 j2 => ?_⟩⟩
      unfold gdB
      rw [(k10 p j j2).1, hcl]
      rfl
    | false =>
      have hgd : gdB K R i n (10 * p + w) = disB K p w := by
        unfold gdB
        rw [k1, k2, hcl]
        rfl
      rw [show bI (!false) = 1 from rfl, if_neg i10, if_neg (nn h0), e 1 (by decide), e 2 (by decide), p_cueFor h0 hC hw, bnd_some, if_neg (nn h0), e 1 (by decide), e 2 (by decide), p_cueFor h0 hC hw, bnd_some]
      by_cases z : cueN K 1 (K (11 + 1) p) (nI w) (K (11 + 2) p) = cueN K 2 (K (11 + 1) p) (nI w) (K (11 + 2) p)
      · have hd : disB K p w = false := by
          unfold disB
          rw [decide_eq_true (show cueN K 1 (K 12 p) (nI w) (K 13 p) = cueN K 2 (K 12 p) (nI w) (K 13 p) from z)]
          rfl
        obtain ⟨s, s1, s2⟩ := ih (w + 1) fu (by omega) (by omega)
        rw [if_pos z, letF, nI_s]
        refine ⟨s, s1, ?_⟩
        have nx : ∀ j, w ≤ j → j < w + 1 → gdB K R i n (10 * p + j) = false := fun j j1 j2 => by
          have : j = w := by omega
          rw [this, hgd, hd]
        rcases s2 with ⟨s3, w', w1, w2, w3, w4, w5⟩ | ⟨s3, s4⟩
        · refine Or.inl ⟨s3, w', by omega, w2, w3, w4, fun j j1 j2 => ?_⟩
          by_cases y : j < w + 1
          · exact nx j j1 y
          · exact w5 j (by omega) j2
        · refine Or.inr ⟨s3, fun j j1 j2 => ?_⟩
          by_cases y : j < w + 1
          · exact nx j j1 y
          · exact s4 j (by omega) j2
      · have hd : disB K p w = true := by
          unfold disB
          rw [decide_eq_false (show ¬ cueN K 1 (K 12 p) (nI w) (K 13 p) = cueN K 2 (K 12 p) (nI w) (K 13 p) from z)]
          rfl
        rw [if_neg z]
        exact ⟨(0, nI w), rfl, Or.inl ⟨rfl, w, Nat.le_refl _, by omega, rfl, by rw [hgd, hd], fun j j1 j2 => by omega⟩⟩
theorem ask_2 {C R : Mem} {K : Kt} (h0 : shC (gR C 0 0) = 0) (hC : IsC C (gR C 0 0) K) (hw : WFK K) {i n : Nat} (b1 : ∀ j, bt (gI C 0 17) j = ngB K R i 1 n j) (b2 : ∀ j, bt (gI C 0 18) j = ngB K R i 2 n j) :
    ∀ d p fu, p + d = nK K 3 → d < fu → (∀ k, k < 10 * p → gdB K R i n k = false) → ∃ s : Nat × Int32 × Int32, f_X11_bestQuestion_L2 fu (nI p) C = some (s, C) ∧ ((s.1 = 0 ∧ ∃ p' w', p' < nK K 3 ∧ w' < 10 ∧ s.2 = (nI p', nI w') ∧ gdB K R i n (10 * p' + w') = true ∧ ∀ k, k < 10 * p' + w' → gdB K R i n k = false) ∨ (s.1 = 1 ∧ ∀ k, k < 10 * nK K 3 → gdB K R i n k = false)) := by
  have hn := hw.n3
  intro d
  induction d with
  | zero =>
    intro p fu h1 h2 h3
    obtain ⟨fu, rfl⟩ : ∃ k, fu = k + 1 := ⟨fu - 1, by omega⟩
    have e : p = nK K 3 := by omega
    subst e
    exact ⟨(1, nI (nK K 3), 0), by rw [f_X11_bestQuestion_L2, if_neg (nn h0), p_count3, bnd_some, hC.1 3 (by decide), hn.1, if_pos (Int32.le_refl _)], Or.inr ⟨rfl, h3⟩⟩
  | succ d ih =>
    intro p fu h1 h2 h3
    obtain ⟨fu, rfl⟩ : ∃ k, fu = k + 1 := ⟨fu - 1, by omega⟩
    have hp : p < nK K 3 := by omega
    obtain ⟨s, s1, s2⟩ := ask_1 h0 hC hw (R := R) (i := i) (n := n) hp b1 b2 10 0 fz (by omega) (by rw [fz_is]; omega)
    have s1' : f_X11_bestQuestion_L25 (nI p) (gR C 0 0 + 13 + 1 + p) fz 0 C = some (s, C) := s1
    rw [f_X11_bestQuestion_L2, if_neg (nn h0), p_count3, bnd_some, hC.1 3 (by decide), hn.1, if_neg (nI_ge hp (by omega)), if_neg (nn h0), p_personAt (by omega), bnd_some, if_neg (nn (shC_per h0 (by omega))), s1', bnd_some]
    rcases s2 with ⟨s3, w', w1, w2, w3, w4, w5⟩ | ⟨s3, s4⟩
    · rw [if_pos s3, w3]
      refine ⟨(0, nI p, nI w'), rfl, Or.inl ⟨rfl, p, w', hp, w2, rfl, w4, fun k hk => ?_⟩⟩
      by_cases y : k < 10 * p
      · exact h3 k y
      · have := w5 (k - 10 * p) (Nat.zero_le _) (by omega)
        rw [show 10 * p + (k - 10 * p) = k by omega] at this
        exact this
    · rw [if_neg (by rw [s3]; decide), letF, nI_s]
      refine ih (p + 1) fu (by omega) (by omega) (fun k hk => ?_)
      by_cases y : k < 10 * p
      · exact h3 k y
      · have := s4 (k - 10 * p) (Nat.zero_le _) (by omega)
        rw [show 10 * p + (k - 10 * p) = k by omega] at this
        exact this
/-- the reference: how many of the ways show one thing -/
def cGj (K : Kt) (R : Mem) (i n p j : Nat) : Nat := foldN (fun s a => a + if (fitB K R i n s && s.testBit p) = true then 1 else 0) j 0 0
def cNj (K : Kt) (R : Mem) (i n p j : Nat) : Nat := foldN (fun s a => a + if (fitB K R i n s && !s.testBit p) = true then 1 else 0) j 0 0
theorem cG_s (K : Kt) (R : Mem) (i n p j : Nat) : cGj K R i n p (j + 1) = cGj K R i n p j + if (fitB K R i n j && j.testBit p) = true then 1 else 0 := by
  unfold cGj
  rw [foldN_add, Nat.zero_add]
  rfl
theorem cN_s (K : Kt) (R : Mem) (i n p j : Nat) : cNj K R i n p (j + 1) = cNj K R i n p j + if (fitB K R i n j && !j.testBit p) = true then 1 else 0 := by
  unfold cNj
  rw [foldN_add, Nat.zero_add]
  rfl
theorem cGN (K : Kt) (R : Mem) (i n p : Nat) : cGj K R i n p (2 ^ nK K 3) = guiW K R i n p ∧ cGj K R i n p (2 ^ nK K 3) + cNj K R i n p (2 ^ nK K 3) = allW K R i n := by
  refine ⟨rfl, ?_⟩
  unfold cGj cNj allW
  refine (foldS_add (2 ^ nK K 3) 0 0 0 0 rfl (fun j _ _ => ?_)).symm
  cases fitB K R i n j <;> cases j.testBit p <;> rfl
theorem sh_rd {j : Nat} (hj : j < 7) : ¬ (nI j < 0 ∨ 7 ≤ (nI j).toNatClampNeg) ∧ (nI j).toNatClampNeg = j := ⟨nI_in hj (by decide), nI_clamp (by omega)⟩
theorem r_most {R0 R : Mem} {K : Kt} (hR : IsR R0 0 K) (hw : WFK K) {i n p w : Nat} (hL : LdF K R0 i n (2 ^ nK K 3) R) (hp : p < nK K 3) (hwm : w ≤ 9) : ∃ R', f_X12_mostAlike (nI p) (nI w) R = some (nI (if disB K p w = true then max (guiW K R0 i n p) (allW K R0 i n - guiW K R0 i n p) else allW K R0 i n), R') ∧ LdF K R0 i n (2 ^ nK K 3) R' := by
  have hn := hw.n3
  have hn1 := hw.n1
  have h6 := pow_le6 hn.2
  obtain ⟨j1, a1, a2⟩ := cueN_in hw 1 (K 12 p) (nI w) (K 13 p)
  obtain ⟨j2, c1, c2⟩ := cueN_in hw 2 (K 12 p) (nI w) (K 13 p)
  have hd : disB K p w = !decide (j1 = j2) := by
    unfold disB
    rw [a2, c2]
    by_cases z : j1 = j2
    · rw [decide_eq_true z, decide_eq_true (by rw [z])]
    · rw [decide_eq_false z, decide_eq_false (fun q => z (nI_inj (by omega) (by omega) q))]
  have keep : ∀ D : Mem, LdF K R0 i n (2 ^ nK K 3) D → ∀ k v, LdF K R0 i n (2 ^ nK K 3) (sI D 10 k v) := fun D h k v => ⟨h.1.sI _ _ _ (by omega), fun s hs => by rw [gI_I, if_neg (by omega)]; exact h.2.1 s hs, by rw [gI_I, if_neg (by omega)]; exact h.2.2⟩
  have key0 := loopI (fun fu (D : Mem) k => f_X12_mostAlike_L5 (nI p) (nI w) 0 fu (nI k) D) 7 (fun k D => LdF K R0 i n (2 ^ nK K 3) D ∧ ∀ x, x < k → gI D 10 x = 0) (fun b => b.1 = () ∧ LdF K R0 i n (2 ^ nK K 3) b.2 ∧ ∀ x, x < 7 → gI b.2 10 x = 0)
    (fun fu D hI => ⟨((), D), by rw [f_X12_mostAlike_L5, if_pos (by decide)], rfl, hI⟩)
    (fun fu D k hk hI => Or.inl ⟨sI D 10 k 0, ⟨keep D hI.1 k 0, fun x hx => by
      rw [gI_I]
      by_cases z : x = k
      · rw [if_pos ⟨rfl, z⟩]
      · rw [if_neg (by omega)]; exact hI.2 x (by omega)⟩, by
      obtain ⟨q1, q2⟩ := sh_rd hk
      rw [f_X12_mostAlike_L5, if_neg (show ¬ (7 : Int32) ≤ nI k from nI_ge (b := 7) hk (by decide)), if_neg q1, letF, letF, q2, nI_s]⟩) 7 0 R fz (by omega) (by decide) ⟨hL, fun x hx => by omega⟩
  obtain ⟨⟨u, R1⟩, e1, -, e2, e3⟩ := key0
  have e1' : f_X12_mostAlike_L5 (nI p) (nI w) 0 fz 0 R = some (u, R1) := e1
  have main : ∀ d s fu D, s + d = 2 ^ nK K 3 → d < fu → LdF K R0 i n (2 ^ nK K 3) D → gI D 10 j1 = nI (cGj K R0 i n p s + if j1 = j2 then cNj K R0 i n p s else 0) → gI D 10 j2 = nI (cNj K R0 i n p s + if j1 = j2 then cGj K R0 i n p s else 0) →
      ∃ D', f_X12_mostAlike_L29 (nI p) (nI w) fu (nI (max (cGj K R0 i n p s + if j1 = j2 then cNj K R0 i n p s else 0) (cNj K R0 i n p s + if j1 = j2 then cGj K R0 i n p s else 0))) (nI s) D = some (nI (max (cGj K R0 i n p (2 ^ nK K 3) + if j1 = j2 then cNj K R0 i n p (2 ^ nK K 3) else 0) (cNj K R0 i n p (2 ^ nK K 3) + if j1 = j2 then cGj K R0 i n p (2 ^ nK K 3) else 0)), D') ∧ LdF K R0 i n (2 ^ nK K 3) D' := by
    intro d
    induction d with
    | zero =>
      intro s fu D h1 h2 h3 h4 h5
      obtain ⟨fu, rfl⟩ : ∃ k, fu = k + 1 := ⟨fu - 1, by omega⟩
      have e : s = 2 ^ nK K 3 := by omega
      subst e
      exact ⟨D, by rw [f_X12_mostAlike_L29, (hR.fg hw h3.1).cnt (by decide), hn.1, shl_is _ (by omega), if_pos (Int32.le_refl _)], h3⟩
    | succ d ih =>
      intro s fu D h1 h2 h3 h4 h5
      obtain ⟨fu, rfl⟩ : ∃ k, fu = k + 1 := ⟨fu - 1, by omega⟩
      obtain ⟨q1, q2⟩ := fo_rd (s := s) (by omega)
      have cle : cGj K R0 i n p s ≤ s := cnt_le _ _
      have nle : cNj K R0 i n p s ≤ s := cnt_le _ _
      have bA : (cGj K R0 i n p s + if j1 = j2 then cNj K R0 i n p s else 0) ≤ 200 := by split <;> omega
      have bB : (cNj K R0 i n p s + if j1 = j2 then cGj K R0 i n p s else 0) ≤ 200 := by split <;> omega
      have bM : max (cGj K R0 i n p s + if j1 = j2 then cNj K R0 i n p s else 0) (cNj K R0 i n p s + if j1 = j2 then cGj K R0 i n p s else 0) < 2 ^ 31 := Nat.max_lt.mpr ⟨Nat.lt_of_le_of_lt bA (by decide), Nat.lt_of_le_of_lt bB (by decide)⟩
      rw [f_X12_mostAlike_L29, (hR.fg hw h3.1).cnt (by decide), hn.1, shl_is _ (by omega), if_neg (nI_ge (by omega) (by omega)), if_neg q1, q2, h3.2.1 s (by omega)]
      have gs := cG_s K R0 i n p s
      have ns := cN_s K R0 i n p s
      cases e : fitB K R0 i n s with
      | false =>
        rw [e, Bool.false_and, if_neg (by decide)] at gs ns
        rw [bI_f, if_pos i00, letF, nI_s]
        have := ih (s + 1) fu D (by omega) (by omega) h3 (by rw [gs, ns]; exact h4) (by rw [gs, ns]; exact h5)
        rw [gs, ns] at this
        exact this
      | true =>
        rw [e, Bool.true_and] at gs ns
        rw [bI_t, if_neg i10, r_wouldShow (hR.fg hw h3.1) hw (by omega) hp hwm, bnd_some]
        cases e4 : s.testBit p with
        | true =>
          obtain ⟨x1, x2⟩ := sh_rd (j := j1) (by omega)
          rw [e4] at gs ns
          rw [if_pos rfl] at gs
          rw [if_neg (by decide)] at ns
          have ns : cNj K R0 i n p (s + 1) = cNj K R0 i n p s := ns
          rw [if_pos rfl, a2, if_neg x1, if_neg x1, letF, if_neg x1, letF, letF, nI_s, x2, gI_same, h4, nI_s, mx_nI bM (Nat.lt_of_le_of_lt (Nat.succ_le_succ bA) (by decide))]
          have := ih (s + 1) fu (sI D 10 j1 (nI (cGj K R0 i n p s + (if j1 = j2 then cNj K R0 i n p s else 0) + 1))) (by omega) (by omega) (keep D h3 _ _) (by
              rw [gI_same, gs, ns]; congr 1; omega) (by
              rw [gs, ns, gI_I]
              by_cases z : j2 = j1
              · rw [if_pos ⟨rfl, z⟩, if_pos z.symm, if_pos z.symm]; congr 1; omega
              · rw [if_neg (by omega), if_neg (fun q => z q.symm)]
                rw [if_neg (fun q => z q.symm)] at h5
                exact h5)
          rw [gs, ns] at this
          have em : max (max (cGj K R0 i n p s + if j1 = j2 then cNj K R0 i n p s else 0) (cNj K R0 i n p s + if j1 = j2 then cGj K R0 i n p s else 0)) (cGj K R0 i n p s + (if j1 = j2 then cNj K R0 i n p s else 0) + 1) = max (cGj K R0 i n p s + 1 + if j1 = j2 then cNj K R0 i n p s else 0) (cNj K R0 i n p s + if j1 = j2 then cGj K R0 i n p s + 1 else 0) := by
            by_cases z : j1 = j2
            · rw [if_pos z, if_pos z, if_pos z]; omega
            · rw [if_neg z, if_neg z, if_neg z]; omega
          rw [em]
          exact this
        | false =>
          obtain ⟨x1, x2⟩ := sh_rd (j := j2) (by omega)
          rw [e4] at gs ns
          rw [if_neg (by decide)] at gs
          rw [if_pos (by decide)] at ns
          have gs : cGj K R0 i n p (s + 1) = cGj K R0 i n p s := gs
          rw [show (if false = true then (1 : Int32) else 2) = 2 from rfl, c2, if_neg x1, if_neg x1, letF, if_neg x1, letF, letF, nI_s, x2, gI_same, h5, nI_s, mx_nI bM (Nat.lt_of_le_of_lt (Nat.succ_le_succ bB) (by decide))]
          have := ih (s + 1) fu (sI D 10 j2 (nI (cNj K R0 i n p s + (if j1 = j2 then cGj K R0 i n p s else 0) + 1))) (by omega) (by omega) (keep D h3 _ _) (by
              rw [gs, ns, gI_I]
              by_cases z : j1 = j2
              · rw [if_pos ⟨rfl, z⟩, if_pos z, if_pos z]; congr 1; omega
              · rw [if_neg (by omega), if_neg z]
                rw [if_neg z] at h4
                exact h4) (by
              rw [gI_same, gs, ns]; congr 1; omega)
          rw [gs, ns] at this
          have em : max (max (cGj K R0 i n p s + if j1 = j2 then cNj K R0 i n p s else 0) (cNj K R0 i n p s + if j1 = j2 then cGj K R0 i n p s else 0)) (cNj K R0 i n p s + (if j1 = j2 then cGj K R0 i n p s else 0) + 1) = max (cGj K R0 i n p s + if j1 = j2 then cNj K R0 i n p s + 1 else 0) (cNj K R0 i n p s + 1 + if j1 = j2 then cGj K R0 i n p s else 0) := by
            by_cases z : j1 = j2
            · rw [if_pos z, if_pos z, if_pos z]; omega
            · rw [if_neg z, if_neg z, if_neg z]; omega
          rw [em]
          exact this
  have z0 : ∀ A : Nat → Bool, foldN (fun s a => a + if A s = true then 1 else 0) 0 0 0 = 0 := fun _ => rfl
  obtain ⟨R2, m1, m2⟩ := main (2 ^ nK K 3) 0 fz R1 (by omega) (by rw [fz_is]; omega) e2 (by rw [e3 j1 (by omega)]; unfold cGj cNj; rw [z0, z0]; split <;> rfl) (by rw [e3 j2 (by omega)]; unfold cGj cNj; rw [z0, z0]; split <;> rfl)
  have m0 : max (cGj K R0 i n p 0 + if j1 = j2 then cNj K R0 i n p 0 else 0) (cNj K R0 i n p 0 + if j1 = j2 then cGj K R0 i n p 0 else 0) = 0 := by
    unfold cGj cNj
    rw [z0, z0]
    split <;> rfl
  rw [m0] at m1
  have m1' : f_X12_mostAlike_L29 (nI p) (nI w) fz 0 0 R1 = _ := m1
  obtain ⟨g1, g2⟩ := cGN K R0 i n p
  refine ⟨R2, ?_, m2⟩
  rw [f_X12_mostAlike, e1', bnd_some, m1', bnd_some, hd, ← g2, ← g1]
  by_cases z : j1 = j2
  · rw [if_pos z, if_pos z, decide_eq_true z, if_neg (by decide)]
    congr 3
    omega
  · rw [if_neg z, if_neg z, decide_eq_false z, if_pos (by decide)]
    congr 3
    omega
