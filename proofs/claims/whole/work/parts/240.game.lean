/-! GAMES: game, moveOf -/
theorem GmI.eq {C C1 C2 : Mem} {K : Kt} (h : GmI C1 (gR C 0 1) K C2) (e : EqC C C1) : EqC C C2 := by
  refine ⟨fun n k z => ?_, fun n k => (h.2.2.2 n k).trans (e.2 n k)⟩
  have q := e.1 n k z
  unfold scrC at z
  exact ⟨(h.2.1 n k (by omega) (by omega)).trans q.1, (h.2.2.1 n k).trans q.2⟩
theorem GmI.sq {C C1 C2 : Mem} {K : Kt} {sp : Nat} (h : GmI C1 sp K C2) (hc : 27 ≤ sp) (e : SqC C C1) : SqC C C2 := e.tr ⟨h.2.2.1 _ _, h.2.2.1 _ _, h.2.1 _ _ (by omega) (by omega), h.2.1 _ _ (by omega) (by omega)⟩
theorem PlR.eq {R R' : Mem} (h : PlR R R') : EqR R R' := fun n k z => by
  unfold scrR at z
  exact ⟨h.1 n k (by omega) (by omega), h.2 n k⟩
theorem PlR.sq {R R' : Mem} (h : PlR R R') : SqR R R' := ⟨h.2 _ _, h.2 _ _, h.1 _ _ (by omega) (by omega), h.1 _ _ (by omega) (by omega)⟩
section GAME
variable {C R : Mem}
/-- the two play the same game -/
theorem game2 {K : Kt} (ho : RelO C R) (hw : WFK K) (hC : IsC C (gR C 0 0) K) (hR : IsR R 0 K) (hW : WkR C (gR C 0 0) R 0 K) (h0 : shC (gR C 0 0) = 0) (h1 : shC (gR C 0 1) = 0) {T : Nat} (hT : T ≤ 3) :
    ∃ C1 C2 R', f_X0_copyFrom (gR C 0 1) (gR C 0 0) C = some ((), C1) ∧ gR C1 0 1 = gR C 0 1 ∧ f_X1_begin (gR C 0 1) (nI T) C1 = some (iI (vaK T true K), C2) ∧ gI C2 24 0 = nI (fmK T K) ∧ SqC C C2 ∧ f_X12_playing (nI T) R = some (iI (vaK T true K), R') ∧ SqR R R' ∧ RelO C2 R' ∧ IsR R' 0 K ∧ (T ≠ 0 → ∃ y, y ≤ dnK K ∧ gI R' 16 0 = nI y ∧ cdK K y = fmK T K) := by
  obtain ⟨sp1, sp2⟩ := ho.1.sp
  obtain ⟨C1, e1, e2, e3, e4⟩ := spare ho hw hC hW h0 h1
  obtain ⟨C2, b1, b2, b3⟩ := p_begin h1 e2 hw hT
  obtain ⟨R', r1, r2, r3⟩ := r_playing hR hw hT
  exact ⟨C1, C2, R', e1, e3.2 _ _, b1, b3, b2.sq sp2 e4, r1, r2.sq, ho.cg (b2.eq e3) r2.eq, hR.cg (fun k _ _ => r2.1 _ _ (by omega) (by omega)) hw, r3⟩
theorem m_game (h : Rel C R) (a : Int32) : OK2 (f_X11_game a C) (f_X12_game a R) := by
  obtain ⟨hs, ho⟩ := h
  obtain ⟨K, hw, -, hC, hR, hN, hW, h0, h1⟩ := ho.get5
  rw [f_X11_game, f_X12_game]
  rcases ix a (n := 4) (by decide) with hx | ⟨T, hT, rfl⟩
  · rw [withinF 4 4 rfl hx, bnd_some, if_pos i00, r_from0F 4 (by decide) hx (by decide), bnd_some, if_pos i00]
    exact fin_ref hs SqC.rf SqR.rf ho 1
  · obtain ⟨C1, C2, R', a1, a2, a3, a4, a5, a6, a7, a8, a9, a10⟩ := game2 ho hw hC hR hW h0 h1 (T := T) (by omega)
    rw [withinT 4 4 rfl (by decide) hT, bnd_some, if_neg i10, if_neg (nn h1), if_neg (nn h0), a1, bnd_some, a2, if_neg (nn h1), a3, bnd_some, r_from0T 4 (by decide) hT (by decide), bnd_some, if_neg i10, a6, bnd_some]
    exact fin_giv hs a5 a7 a8 _
theorem m_moveOf (h : Rel C R) (a b : Int32) : OK2 (f_X11_moveOf a b C) (f_X12_moveOf a b R) := by
  obtain ⟨hs, ho⟩ := h
  obtain ⟨K, hw, -, hC, hR, hN, hW, h0, h1⟩ := ho.get5
  have hd := dn_le hw
  rw [f_X11_moveOf, f_X12_moveOf]
  by_cases ha : a < 1
  · have e : a.toInt < 1 := by rw [i_lt] at ha; exact ha
    rw [if_pos ha, r_isFromF (Or.inl e), bnd_some, if_pos i00]
    exact fin_ref hs SqC.rf SqR.rf ho 1
  · by_cases ha2 : 3 < a
    · have e : 3 < a.toInt := by rw [i_lt] at ha2; exact ha2
      rw [if_neg ha, if_pos ha2, r_isFromF (lo := 1) (hi := 3) (Or.inr e), bnd_some, if_pos i00]
      exact fin_ref hs SqC.rf SqR.rf ho 1
    · have e1 : ¬ a.toInt < 1 := by rw [i_lt] at ha; exact ha
      have e2 : ¬ 3 < a.toInt := by rw [i_lt] at ha2; exact ha2
      obtain ⟨T, hT, rfl⟩ : ∃ T : Nat, (1 ≤ T ∧ T ≤ 3) ∧ a = nI T := by
        refine ⟨a.toInt.toNat, by omega, ?_⟩
        apply Int32.toInt_inj.mp
        rw [nI_toInt (by omega)]
        omega
      rw [if_neg ha, if_neg ha2, r_isFromT (show (1 : Int64).toInt ≤ _ from (by show (1 : Int) ≤ _; omega)) (show _ ≤ (3 : Int64).toInt from (by show _ ≤ (3 : Int); omega)), bnd_some, if_neg i10]
      rcases ix b (n := 2) (by decide) with hx | ⟨u, hu, rfl⟩
      · rw [withinF 2 2 rfl hx, bnd_some, if_pos i00, r_from0F 2 (by decide) hx (by decide), bnd_some, if_pos i00]
        exact fin_ref hs SqC.rf SqR.rf ho 1
      · obtain ⟨C1, C2, R', a1, a2, a3, a4, a5, a6, a7, a8, a9, a10⟩ := game2 ho hw hC hR hW h0 h1 (T := T) (by omega)
        obtain ⟨y, y1, y2, y3⟩ := a10 (by omega)
        rw [withinT 2 2 rfl (by decide) hu, bnd_some, if_neg i10, if_neg (nn h1), if_neg (nn h0), a1, bnd_some, a2, if_neg (nn h1), a3, bnd_some, r_from0T 2 (by decide) hu (by decide), bnd_some, if_neg i10, a6, bnd_some, letF, r_deeds a9 hw, bnd_some, a4, y2, ← y3]
        by_cases z : y = dnK K
        · have e : cdK K y = 36 := by unfold cdK cdx; rw [if_pos (show y = nK K 3 * (1 + nK K 0) from z)]
          rw [e, if_neg (show ¬ nI 36 < (36 : Int32) by decide), z, if_pos rfl]
          exact fin_ref hs a5 a7 a8 6
        · obtain ⟨n1, e, p1, p2, e36, e6, e7⟩ := cd_in hw (x := y) (by omega)
          have hn0 := hw.n0
          have s1 : (1 : Int32) + gI R' 1 0 = nI (1 + nK K 0) := by rw [a9.cnt (by decide), hn0.1]; exact nI_add 1 _
          have nz : ¬ nI (1 + nK K 0) = 0 := nI_ne0 (by omega) (by omega)
          have d1 : nI y / nI (1 + nK K 0) = nI (y / (1 + nK K 0)) := pk_div (by omega) (by omega) (by omega)
          have d2 : nI y - nI y / nI (1 + nK K 0) * nI (1 + nK K 0) = nI (y % (1 + nK K 0)) := pk_rem (by omega) (by omega) (by omega)
          have d3 : nI (cdK K y) / (6 : Int32) = nI (cdK K y / 6) := pk_div (d := 6) (by omega) (by omega) (by omega)
          have d4 : nI (cdK K y) - nI (cdK K y) / (6 : Int32) * (6 : Int32) = nI (cdK K y % 6) := pk_rem (d := 6) (by omega) (by omega) (by omega)
          have lt : nI (cdK K y) < (36 : Int32) := nI_lt (b := 36) e36 (by decide)
          have ne : ¬ nI y = nI (dnK K) := fun q => z (nI_inj (by omega) (by omega) q)
          rw [if_pos lt, if_neg ne, s1, if_neg nz, if_neg nz, d2, d1, d4, d3, e6, e7]
          by_cases hu0 : nI u = 0
          · rw [if_pos hu0, if_pos hu0]
            exact fin_giv hs a5 a7 a8 _
          · rw [if_neg hu0, if_neg hu0]
            exact fin_giv hs a5 a7 a8 _
end GAME
