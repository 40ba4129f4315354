/-! TRAYS: tray, write, read, pour -/
def FrTC (C C' : Mem) : Prop := (∀ n k, (n < 5 ∨ 12 < n) → gI C' n k = gI C n k ∧ gL C' n k = gL C n k) ∧ ∀ n k, gR C' n k = gR C n k
def FrTR (R R' : Mem) : Prop := ∀ n k, (n < 3 ∨ 5 < n) → gI R' n k = gI R n k ∧ gL R' n k = gL R n k
theorem FrTC.rf {C : Mem} : FrTC C C := ⟨fun _ _ _ => ⟨rfl, rfl⟩, fun _ _ => rfl⟩
theorem FrTR.rf {R : Mem} : FrTR R R := fun _ _ _ => ⟨rfl, rfl⟩
theorem FrTC.sI {C C' : Mem} (h : FrTC C C') (n k : Nat) (v : Int32) (hn : 5 ≤ n ∧ n ≤ 12) : FrTC C (sI C' n k v) := ⟨fun a b z => ⟨by rw [gI_I, if_neg (by omega)]; exact (h.1 a b z).1, (h.1 a b z).2⟩, h.2⟩
theorem FrTC.sL {C C' : Mem} (h : FrTC C C') (n k : Nat) (v : Int64) (hn : 5 ≤ n ∧ n ≤ 12) : FrTC C (sL C' n k v) := ⟨fun a b z => ⟨(h.1 a b z).1, by rw [gL_L, if_neg (by omega)]; exact (h.1 a b z).2⟩, h.2⟩
theorem FrTR.sI {C C' : Mem} (h : FrTR C C') (n k : Nat) (v : Int32) (hn : 3 ≤ n ∧ n ≤ 5) : FrTR C (sI C' n k v) := fun a b z => ⟨by rw [gI_I, if_neg (by omega)]; exact (h a b z).1, (h a b z).2⟩
theorem FrTR.sL {C C' : Mem} (h : FrTR C C') (n k : Nat) (v : Int64) (hn : 3 ≤ n ∧ n ≤ 5) : FrTR C (sL C' n k v) := fun a b z => ⟨(h a b z).1, by rw [gL_L, if_neg (by omega)]; exact (h a b z).2⟩
theorem FrTC.sq {C C' : Mem} (h : FrTC C C') : SqC C C' := ⟨(h.1 _ _ (by omega)).2, (h.1 _ _ (by omega)).2, (h.1 _ _ (by omega)).1, (h.1 _ _ (by omega)).1⟩
theorem FrTR.sq {C C' : Mem} (h : FrTR C C') : SqR C C' := ⟨(h _ _ (by omega)).2, (h _ _ (by omega)).2, (h _ _ (by omega)).1, (h _ _ (by omega)).1⟩
theorem RelO.trays {C C' R R' : Mem} (h : RelO C R) (e : FrTC C C') (f : FrTR R R') (ht' : RelT C' R') : RelO C' R' := by
  obtain ⟨hn, ht, hb, hl, hkw, hk, hm⟩ := h
  obtain ⟨e1, e2⟩ := e
  obtain ⟨hsp, hnw⟩ := hn.two
  refine ⟨by unfold NowC; rw [e2, e2]; exact hn, ht',
    hb.cg (e1 _ _ (by omega)).1 (fun k => (e1 _ _ (by omega)).1) (f _ _ (by omega)).1 (fun k => (f _ _ (by omega)).1),
    hl.cg (e1 _ _ (by omega)).1 (fun k => (e1 _ _ (by omega)).1) (f _ _ (by omega)).1 (fun k => (f _ _ (by omega)).1),
    hkw.cg (fun k => (e1 _ _ (by omega)).2), ?_, hm.cg (e1 _ _ (by omega)).1 (fun n k a => e1 _ _ (by omega)) (f _ _ (by omega)).1 (fun k a b => (f _ _ (by omega)).1) (fun k a b => (f _ _ (by omega)).2)⟩
  rw [e2]
  exact hk.cg (fun n k a b => e1 _ _ (by omega)) (fun k a b => (f _ _ (by omega)).1) (fun k a b => (f _ _ (by omega)).2)
theorem shC_tray {i : Nat} (h : i < 4) : shC (5 + 2 * i) = 8 := (by decide +kernel : ∀ i, i < 4 → shC (5 + 2 * i) = 8) i h
theorem p_trayAt {i : Nat} (h : i < 4) (M : Mem) : f_X11_trayAt (nI i) M = some (5 + 2 * i, M) := by
  rw [f_X11_trayAt, withinT 4 4 rfl (by decide) h, bnd_some, if_neg i10, if_neg (show ¬ (nI i < 0 ∨ 4 ≤ (nI i).toNatClampNeg) from nI_in h (by decide)), f_X11_trayAt_J25, nI_clamp (by omega)]
theorem r_isTrayT {i : Nat} (h : i < 4) (M : Mem) : f_X12_isTray (nI i) M = some (1, M) := by
  rw [f_X12_isTray, if_neg (nI_pos (by omega)), if_neg (show ¬ (4 : Int32) ≤ nI i from nI_ge (b := 4) h (by decide))]
theorem r_isTrayF {x : Int32} (h : x < 0 ∨ nI 4 ≤ x) (M : Mem) : f_X12_isTray x M = some (0, M) := by
  rw [f_X12_isTray]
  by_cases z : x < 0
  · rw [if_pos z]
  · rw [if_neg z, if_pos (show (4 : Int32) ≤ x from h.resolve_left z)]
theorem p_renew {i : Nat} (hi : i < 4) (s m : Int32) (C : Mem) : ∃ C', f_X8_renew (5 + 2 * i) s m C = some ((), C') ∧ FrTC C C' ∧ (∀ n k, gI C' n k = if n = 5 + 2 * i ∧ k = 1 then m else if n = 5 + 2 * i ∧ k = 0 then s else gI C n k) ∧ ∀ n k, gL C' n k = if n = 6 + 2 * i ∧ k < 60 then 0 else gL C n k := by
  have key := loopI (fun fu (D : Mem) j => f_X8_renew_L12 (5 + 2 * i) fu (nI j) D) 60 (fun j D => FrTC C D ∧ (∀ n k, gI D n k = if n = 5 + 2 * i ∧ k = 1 then m else if n = 5 + 2 * i ∧ k = 0 then s else gI C n k) ∧ ∀ n k, gL D n k = if n = 6 + 2 * i ∧ k < j then 0 else gL C n k)
    (fun b => b.1 = () ∧ FrTC C b.2 ∧ (∀ n k, gI b.2 n k = if n = 5 + 2 * i ∧ k = 1 then m else if n = 5 + 2 * i ∧ k = 0 then s else gI C n k) ∧ ∀ n k, gL b.2 n k = if n = 6 + 2 * i ∧ k < 60 then 0 else gL C n k)
    (fun fu D hI => ⟨((), D), ?_, rfl, hI⟩)
    (fun fu D j hj hI => Or.inl ?_) 60 0 (sI (sI C (5 + 2 * i) 0 s) (5 + 2 * i) 1 m) fz (by omega) (by decide) ⟨(FrTC.rf.sI _ _ _ (by omega)).sI _ _ _ (by omega), fun n k => rfl, fun n k => by rw [if_neg (by omega)]; rfl⟩
  · obtain ⟨⟨u, D⟩, e1, -, e2⟩ := key
    exact ⟨D, by rw [f_X8_renew, letF, letF, show (0 : Int32) = nI 0 from rfl, e1, bnd_some], e2⟩
  · rw [f_X8_renew_L12, if_pos (show (60 : Int32) ≤ nI 60 by decide)]
  · refine ⟨sL D (5 + 2 * i + 1) j 0, ⟨hI.1.sL _ _ _ (by omega), fun n k => hI.2.1 n k, fun n k => ?_⟩, ?_⟩
    · rw [gL_L, hI.2.2]
      by_cases z : n = 5 + 2 * i + 1 ∧ k = j
      · rw [if_pos z, if_pos (by omega)]
      · rw [if_neg z]
        by_cases z2 : n = 6 + 2 * i ∧ k < j
        · rw [if_pos z2, if_pos (by omega)]
        · rw [if_neg z2, if_neg (by omega)]
    · rw [f_X8_renew_L12, if_neg (show ¬ (60 : Int32) ≤ nI j from nI_ge (b := 60) hj (by decide)), if_neg (show ¬ (nI j < 0 ∨ 60 ≤ (nI j).toNatClampNeg) from nI_in hj (by decide)), letF, letF, nI_clamp (by omega), nI_s]
theorem rowT (a k : Nat) : (60 : Int32) * nI a + nI k = nI (60 * a + k) := by rw [litI, pk_mul, nI_add]
theorem tr_rd {e : Int32} {j : Nat} (he : e = nI j) (hj : j < 240) : ¬ (e < 0 ∨ 240 ≤ e.toNatClampNeg) ∧ e.toNatClampNeg = j := by
  subst he
  exact ⟨nI_in hj (by decide), nI_clamp (by omega)⟩
theorem r_trayL {i m : Nat} (hi : i < 4) (hm : m ≤ 60) (R : Mem) : ∃ R', f_X12_tray_L49 (nI i) (nI m) fz 0 R = some ((), R') ∧ (∀ n k, gI R' n k = gI R n k) ∧ ∀ n k, gL R' n k = if n = 5 ∧ 60 * i ≤ k ∧ k < 60 * i + m then 0 else gL R n k := by
  have key := loopI (fun fu (D : Mem) j => f_X12_tray_L49 (nI i) (nI m) fu (nI j) D) m (fun j D => (∀ n k, gI D n k = gI R n k) ∧ ∀ n k, gL D n k = if n = 5 ∧ 60 * i ≤ k ∧ k < 60 * i + j then 0 else gL R n k)
    (fun b => b.1 = () ∧ (∀ n k, gI b.2 n k = gI R n k) ∧ ∀ n k, gL b.2 n k = if n = 5 ∧ 60 * i ≤ k ∧ k < 60 * i + m then 0 else gL R n k)
    (fun fu D hI => ⟨((), D), by rw [f_X12_tray_L49, if_pos (Int32.le_refl _)], rfl, hI⟩)
    (fun fu D j hj hI => Or.inl ?_) m 0 R fz (by omega) (by rw [fz_is]; omega) ⟨fun n k => rfl, fun n k => by rw [if_neg (by omega)]⟩
  · obtain ⟨⟨u, D⟩, e1, -, e2⟩ := key
    exact ⟨D, e1, e2⟩
  · obtain ⟨q1, q2⟩ := tr_rd (rowT i j) (by omega)
    refine ⟨sL D 5 (60 * i + j) 0, ⟨fun n k => hI.1 n k, fun n k => ?_⟩, ?_⟩
    · rw [gL_L, hI.2]
      by_cases z : n = 5 ∧ k = 60 * i + j
      · rw [if_pos z, if_pos (by omega)]
      · rw [if_neg z]
        by_cases z2 : n = 5 ∧ 60 * i ≤ k ∧ k < 60 * i + j
        · rw [if_pos z2, if_pos (by omega)]
        · rw [if_neg z2, if_neg (by omega)]
    · rw [f_X12_tray_L49, if_neg (nI_ge hj (by omega)), if_neg q1, letF, letF, q2, nI_s]
theorem cutS_0 {s : Nat} (h : s < 4) : cutS s 0 = 0 := (by decide +kernel : ∀ s, s < 4 → cutS s 0 = 0) s h
section TRAYS
variable {C R : Mem}
theorem m_tray (h : Rel C R) (a b d : Int32) : OK2 (f_X11_tray a b d C) (f_X12_tray a b d R) := by
  obtain ⟨hs, ho⟩ := h
  rw [f_X11_tray, f_X12_tray]
  rcases ix a (n := 4) (by decide) with hx | ⟨i, hi, rfl⟩
  · rw [withinF 4 4 rfl hx, bnd_some, if_pos i00, r_isTrayF hx, bnd_some, if_pos i00]
    exact fin_den hs SqC.rf SqR.rf ho (by decide)
  rw [withinT 4 4 rfl (by decide) hi, bnd_some, if_neg i10, r_isTrayT hi, bnd_some, if_neg i10]
  rcases ix b (n := 4) (by decide) with hx | ⟨s, hsm, rfl⟩
  · rw [withinF 4 4 rfl hx, bnd_some, if_pos i00]
    by_cases hb : b < 0
    · rw [if_pos hb]
      exact fin_den hs SqC.rf SqR.rf ho (by decide)
    · have h3 : (3 : Int32) < b := by
        have q := hx.resolve_left hb
        rw [i_lt, show (3 : Int32).toInt = 3 from by decide]
        rw [i_le, show (nI 4).toInt = 4 from by decide] at q
        omega
      rw [if_neg hb, if_pos h3]
      exact fin_den hs SqC.rf SqR.rf ho (by decide)
  rw [withinT 4 4 rfl (by decide) hsm, bnd_some, if_neg i10, if_neg (nI_pos (by omega)), if_neg (show ¬ (3 : Int32) < nI s from fun z => by have := (nI_ltI (a := 3) (b := s) (by decide) (by omega)).mp z; omega)]
  rcases ix d (n := 61) (by decide) with hx | ⟨m, hm, rfl⟩
  · rw [withinF 61 61 rfl hx, bnd_some, if_pos i00]
    by_cases hb : d < 0
    · rw [if_pos hb]
      exact fin_den hs SqC.rf SqR.rf ho (by decide)
    · have h3 : ¬ d ≤ 60 := by
        have q := hx.resolve_left hb
        rw [i_le, show (60 : Int32).toInt = 60 from by decide]
        rw [i_le, show (nI 61).toInt = 61 from by decide] at q
        omega
      rw [if_neg hb, if_neg h3]
      exact fin_den hs SqC.rf SqR.rf ho (by decide)
  · obtain ⟨C', e1, e2, e3, e4⟩ := p_renew hi (nI s) (nI m) C
    obtain ⟨R', r1, r2, r3⟩ := r_trayL hi (m := m) (by omega) (sI (sI R 3 i (nI s)) 4 i (nI m))
    have q : ¬ (nI i < 0 ∨ 4 ≤ (nI i).toNatClampNeg) := nI_in hi (by decide)
    rw [withinT 61 61 rfl (by decide) hm, bnd_some, if_neg i10, p_trayAt hi, bnd_some, if_neg (nn (shC_tray hi)), e1, bnd_some, if_neg (nI_pos (by omega)), if_pos (show nI m ≤ (60 : Int32) from nI_le (b := 60) (by omega) (by decide)), if_neg q, letF, if_neg q, letF, nI_clamp (by omega), r1, bnd_some]
    have fr : FrTR R R' := fun n k z => ⟨by rw [r2, gI_I, if_neg (by omega), gI_I, if_neg (by omega)], by rw [r3, if_neg (by omega)]; rfl⟩
    refine fin_don hs e2.sq fr.sq (ho.trays e2 fr fun j hj => ?_)
    by_cases hji : j = i
    · subst hji
      refine Or.inr ⟨s, m, hsm, by omega, ?_, ?_, ?_, ?_, fun k hk => ?_⟩
      · rw [e3, if_neg (by omega), if_pos (by omega)]
      · rw [r2, gI_I, if_neg (by omega), gI_I, if_pos (by omega)]
      · rw [e3, if_pos (by omega)]
      · rw [r2, gI_I, if_pos (by omega)]
      · rw [e4, if_pos (by omega), r3, if_pos (by omega)]
        exact ⟨rfl, cutS_0 hsm⟩
    · rcases ho.2.1 j hj with ⟨x, y⟩ | ⟨s2, n2, x1, x2, x3, x4, x5, x6, x7⟩
      · exact Or.inl ⟨by rw [e3, if_neg (by omega), if_neg (by omega)]; exact x, by rw [r2, gI_I, if_neg (by omega), gI_I, if_neg (by omega)]; exact y⟩
      · refine Or.inr ⟨s2, n2, x1, x2, ?_, ?_, ?_, ?_, fun k hk => ?_⟩
        · rw [e3, if_neg (by omega), if_neg (by omega)]; exact x3
        · rw [r2, gI_I, if_neg (by omega), gI_I, if_neg (by omega)]; exact x4
        · rw [e3, if_neg (by omega), if_neg (by omega)]; exact x5
        · rw [r2, gI_I, if_neg (by omega), gI_I, if_neg (by omega)]; exact x6
        · rw [e4, if_neg (by omega), r3, if_neg (by omega)]; exact x7 k hk
end TRAYS
/-- PLACE: what a place of a tray answers -/
def plc (C : Mem) (a b : Int32) : Int32 := if a < 0 ∨ nI 4 ≤ a then 1 else if gI C (5 + 2 * a.toNatClampNeg) 0 = -1 then 2 else if b < 0 ∨ gI C (5 + 2 * a.toNatClampNeg) 1 ≤ b then 3 else 0
theorem place2 {C R : Mem} (h : RelT C R) (a b : Int32) : (∃ x : Int32, ¬ x = 0 ∧ 0 < x ∧ f_X11_placeRefusal a b C = some (x, C) ∧ f_X12_wrongPlace a b R = some (x, R)) ∨
    ∃ i s n k : Nat, a = nI i ∧ b = nI k ∧ i < 4 ∧ s < 4 ∧ n ≤ 60 ∧ k < n ∧ gI C (5 + 2 * i) 0 = nI s ∧ gI R 3 i = nI s ∧ gL C (6 + 2 * i) k = gL R 5 (60 * i + k) ∧ f_X11_placeRefusal a b C = some (0, C) ∧ f_X12_wrongPlace a b R = some (0, R) := by
  rw [f_X11_placeRefusal, f_X12_wrongPlace]
  rcases ix a (n := 4) (by decide) with hx | ⟨i, hi, rfl⟩
  · exact Or.inl ⟨1, by decide, by decide, by rw [withinF 4 4 rfl hx, bnd_some, if_pos i00], by rw [r_isTrayF hx, bnd_some, if_pos i00]⟩
  have q : ¬ (nI i < 0 ∨ 4 ≤ (nI i).toNatClampNeg) := nI_in hi (by decide)
  rw [withinT 4 4 rfl (by decide) hi, bnd_some, if_neg i10, p_trayAt hi, bnd_some, if_neg (nn (shC_tray hi)), f_X8_isMissing, r_isTrayT hi, bnd_some, if_neg i10, if_neg q, nI_clamp (by omega)]
  rcases h i hi with ⟨x, y⟩ | ⟨s, n, x1, x2, x3, x4, x5, x6, x7⟩
  · exact Or.inl ⟨2, by decide, by decide, by rw [if_pos x, bnd_some, if_neg i10], by rw [if_pos y]⟩
  rw [if_neg (by rw [x3]; exact nI_ne_m1 (by omega)), bnd_some, if_pos i00, p_trayAt hi, bnd_some, if_neg (nn (shC_tray hi)), f_X8_hasPlace, if_neg (by rw [x6]; exact nI_ne_m1 (by omega)), if_neg (show ¬ (nI i < 0 ∨ 4 ≤ i) from fun z => z.elim (nI_pos (by omega)) (by omega))]
  rw [x5, x6]
  rcases ix b (n := n) (by omega) with hx | ⟨k, hk, rfl⟩
  · refine Or.inl ⟨3, by decide, by decide, by rw [withinF n (nI n) rfl hx, bnd_some, if_neg (nn (Or.inl rfl)), bnd_some, if_pos i00], ?_⟩
    by_cases hb : b < 0
    · rw [if_pos hb]
    · rw [if_neg hb, if_neg (fun z => absurd (hx.resolve_left hb) (Int32.not_le.mpr z))]
  · refine Or.inr ⟨i, s, n, k, rfl, rfl, hi, x1, x2, hk, x3, x4, (x7 k hk).1, by rw [withinT n (nI n) rfl (by omega) hk, bnd_some, if_neg (nn (Or.inr rfl)), bnd_some, if_neg i10], ?_⟩
    rw [if_neg (nI_pos (by omega)), if_pos (nI_lt hk (by omega))]
theorem cut_cls (i : Nat) {s : Nat} (hs : s < 4) {C : Mem} (h : gI C (5 + 2 * i) 0 = nI s) (v : Int64) : f_X8_cut (5 + 2 * i) v C = some (cutS s v, C) := by
  rw [f_X8_cut, letF, h]
  match s, hs with
  | 0, _ => rw [if_pos (show nI 0 = 0 from rfl)]; rfl
  | 1, _ => rw [if_neg (show ¬ nI 1 = 0 by decide), if_pos (show nI 1 = 1 from rfl)]; rfl
  | 2, _ => rw [if_neg (show ¬ nI 2 = 0 by decide), if_neg (show ¬ nI 2 = 1 by decide), if_pos (show nI 2 = 2 from rfl)]; rfl
  | 3, _ => rw [if_neg (show ¬ nI 3 = 0 by decide), if_neg (show ¬ nI 3 = 1 by decide), if_neg (show ¬ nI 3 = 2 by decide)]; rfl
theorem cut_ref {s : Nat} (hs : s < 4) (R : Mem) (v : Int64) : f_X12_cut v (nI s) R = some (cutS s v, R) := by
  rw [f_X12_cut]
  match s, hs with
  | 0, _ => rw [if_pos (show nI 0 = 0 from rfl)]; rfl
  | 1, _ => rw [if_neg (show ¬ nI 1 = 0 by decide), if_pos (show nI 1 = 1 from rfl)]; rfl
  | 2, _ => rw [if_neg (show ¬ nI 2 = 0 by decide), if_neg (show ¬ nI 2 = 1 by decide), if_pos (show nI 2 = 2 from rfl)]; rfl
  | 3, _ => rw [if_neg (show ¬ nI 3 = 0 by decide), if_neg (show ¬ nI 3 = 1 by decide), if_neg (show ¬ nI 3 = 2 by decide)]; rfl
theorem cutS_id {s : Nat} (hs : s < 4) (v : Int64) : cutS s (cutS s v) = cutS s v := by
  match s, hs with
  | 0, _ => show (v.toInt32.toInt8.toInt32.toInt64).toInt32.toInt8.toInt32.toInt64 = _; simp [cutS]
  | 1, _ => show (v.toInt32.toInt16.toInt32.toInt64).toInt32.toInt16.toInt32.toInt64 = _; simp [cutS]
  | 2, _ => show (v.toInt32.toInt64).toInt32.toInt64 = _; simp [cutS]
  | 3, _ => rfl
theorem gI_same (M : Mem) (n k : Nat) (v : Int32) : gI (sI M n k v) n k = v := by rw [gI_I]; exact if_pos ⟨rfl, rfl⟩
section TRAYS2
variable {C R : Mem}
theorem m_write (h : Rel C R) (a b : Int32) (v : Int64) : OK2 (f_X11_write a b v C) (f_X12_write a b v R) := by
  obtain ⟨hs, ho⟩ := h
  rw [f_X11_write, f_X12_write]
  rcases place2 ho.2.1 a b with ⟨x, x0, -, e1, e2⟩ | ⟨i, s, n, k, rfl, rfl, hi, hsm, hn, hk, x3, x4, x5, e1, e2⟩
  · rw [e1, e2, bnd_some, bnd_some, if_neg x0, if_neg x0]
    exact fin_den hs SqC.rf SqR.rf ho x0
  · have q : ¬ (nI i < 0 ∨ 4 ≤ (nI i).toNatClampNeg) := nI_in hi (by decide)
    have qk : ¬ (nI k < 0 ∨ 60 ≤ (nI k).toNatClampNeg) := nI_in (by omega) (by decide)
    obtain ⟨q1, q2⟩ := tr_rd (rowT i k) (by omega)
    rw [e1, e2, bnd_some, bnd_some, if_pos i00, if_pos i00, p_trayAt hi, bnd_some, if_neg (nn (shC_tray hi)), f_X8_putNumber, withinT 60 60 rfl (by decide) (by omega), bnd_some, if_neg i10, cut_cls i hsm x3, bnd_some, if_neg qk, letF, bnd_some, if_neg q, nI_clamp (by omega), nI_clamp (by omega), x4, cut_ref hsm, bnd_some, if_neg q1, letF, q2]
    have fc : FrTC C (sL C (5 + 2 * i + 1) k (cutS s v)) := FrTC.rf.sL _ _ _ (by omega)
    have fr : FrTR R (sL R 5 (60 * i + k) (cutS s v)) := FrTR.rf.sL _ _ _ (by omega)
    refine fin_don hs fc.sq fr.sq (ho.trays fc fr fun j hj => ?_)
    rcases ho.2.1 j hj with ⟨x, y⟩ | ⟨s2, n2, y1, y2, y3, y4, y5, y6, y7⟩
    · exact Or.inl ⟨x, y⟩
    · refine Or.inr ⟨s2, n2, y1, y2, y3, y4, y5, y6, fun k2 hk2 => ?_⟩
      rw [gL_L, gL_L]
      by_cases z : j = i ∧ k2 = k
      · obtain ⟨rfl, rfl⟩ := z
        have es : s2 = s := nI_inj (by omega) (by omega) (y3.symm.trans x3)
        rw [if_pos (by omega), if_pos (by omega), es]
        exact ⟨rfl, cutS_id hsm v⟩
      · rw [if_neg (by omega), if_neg (by omega)]
        exact y7 k2 hk2
theorem m_read (h : Rel C R) (a b : Int32) : OK2 (f_X11_read a b C) (f_X12_read a b R) := by
  obtain ⟨hs, ho⟩ := h
  rw [f_X11_read, f_X12_read]
  rcases place2 ho.2.1 a b with ⟨x, x0, xp, e1, e2⟩ | ⟨i, s, n, k, rfl, rfl, hi, hsm, hn, hk, x3, x4, x5, e1, e2⟩
  · rw [e1, e2, bnd_some, bnd_some, if_neg x0, letF, gI_same, if_neg (Int32.not_le.mpr xp)]
    exact ⟨-1, _, _, rfl, rfl, Rel.st hs SqC.rf SqR.rf ho x⟩
  · have qk : ¬ (nI k < 0 ∨ 60 ≤ (nI k).toNatClampNeg) := nI_in (by omega) (by decide)
    obtain ⟨q1, q2⟩ := tr_rd (rowT i k) (by omega)
    rw [e1, e2, bnd_some, bnd_some, if_pos i00, letF, p_trayAt hi, bnd_some, if_neg (nn (shC_tray hi)), f_X8_numberAt, withinT 60 60 rfl (by decide) (by omega), bnd_some, if_neg i10, if_neg qk, bnd_some, letF, gI_same, if_pos (Int32.le_refl _), if_neg q1, q2, nI_clamp (by omega)]
    refine ⟨_, _, _, rfl, ?_, Rel.st hs SqC.rf SqR.rf ho 0⟩
    rw [gL_I, gL_I, ← x5, show 5 + 2 * i + 1 = 6 + 2 * i from by omega]
end TRAYS2
