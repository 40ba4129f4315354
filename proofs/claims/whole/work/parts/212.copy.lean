/-! COPIES of courts, and terms held over and over -/
theorem p_copyRow {a b n : Nat} (ha : alC a = n) (hb : alC b = n) (hn : n < 100000) (hab : a ≠ b) (M : Mem) : ∃ M', f_X11_copyRow a b M = some ((), M') ∧ (∀ y k, gI M' y k = if y = b ∧ k < n then gI M a k else gI M y k) ∧ (∀ y k, gL M' y k = gL M y k) ∧ ∀ y k, gR M' y k = gR M y k := by
  have key := loopI (fun fu (D : Mem) i => f_X11_copyRow_L2 a b fu (nI i) D) n (fun i D => (∀ y k, gI D y k = if y = b ∧ k < i then gI M a k else gI M y k) ∧ (∀ y k, gL D y k = gL M y k) ∧ ∀ y k, gR D y k = gR M y k)
    (fun r => r.1 = () ∧ (∀ y k, gI r.2 y k = if y = b ∧ k < n then gI M a k else gI M y k) ∧ (∀ y k, gL r.2 y k = gL M y k) ∧ ∀ y k, gR r.2 y k = gR M y k)
    (fun fu D hI => ⟨((), D), ?_, rfl, hI⟩)
    (fun fu D i hi hI => Or.inl ?_) n 0 M fz (by omega) (by rw [fz_is]; omega) ⟨fun n k => by rw [if_neg (by omega)], fun n k => rfl, fun n k => rfl⟩
  · obtain ⟨⟨u, D⟩, e1, -, e2⟩ := key
    exact ⟨D, by rw [f_X11_copyRow, show (0 : Int32) = nI 0 from rfl, e1, bnd_some], e2⟩
  · rw [f_X11_copyRow_L2, ha, if_pos (show Int32.ofNat n ≤ nI n from Int32.le_refl _)]
  · have q : ¬ (nI i < 0 ∨ n ≤ (nI i).toNatClampNeg) := nI_in hi (by omega)
    refine ⟨sI D b i (gI D a i), ⟨fun y k => ?_, fun y k => hI.2.1 y k, fun y k => hI.2.2 y k⟩, ?_⟩
    · rw [gI_I, hI.1, hI.1]
      by_cases z : y = b ∧ k = i
      · rw [if_pos z, if_neg (by omega), if_pos (by omega), z.2]
      · rw [if_neg z]
        by_cases z2 : y = b ∧ k < i
        · rw [if_pos z2, if_pos (by omega)]
        · rw [if_neg z2, if_neg (by omega)]
    · rw [f_X11_copyRow_L2, ha, hb, if_neg (show ¬ Int32.ofNat n ≤ nI i from nI_ge hi (by omega)), if_neg (show ¬ Int32.ofNat n ≤ nI i from nI_ge hi (by omega)), if_neg q, if_neg q, letF, letF, nI_clamp (by omega), nI_s]
theorem p_copyPer (a b : Nat) (M : Mem) (hab : a ≠ b) : ∃ M', f_X5_copyFrom a b M = some ((), M') ∧ (∀ n k, gI M' n k = if n = a ∧ k < 5 then gI M b k else gI M n k) ∧ (∀ n k, gL M' n k = gL M n k) ∧ ∀ n k, gR M' n k = gR M n k := by
  refine ⟨_, rfl, fun n k => ?_, fun n k => rfl, fun n k => rfl⟩
  by_cases hn : n = a ∧ k < 5
  · obtain ⟨rfl, hk⟩ := hn
    rw [if_pos ⟨rfl, hk⟩]
    match k, hk with
    | 0, _ => (repeat rw [gI_I, if_neg (by omega)]); rw [gI_I, if_pos ⟨rfl, rfl⟩]
    | 1, _ => (repeat rw [gI_I, if_neg (by omega)]); rw [gI_I, if_pos ⟨rfl, rfl⟩]; (repeat rw [gI_I, if_neg (by omega)])
    | 2, _ => (repeat rw [gI_I, if_neg (by omega)]); rw [gI_I, if_pos ⟨rfl, rfl⟩]; (repeat rw [gI_I, if_neg (by omega)])
    | 3, _ => (repeat rw [gI_I, if_neg (by omega)]); rw [gI_I, if_pos ⟨rfl, rfl⟩]; (repeat rw [gI_I, if_neg (by omega)])
    | 4, _ => (repeat rw [gI_I, if_neg (by omega)]); rw [gI_I, if_pos ⟨rfl, rfl⟩]; (repeat rw [gI_I, if_neg (by omega)])
  · rw [if_neg hn]
    repeat rw [gI_I, if_neg (by omega)]
/-- of M0's court b, the cells of P are copied to the court a of M -/
def Cpd (a b : Nat) (P : Nat → Nat → Prop) (Q : Prop) (M0 M : Mem) : Prop :=
  (∀ n k, ¬ (a ≤ n ∧ n < a + 28) → gI M n k = gI M0 n k ∧ gL M n k = gL M0 n k) ∧ (∀ n k, gR M n k = gR M0 n k) ∧ (∀ x k, x < 28 → P x k → gI M (a + x) k = gI M0 (b + x) k) ∧ (Q → ∀ k, k < 36 → gL M (a + 2) k = gL M0 (b + 2) k)
theorem Cpd.row {a b : Nat} {P : Nat → Nat → Prop} {Q : Prop} {M0 M M' : Mem} (h : Cpd a b P Q M0 M) (hab : a + 28 ≤ b ∨ b + 28 ≤ a) {x n : Nat} (hx : x < 28) (e : ∀ y k, gI M' y k = if y = a + x ∧ k < n then gI M (b + x) k else gI M y k) (eL : ∀ y k, gL M' y k = gL M y k) (eR : ∀ y k, gR M' y k = gR M y k) :
    Cpd a b (fun y k => P y k ∨ (y = x ∧ k < n)) Q M0 M' := by
  obtain ⟨h1, h2, h3, h4⟩ := h
  refine ⟨fun m k hm => ⟨?_, (eL m k).trans (h1 m k hm).2⟩, fun m k => (eR m k).trans (h2 m k), fun y k hy hp => ?_, fun q k hk => (eL _ _).trans (h4 q k hk)⟩
  · rw [e, if_neg (by omega)]; exact (h1 m k hm).1
  · rw [e]
    by_cases z : y = x ∧ k < n
    · obtain ⟨rfl, hk⟩ := z
      rw [if_pos ⟨rfl, hk⟩, (h1 _ _ (by omega)).1]
    · rw [if_neg (by omega)]
      rcases hp with hp | hp
      · exact h3 y k hy hp
      · exact absurd hp z
theorem Cpd.cell {a b : Nat} {P : Nat → Nat → Prop} {Q : Prop} {M0 M : Mem} (h : Cpd a b P Q M0 M) (hab : a + 28 ≤ b ∨ b + 28 ≤ a) {x kk : Nat} (hx : x < 28) :
    Cpd a b (fun y k => P y k ∨ (y = x ∧ k = kk)) Q M0 (sI M (a + x) kk (gI M (b + x) kk)) := by
  obtain ⟨h1, h2, h3, h4⟩ := h
  refine ⟨fun m k hm => ⟨?_, (h1 m k hm).2⟩, fun m k => h2 m k, fun y k hy hp => ?_, fun q k hk => h4 q k hk⟩
  · rw [gI_I, if_neg (by omega)]; exact (h1 m k hm).1
  · rw [gI_I]
    by_cases z : y = x ∧ k = kk
    · rw [if_pos (by omega), z.1, z.2, (h1 _ _ (by omega)).1]
    · rw [if_neg (by omega)]
      rcases hp with hp | hp
      · exact h3 y k hy hp
      · exact absurd hp z
theorem Cpd.mono {a b : Nat} {P P' : Nat → Nat → Prop} {Q : Prop} {M0 M : Mem} (h : Cpd a b P Q M0 M) (e : ∀ x k, x < 28 → P' x k → P x k) : Cpd a b P' Q M0 M :=
  ⟨h.1, h.2.1, fun x k hx hp => h.2.2.1 x k hx (e x k hx hp), h.2.2.2⟩
theorem Cpd.src {a b : Nat} {P : Nat → Nat → Prop} {Q : Prop} {M0 M : Mem} (h : Cpd a b P Q M0 M) (hab : a + 28 ≤ b ∨ b + 28 ≤ a) {x k : Nat} (hx : x < 28) : gI M (b + x) k = gI M0 (b + x) k := (h.1 _ _ (by omega)).1
theorem p_copyNames {a b : Nat} {P : Nat → Nat → Prop} {M0 M : Mem} (h : Cpd a b P False M0 M) (hab : a + 28 ≤ b ∨ b + 28 ≤ a) : ∃ M', f_X0_copyFrom_L13 a b fz 0 M = some ((), M') ∧ Cpd a b P True M0 M' := by
  have key := loopI (fun fu (D : Mem) i => f_X0_copyFrom_L13 a b fu (nI i) D) 36 (fun i D => Cpd a b P False M0 D ∧ ∀ k, k < i → gL D (a + 2) k = gL M0 (b + 2) k)
    (fun r => r.1 = () ∧ Cpd a b P True M0 r.2)
    (fun fu D hI => ⟨((), D), ?_, rfl, hI.1.1, hI.1.2.1, hI.1.2.2.1, fun _ => hI.2⟩)
    (fun fu D i hi hI => Or.inl ?_) 36 0 M fz (by omega) (by rw [fz_is]; omega) ⟨h, fun k hk => by omega⟩
  · obtain ⟨⟨u, D⟩, e1, -, e2⟩ := key
    exact ⟨D, e1, e2⟩
  · rw [f_X0_copyFrom_L13, if_pos (show (36 : Int32) ≤ nI 36 by decide)]
  · have q : ¬ (nI i < 0 ∨ 36 ≤ (nI i).toNatClampNeg) := nI_in hi (by omega)
    refine ⟨sL D (a + 2) i (gL D (b + 2) i), ⟨⟨fun n k z => ⟨(hI.1.1 n k z).1, ?_⟩, hI.1.2.1, hI.1.2.2.1, fun z => z.elim⟩, fun k hk => ?_⟩, ?_⟩
    · rw [gL_L, if_neg (by omega)]; exact (hI.1.1 n k z).2
    · rw [gL_L]
      by_cases z : k = i
      · rw [if_pos ⟨rfl, z⟩, z, (hI.1.1 _ _ (by omega)).2]
      · rw [if_neg (by omega)]; exact hI.2 k (by omega)
    · rw [f_X0_copyFrom_L13, if_neg (show ¬ (36 : Int32) ≤ nI i from nI_ge (b := 36) hi (by decide)), if_neg (show ¬ (36 : Int32) ≤ nI i from nI_ge (b := 36) hi (by decide)), if_neg q, if_neg q, letF, letF, nI_clamp (by omega), nI_s]
theorem p_copyRules {a b m : Nat} {P : Nat → Nat → Prop} {M0 M : Mem} (h : Cpd a b P True M0 M) (hab : a + 28 ≤ b ∨ b + 28 ≤ a) (ha : shC a = 0) (hb : shC b = 0) (hm : m ≤ 8) (hc : gI M0 (b + 1) 2 = nI m) (hP : P 1 2) : ∃ M', f_X0_copyFrom_L62 a b fz 0 M = some ((), M') ∧ Cpd a b (fun x k => P x k ∨ (5 ≤ x ∧ x < 5 + m ∧ k < 9)) True M0 M' := by
  have key := loopI (fun fu (D : Mem) i => f_X0_copyFrom_L62 a b fu (nI i) D) m (fun i D => Cpd a b (fun x k => P x k ∨ (5 ≤ x ∧ x < 5 + i ∧ k < 9)) True M0 D)
    (fun r => r.1 = () ∧ Cpd a b (fun x k => P x k ∨ (5 ≤ x ∧ x < 5 + m ∧ k < 9)) True M0 r.2)
    (fun fu D hI => ⟨((), D), ?_, rfl, hI⟩)
    (fun fu D i hi hI => Or.inl ?_) m 0 M fz (by omega) (by rw [fz_is]; omega) (h.mono fun x k _ z => by rcases z with z | z; exact z; omega)
  · obtain ⟨⟨u, D⟩, e1, -, e2⟩ := key
    exact ⟨D, e1, e2⟩
  · have cn : gI D (a + 1) 2 = nI m := (hI.2.2.1 1 2 (by decide) (Or.inl hP)).trans hc
    rw [f_X0_copyFrom_L62, p_count2, bnd_some, cn, if_pos (Int32.le_refl _)]
  · have cn : gI D (a + 1) 2 = nI m := (hI.2.2.1 1 2 (by decide) (Or.inl hP)).trans hc
    obtain ⟨M', f1, f2, f3, f4⟩ := p_copyRule (a + 4 + 1 + i) (b + 4 + 1 + i) D (by omega)
    refine ⟨M', (Cpd.row hI hab (x := 5 + i) (n := 9) (by omega) (fun y k => ?_) f3 f4).mono fun x k _ z => ?_, ?_⟩
    · rw [f2, show a + (5 + i) = a + 4 + 1 + i from by omega, show b + (5 + i) = b + 4 + 1 + i from by omega]
    · rcases z with z | z
      · exact Or.inl (Or.inl z)
      · by_cases z2 : x = 5 + i
        · exact Or.inr ⟨z2, z.2.2⟩
        · exact Or.inl (Or.inr (by omega))
    · rw [f_X0_copyFrom_L62, p_count2, bnd_some, cn, if_neg (nI_ge hi (by omega)), p_ruleAt (by omega), bnd_some, if_neg (nn (shC_rule ha (by omega))), p_ruleAt (by omega), bnd_some, if_neg (nn (shC_rule hb (by omega))), f1, bnd_some, letF, nI_s]
theorem p_copyPers {a b m : Nat} {P : Nat → Nat → Prop} {M0 M : Mem} (h : Cpd a b P True M0 M) (hab : a + 28 ≤ b ∨ b + 28 ≤ a) (ha : shC a = 0) (hb : shC b = 0) (hm : m ≤ 6) (hc : gI M0 (b + 1) 3 = nI m) (hP : P 1 3) : ∃ M', f_X0_copyFrom_L92 a b fz 0 M = some ((), M') ∧ Cpd a b (fun x k => P x k ∨ (14 ≤ x ∧ x < 14 + m ∧ k < 5)) True M0 M' := by
  have key := loopI (fun fu (D : Mem) i => f_X0_copyFrom_L92 a b fu (nI i) D) m (fun i D => Cpd a b (fun x k => P x k ∨ (14 ≤ x ∧ x < 14 + i ∧ k < 5)) True M0 D)
    (fun r => r.1 = () ∧ Cpd a b (fun x k => P x k ∨ (14 ≤ x ∧ x < 14 + m ∧ k < 5)) True M0 r.2)
    (fun fu D hI => ⟨((), D), ?_, rfl, hI⟩)
    (fun fu D i hi hI => Or.inl ?_) m 0 M fz (by omega) (by rw [fz_is]; omega) (h.mono fun x k _ z => by rcases z with z | z; exact z; omega)
  · obtain ⟨⟨u, D⟩, e1, -, e2⟩ := key
    exact ⟨D, e1, e2⟩
  · have cn : gI D (a + 1) 3 = nI m := (hI.2.2.1 1 3 (by decide) (Or.inl hP)).trans hc
    rw [f_X0_copyFrom_L92, p_count3, bnd_some, cn, if_pos (Int32.le_refl _)]
  · have cn : gI D (a + 1) 3 = nI m := (hI.2.2.1 1 3 (by decide) (Or.inl hP)).trans hc
    obtain ⟨M', f1, f2, f3, f4⟩ := p_copyPer (a + 13 + 1 + i) (b + 13 + 1 + i) D (by omega)
    refine ⟨M', (Cpd.row hI hab (x := 14 + i) (n := 5) (by omega) (fun y k => ?_) f3 f4).mono fun x k _ z => ?_, ?_⟩
    · rw [f2, show a + (14 + i) = a + 13 + 1 + i from by omega, show b + (14 + i) = b + 13 + 1 + i from by omega]
    · rcases z with z | z
      · exact Or.inl (Or.inl z)
      · by_cases z2 : x = 14 + i
        · exact Or.inr ⟨z2, z.2.2⟩
        · exact Or.inl (Or.inr (by omega))
    · rw [f_X0_copyFrom_L92, p_count3, bnd_some, cn, if_neg (nI_ge hi (by omega)), p_personAt (by omega), bnd_some, if_neg (nn (shC_per ha (by omega))), p_personAt (by omega), bnd_some, if_neg (nn (shC_per hb (by omega))), f1, bnd_some, letF, nI_s]
/-- the cells that count -/
def cpP (m2 m3 : Nat) (x k : Nat) : Prop := (x = 1 ∧ k < 6) ∨ (x = 3 ∧ k < 6) ∨ (5 ≤ x ∧ x < 5 + m2 ∧ k < 9) ∨ (14 ≤ x ∧ x < 14 + m3 ∧ k < 5) ∨ (x = 20 ∧ k < 6) ∨ (x = 21 ∧ k < 6) ∨ (x = 22 ∧ k < 10) ∨ (x = 23 ∧ k < 10) ∨ (x = 24 ∧ k < 2) ∨ (x = 25 ∧ k < 150) ∨ (x = 0 ∧ (k = 12 ∨ k = 13))
theorem p_copyCourt {a b : Nat} {K : Kt} {M0 : Mem} (ha : shC a = 0) (hb : shC b = 0) (hab : a ≠ b) (h : IsC M0 b K) (hw : WFK K) (hk : gI M0 (b + 24) 0 = 0 ∨ gI M0 (b + 24) 0 = 1) : ∃ M', f_X0_copyFrom a b M0 = some ((), M') ∧ Cpd a b (cpP (nK K 2) (nK K 3)) True M0 M' := by
  have hn2 := hw.n2
  have hn3 := hw.n3
  have hd : a + 28 ≤ b ∨ b + 28 ≤ a := by
    rcases isC_cases ha with rfl | rfl | rfl | rfl | rfl <;> rcases isC_cases hb with rfl | rfl | rfl | rfl | rfl <;> first | (exact absurd rfl hab) | omega
  have s0 : Cpd a b (fun _ _ => False) False M0 M0 := ⟨fun n k _ => ⟨rfl, rfl⟩, fun _ _ => rfl, fun _ _ _ z => z.elim, fun z => z.elim⟩
  have row : ∀ {x n : Nat} {P : Nat → Nat → Prop} {Q : Prop} {M : Mem}, Cpd a b P Q M0 M → x < 28 → alC (a + x) = n → alC (b + x) = n → n < 100000 → ∃ M', f_X11_copyRow (b + x) (a + x) M = some ((), M') ∧ Cpd a b (fun y k => P y k ∨ (y = x ∧ k < n)) Q M0 M' := by
    intro x n P Q M hM hx h1 h2 hn
    obtain ⟨M', e1, e2, e3, e4⟩ := p_copyRow h2 h1 hn (by omega) M
    exact ⟨M', e1, hM.row hd hx e2 e3 e4⟩
  obtain ⟨M1, e1, g1⟩ := row (x := 1) s0 (by decide) (kC_0_0 ha).2 (kC_0_0 hb).2 (by decide)
  obtain ⟨M2, e2, g2⟩ := p_copyNames g1 hd
  obtain ⟨M3, e3, g3⟩ := row (x := 3) g2 (by decide) (kC_0_2 ha).2 (kC_0_2 hb).2 (by decide)
  obtain ⟨M4, e4, g4⟩ := p_copyRules g3 hd ha hb hn2.2 ((h.1 2 (by decide)).trans hn2.1) (Or.inl (Or.inr ⟨rfl, by decide⟩))
  obtain ⟨M5, e5, g5⟩ := p_copyPers g4 hd ha hb hn3.2 ((h.1 3 (by decide)).trans hn3.1) (Or.inl (Or.inl (Or.inr ⟨rfl, by decide⟩)))
  obtain ⟨M6, e6, g6⟩ := row (x := 20) g5 (by decide) (kC_0_5 ha).2 (kC_0_5 hb).2 (by decide)
  obtain ⟨M7, e7, g7⟩ := row (x := 21) g6 (by decide) (kC_0_6 ha).2 (kC_0_6 hb).2 (by decide)
  obtain ⟨M8, e8, g8⟩ := row (x := 22) g7 (by decide) (kC_0_7 ha).2 (kC_0_7 hb).2 (by decide)
  obtain ⟨M9, e9, g9⟩ := row (x := 23) g8 (by decide) (kC_0_8 ha).2 (kC_0_8 hb).2 (by decide)
  have hk9 : gI M9 (b + 24) 0 = 0 ∨ gI M9 (b + 24) 0 = 1 := by rw [g9.src hd (by decide)]; exact hk
  have g10 : Cpd a b _ True M0 (sI (sI M9 (a + 24) 0 (gI M9 (b + 24) 0)) (a + 24) 1 (gI (sI M9 (a + 24) 0 (gI M9 (b + 24) 0)) (b + 24) 1)) := g9.row hd (x := 24) (n := 2) (by decide) (fun y k => by
    rw [gI_I, gI_I, gI_I, if_neg (show ¬ (b + 24 = a + 24 ∧ 1 = 0) by omega)]
    by_cases z : y = a + 24 ∧ k = 1
    · rw [if_pos z, if_pos (by omega), z.2]
    · rw [if_neg z]
      by_cases z2 : y = a + 24 ∧ k = 0
      · rw [if_pos z2, if_pos (by omega), z2.2]
      · rw [if_neg z2, if_neg (by omega)]) (fun _ _ => rfl) (fun _ _ => rfl)
  obtain ⟨M11, e11, g11⟩ := row (x := 25) g10 (by decide) (kC_9_2 (kC_0_9 ha)).2 (kC_9_2 (kC_0_9 hb)).2 (by decide)
  have g12 := (g11.cell hd (x := 0) (kk := 12) (by decide)).cell hd (x := 0) (kk := 13) (by decide)
  refine ⟨_, ?_, g12.mono fun x k _ z => ?_⟩
  · rw [f_X0_copyFrom, e1, bnd_some, e2, bnd_some, e3, bnd_some, e4, bnd_some, e5, bnd_some, e6, bnd_some, e7, bnd_some, e8, bnd_some, e9, bnd_some, f_X9_copyFrom, if_neg (nn hk9), letF, letF, e11, bnd_some, bnd_some, letF, letF]
    rfl
  · unfold cpP at z
    rcases z with z | z | z | z | z | z | z | z | z | z | ⟨z, z2 | z2⟩
    · exact Or.inl (Or.inl (Or.inl (Or.inl (Or.inl (Or.inl (Or.inl (Or.inl (Or.inl (Or.inl (Or.inl (Or.inr z)))))))))))
    · exact Or.inl (Or.inl (Or.inl (Or.inl (Or.inl (Or.inl (Or.inl (Or.inl (Or.inl (Or.inl (Or.inr z))))))))))
    · exact Or.inl (Or.inl (Or.inl (Or.inl (Or.inl (Or.inl (Or.inl (Or.inl (Or.inl (Or.inr z)))))))))
    · exact Or.inl (Or.inl (Or.inl (Or.inl (Or.inl (Or.inl (Or.inl (Or.inl (Or.inr z))))))))
    · exact Or.inl (Or.inl (Or.inl (Or.inl (Or.inl (Or.inl (Or.inl (Or.inr z)))))))
    · exact Or.inl (Or.inl (Or.inl (Or.inl (Or.inl (Or.inl (Or.inr z))))))
    · exact Or.inl (Or.inl (Or.inl (Or.inl (Or.inl (Or.inr z)))))
    · exact Or.inl (Or.inl (Or.inl (Or.inl (Or.inr z))))
    · exact Or.inl (Or.inl (Or.inl (Or.inr z)))
    · exact Or.inl (Or.inl (Or.inr z))
    · exact Or.inl (Or.inr ⟨z, z2⟩)
    · exact Or.inr ⟨z, z2⟩
theorem Cpd.isC {a b : Nat} {K : Kt} {M0 M : Mem} (g : Cpd a b (cpP (nK K 2) (nK K 3)) True M0 M) (h : IsC M0 b K) (hw : WFK K) : IsC M a K := by
  have hn := hw.n1
  have hn2 := hw.n2
  have hn3 := hw.n3
  have hn4 := hw.n4
  have hn5 := hw.n5
  obtain ⟨h0, h1, h2, h3, h4, h5, h6, h7⟩ := h
  have c : ∀ x k, x < 28 → cpP (nK K 2) (nK K 3) x k → gI M (a + x) k = gI M0 (b + x) k := g.2.2.1
  refine ⟨fun k hk => (c 1 k (by omega) (by unfold cpP; omega)).trans (h0 k hk), fun i hi => (c 3 i (by omega) (by unfold cpP; omega)).trans (h1 i hi), fun i hi f hf => ?_, fun i hi f hf => ?_,
    fun i hi => ⟨(c 20 i (by omega) (by unfold cpP; omega)).trans (h4 i hi).1, (c 21 i (by omega) (by unfold cpP; omega)).trans (h4 i hi).2⟩, fun i hi => ⟨(c 22 i (by omega) (by unfold cpP; omega)).trans (h5 i hi).1, (c 23 i (by omega) (by unfold cpP; omega)).trans (h5 i hi).2⟩,
    (c 0 12 (by omega) (by unfold cpP; omega)).trans h6, (c 0 13 (by omega) (by unfold cpP; omega)).trans h7⟩
  · have e := c (5 + i) f (by omega) (by unfold cpP; omega)
    rw [show a + (5 + i) = a + 4 + 1 + i from by omega, show b + (5 + i) = b + 4 + 1 + i from by omega] at e
    exact e.trans (h2 i hi f hf)
  · have e := c (14 + i) f (by omega) (by unfold cpP; omega)
    rw [show a + (14 + i) = a + 13 + 1 + i from by omega, show b + (14 + i) = b + 13 + 1 + i from by omega] at e
    exact e.trans (h3 i hi f hf)
/-- so many TERMS -/
def itK (K : Kt) : Nat → Kt
  | 0 => K
  | n + 1 => (termK (itK K n)).2
theorem cntP_le (P : Nat → Bool) (n : Nat) : cntP P n ≤ n := by
  have key : ∀ d i a, foldN (fun i a => a + if P i = true then 1 else 0) d i a ≤ a + d := by
    intro d
    induction d with
    | zero => intro i a; exact Nat.le_refl _
    | succ d ih =>
      intro i a
      rw [foldN]
      have := ih (i + 1) (a + if P i = true then 1 else 0)
      have h2 : (a + if P i = true then 1 else 0) ≤ a + 1 := by split <;> omega
      omega
  have := key n 0 0
  unfold cntP
  omega
theorem popN_le (K : Kt) (hw : WFK K) : cntP (fun i => decide (K 14 i = 0)) (nK K 3) ≤ 6 :=
  Nat.le_trans (cntP_le _ _) hw.n3.2
theorem itK_wf {K : Kt} (hw : WFK K) {n : Nat} (hs : K 20 1 = nI n) (hn : n ≤ 9999) : ∀ t, t ≤ 100 → WFK (itK K t) ∧ (∀ k, nK (itK K t) k = nK K k) ∧ ∃ m : Nat, m ≤ n + 6 * t ∧ itK K t 20 1 = nI m := by
  intro t
  induction t with
  | zero => exact fun _ => ⟨hw, fun _ => rfl, n, by omega, hs⟩
  | succ t ih =>
    intro ht
    obtain ⟨a, b, m, hm, e⟩ := ih (by omega)
    obtain ⟨a2, b2, c2⟩ := termK_wf a e (by omega)
    have := popN_le _ a
    exact ⟨a2, fun k => (b2 k).trans (b k), _, by omega, c2⟩
theorem p_its {C0 C : Mem} {c : Nat} {K : Kt} (hc : shC c = 0) (h : InC C0 c K C) (hw : WFK K) {n : Nat} (hs : K 20 1 = nI n) (hn : n ≤ 9999) {t : Nat} (ht : t ≤ 100) {D : Mem} (hD : InC C0 c (itK K t) D) : ∃ D', f_X0_holdTerm c D = some ((termK (itK K t)).1, D') ∧ InC C0 c (itK K (t + 1)) D' := by
  obtain ⟨a, b, m, hm, e⟩ := itK_wf hw hs hn t ht
  exact p_holdTerm hc hD a e (by omega)
theorem r_its {R0 : Mem} {K : Kt} (hw : WFK K) {n : Nat} (hs : K 20 1 = nI n) (hn : n ≤ 9999) {t : Nat} (ht : t ≤ 100) {D : Mem} (hD : InR R0 (itK K t) D) : ∃ D', f_X12_terms D = some ((termK (itK K t)).1, D') ∧ InR R0 (itK K (t + 1)) D' := by
  obtain ⟨a, b, m, hm, e⟩ := itK_wf hw hs hn t ht
  exact r_terms hD a e (by omega)
/-- KEEPS and RESTORES -/
theorem r_keeps {o : Nat} (ho : 134 ≤ o) (ho2 : o + 134 ≤ 3548) (R : Mem) : ∃ R', f_X12_keeps (nI o) R = some ((), R') ∧ (∀ n k, gI R' n k = if n = 1 ∧ o ≤ k ∧ k < o + 134 then gI R 1 (k - o) else gI R n k) ∧ ∀ n k, gL R' n k = gL R n k := by
  have key := loopI (fun fu (D : Mem) i => f_X12_keeps_L2 (nI o) fu (nI i) D) 134 (fun i D => (∀ n k, gI D n k = if n = 1 ∧ o ≤ k ∧ k < o + i then gI R 1 (k - o) else gI R n k) ∧ ∀ n k, gL D n k = gL R n k)
    (fun b => b.1 = () ∧ (∀ n k, gI b.2 n k = if n = 1 ∧ o ≤ k ∧ k < o + 134 then gI R 1 (k - o) else gI R n k) ∧ ∀ n k, gL b.2 n k = gL R n k)
    (fun fu D hI => ⟨((), D), ?_, rfl, hI⟩)
    (fun fu D i hi hI => Or.inl ?_) 134 0 R fz (by omega) (by decide) ⟨fun n k => by rw [if_neg (by omega)], fun n k => rfl⟩
  · obtain ⟨⟨u, D⟩, e1, -, e2⟩ := key
    exact ⟨D, by rw [f_X12_keeps, show (0 : Int32) = nI 0 from rfl, e1, bnd_some], e2⟩
  · rw [f_X12_keeps_L2, if_pos (show (134 : Int32) ≤ nI 134 by decide)]
  · obtain ⟨q1, q2⟩ := r_rd (e := nI i) (j := i) rfl (by omega)
    obtain ⟨q3, q4⟩ := r_rd (e := nI o + nI i) (j := o + i) (by rw [nI_add]) (by omega)
    refine ⟨sI D 1 (o + i) (gI D 1 i), ⟨fun n k => ?_, fun n k => hI.2 n k⟩, ?_⟩
    · rw [gI_I, hI.1, hI.1]
      by_cases z : n = 1 ∧ k = o + i
      · rw [if_pos z, if_neg (by omega), if_pos (by omega)]; congr 1; omega
      · rw [if_neg z]
        by_cases z2 : n = 1 ∧ o ≤ k ∧ k < o + i
        · rw [if_pos z2, if_pos (by omega)]
        · rw [if_neg z2, if_neg (by omega)]
    · rw [f_X12_keeps_L2, if_neg (show ¬ (134 : Int32) ≤ nI i from nI_ge (b := 134) hi (by decide)), if_neg q1, if_neg q3, letF, letF, q2, q4, nI_s]
theorem r_restores {o : Nat} (ho : 134 ≤ o) (ho2 : o + 134 ≤ 3548) (R : Mem) : ∃ R', f_X12_restores (nI o) R = some ((), R') ∧ (∀ n k, gI R' n k = if n = 1 ∧ k < 134 then gI R 1 (o + k) else gI R n k) ∧ ∀ n k, gL R' n k = gL R n k := by
  have key := loopI (fun fu (D : Mem) i => f_X12_restores_L2 (nI o) fu (nI i) D) 134 (fun i D => (∀ n k, gI D n k = if n = 1 ∧ k < i then gI R 1 (o + k) else gI R n k) ∧ ∀ n k, gL D n k = gL R n k)
    (fun b => b.1 = () ∧ (∀ n k, gI b.2 n k = if n = 1 ∧ k < 134 then gI R 1 (o + k) else gI R n k) ∧ ∀ n k, gL b.2 n k = gL R n k)
    (fun fu D hI => ⟨((), D), ?_, rfl, hI⟩)
    (fun fu D i hi hI => Or.inl ?_) 134 0 R fz (by omega) (by decide) ⟨fun n k => by rw [if_neg (by omega)], fun n k => rfl⟩
  · obtain ⟨⟨u, D⟩, e1, -, e2⟩ := key
    exact ⟨D, by rw [f_X12_restores, show (0 : Int32) = nI 0 from rfl, e1, bnd_some], e2⟩
  · rw [f_X12_restores_L2, if_pos (show (134 : Int32) ≤ nI 134 by decide)]
  · obtain ⟨q1, q2⟩ := r_rd (e := nI i) (j := i) rfl (by omega)
    obtain ⟨q3, q4⟩ := r_rd (e := nI o + nI i) (j := o + i) (by rw [nI_add]) (by omega)
    refine ⟨sI D 1 i (gI D 1 (o + i)), ⟨fun n k => ?_, fun n k => hI.2 n k⟩, ?_⟩
    · rw [gI_I, hI.1, hI.1]
      by_cases z : n = 1 ∧ k = i
      · rw [if_pos z, if_neg (by omega), if_pos (by omega), z.2]
      · rw [if_neg z]
        by_cases z2 : n = 1 ∧ k < i
        · rw [if_pos z2, if_pos (by omega)]
        · rw [if_neg z2, if_neg (by omega)]
    · rw [f_X12_restores_L2, if_neg (show ¬ (134 : Int32) ≤ nI i from nI_ge (b := 134) hi (by decide)), if_neg q3, if_neg q1, letF, letF, q2, q4, nI_s]
