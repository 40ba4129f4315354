/-! GAMES: the reference's levels, all of them; game, moveOf -/
def FpR (l : Nat) (R R' : Mem) : Prop := (∀ n k, ¬ (n = 1 ∧ k < 134) → ¬ (n = 1 ∧ 3012 + 134 * (l + 1) ≤ k) → ¬ ((n = 14 ∨ n = 15 ∨ n = 16) ∧ l ≤ k) → gI R' n k = gI R n k) ∧ ∀ n k, gL R' n k = gL R n k
theorem FpR.rf {l : Nat} {R : Mem} : FpR l R R := ⟨fun _ _ _ _ _ => rfl, fun _ _ => rfl⟩
theorem FpR.tr {l : Nat} {R R1 R2 : Mem} (h : FpR l R R1) (g : FpR l R1 R2) : FpR l R R2 := ⟨fun n k a b c => (g.1 n k a b c).trans (h.1 n k a b c), fun n k => (g.2 n k).trans (h.2 n k)⟩
theorem FpR.up {l : Nat} {R R1 : Mem} (h : FpR (l + 1) R R1) : FpR l R R1 := ⟨fun n k a b c => h.1 n k a (by omega) (by omega), h.2⟩
theorem IsR.fp {R R' : Mem} {l : Nat} {K : Kt} (h : IsR R (3012 + 134 * l) K) (hw : WFK K) (e : FpR l R R') : IsR R' (3012 + 134 * l) K := h.cg (fun k a b => e.1 1 k (by omega) (by omega) (by omega)) hw
def bbL (l : Nat) : Bool := decide (l % 2 = 0)
def stp (t l : Nat) (K : Kt) (s : Option (Int × Nat)) (y : Nat) : Option (Int × Nat) := seO (bbL l) s (vaK t (bbL (l + 1)) (apK K (cdK K y))) y
noncomputable def lvB (a1 b2 r32 x : Int32) (fu : Nat) (M33 : Mem) : Rs Unit :=
  if x ≤ r32 then (bnd (f_X12_doesDeed x M33) fun r37 M38 => if r37 = 0 then (f_X12_playing_L33 a1 fu b2 M38) else (if (b2 + (1 : Int32)) = a1 then (bnd (f_X12_standing M38) fun r53 M54 => bnd (f_X12_settles b2 r53 M54) fun _ M57 => f_X12_playing_L33 a1 fu b2 M57) else (letF (b2 + (1 : Int32) : Int32) fun y42 => bnd (f_X12_levelAt y42 M38) fun r43 M44 => bnd (f_X12_keeps r43 M44) fun _ M47 => if y42 < 0 ∨ 4 ≤ y42.toNatClampNeg then none else letF (sI M47 14 y42.toNatClampNeg (-1 : Int32)) fun M50 => if y42 < 0 ∨ 4 ≤ y42.toNatClampNeg then none else letF (sI M50 16 y42.toNatClampNeg (-1 : Int32)) fun M52 => f_X12_playing_L33 a1 fu y42 M52))) else (if b2 = 0 then (some ((), M33)) else (letF (b2 + (-1 : Int32) : Int32) fun y60 => if (y60 + (1 : Int32)) < 0 ∨ 4 ≤ ((y60 + (1 : Int32))).toNatClampNeg then none else bnd (f_X12_settles y60 ((gI M33 15 ((y60 + (1 : Int32))).toNatClampNeg)) M33) fun _ M63 => f_X12_playing_L33 a1 fu y60 M63))
theorem lvl_is {l : Nat} (M : Mem) : f_X12_levelAt (nI l) M = some (nI (3012 + 134 * l), M) := by
  rw [f_X12_levelAt, litI, litI, pk_mul, nI_add]
/-- an iteration's head -/
theorem lv_open {R : Mem} {K : Kt} (hw : WFK K) {T l x : Nat} (hl : l ≤ 3) (hx : x ≤ 40) (hR : IsR R (3012 + 134 * l) K) (h14 : gI R 14 l = iI ((x : Int) - 1)) : ∃ R1, IsR R1 0 K ∧ (∀ n k, ¬ (n = 1 ∧ k < 134) → ¬ (n = 14 ∧ k = l) → gI R1 n k = gI R n k) ∧ (∀ n k, gL R1 n k = gL R n k) ∧ (∀ k, k < 134 → gI R1 1 k = gI R 1 (3012 + 134 * l + k)) ∧ gI R1 14 l = nI x ∧
    ∀ fu, f_X12_playing_L33 (nI T) (fu + 1) (nI l) R = lvB (nI T) (nI l) (nI (dnK K)) (nI x) fu R1 := by
  obtain ⟨R0, a1, a2, a3⟩ := r_restores (o := 3012 + 134 * l) (by omega) (by omega) R
  obtain ⟨q1, q2⟩ := lv_rd (l := l) (by omega)
  have q1' : ¬ (nI l < 0 ∨ 4 ≤ l) := fun z => z.elim (nI_pos (by omega)) (by omega)
  have hR0 : IsR (sI R0 14 l (nI x)) 0 K := hR.mv (fun k hk => by rw [gI_I, if_neg (by omega), a2, if_pos (by omega), Nat.zero_add]) hw
  have v : gI R0 14 l + 1 = nI x := by
    rw [a2, if_neg (by omega), h14, iI_p1, ← iI_nat]
    congr 1
    omega
  refine ⟨sI R0 14 l (nI x), hR0, fun n k z1 z2 => ?_, fun n k => a3 n k, fun k hk => ?_, gI_same _ _ _ _, fun fu => ?_⟩
  · rw [gI_I, if_neg z2, a2, if_neg z1]
  · rw [gI_I, if_neg (by omega), a2, if_pos ⟨rfl, hk⟩]
  · rw [f_X12_playing_L33, lvl_is, bnd_some, a1, bnd_some, if_neg q1, if_neg q1, letF, if_neg q1, q2, v, r_deeds hR0 hw, bnd_some, gI_same, if_neg q1']
    rfl
theorem StR.fr {R R' : Mem} {l : Nat} {st : Option (Int × Nat)} (h : StR R l st) (e1 : gI R' 16 l = gI R 16 l) (e2 : gI R' 15 l = gI R 15 l) : StR R' l st := by
  cases st with
  | none => exact e1.trans h
  | some s => exact ⟨e1.trans h.1, e2.trans h.2.1, h.2.2⟩
/-- the fold of a level is the value, and its first move -/
def AcM (K : Kt) (st : Option (Int × Nat)) (s : Int × Nat) : Prop := (st = none ∧ s = (-7, 36)) ∨ ∃ y, st = some (s.1, y) ∧ s.2 = cdK K y ∧ y ≤ dnK K
def AcN (K : Kt) (st : Option (Int × Nat)) (a : Int) : Prop := (st = none ∧ a = 7) ∨ ∃ y, st = some (a, y) ∧ y ≤ dnK K
theorem ac_mx {K : Kt} {f : Nat → Int} : ∀ (L : List Nat) (st : Option (Int × Nat)) (s : Int × Nat), (∀ y ∈ L, y ≤ dnK K ∧ -6 ≤ f y) → AcM K st s → AcM K (L.foldl (fun s y => seO true s (f y) y) st) (L.foldl (fun s y => if s.1 < f y then (f y, cdK K y) else s) s) ∧ (L.foldl (fun s y => if s.1 < f y then (f y, cdK K y) else s) s).1 = L.foldl (fun a y => max a (f y)) s.1 := by
  intro L
  induction L with
  | nil => intro st s _ h; exact ⟨h, rfl⟩
  | cons y L ih =>
    intro st s hL h
    obtain ⟨y1, y2⟩ := hL y List.mem_cons_self
    rw [List.foldl_cons, List.foldl_cons, List.foldl_cons]
    have hL' : ∀ y ∈ L, y ≤ dnK K ∧ -6 ≤ f y := fun z hz => hL z (List.mem_cons_of_mem _ hz)
    rcases h with ⟨rfl, rfl⟩ | ⟨y0, rfl, h2, h3⟩
    · have e : (if (-7, 36).1 < f y then (f y, cdK K y) else ((-7, 36) : Int × Nat)) = (f y, cdK K y) := if_pos (by show (-7 : Int) < f y; omega)
      have em : max ((-7, 36) : Int × Nat).1 (f y) = f y := by show max (-7) (f y) = f y; omega
      rw [e, em]
      exact ih _ _ hL' (Or.inr ⟨y, rfl, rfl, y1⟩)
    · by_cases z : s.1 < f y
      · have e : seO true (some (s.1, y0)) (f y) y = some (f y, y) := by unfold seO; simp [z]
        rw [if_pos z, e, show max s.1 (f y) = f y by omega]
        exact ih _ _ hL' (Or.inr ⟨y, rfl, rfl, y1⟩)
      · have e : seO true (some (s.1, y0)) (f y) y = some (s.1, y0) := by unfold seO; simp [z]
        rw [if_neg z, e, show max s.1 (f y) = s.1 by omega]
        exact ih _ _ hL' (Or.inr ⟨y0, rfl, h2, h3⟩)
theorem ac_mn {K : Kt} {f : Nat → Int} : ∀ (L : List Nat) (st : Option (Int × Nat)) (a : Int), (∀ y ∈ L, y ≤ dnK K ∧ f y ≤ 6) → AcN K st a → AcN K (L.foldl (fun s y => seO false s (f y) y) st) (L.foldl (fun a y => min a (f y)) a) := by
  intro L
  induction L with
  | nil => intro st a _ h; exact h
  | cons y L ih =>
    intro st a hL h
    obtain ⟨y1, y2⟩ := hL y List.mem_cons_self
    rw [List.foldl_cons, List.foldl_cons]
    have hL' : ∀ y ∈ L, y ≤ dnK K ∧ f y ≤ 6 := fun z hz => hL z (List.mem_cons_of_mem _ hz)
    rcases h with ⟨rfl, rfl⟩ | ⟨y0, rfl, h3⟩
    · rw [show min 7 (f y) = f y by omega]
      exact ih _ _ hL' (Or.inr ⟨y, rfl, y1⟩)
    · by_cases z : f y < a
      · have e : seO false (some (a, y0)) (f y) y = some (f y, y) := by unfold seO; simp [z]
        rw [e, show min a (f y) = f y by omega]
        exact ih _ _ hL' (Or.inr ⟨y, rfl, y1⟩)
      · have e : seO false (some (a, y0)) (f y) y = some (a, y0) := by unfold seO; simp [z]
        rw [e, show min a (f y) = a by omega]
        exact ih _ _ hL' (Or.inr ⟨y0, rfl, h3⟩)
theorem rv_in {K : Kt} {x d y : Nat} (h : y ∈ rvF K x d) : x ≤ y ∧ y < x + d ∧ lgm K (cdK K y) = true := by
  unfold rvF at h
  rw [List.mem_filter, List.mem_range'_1] at h
  exact ⟨h.1.1, h.1.2, h.2⟩
theorem lv_fold {K : Kt} (hw : WFK K) (t l : Nat) : ∃ y, (rvF K 0 (dnK K + 1)).foldl (stp t l K) none = some (vaK (t + 1) (bbL l) K, y) ∧ y ≤ dnK K ∧ (l = 0 → cdK K y = fmK (t + 1) K) := by
  have hb : ∀ b, ∀ y ∈ rvF K 0 (dnK K + 1), -6 ≤ vaK t b (apK K (cdK K y)) ∧ vaK t b (apK K (cdK K y)) ≤ 6 := fun b y hy => vaK_in t b _ (apK_wf hw (rv_in hy).2.2)
  have hv := vaK_in (t + 1) (bbL l) K hw
  by_cases z : l % 2 = 0
  · have e1 : bbL l = true := decide_eq_true z
    have e2 : bbL (l + 1) = false := decide_eq_false (by omega)
    obtain ⟨a, b⟩ := ac_mx (K := K) (f := fun y => vaK t false (apK K (cdK K y))) (rvF K 0 (dnK K + 1)) none (-7, 36) (fun y hy => ⟨by have := (rv_in hy).2.1; omega, (hb false y hy).1⟩) (Or.inl ⟨rfl, rfl⟩)
    have hs : (rvF K 0 (dnK K + 1)).foldl (stp t l K) none = (rvF K 0 (dnK K + 1)).foldl (fun s y => seO true s (vaK t false (apK K (cdK K y))) y) none := by
      unfold stp
      rw [e1, e2]
    have hval : vaK (t + 1) (bbL l) K = (rvF K 0 (dnK K + 1)).foldl (fun a y => max a (vaK t false (apK K (cdK K y)))) (-7) := by
      rw [e1, vaK, if_pos rfl, mv_rv hw, List.foldl_map]
    have hfm : fmK (t + 1) K = ((rvF K 0 (dnK K + 1)).foldl (fun s y => if s.1 < vaK t false (apK K (cdK K y)) then (vaK t false (apK K (cdK K y)), cdK K y) else s) (-7, 36)).2 := by
      show ((mvF K 0 37).foldl (rSt t K) (-7, 36)).2 = _
      rw [mv_rv hw, List.foldl_map]
      rfl
    have b' : ((rvF K 0 (dnK K + 1)).foldl (fun s y => if s.1 < vaK t false (apK K (cdK K y)) then (vaK t false (apK K (cdK K y)), cdK K y) else s) (-7, 36)).1 = vaK (t + 1) (bbL l) K := by rw [hval]; exact b
    rw [hs]
    rcases a with ⟨a1, a2⟩ | ⟨y, a1, a2, a3⟩
    · have : ((rvF K 0 (dnK K + 1)).foldl (fun s y => if s.1 < vaK t false (apK K (cdK K y)) then (vaK t false (apK K (cdK K y)), cdK K y) else s) (-7, 36)).1 = -7 := by
        have := congrArg Prod.fst a2
        exact this
      omega
    · refine ⟨y, ?_, a3, fun _ => by rw [hfm]; exact a2.symm⟩
      rw [a1, ← b']
  · have e1 : bbL l = false := decide_eq_false z
    have e2 : bbL (l + 1) = true := decide_eq_true (by omega)
    have a := ac_mn (K := K) (f := fun y => vaK t true (apK K (cdK K y))) (rvF K 0 (dnK K + 1)) none 7 (fun y hy => ⟨by have := (rv_in hy).2.1; omega, (hb true y hy).2⟩) (Or.inl ⟨rfl, rfl⟩)
    have hs : (rvF K 0 (dnK K + 1)).foldl (stp t l K) none = (rvF K 0 (dnK K + 1)).foldl (fun s y => seO false s (vaK t true (apK K (cdK K y))) y) none := by
      unfold stp
      rw [e1, e2]
    have hval : vaK (t + 1) (bbL l) K = (rvF K 0 (dnK K + 1)).foldl (fun a y => min a (vaK t true (apK K (cdK K y)))) 7 := by
      rw [e1, vaK, if_neg (by decide), mv_rv hw, List.foldl_map]
    rw [hs]
    rcases a with ⟨a1, a2⟩ | ⟨y, a1, a3⟩
    · rw [← hval] at a2; omega
    · refine ⟨y, ?_, a3, fun q => absurd (show l % 2 = 0 by omega) z⟩
      rw [a1, ← hval]
