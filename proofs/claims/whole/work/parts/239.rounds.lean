/-! GAMES: a level's loop, and the whole game -/
def nT : Nat → Nat
  | 0 => 1
  | t + 1 => 37 * nT t + 2
/-- one element of a level's loop -/
def LvS (T t l : Nat) : Prop := ∀ (x : Nat) (K : Kt) (R : Mem) (st : Option (Int × Nat)), x ≤ dnK K → WFK K → IsR R (3012 + 134 * l) K → gI R 14 l = iI ((x : Int) - 1) → StR R l st →
  ∃ n R', n ≤ nT t ∧ (∀ fu, f_X12_playing_L33 (nI T) (fu + n) (nI l) R = f_X12_playing_L33 (nI T) fu (nI l) R') ∧ FpR l R R' ∧ gI R' 14 l = nI x ∧ StR R' l (if lgm K (cdK K x) = true then stp t l K st x else st)
def LvL (T t l : Nat) : Prop := ∀ (d x : Nat) (K : Kt) (R : Mem) (st : Option (Int × Nat)), x + d = dnK K + 1 → WFK K → IsR R (3012 + 134 * l) K → gI R 14 l = iI ((x : Int) - 1) → StR R l st →
  ∃ n R', n ≤ d * nT t ∧ (∀ fu, f_X12_playing_L33 (nI T) (fu + n) (nI l) R = f_X12_playing_L33 (nI T) fu (nI l) R') ∧ FpR l R R' ∧ gI R' 14 l = nI (dnK K) ∧ StR R' l ((rvF K x d).foldl (stp t l K) st)
theorem lv_all {T t l : Nat} (h : LvS T t l) : LvL T t l := by
  intro d
  induction d with
  | zero =>
    intro x K R st hx hw hR h14 hs
    refine ⟨0, R, by omega, fun _ => rfl, FpR.rf, ?_, hs⟩
    rw [h14, ← iI_nat]
    congr 1
    omega
  | succ d ih =>
    intro x K R st hx hw hR h14 hs
    obtain ⟨n1, R1, a1, a2, a3, a4, a5⟩ := h x K R st (by omega) hw hR h14 hs
    obtain ⟨n2, R2, b1, b2, b3, b4, b5⟩ := ih (x + 1) K R1 _ (by omega) hw (hR.fp hw a3) (by rw [a4, ← iI_nat]; congr 1; omega) a5
    refine ⟨n2 + n1, R2, by rw [Nat.succ_mul]; omega, fun fu => ?_, a3.tr b3, b4, ?_⟩
    · rw [← Nat.add_assoc, a2, b2]
    · rw [rvF_s]
      by_cases z : lgm K (cdK K x) = true
      · rw [if_pos z] at b5 ⊢
        exact b5
      · rw [if_neg z] at b5 ⊢
        exact b5
/-- the head, and the illegal deeds -/
theorem lv_ill {T l x : Nat} {K : Kt} {R : Mem} (hl : l ≤ 3) (hx : x ≤ dnK K) (hw : WFK K) (hR : IsR R (3012 + 134 * l) K) (h14 : gI R 14 l = iI ((x : Int) - 1)) :
    (lgm K (cdK K x) = false ∧ ∃ R1, FpR l R R1 ∧ gI R1 14 l = nI x ∧ gI R1 16 l = gI R 16 l ∧ gI R1 15 l = gI R 15 l ∧ ∀ fu, f_X12_playing_L33 (nI T) (fu + 1) (nI l) R = f_X12_playing_L33 (nI T) fu (nI l) R1) ∨
    (lgm K (cdK K x) = true ∧ ∃ R1, IsR R1 0 (apK K (cdK K x)) ∧ FpR l R R1 ∧ gI R1 14 l = nI x ∧ gI R1 16 l = gI R 16 l ∧ gI R1 15 l = gI R 15 l ∧ ∀ fu, f_X12_playing_L33 (nI T) (fu + 1) (nI l) R = if (nI l + (1 : Int32)) = nI T then (bnd (f_X12_standing R1) fun r53 M54 => bnd (f_X12_settles (nI l) r53 M54) fun _ M57 => f_X12_playing_L33 (nI T) fu (nI l) M57) else (letF (nI l + (1 : Int32) : Int32) fun y42 => bnd (f_X12_levelAt y42 R1) fun r43 M44 => bnd (f_X12_keeps r43 M44) fun _ M47 => if y42 < 0 ∨ 4 ≤ y42.toNatClampNeg then none else letF (sI M47 14 y42.toNatClampNeg (-1 : Int32)) fun M50 => if y42 < 0 ∨ 4 ≤ y42.toNatClampNeg then none else letF (sI M50 16 y42.toNatClampNeg (-1 : Int32)) fun M52 => f_X12_playing_L33 (nI T) fu y42 M52)) := by
  have hd := dn_le hw
  obtain ⟨R1, a1, a2, a3, a4, a5, a6⟩ := lv_open (T := T) hw hl (by omega) hR h14
  have f1 : FpR l R R1 := ⟨fun n k b c d => a2 n k b (by omega), a3⟩
  have le : nI x ≤ nI (dnK K) := nI_le hx (by omega)
  rcases r_deed (R0 := R1) ⟨a1, fun _ _ _ => rfl, fun _ _ => rfl⟩ hw hx with ⟨b1, b2⟩ | ⟨b1, R2, b2, b3⟩
  · refine Or.inl ⟨b1, R1, f1, a5, a2 _ _ (by omega) (by omega), a2 _ _ (by omega) (by omega), fun fu => ?_⟩
    rw [a6, lvB, if_pos le, b2, bnd_some, if_pos rfl]
  · refine Or.inr ⟨b1, R2, b3.1, ⟨fun n k b c d => (b3.2.1 n k (by omega)).trans (f1.1 n k b c d), fun n k => (b3.2.2 n k).trans (f1.2 n k)⟩, (b3.2.1 _ _ (by omega)).trans a5, (b3.2.1 _ _ (by omega)).trans (a2 _ _ (by omega) (by omega)), (b3.2.1 _ _ (by omega)).trans (a2 _ _ (by omega) (by omega)), fun fu => ?_⟩
    rw [a6, lvB, if_pos le, b2, bnd_some, if_neg i10]
theorem lv_leaf {T l : Nat} (hT : T ≤ 3) (hl : l + 1 = T) : LvS T 0 l := by
  intro x K R st hx hw hR h14 hs
  have hd := dn_le hw
  rcases lv_ill (T := T) (by omega) hx hw hR h14 with ⟨b1, R1, b2, b3, b4, b5, b6⟩ | ⟨b1, R1, b0, b2, b3, b4, b5, b6⟩
  · refine ⟨1, R1, Nat.le_refl _, b6, b2, b3, ?_⟩
    rw [b1, if_neg (by decide)]
    exact hs.fr b4 b5
  · have hw' := apK_wf hw b1
    have s1 := stK_in hw'
    obtain ⟨R2, c1, c2, c3, c4⟩ := r_settles (l := l) (by omega) b3 (by omega) (hs.fr b4 b5) s1.1 s1.2
    refine ⟨1, R2, Nat.le_refl _, fun fu => ?_, b2.tr ⟨fun n k _ _ z => c3 n k (by omega), c4⟩, (c3 _ _ (by omega)).trans b3, ?_⟩
    · rw [b6, if_pos (by rw [nI_s, hl]), r_standing b0 hw', bnd_some, c1, bnd_some]
    · rw [if_pos b1]
      exact c2
theorem lv_down {T t l : Nat} (hT : T ≤ 3) (hl : l + (t + 2) = T) (ih : LvL T t (l + 1)) : LvS T (t + 1) l := by
  intro x K R st hx hw hR h14 hs
  have hd := dn_le hw
  rcases lv_ill (T := T) (by omega) hx hw hR h14 with ⟨b1, R1, b2, b3, b4, b5, b6⟩ | ⟨b1, R1, b0, b2, b3, b4, b5, b6⟩
  · have n1 : 1 ≤ nT (t + 1) := by unfold nT; omega
    refine ⟨1, R1, ?_, ?_, ?_, ?_, ?_⟩
    · exact n1
    · exact b6
    · exact b2
    · exact b3
    · rw [b1, if_neg (by decide)]
      exact hs.fr b4 b5
  · have hw' := apK_wf hw b1
    have hd' := dn_le hw'
    obtain ⟨q1, q2⟩ := lv_rd (l := l + 1) (by omega)
    have q1' : ¬ (nI (l + 1) < 0 ∨ 4 ≤ l + 1) := fun z => z.elim (nI_pos (by omega)) (by omega)
    obtain ⟨R2, k1, k2, k3⟩ := r_keeps (o := 3012 + 134 * (l + 1)) (by omega) (by omega) R1
    have i3 : IsR (sI (sI R2 14 (l + 1) (-1)) 16 (l + 1) (-1)) (3012 + 134 * (l + 1)) (apK K (cdK K x)) := b0.mv (fun k hk => by
      rw [gI_I, if_neg (by omega), gI_I, if_neg (by omega), k2, if_pos (by omega), show 3012 + 134 * (l + 1) + k - (3012 + 134 * (l + 1)) = 0 + k by omega]) hw'
    have fr3 : FpR l R1 (sI (sI R2 14 (l + 1) (-1)) 16 (l + 1) (-1)) := ⟨fun n k z1 z2 z3 => by rw [gI_I, if_neg (by omega), gI_I, if_neg (by omega), k2, if_neg (by omega)], k3⟩
    have at3 : ∀ n k, n = 14 ∨ n = 15 ∨ n = 16 → k = l → gI (sI (sI R2 14 (l + 1) (-1)) 16 (l + 1) (-1)) n k = gI R1 n k := fun n k z1 z2 => by rw [gI_I, if_neg (by omega), gI_I, if_neg (by omega), k2, if_neg (by omega)]
    obtain ⟨n4, R4, d1, d2, d3, d4, d5⟩ := ih (dnK (apK K (cdK K x)) + 1) 0 _ _ none (by omega) hw' i3 (by rw [gI_I, if_neg (by omega), gI_same]; rfl) (gI_same _ _ _ _)
    obtain ⟨y, e1, e2, -⟩ := lv_fold hw' t (l + 1)
    rw [e1] at d5
    obtain ⟨R5, g1, g2, g3, g4, g5, g6⟩ := lv_open (T := T) (l := l + 1) (x := dnK (apK K (cdK K x)) + 1) hw' (by omega) (by omega) (i3.fp hw' d3) (by rw [d4, ← iI_nat]; congr 1; omega)
    have v1 := vaK_in (t + 1) (bbL (l + 1)) _ hw'
    have at5 : ∀ n, n = 14 ∨ n = 15 ∨ n = 16 → gI R5 n l = gI R1 n l := fun n z => (g2 n l (by omega) (by omega)).trans ((d3.1 n l (by omega) (by omega) (by omega)).trans (at3 n l z rfl))
    obtain ⟨R6, c1, c2, c3, c4⟩ := r_settles (R := R5) (l := l) (by omega) ((at5 14 (by omega)).trans b3) (by omega) (hs.fr ((at5 16 (by omega)).trans b4) ((at5 15 (by omega)).trans b5)) v1.1 v1.2
    have fr5 : FpR l R4 R5 := ⟨fun n k z1 z2 z3 => g2 n k z1 (by omega), g3⟩
    refine ⟨1 + n4 + 1, R6, ?_, fun fu => ?_, (((b2.tr fr3).tr d3.up).tr fr5).tr ⟨fun n k _ _ z => c3 n k (by omega), c4⟩, ?_, ?_⟩
    · have : n4 ≤ 37 * nT t := Nat.le_trans d1 (Nat.mul_le_mul_right _ (by omega))
      unfold nT
      omega
    · have z1 : ¬ nI l + (1 : Int32) = nI T := by rw [nI_s]; exact fun z => absurd (nI_inj (by omega) (by omega) z) (by omega)
      have z2 : ¬ nI (dnK (apK K (cdK K x)) + 1) ≤ nI (dnK (apK K (cdK K x))) := nI_ge (Nat.lt_succ_self _) (by omega)
      have z3 : ¬ nI (l + 1) = 0 := nI_ne0 (by omega) (by omega)
      have z4 : nI (l + 1) + (-1 : Int32) = nI l := by
        have e := pk_sub (a := l + 1) (b := 1) (by omega)
        rw [show l + 1 - 1 = l by omega] at e
        rw [← e]
        exact (Int32.sub_eq_add_neg _ _).symm
      rw [← Nat.add_assoc, b6, if_neg z1, letF, nI_s, lvl_is, bnd_some, k1, bnd_some, if_neg q1, q2, letF, if_neg q1', letF, ← Nat.add_assoc, d2, g6, lvB, if_neg z2, if_neg z3, letF, z4, nI_s, if_neg q1, q2, g2 15 (l + 1) (by omega) (by omega), d5.2.1, c1, bnd_some]
    · exact (c3 _ _ (by omega)).trans ((at5 14 (by omega)).trans b3)
    · rw [if_pos b1]
      exact c2
theorem lv_main {T : Nat} (hT : T ≤ 3) : ∀ t l, l + (t + 1) = T → LvL T t l := by
  intro t
  induction t with
  | zero => exact fun l h => lv_all (lv_leaf hT h)
  | succ t ih => exact fun l h => lv_all (lv_down hT h (ih (l + 1) (by omega)))
def PlR (R R' : Mem) : Prop := (∀ n k, ¬ (n = 1 ∧ 3012 ≤ k) → ¬ (n = 14 ∨ n = 15 ∨ n = 16) → gI R' n k = gI R n k) ∧ ∀ n k, gL R' n k = gL R n k
theorem r_playing {R : Mem} {K : Kt} (hR : IsR R 0 K) (hw : WFK K) {T : Nat} (hT : T ≤ 3) : ∃ R', f_X12_playing (nI T) R = some (iI (vaK T true K), R') ∧ PlR R R' ∧ (T ≠ 0 → ∃ y, y ≤ dnK K ∧ gI R' 16 0 = nI y ∧ cdK K y = fmK T K) := by
  have hd := dn_le hw
  cases T with
  | zero =>
    refine ⟨R, ?_, ⟨fun _ _ _ _ => rfl, fun _ _ => rfl⟩, fun z => absurd rfl z⟩
    rw [f_X12_playing, if_pos (show nI 0 = 0 from rfl), r_standing hR hw, bnd_some]
    rfl
  | succ t =>
    obtain ⟨R1, k1, k2, k3⟩ := r_keeps (o := 3012) (by omega) (by omega) R
    have i2 : IsR (sI (sI R1 14 0 (-1)) 16 0 (-1)) (3012 + 134 * 0) K := hR.mv (fun k hk => by
      rw [gI_I, if_neg (by omega), gI_I, if_neg (by omega), k2, if_pos (by omega), show 3012 + 134 * 0 + k - 3012 = 0 + k by omega]) hw
    obtain ⟨n3, R3, d1, d2, d3, d4, d5⟩ := lv_main (T := t + 1) hT t 0 (by omega) (dnK K + 1) 0 K _ none (by omega) hw i2 (by rw [gI_I, if_neg (by omega), gI_same]; rfl) (gI_same _ _ _ _)
    obtain ⟨y, e1, e2, e3⟩ := lv_fold hw t 0
    rw [e1] at d5
    obtain ⟨R4, g1, g2, g3, g4, g5, g6⟩ := lv_open (T := t + 1) (l := 0) (x := dnK K + 1) hw (by omega) (by omega) (i2.fp hw d3) (by rw [d4, ← iI_nat, show ((dnK K + 1 : Nat) : Int) - 1 = (dnK K : Nat) by omega])
    have t1 : nT t ≤ 1445 := by
      rcases (show t = 0 ∨ t = 1 ∨ t = 2 by omega) with rfl | rfl | rfl <;> exact Nat.le_of_ble_eq_true rfl
    have t2 : (dnK K + 1) * nT t ≤ 37 * 1445 := Nat.mul_le_mul (by omega) t1
    have hn : n3 ≤ 53465 := by omega
    obtain ⟨f0, hf⟩ : ∃ f0, fz = f0 + 1 + n3 := ⟨fz - 1 - n3, by rw [fz_is]; omega⟩
    have z2 : ¬ nI (dnK K + 1) ≤ nI (dnK K) := nI_ge (Nat.lt_succ_self _) (by omega)
    obtain ⟨R5, r1, r2, r3⟩ := r_restores (o := 3012) (by omega) (by omega) R4
    have run : f_X12_playing_L33 (nI (t + 1)) fz (nI 0) (sI (sI R1 14 0 (-1)) 16 0 (-1)) = some ((), R4) := by
      rw [hf, d2, g6, lvB, if_neg z2, if_pos (show nI 0 = 0 from rfl)]
    have run' : f_X12_playing_L33 (nI (t + 1)) fz 0 (sI (sI R1 14 0 (-1)) 16 0 (-1)) = some ((), R4) := run
    have lv0 : f_X12_levelAt 0 R = some (nI 3012, R) := lvl_is (l := 0) R
    have lv0' : f_X12_levelAt 0 R4 = some (nI 3012, R4) := lvl_is (l := 0) R4
    have v5 : ∀ n, n = 15 ∨ n = 16 → gI R5 n 0 = gI R3 n 0 := fun n z => by rw [r2, if_neg (by omega), g2 n 0 (by omega) (by omega)]
    refine ⟨R5, ?_, ⟨fun n k z1 z2 => ?_, fun n k => (r3 n k).trans ((g3 n k).trans ((d3.2 n k).trans (k3 n k)))⟩, fun _ => ⟨y, e2, (v5 16 (by omega)).trans d5.1, e3 rfl⟩⟩
    · rw [f_X12_playing, if_neg (show ¬ nI (t + 1) = 0 from nI_ne0 (by omega) (by omega)), lv0, bnd_some, k1, bnd_some, letF, letF, run', bnd_some, lv0', bnd_some, r1, bnd_some, v5 15 (by omega), d5.2.1]
      rfl
    · rw [r2]
      by_cases q : n = 1 ∧ k < 134
      · rw [if_pos q, g2 1 _ (by omega) (by omega), d3.1 1 _ (by omega) (by omega) (by omega), gI_I, if_neg (by omega), gI_I, if_neg (by omega), k2, if_pos (by omega), q.1, show 3012 + k - 3012 = k by omega]
      · rw [if_neg q, g2 n k q (by omega), d3.1 n k q (by omega) (by omega), gI_I, if_neg (by omega), gI_I, if_neg (by omega), k2, if_neg (by omega)]
