/-! LIFE: the WEEKS as blocks -/
theorem sI_id (M : Mem) (n k : Nat) : sI M n k (gI M n k) = M := by
  refine Prod.ext ?_ rfl
  funext a b
  show (if a = n ∧ b = k then M.1 n k else M.1 a b) = M.1 a b
  by_cases z : a = n ∧ b = k
  · rw [if_pos z, z.1, z.2]
  · rw [if_neg z]
def smpW (K : Kt) (cl at_ : Nat → Int32) (k s : Nat) : Prop := ∃ kd : Nat, 15 ≤ kd ∧ kd ≤ 21 ∧ at_ (6 * k) = nI kd ∧ cl (5 * s) = nI kd ∧
  ((kd = 15 ∧ ∃ p, p < nK K 3 ∧ at_ (6 * k + 1) = nI p ∧ cl (5 * s + 2) = nI p) ∨ kd = 16 ∨
   (kd = 17 ∧ ∃ p, p < nK K 3 ∧ at_ (6 * k + 1) = nI p ∧ cl (5 * s + 2) = nI p ∧ ∃ n, 1 ≤ n ∧ n ≤ 9 ∧ at_ (6 * k + 2) = nI n ∧ cl (5 * s + 3) = nI n) ∨
   ((kd = 18 ∨ kd = 19) ∧ ∃ p, p < nK K 3 ∧ at_ (6 * k + 1) = nI p ∧ cl (5 * s + 2) = nI p ∧ ∃ n, n < nK K 0 ∧ at_ (6 * k + 2) = nI n ∧ cl (5 * s + 3) = nI n) ∨ kd = 20 ∨ kd = 21)
def opnW (K : Kt) (cl at_ : Nat → Int32) (k s : Nat) : Prop :=
  (at_ (6 * k) = 23 ∧ cl (5 * s) = 23 ∧ ∃ n, 1 ≤ n ∧ n ≤ 99 ∧ at_ (6 * k + 1) = nI n ∧ cl (5 * s + 2) = nI n) ∨
   (cl (5 * s) = 22 ∧
     ((at_ (6 * k) = 2226 ∧ cl (5 * s + 1) = 25 ∧ ∃ q, q < nK K 3 ∧ at_ (6 * k + 1) = nI q ∧ cl (5 * s + 2) = nI q ∧ ∃ n, n < nK K 1 ∧ at_ (6 * k + 2) = nI n ∧ cl (5 * s + 3) = nI n) ∨
      (at_ (6 * k) = 2227 ∧ cl (5 * s + 1) = 26 ∧ ∃ q, q < nK K 3 ∧ at_ (6 * k + 1) = nI q ∧ cl (5 * s + 2) = nI q) ∨
      (at_ (6 * k) = 2228 ∧ cl (5 * s + 1) = 27 ∧ ∃ q, q < nK K 3 ∧ at_ (6 * k + 1) = nI q ∧ cl (5 * s + 2) = nI q) ∨
      (at_ (6 * k) = 2211 ∧ cl (5 * s + 1) = 11 ∧ ¬ at_ (6 * k + 5) = 0 ∧ ∃ x, cmpR 9 (at_ (6 * k + 5)) (at_ (6 * k + 2)) x (cl (5 * s + 2)) (cl (5 * s + 3)))))
/-- the rows from one on, ahead of another, d blocks deep -/
def Blk (K : Kt) (cl at_ : Nat → Int32) (m : Nat) : Nat → Nat → Nat → Nat → Prop
  | 0, _, j, e => j = e
  | N + 1, d, j, e => j = e ∨ (j < e ∧ e ≤ m ∧ cntW at_ j < 30 ∧
      ((smpW K cl at_ j (cntW at_ j) ∧ Blk K cl at_ m N d (j + 1) e) ∨ (at_ (6 * j) = 25 ∧ cl (5 * cntW at_ j) = 24 ∧ Blk K cl at_ m N d (j + 1) e) ∨
       ∃ p, j < p ∧ p < e ∧ d ≤ 2 ∧ opnW K cl at_ j (cntW at_ j) ∧ at_ (6 * j + 4) = nI p ∧ cl (5 * cntW at_ j + 4) = nI (cntW at_ p) ∧ at_ (6 * p) = 24 ∧ at_ (6 * p + 4) = nI j ∧ Blk K cl at_ m N (d + 1) (j + 1) p ∧ Blk K cl at_ m N d (p + 1) e))
section BLK
variable {K : Kt} {cl at_ : Nat → Int32} {m : Nat}
def BOk (at_ : Nat → Int32) (m lo e : Nat) : Prop := (∀ x o, lo ≤ x → x < e → at_ (6 * x) = 24 → at_ (6 * x + 4) = nI o → o < m → lo ≤ o) ∧ (e = m ∨ (e < m ∧ at_ (6 * e) = 24 ∧ ∃ o, at_ (6 * e + 4) = nI o ∧ o < lo))
def BIn (at_ : Nat → Int32) (m lo j : Nat) : Prop := ∀ o q, lo ≤ o → o < j → o < q → q < m → at_ (6 * q) = 24 → at_ (6 * q + 4) = nI o → q < j
theorem opn_at {k s : Nat} (h : opnW K cl at_ k s) : ¬ at_ (6 * k) = 24 ∧ (at_ (6 * k) = 23 ∨ 2200 ≤ (at_ (6 * k)).toInt) := by
  rcases h with ⟨a, -⟩ | ⟨-, ⟨a, -⟩ | ⟨a, -⟩ | ⟨a, -⟩ | ⟨a, -⟩⟩ <;> rw [a] <;> decide
theorem smp_at {k s : Nat} (h : smpW K cl at_ k s) : ¬ at_ (6 * k) = 24 ∧ ¬ at_ (6 * k) = 23 ∧ ¬ at_ (6 * k) = 25 ∧ (at_ (6 * k)).toInt < 100 := by
  obtain ⟨kd, a, b, c, -⟩ := h
  rw [c]
  have n1 : ∀ v : Nat, 21 < v → v < 100 → ¬ nI kd = nI v := fun v h1 h2 z => by have := nI_inj (by omega) (by omega) z; omega
  exact ⟨n1 24 (by omega) (by omega), n1 23 (by omega) (by omega), n1 25 (by omega) (by omega), by rw [nI_toInt (by omega)]; omega⟩
theorem cnt_s {j : Nat} (h : ¬ at_ (6 * j) = 24) : cntW at_ (j + 1) = cntW at_ j + 1 := by rw [cntW, if_neg h]
theorem cnt_c {j : Nat} (h : at_ (6 * j) = 24) : cntW at_ (j + 1) = cntW at_ j := by rw [cntW, if_pos h]; rfl
/-- a closer's opener -/
theorem cl_op (hm : m ≤ 60) (hr : ∀ k, k < m → rowW K cl at_ m k) {q o : Nat} (hq : q < m) (ho : o < m) (h1 : at_ (6 * q) = 24) (h2 : at_ (6 * q + 4) = nI o) : o < q ∧ at_ (6 * o + 4) = nI q ∧ (at_ (6 * o) = 23 ∨ 2200 ≤ (at_ (6 * o)).toInt) ∧ ¬ at_ (6 * o) = 24 := by
  rcases hr q hq with ⟨c1, o', c2, c3, c4, c5⟩ | ⟨s, hs, hs30, hrow⟩
  · have : o' = o := nI_inj (by omega) (by omega) (c3.symm.trans h2)
    subst this
    refine ⟨c2, c4, ?_⟩
    rcases c5 with c5 | ⟨t, t1, t2, t3⟩
    · rw [c5]; decide
    · rw [t3, nI_toInt (by omega)]
      exact ⟨Or.inr (by omega), fun z => by have := nI_inj (a := t) (b := 24) (by omega) (by omega) z; omega⟩
  · exfalso
    rcases hrow with h | ⟨h, -⟩ | ⟨p, -, -, -, -, -, -, -, h⟩
    · exact (smp_at (s := s) h).1 h1
    · rw [h] at h1; exact absurd h1 (by decide)
    · exact (opn_at (s := s) (by rcases h with ⟨a, b, c⟩ | h; exact Or.inl ⟨a, b, c⟩; exact Or.inr h)).1 h1
theorem blk_of (hm : m ≤ 60) (hr : ∀ k, k < m → rowW K cl at_ m k) (hd : ∀ k, k ≤ m → 0 ≤ depW at_ k ∧ depW at_ k ≤ 3) : ∀ (N j e lo d : Nat), e - j ≤ N → lo ≤ j → j ≤ e → e ≤ m → BOk at_ m lo e → BIn at_ m lo j → depW at_ j = (d : Int) → Blk K cl at_ m N d j e ∧ depW at_ e = (d : Int) := by
  intro N
  induction N with
  | zero =>
    intro j e lo d h1 h2 h3 h4 hb hi hdj
    have : j = e := by omega
    subst this
    exact ⟨rfl, hdj⟩
  | succ N ih =>
    intro j e lo d h1 h2 h3 h4 hb hi hdj
    by_cases hje : j = e
    · subst hje; exact ⟨Or.inl rfl, hdj⟩
    have hlt : j < e := by omega
    rcases hr j (by omega) with ⟨c1, o, c2, c3, c4, -⟩ | ⟨s, hs, hs30, hrow⟩
    · exfalso
      have lo_o := hb.1 j o h2 hlt c1 c3 (by omega)
      have := hi o j lo_o c2 c2 (by omega) c1 c3
      omega
    subst hs
    -- a row that opens nothing
    have nx : at_ (6 * j) ≠ 24 → ¬ (at_ (6 * j) = 23 ∨ 2200 ≤ (at_ (6 * j)).toInt) → Blk K cl at_ m N d (j + 1) e ∧ depW at_ e = (d : Int) := by
      intro z1 z2
      refine ih (j + 1) e lo d (by omega) (by omega) (by omega) h4 hb (fun o q y1 y2 y3 y6 y4 y5 => ?_) ?_
      · by_cases y : o = j
        · subst y
          exact absurd (cl_op hm hr y6 (by omega) y4 y5).2.2.1 z2
        · have := hi o q y1 (by omega) y3 y6 y4 y5
          omega
      · rw [depW, if_neg z1, if_neg z2, hdj]
        omega
    rcases hrow with h | ⟨h, hk⟩ | ⟨p, p1, p2, p3, p4, p5, p6, p7, h⟩
    · obtain ⟨a, b, c, e1⟩ := smp_at (s := cntW at_ j) h
      obtain ⟨n1, n2⟩ := nx a (fun z => z.elim b (fun z => by omega))
      exact ⟨Or.inr ⟨hlt, h4, hs30, Or.inl ⟨h, n1⟩⟩, n2⟩
    · obtain ⟨n1, n2⟩ := nx (by rw [h]; decide) (by rw [h]; decide)
      exact ⟨Or.inr ⟨hlt, h4, hs30, Or.inr (Or.inl ⟨h, hk, n1⟩)⟩, n2⟩
    · have ho : opnW K cl at_ j (cntW at_ j) := by
        rcases h with ⟨a, b, c⟩ | h
        · exact Or.inl ⟨a, b, c⟩
        · exact Or.inr h
      obtain ⟨o1, o2⟩ := opn_at ho
      have hp : p < e := by
        rcases hb.2 with rfl | ⟨y1, y2, oe, y3, y4⟩
        · exact p2
        · by_cases z : p < e
          · exact z
          · by_cases z2 : p = e
            · subst z2
              have : j = oe := nI_inj (by omega) (by omega) (p5.symm.trans y3)
              omega
            · have := p7 e oe (by omega) (by omega) y2 y3 (by omega)
              omega
      have d1 : depW at_ (j + 1) = ((d + 1 : Nat) : Int) := by
        rw [depW, if_neg o1, if_pos o2, hdj]; rfl
      have d2 := (hd (j + 1) (by omega)).2
      have a1 : p - (j + 1) ≤ N := by clear h ho; omega
      have a2 : e - (p + 1) ≤ N := by clear h ho; omega
      have a3 : lo ≤ p + 1 := by clear h ho; omega
      have a4 : j + 1 ≤ p := p1
      have a5 : p ≤ m := Nat.le_of_lt p2
      have a6 : d ≤ 2 := by clear h ho; omega
      obtain ⟨i1, i2⟩ := ih (j + 1) p (j + 1) (d + 1) a1 (Nat.le_refl _) a4 a5 ⟨fun x o x1 x2 x3 x4 x5 => p7 x o (by omega) x2 x3 x4 x5, Or.inr ⟨p2, p4, j, p5, by omega⟩⟩ (fun o q x1 x2 => absurd x1 (by omega)) d1
      obtain ⟨n1, n2⟩ := ih (p + 1) e lo d a2 a3 hp h4 hb (fun o q x1 x2 x3 x6 x4 x5 => by
        obtain ⟨c1, c2, c3, c4⟩ := cl_op hm hr x6 (by omega) x4 x5
        by_cases z1 : o < j
        · have := hi o q x1 z1 x3 x6 x4 x5
          omega
        by_cases z2 : o = j
        · subst z2
          have : q = p := nI_inj (by omega) (by omega) (c2.symm.trans p3)
          omega
        by_cases z3 : o = p
        · subst z3
          exact absurd p4 c4
        by_cases z4 : q ≤ p
        · omega
        exfalso
        rcases hr o (by omega) with ⟨e1, -⟩ | ⟨s', hs', -, hrow'⟩
        · exact c4 e1
        · rcases hrow' with h' | ⟨h', -⟩ | ⟨p', r1, r2, r3, r4, r5, r6, r7, -⟩
          · obtain ⟨a, b, c, e1⟩ := smp_at (s := s') h'
            exact c3.elim b (fun z => by omega)
          · rw [h'] at c3; exact absurd c3 (by decide)
          · have : p' = q := nI_inj (by omega) (by omega) (r3.symm.trans c2)
            subst this
            have := r7 p j (by omega) (by omega) p4 p5 (by omega)
            omega) (by rw [depW, if_pos p4, i2]; omega)
      exact ⟨Or.inr ⟨hlt, h4, hs30, Or.inr (Or.inr ⟨p, p1, hp, a6, ho, p3, p6, p4, p5, i1, n1⟩)⟩, n2⟩
end BLK
