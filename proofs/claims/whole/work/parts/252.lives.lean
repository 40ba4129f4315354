/-! LIFE: the WEEKS, lived in both -/
def Lvd (C : Mem) (c : Nat) (R : Mem) (K : Kt) (n : Nat) (K' : Kt) (C' R' : Mem) : Prop :=
  WFK K' ∧ (∃ s : Nat, s ≤ 9999 ∧ K' 20 1 = nI s) ∧ (∀ k, nK K' k = nK K k) ∧ LfC C c K' C' ∧ LfR R K' R' ∧ gI C' 25 3 = nI n ∧ gI R' 0 36 = nI n ∧ gI C' 25 4 = gI R' 18 0 ∧ gI C' 25 5 = gI R' 18 4 ∧
  gI R' 18 1 = K' 20 1 - K 20 1 ∧ gI R' 18 2 = nI (fcK K' 1) - nI (fcK K 1) ∧ gI R' 18 3 = nI (fcK K' 2) - nI (fcK K 2)
theorem r_zero (R : Mem) : ∃ R', f_X12_lives_L12 fz 0 R = some ((), R') ∧ (∀ n k, gI R' n k = if n = 18 ∧ k < 5 then 0 else gI R n k) ∧ ∀ n k, gL R' n k = gL R n k := by
  have key := loopI (fun fu (D : Mem) i => f_X12_lives_L12 fu (nI i) D) 5 (fun i D => (∀ n k, gI D n k = if n = 18 ∧ k < i then 0 else gI R n k) ∧ ∀ n k, gL D n k = gL R n k)
    (fun b => b.1 = () ∧ (∀ n k, gI b.2 n k = if n = 18 ∧ k < 5 then 0 else gI R n k) ∧ ∀ n k, gL b.2 n k = gL R n k)
    (fun fu D hI => ⟨((), D), ?_, rfl, hI⟩)
    (fun fu D i hi hI => Or.inl ?_) 5 0 R fz (by omega) (by rw [fz_is]; omega) ⟨fun n k => by rw [if_neg (by omega)], fun n k => rfl⟩
  · obtain ⟨⟨u, D⟩, e1, -, e2⟩ := key
    exact ⟨D, e1, e2⟩
  · rw [f_X12_lives_L12, if_pos (show (5 : Int32) ≤ nI 5 by decide)]
  · have q : ¬ (nI i < 0 ∨ 5 ≤ (nI i).toNatClampNeg) := nI_in hi (by decide)
    refine ⟨sI D 18 i 0, ⟨fun n k => ?_, fun n k => hI.2 n k⟩, ?_⟩
    · rw [gI_I, hI.1]
      by_cases z : n = 18 ∧ k = i
      · rw [if_pos z, if_pos (by omega)]
      · rw [if_neg z]
        by_cases z2 : n = 18 ∧ k < i
        · rw [if_pos z2, if_pos (by omega)]
        · rw [if_neg z2, if_neg (by omega)]
    · rw [f_X12_lives_L12, if_neg (show ¬ (5 : Int32) ≤ nI i from nI_ge (b := 5) hi (by decide)), if_neg q, letF, letF, nI_clamp (by omega), nI_s]
section LIVES
variable {C R : Mem} {c m x : Nat} {K : Kt}
theorem lives2 (hc : shC c = 0) (hw : WFK K) (hs : ∃ s : Nat, s ≤ 9999 ∧ K 20 1 = nI s) (hC : IsC C c K) (hR : IsR R 0 K) (hx : x < 65536) (hm : m ≤ 60) (hm0 : gI R 1 8 = nI m) (hcm : gI C (c + 24) 1 = nI (cntW (fun k => gI R 1 (134 + k)) m))
    (hr : ∀ k, k < m → rowW K (fun k => gI C (c + 25) k) (fun k => gI R 1 (134 + k)) m k) (hd : ∀ k, k ≤ m → 0 ≤ depW (fun k => gI R 1 (134 + k)) k ∧ depW (fun k => gI R 1 (134 + k)) k ≤ 3) :
    ∃ n C1 C' R' K', n ≤ 300 ∧ f_X2_begin (nI x) C = some ((), C1) ∧ (∀ a b, gR C1 a b = gR C a b) ∧ (∀ a b, ¬ a = 25 → gI C1 a b = gI C a b) ∧ f_X2_runSteps 5 c 0 (gI C1 (c + 24) 1) 0 C1 = some ((), C') ∧ f_X12_lives (nI x) R = some ((), R') ∧ Lvd C c R K n K' C' R' := by
  have lo := isC_lo hc
  obtain ⟨R1, z1, z2, z3⟩ := r_zero (sI (sI R 0 35 (nI x)) 0 36 0)
  have cC : ∀ a b, ¬ (a = 25 ∧ 2 ≤ b ∧ b ≤ 6) → gI (sI (sI (sI (sI (sI C 25 2 (nI x)) 25 3 0) 25 4 0) 25 5 0) 25 6 0) a b = gI C a b := fun a b z => by
    rw [gI_I, if_neg (by omega), gI_I, if_neg (by omega), gI_I, if_neg (by omega), gI_I, if_neg (by omega), gI_I, if_neg (by omega)]
  have cR : ∀ a b, ¬ (a = 0 ∧ (b = 35 ∨ b = 36)) → ¬ a = 18 → gI R1 a b = gI R a b := fun a b y1 y2 => by
    rw [z2, if_neg (by omega), gI_I, if_neg (by omega), gI_I, if_neg (by omega)]
  have r18 : ∀ k, k < 5 → gI R1 18 k = 0 := fun k hk => by rw [z2, if_pos ⟨rfl, hk⟩]
  have c6 : gI (sI (sI (sI (sI (sI C 25 2 (nI x)) 25 3 0) 25 4 0) 25 5 0) 25 6 0) 25 6 = 0 := gI_same _ _ _ _
  have c5 : gI (sI (sI (sI (sI (sI C 25 2 (nI x)) 25 3 0) 25 4 0) 25 5 0) 25 6 0) 25 5 = 0 := by rw [gI_I, if_neg (by omega), gI_same]
  have c4 : gI (sI (sI (sI (sI (sI C 25 2 (nI x)) 25 3 0) 25 4 0) 25 5 0) 25 6 0) 25 4 = 0 := by rw [gI_I, if_neg (by omega), gI_I, if_neg (by omega), gI_same]
  have c3 : gI (sI (sI (sI (sI (sI C 25 2 (nI x)) 25 3 0) 25 4 0) 25 5 0) 25 6 0) 25 3 = 0 := by rw [gI_I, if_neg (by omega), gI_I, if_neg (by omega), gI_I, if_neg (by omega), gI_same]
  have c2 : gI (sI (sI (sI (sI (sI C 25 2 (nI x)) 25 3 0) 25 4 0) 25 5 0) 25 6 0) 25 2 = nI x := by rw [gI_I, if_neg (by omega), gI_I, if_neg (by omega), gI_I, if_neg (by omega), gI_I, if_neg (by omega), gI_same]
  have run0 : Run C c R K 0 (sI (sI (sI (sI (sI C 25 2 (nI x)) 25 3 0) 25 4 0) 25 5 0) 25 6 0) R1 := by
    refine ⟨K, x, ⟨hw, hs, fun _ => rfl, hx, ⟨hC.cg (fun a b y1 y2 => cC a b (by omega)) hw, fun a b y1 y2 => cC a b y2, fun _ _ => rfl, fun _ _ => rfl⟩, ⟨hR.cg (fun k _ _ => cR 1 k (by omega) (by omega)) hw, fun a b y1 y2 y3 y4 => cR a b y2 y4, z3⟩, c2, ?_, c3, ?_, ?_, r18 4 (by omega), ?_, ?_, ?_⟩, c5, c6⟩
    · rw [z2, if_neg (by omega), gI_I, if_neg (by omega), gI_same]
    · rw [z2, if_neg (by omega), gI_same]; rfl
    · rw [c4, r18 0 (by omega)]
    · rw [r18 1 (by omega), Int32.sub_self]
    · rw [r18 2 (by omega), Int32.sub_self]
    · rw [r18 3 (by omega), Int32.sub_self]
  obtain ⟨hb, -⟩ := blk_of hm hr hd m 0 m 0 0 (by omega) (by omega) (by omega) (by omega) ⟨fun _ _ _ _ _ _ _ => by omega, Or.inl rfl⟩ (fun _ _ _ y => absurd y (by omega)) rfl
  have row0 : m = 0 ∨ ¬ gI R 1 (134 + 6 * 0) = 24 := by
    cases m with
    | zero => exact Or.inl rfl
    | succ m =>
      refine Or.inr ?_
      rcases hb with h | ⟨-, -, -, hrow⟩
      · omega
      · rcases hrow with ⟨h, -⟩ | ⟨h, -⟩ | ⟨p, -, -, -, h, -⟩
        · exact (smp_at h).1
        · intro z
          rw [show gI R 1 (134 + 6 * 0) = 25 from h] at z
          exact absurd z (by decide)
        · exact (opn_at h).1
  have start : ∀ f out, Ev 1 0 f R1 out → f ≤ 400 → f_X12_lives_L32 fz 0 R1 = some out := by
    rintro f out ⟨k', R', a, b⟩ hf
    have e : f_X12_behindEnds_L2 (0 + 1) (nI 0) R1 = some (nI 0, R1) := by
      obtain ⟨y1, y2⟩ := r_at0 (j := 0) (by omega)
      rw [f_X12_behindEnds_L2, cR 1 8 (by omega) (by omega), hm0]
      rcases row0 with y | y
      · rw [y, if_pos (Int32.le_refl _)]
      · by_cases y3 : nI m ≤ nI 0
        · rw [if_pos y3]
        · rw [if_neg y3, if_neg y1, y2, cR 1 _ (by omega) (by omega), if_neg y]
    have e2 := (a 0).symm.trans e
    have e3 : nI k' = nI 0 := by
      have := congrArg (fun o => o.map Prod.fst) e2
      simpa using this
    have e4 : R' = R1 := by
      have := congrArg (fun o => o.map Prod.snd) e2
      simpa using this
    have := b (fz - f)
    rw [e3, e4, show fz - f + f = fz by rw [fz_is]; omega] at this
    exact this
  have hcm1 : gI (sI (sI (sI (sI (sI C 25 2 (nI x)) 25 3 0) 25 4 0) 25 5 0) 25 6 0) (c + 24) 1 = nI (cntW (fun k => gI R 1 (134 + k)) m) := (cC _ _ (by omega)).trans hcm
  have beg : f_X2_begin (nI x) C = some ((), sI (sI (sI (sI (sI C 25 2 (nI x)) 25 3 0) 25 4 0) 25 5 0) 25 6 0) := by
    rw [f_X2_begin, letF, letF, letF, letF, letF]
  have liv : ∀ s R', f_X12_lives_L32 fz 0 R1 = some (s, R') → f_X12_lives (nI x) R = some ((), if s = 0 then sI R' 18 4 1 else R') := by
    intro s R' h
    rw [f_X12_lives, letF, letF, z1, bnd_some, h, bnd_some]
    by_cases y : s = 0
    · rw [if_pos y, if_pos y, letF]
    · rw [if_neg y, if_neg y]
      by_cases y2 : s = 1
      · rw [if_pos y2]
      · rw [if_neg y2]
  have br := blk_run hc hm0 hm m 0 0 m hb (by omega) (by omega) 4 0 _ R1 0 fz (by omega) run0 (by omega) (by omega) (by rw [fz_is]; omega)
  have runs : ∀ C', f_X2_runSteps_L12 (f_X2_runSteps 4) c (nI (cntW (fun k => gI R 1 (134 + k)) m)) (nI 0) (c + 24) fz (nI (cntW (fun k => gI R 1 (134 + k)) 0)) (nI 0) (sI (sI (sI (sI (sI C 25 2 (nI x)) 25 3 0) 25 4 0) 25 5 0) 25 6 0) = some ((), C') →
      f_X2_runSteps 5 c 0 (gI (sI (sI (sI (sI (sI C 25 2 (nI x)) 25 3 0) 25 4 0) 25 5 0) 25 6 0) (c + 24) 1) 0 (sI (sI (sI (sI (sI C 25 2 (nI x)) 25 3 0) 25 4 0) 25 5 0) 25 6 0) = some ((), C') := by
    intro C' h
    have h' : f_X2_runSteps_L12 (f_X2_runSteps 4) c (nI (cntW (fun k => gI R 1 (134 + k)) m)) 0 (c + 24) fz 0 0 (sI (sI (sI (sI (sI C 25 2 (nI x)) 25 3 0) 25 4 0) 25 5 0) 25 6 0) = some ((), C') := h
    rw [hcm1, show (5 : Nat) = 4 + 1 from rfl, f_X2_runSteps, h', bnd_some]
  rcases br with ⟨n', C', R', e1, e2, e3, e4, e5, e6⟩ | ⟨C', R', tag, e1, e2, e3⟩
  · have hev := e6 1 1 (2, R') (by omega) (by show 1 ≤ _; omega) (ev_end (e4.m8.trans hm0) hm)
    have l := start _ _ hev (by omega)
    obtain ⟨K', x', s1, s2, s3⟩ := e4
    obtain ⟨h1, h2, h3, h4, h5, h6, h7, h8, h9, h10, h11, h12, h13, h14, h15⟩ := s1
    refine ⟨n', _, C', R', K', e2, beg, fun _ _ => rfl, fun a b y => cC a b (by omega), runs C' e3, liv 2 R' l, ⟨h1, h2, h3, h5, h6, h9, h10, h11, by rw [s2, h12], h13, h14, h15⟩⟩
  · have l := start _ _ e3 (by omega)
    obtain ⟨n', K', x', y0, s1, s2, s3⟩ := e2
    obtain ⟨h1, h2, h3, h4, h5, h6, h7, h8, h9, h10, h11, h12, h13, h14, h15⟩ := s1
    rcases s3 with ⟨rfl, s3⟩ | ⟨rfl, s3⟩
    · have oo : ∀ a b, ¬ (a = 18 ∧ b = 4) → gI (sI R' 18 4 1) a b = gI R' a b := fun a b z => by rw [gI_I, if_neg z]
      refine ⟨n', _, C', sI R' 18 4 1, K', y0, beg, fun _ _ => rfl, fun a b y => cC a b (by omega), runs C' e1, liv 0 R' l, ⟨h1, h2, h3, h5, h6.set h1 (fun a b y1 y2 y3 => oo a b (by omega)) (fun _ _ => rfl), h9, (oo _ _ (by omega)).trans h10, h11.trans (oo _ _ (by omega)).symm, by rw [s3, gI_same], (oo _ _ (by omega)).trans h13, (oo _ _ (by omega)).trans h14, (oo _ _ (by omega)).trans h15⟩⟩
    · refine ⟨n', _, C', R', K', y0, beg, fun _ _ => rfl, fun a b y => cC a b (by omega), runs C' e1, liv 1 R' l, ⟨h1, h2, h3, h5, h6, h9, h10, h11, by rw [s3, h12], h13, h14, h15⟩⟩
end LIVES
