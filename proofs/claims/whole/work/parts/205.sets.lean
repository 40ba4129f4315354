/-! SETS: of people, of rules, votes; told, bearing, shown, rule, reader, word -/
def setB (P : Nat → Bool) (n : Nat) : Int32 := foldN (fun i a => if P i = true then a ||| ((1 : Int32) <<< (nI i &&& 31)) else a) n 0 0
theorem setB_congr {P Q : Nat → Bool} (n : Nat) (h : ∀ i, i < n → P i = Q i) : setB P n = setB Q n :=
  foldN_congr n 0 0 (fun j a h1 h2 => by rw [h j (by omega)])
theorem or0 (a : Int32) : a ||| 0 = a := Int32.or_zero
theorem c0 : (0 : Int32) = nI 0 := rfl
theorem p_setOfFate {C : Mem} {c : Nat} {K : Kt} (hc : shC c = 0) (h : IsC C c K) (hw : WFK K) (f : Int32) : f_X0_setOfFate c f C = some (setB (fun i => decide (K 14 i = f)) (nK K 3), C) := by
  have hn := hw.n3
  have key := loopN (fun fu a i => f_X0_setOfFate_L4 c f fu a (nI i) C) (nK K 3) (fun i a => if decide (K 14 i = f) = true then a ||| ((1 : Int32) <<< (nI i &&& 31)) else a) (fun a => some (a, C))
    (fun fu a => by
      try dsimp only
      rw [f_X0_setOfFate_L4, p_count3, bnd_some, h.1 3 (by decide), hn.1, if_pos (Int32.le_refl _)])
    (fun fu a i hi => by
      try dsimp only
      rw [f_X0_setOfFate_L4, p_count3, bnd_some, h.1 3 (by decide), hn.1, if_neg (nI_ge hi (by omega)), p_personAt (by omega), bnd_some, if_neg (nn (shC_per hc (by omega))), h.2.2.2.1 i hi 3 (by decide), letF, letF, letF, nI_1]
      by_cases e : K (11 + 3) i = f
      · rw [if_pos e, if_pos (decide_eq_true e)]
      · rw [if_neg e, if_neg (by rw [decide_eq_false e]; decide)])
    (nK K 3) 0 0 fz (by omega) (by rw [fz_is]; omega)
  try dsimp only at key
  rw [f_X0_setOfFate]
  erw [key]
  rw [bnd_some]
  rfl
theorem p_guiltySet {C : Mem} {c : Nat} {K : Kt} (hc : shC c = 0) (h : IsC C c K) (hw : WFK K) : f_X0_guiltySet c C = some (setB (fun i => decide (K 11 i = 1)) (nK K 3), C) := by
  have hn := hw.n3
  have key := loopN (fun fu a i => f_X0_guiltySet_L4 c fu a (nI i) C) (nK K 3) (fun i a => if decide (K 11 i = 1) = true then a ||| ((1 : Int32) <<< (nI i &&& 31)) else a) (fun a => some (a, C))
    (fun fu a => by
      try dsimp only
      rw [f_X0_guiltySet_L4, p_count3, bnd_some, h.1 3 (by decide), hn.1, if_pos (Int32.le_refl _)])
    (fun fu a i hi => by
      try dsimp only
      rw [f_X0_guiltySet_L4, p_count3, bnd_some, h.1 3 (by decide), hn.1, if_neg (nI_ge hi (by omega)), p_personAt (by omega), bnd_some, if_neg (nn (shC_per hc (by omega))), h.2.2.2.1 i hi 0 (by decide), letF, letF, letF, nI_1]
      by_cases e : K (11 + 0) i = 1
      · rw [if_pos e, if_pos (decide_eq_true e)]
      · rw [if_neg e, if_neg (by rw [decide_eq_false e]; decide)])
    (nK K 3) 0 0 fz (by omega) (by rw [fz_is]; omega)
  try dsimp only at key
  rw [f_X0_guiltySet]
  erw [key]
  rw [bnd_some]
  rfl
theorem r_peopleThat {R : Mem} {K : Kt} (hR : IsR R 0 K) (hw : WFK K) {f : Int32} (hf : ¬ f = 3) : f_X12_peopleThat f R = some (setB (fun i => decide (K 14 i = f)) (nK K 3), R) := by
  have hn := hw.n3
  have key := loopN (fun fu a i => f_X12_peopleThat_L4 f fu a (nI i) R) (nK K 3) (fun i a => if decide (K 14 i = f) = true then a ||| ((1 : Int32) <<< (nI i &&& 31)) else a) (fun a => some (a, R))
    (fun fu a => by
      try dsimp only
      rw [f_X12_peopleThat_L4, hR.cnt (by decide), hn.1, if_pos (Int32.le_refl _)])
    (fun fu a i hi => by
      obtain ⟨e0, e1, e2, e3, e4⟩ := hR.per hi
      try dsimp only
      rw [f_X12_peopleThat_L4, hR.cnt (by decide), hn.1, if_neg (nI_ge hi (by omega)), if_neg hf, r_personOf2 (by omega), bnd_some, e2]
      by_cases e : K 14 i = f
      · rw [if_pos e, if_pos (decide_eq_true e), f_X12_peopleThat_J52, if_neg i10, letF, letF, nI_1]
      · rw [if_neg e, if_neg (by rw [decide_eq_false e]; decide), f_X12_peopleThat_J52, if_pos i00, letF, letF, nI_1, or0])
    (nK K 3) 0 0 fz (by omega) (by rw [fz_is]; omega)
  try dsimp only at key
  rw [f_X12_peopleThat]
  erw [key]
  rw [bnd_some]
  rfl
theorem r_peopleThat3 {R : Mem} {K : Kt} (hR : IsR R 0 K) (hw : WFK K) : f_X12_peopleThat 3 R = some (setB (fun i => decide (K 11 i = 1)) (nK K 3), R) := by
  have hn := hw.n3
  have key := loopN (fun fu a i => f_X12_peopleThat_L4 3 fu a (nI i) R) (nK K 3) (fun i a => if decide (K 11 i = 1) = true then a ||| ((1 : Int32) <<< (nI i &&& 31)) else a) (fun a => some (a, R))
    (fun fu a => by
      try dsimp only
      rw [f_X12_peopleThat_L4, hR.cnt (by decide), hn.1, if_pos (Int32.le_refl _)])
    (fun fu a i hi => by
      obtain ⟨e0, e1, e2, e3, e4⟩ := hR.per hi
      obtain ⟨hg, -⟩ := hw.2.2.2.1 i hi
      try dsimp only
      rw [f_X12_peopleThat_L4, hR.cnt (by decide), hn.1, if_neg (nI_ge hi (by omega)), if_pos (show (3 : Int32) = 3 from rfl), r_personOf3 (by omega), bnd_some, e3]
      rcases hg with e | e
      · rw [if_pos (by rw [e]; decide), if_pos (decide_eq_true e), f_X12_peopleThat_J52, if_neg i10, letF, letF, nI_1]
      · rw [if_neg (by rw [e]; decide), if_neg (by rw [e]; decide), f_X12_peopleThat_J52, if_pos i00, letF, letF, nI_1, or0])
    (nK K 3) 0 0 fz (by omega) (by rw [fz_is]; omega)
  try dsimp only at key
  rw [f_X12_peopleThat]
  erw [key]
  rw [bnd_some]
  rfl
/-- votes of a set of readers -/
def votS (K : Kt) (set : Int32) : Int32 := foldN (fun i a => a + if inS set (nI i) = true then K 17 i else 0) (nK K 4) 0 0
def votA (K : Kt) : Int32 := foldN (fun i a => a + K 17 i) (nK K 4) 0 0
theorem p_votesOf {C : Mem} {c : Nat} {K : Kt} (hc : shC c = 0) (h : IsC C c K) (hw : WFK K) (set : Int32) : f_X0_votesOf c set C = some (votS K set, C) := by
  have hn := hw.n4
  have key := loopN (fun fu a i => f_X0_votesOf_L4 c set fu a (nI i) C) (nK K 4) (fun i a => a + if inS set (nI i) = true then K 17 i else 0) (fun a => some (a, C))
    (fun fu a => by
      try dsimp only
      rw [f_X0_votesOf_L4, p_count4, bnd_some, h.1 4 (by decide), hn.1, if_pos (Int32.le_refl _)])
    (fun fu a i hi => by
      try dsimp only
      rw [f_X0_votesOf_L4, p_count4, bnd_some, h.1 4 (by decide), hn.1, if_neg (nI_ge hi (by omega)), p_isIn, bnd_some]
      cases e : inS set (nI i) with
      | false => rw [bI_f, if_pos i00, letF, letF, nI_1, if_neg (by decide)]
      | true => rw [bI_t, if_neg i10, p_cell (kC_0_6 hc).2 (by omega) (by decide), bnd_some, letF, letF, nI_1, (h.2.2.2.2.1 i hi).2, if_pos rfl])
    (nK K 4) 0 0 fz (by omega) (by rw [fz_is]; omega)
  try dsimp only at key
  rw [f_X0_votesOf]
  erw [key]
  rw [bnd_some]
  rfl
theorem r_votesOf {R : Mem} {K : Kt} (hR : IsR R 0 K) {i : Nat} (hi : i < nK K 4) (hi2 : i < 100) : f_X12_votesOf (nI i) R = some (K 17 i, R) := by
  have he : (102 : Int32) + (2 : Int32) * nI i + (1 : Int32) = nI (102 + 2 * i + 1) := by rw [litI, litI, litI, pk_mul, nI_add, nI_add]
  obtain ⟨h1, h2⟩ := r_rd he (by omega)
  rw [f_X12_votesOf, if_neg h1, h2, (hR.read hi).2]
theorem r_slipOf {R : Mem} {K : Kt} (hR : IsR R 0 K) {i : Nat} (hi : i < nK K 4) (hi2 : i < 100) : f_X12_slipOf (nI i) R = some (K 16 i, R) := by
  have he : (102 : Int32) + (2 : Int32) * nI i = nI (102 + 2 * i) := by rw [litI, litI, pk_mul, nI_add]
  obtain ⟨h1, h2⟩ := r_rd he (by omega)
  rw [f_X12_slipOf, if_neg h1, h2, (hR.read hi).1]
theorem r_allVotes {R : Mem} {K : Kt} (hR : IsR R 0 K) (hw : WFK K) : f_X12_allVotes R = some (votA K, R) := by
  have hn := hw.n4
  have key := loopN (fun fu a i => f_X12_allVotes_L4 fu a (nI i) R) (nK K 4) (fun i a => a + K 17 i) (fun a => some (a, R))
    (fun fu a => by
      try dsimp only
      rw [f_X12_allVotes_L4, hR.cnt (by decide), hn.1, if_pos (Int32.le_refl _)])
    (fun fu a i hi => by
      try dsimp only
      rw [f_X12_allVotes_L4, hR.cnt (by decide), hn.1, if_neg (nI_ge hi (by omega)), r_votesOf hR hi (by omega), bnd_some, letF, letF, nI_1])
    (nK K 4) 0 0 fz (by omega) (by rw [fz_is]; omega)
  try dsimp only at key
  rw [f_X12_allVotes]
  erw [key]
  rw [bnd_some]
  rfl
theorem inS_all : ∀ n, n ≤ 6 → ∀ i, i < n → inS (((1 : Int32) <<< (nI n &&& 31)) - 1) (nI i) = true := by decide +kernel
theorem votS_all {K : Kt} (hw : WFK K) : votS K (((1 : Int32) <<< (K 0 4 &&& 31)) - 1) = votA K := by
  have hn := hw.n4
  refine foldN_congr _ 0 0 (fun j a h1 h2 => ?_)
  rw [hn.1, inS_all _ hn.2 j (by omega), if_pos rfl]
section SETS
variable {C R : Mem}
theorem m_told (h : Rel C R) (a : Int32) : OK2 (f_X11_told a C) (f_X12_told a R) := by
  obtain ⟨hs, ho⟩ := h
  obtain ⟨K, hw, hC, hR, h0, h1⟩ := ho.get
  rw [f_X11_told, f_X12_told]
  rcases ix a (n := 13) (by decide) with hx | ⟨j, hj, rfl⟩
  · have hne : ∀ v : Nat, v < 13 → ¬ a = nI v := by
      intro v hv z
      subst z
      rcases hx with h | h
      · exact nI_pos (by omega) h
      · exact nI_ge hv (by decide) h
    have hx6 : a < 0 ∨ nI 6 ≤ a := by
      rcases hx with h | h
      · exact Or.inl h
      · exact Or.inr (Int32.le_trans (nI_le (a := 6) (b := 13) (by decide) (by decide)) h)
    rw [withinF 6 6 rfl hx6, bnd_some, if_pos i00, if_neg (show ¬ a = 6 from hne 6 (by decide)), if_neg (show ¬ a = 7 from hne 7 (by decide)), if_neg (show ¬ a = 8 from hne 8 (by decide)), if_neg (show ¬ a = 9 from hne 9 (by decide)), if_neg (show ¬ a = 10 from hne 10 (by decide)), if_neg (show ¬ a = 11 from hne 11 (by decide)), if_neg (show ¬ a = 12 from hne 12 (by decide))]
    by_cases hb : a < 0
    · rw [if_pos hb]; exact fin_ref hs SqC.rf SqR.rf ho 1
    · have : ¬ a ≤ 12 := by
        have := hx.resolve_left hb
        rw [i_le] at this ⊢
        rw [nI_toInt (by decide)] at this
        rw [show (12 : Int32).toInt = 12 from by decide]
        omega
      rw [if_neg hb, if_neg this]; exact fin_ref hs SqC.rf SqR.rf ho 1
  · rw [if_neg (nI_pos (by omega) : ¬ nI j < 0), if_pos (show nI j ≤ (12 : Int32) from nI_le (b := 12) (by omega) (by decide))]
    rcases Nat.lt_or_ge j 6 with hj6 | hj6
    · rw [withinT 6 6 rfl (by decide) hj6, bnd_some, if_neg i10, if_neg (nn h0), p_countOf hj6, bnd_some, hC.1 j hj6, if_neg (show ¬ (8 : Int32) ≤ nI j from nI_ge (b := 8) (by omega) (by decide)), if_neg (nI_in (N := 3548) (by omega) (by decide)), nI_clamp (by omega), hR.cnt hj6]
      exact fin_giv hs SqC.rf SqR.rf ho _
    · rw [withinF 6 6 rfl (Or.inr (nI_le hj6 (by omega))), bnd_some, if_pos i00]
      rcases (show j = 6 ∨ j = 7 ∨ j = 8 ∨ j = 9 ∨ j = 10 ∨ j = 11 ∨ j = 12 by omega) with rfl | rfl | rfl | rfl | rfl | rfl | rfl
      · rw [if_pos (show nI 6 = (6 : Int32) from rfl), if_neg (nn h0), hC.2.2.2.2.2.2.1, if_neg (show ¬ (8 : Int32) ≤ nI 6 by decide), if_neg (nI_in (N := 3548) (by omega) (by decide)), nI_clamp (by omega), hR.warm]
        exact fin_giv hs SqC.rf SqR.rf ho _
      · rw [if_neg (show ¬ nI 7 = (6 : Int32) by decide), if_pos (show nI 7 = (7 : Int32) from rfl), if_neg (nn h0), hC.2.2.2.2.2.2.2, if_neg (show ¬ (8 : Int32) ≤ nI 7 by decide), if_neg (nI_in (N := 3548) (by omega) (by decide)), nI_clamp (by omega), hR.sat]
        exact fin_giv hs SqC.rf SqR.rf ho _
      · rw [if_neg (show ¬ nI 8 = (6 : Int32) by decide), if_neg (show ¬ nI 8 = (7 : Int32) by decide), if_pos (show nI 8 = (8 : Int32) from rfl), if_neg (nn h0), p_setOfFate h0 hC hw, bnd_some, if_pos (show (8 : Int32) ≤ nI 8 by decide), if_neg (show ¬ nI 8 = (12 : Int32) by decide), show nI 8 - 8 = (0 : Int32) from rfl, r_peopleThat hR hw (by decide), bnd_some]
        exact fin_giv hs SqC.rf SqR.rf ho _
      · rw [if_neg (show ¬ nI 9 = (6 : Int32) by decide), if_neg (show ¬ nI 9 = (7 : Int32) by decide), if_neg (show ¬ nI 9 = (8 : Int32) by decide), if_pos (show nI 9 = (9 : Int32) from rfl), if_neg (nn h0), p_setOfFate h0 hC hw, bnd_some, if_pos (show (8 : Int32) ≤ nI 9 by decide), if_neg (show ¬ nI 9 = (12 : Int32) by decide), show nI 9 - 8 = (1 : Int32) by decide, r_peopleThat hR hw (by decide), bnd_some]
        exact fin_giv hs SqC.rf SqR.rf ho _
      · rw [if_neg (show ¬ nI 10 = (6 : Int32) by decide), if_neg (show ¬ nI 10 = (7 : Int32) by decide), if_neg (show ¬ nI 10 = (8 : Int32) by decide), if_neg (show ¬ nI 10 = (9 : Int32) by decide), if_pos (show nI 10 = (10 : Int32) from rfl), if_neg (nn h0), p_setOfFate h0 hC hw, bnd_some, if_pos (show (8 : Int32) ≤ nI 10 by decide), if_neg (show ¬ nI 10 = (12 : Int32) by decide), show nI 10 - 8 = (2 : Int32) by decide, r_peopleThat hR hw (by decide), bnd_some]
        exact fin_giv hs SqC.rf SqR.rf ho _
      · rw [if_neg (show ¬ nI 11 = (6 : Int32) by decide), if_neg (show ¬ nI 11 = (7 : Int32) by decide), if_neg (show ¬ nI 11 = (8 : Int32) by decide), if_neg (show ¬ nI 11 = (9 : Int32) by decide), if_neg (show ¬ nI 11 = (10 : Int32) by decide), if_pos (show nI 11 = (11 : Int32) from rfl), if_neg (nn h0), p_guiltySet h0 hC hw, bnd_some, if_pos (show (8 : Int32) ≤ nI 11 by decide), if_neg (show ¬ nI 11 = (12 : Int32) by decide), show nI 11 - 8 = (3 : Int32) by decide, r_peopleThat3 hR hw, bnd_some]
        exact fin_giv hs SqC.rf SqR.rf ho _
      · rw [if_neg (show ¬ nI 12 = (6 : Int32) by decide), if_neg (show ¬ nI 12 = (7 : Int32) by decide), if_neg (show ¬ nI 12 = (8 : Int32) by decide), if_neg (show ¬ nI 12 = (9 : Int32) by decide), if_neg (show ¬ nI 12 = (10 : Int32) by decide), if_neg (show ¬ nI 12 = (11 : Int32) by decide), if_pos (show nI 12 = (12 : Int32) from rfl), if_neg (nn h0), if_neg (nn h0), p_count4, bnd_some, hC.1 4 (by decide), p_setOfAll, bnd_some, p_votesOf h0 hC hw, bnd_some, votS_all hw, if_pos (show (8 : Int32) ≤ nI 12 by decide), if_pos (show nI 12 = (12 : Int32) from rfl), r_allVotes hR hw, bnd_some]
        exact fin_giv hs SqC.rf SqR.rf ho _
theorem m_bearing (h : Rel C R) (a : Int32) : OK2 (f_X11_bearing a C) (f_X12_bearing a R) := by
  obtain ⟨hs, ho⟩ := h
  obtain ⟨K, hw, hC, hR, h0, h1⟩ := ho.get
  have hn := hw.n3
  have hn2 := hw.n2
  obtain ⟨w, hw9, hwm⟩ := hw.2.2.2.2.2.2.1
  rw [f_X11_bearing, f_X12_bearing, if_neg (nn h0)]
  rcases ix a (n := nK K 3) (by omega) with hx | ⟨j, hj, rfl⟩
  · rw [hasF 3 3 rfl hC hw (by decide) hx, bnd_some, if_pos i00, r_isPersonF hR hw hx, bnd_some, if_pos i00]
    exact fin_ref hs SqC.rf SqR.rf ho 1
  · have e := hC.2.2.2.1 j hj
    obtain ⟨f0, f1, f2, f3, f4⟩ := hR.per hj
    obtain ⟨hg, ⟨fd, hf, hf2⟩, -⟩ := hw.2.2.2.1 j hj
    have k1 := loopN (fun fu a i => f_X11_bearing_L32 (gR C 0 0 + 13 + 1 + j) fu a (nI i) C) (nK K 2) (fun i a => if bearK K i (K 11 j) (K 12 j) (K 20 0) (K 13 j) = true then a ||| ((1 : Int32) <<< (nI i &&& 31)) else a) (fun a => some (a, C))
      (fun fu a => by
        try dsimp only
        rw [f_X11_bearing_L32, if_neg (nn h0), p_count2, bnd_some, hC.1 2 (by decide), hn2.1, if_pos (Int32.le_refl _)])
      (fun fu a i hi => by
        try dsimp only
        rw [f_X11_bearing_L32, if_neg (nn h0), p_count2, bnd_some, hC.1 2 (by decide), hn2.1, if_neg (nI_ge hi (by omega)), if_neg (nn h0), p_ruleAt (by omega), bnd_some, if_neg (nn (shC_rule h0 (by omega))), if_neg (nn h0), e 0 (by decide), e 1 (by decide), e 2 (by decide), hC.2.2.2.2.2.2.1, hC.bear hi, bnd_some]
        cases hb : bearK K i (K (11 + 0) j) (K (11 + 1) j) (K 20 0) (K (11 + 2) j) with
        | false => rw [bI_f, if_pos i00, letF, nI_1, if_neg (by decide)]
        | true => rw [bI_t, if_neg i10, letF, letF, nI_1, if_pos rfl])
      (nK K 2) 0 0 fz (by omega) (by rw [fz_is]; omega)
    have k2 := loopN (fun fu a i => f_X12_bearing_L19 (nI j) fu a (nI i) R) (nK K 2) (fun i a => if bearK K i (K 11 j) (K 12 j) (K 20 0) (K 13 j) = true then a ||| ((1 : Int32) <<< (nI i &&& 31)) else a) (fun a => some (a, R))
      (fun fu a => by
        try dsimp only
        rw [f_X12_bearing_L19, hR.cnt (by decide), hn2.1, if_pos (Int32.le_refl _)])
      (fun fu a i hi => by
        try dsimp only
        rw [f_X12_bearing_L19, hR.cnt (by decide), hn2.1, if_neg (nI_ge hi (by omega)), r_personOf3 (by omega), bnd_some, r_personOf0 (by omega), bnd_some, r_personOf1 (by omega), bnd_some, f3, f0, f1, hR.warm, r_doesBear hR hw hi hf2 hf hwm hw9, bnd_some, two_sub hg]
        cases hb : bearK K i (K 11 j) (K 12 j) (K 20 0) (K 13 j) with
        | false => rw [bI_f, if_pos i00, letF, nI_1, if_neg (by decide)]
        | true => rw [bI_t, if_neg i10, letF, letF, nI_1, if_pos rfl])
      (nK K 2) 0 0 fz (by omega) (by rw [fz_is]; omega)
    try dsimp only at k1 k2
    rw [hasT 3 3 rfl hC hw (by decide) hj, bnd_some, if_neg i10, if_neg (nn h0), p_personAt (by omega), bnd_some, if_neg (nn (shC_per h0 (by omega))), r_isPersonT hR hw hj, bnd_some, if_neg i10]
    erw [k1]
    rw [bnd_some]
    erw [k2]
    rw [bnd_some]
    exact fin_giv hs SqC.rf SqR.rf ho _
theorem cueNK {K : Kt} (hw : WFK K) (p : Nat) (warm : Int32) {a : Int32} {j : Nat} (ha : a = nI j) (hj : j < nK K 1) : (pcueN K p warm = a) ↔ (pcueK K p warm = a) := by
  have := hw.n1
  rw [pcueN, cueN_K hw, pcueK]
  rcases cueK_in hw (K 11 p) (K 12 p) warm (K 13 p) with e | ⟨i, h1, e⟩
  · rw [e, if_pos rfl, ha, this.1]
    constructor
    · intro z
      have := nI_inj (by omega) (by omega) z
      omega
    · intro z
      exact absurd z.symm (nI_ne_m1 (by omega))
  · rw [e, if_neg (nI_ne_m1 (by omega))]
theorem m_shown (h : Rel C R) (a : Int32) : OK2 (f_X11_shown a C) (f_X12_shown a R) := by
  obtain ⟨hs, ho⟩ := h
  obtain ⟨K, hw, hC, hR, h0, h1⟩ := ho.get
  have hn := hw.n3
  have hn2 := hw.n1
  obtain ⟨w, hw9, hwm⟩ := hw.2.2.2.2.2.2.1
  rw [f_X11_shown, f_X12_shown, if_neg (nn h0)]
  rcases ix a (n := nK K 1) (by omega) with hx | ⟨j, hj, rfl⟩
  · rw [hasF 1 1 rfl hC hw (by decide) hx, bnd_some, if_pos i00, r_isF isCueE hR hw (by decide) hx, bnd_some, if_pos i00]
    exact fin_ref hs SqC.rf SqR.rf ho 1
  · have k1 := loopN (fun fu a i => f_X11_shown_L22 (nI j) fu a (nI i) C) (nK K 3) (fun i a => if decide (pcueK K i (K 20 0) = nI j) = true then a ||| ((1 : Int32) <<< (nI i &&& 31)) else a) (fun a => some (a, C))
      (fun fu a => by
        try dsimp only
        rw [f_X11_shown_L22, if_neg (nn h0), p_count3, bnd_some, hC.1 3 (by decide), hn.1, if_pos (Int32.le_refl _)])
      (fun fu a i hi => by
        try dsimp only
        rw [f_X11_shown_L22, if_neg (nn h0), p_count3, bnd_some, hC.1 3 (by decide), hn.1, if_neg (nI_ge hi (by omega)), if_neg (nn h0), if_neg (nn h0), hC.2.2.2.2.2.2.1, p_cueBefore h0 hC hw hi, bnd_some, letF, letF, letF, nI_1]
        by_cases hb : pcueK K i (K 20 0) = nI j
        · rw [if_pos ((cueNK hw i (K 20 0) rfl hj).mpr hb), if_pos (decide_eq_true hb)]
        · rw [if_neg (fun z => hb ((cueNK hw i (K 20 0) rfl hj).mp z)), if_neg (by rw [decide_eq_false hb]; decide)])
      (nK K 3) 0 0 fz (by omega) (by rw [fz_is]; omega)
    have k2 := loopN (fun fu a i => f_X12_shown_L18 (nI j) fu a (nI i) R) (nK K 3) (fun i a => if decide (pcueK K i (K 20 0) = nI j) = true then a ||| ((1 : Int32) <<< (nI i &&& 31)) else a) (fun a => some (a, R))
      (fun fu a => by
        try dsimp only
        rw [f_X12_shown_L18, hR.cnt (by decide), hn.1, if_pos (Int32.le_refl _)])
      (fun fu a i hi => by
        try dsimp only
        rw [f_X12_shown_L18, hR.cnt (by decide), hn.1, if_neg (nI_ge hi (by omega)), hR.warm, r_pcueFor hR hw hi hwm hw9, bnd_some, letF, letF, letF, letF, nI_1, or0]
        by_cases hb : pcueK K i (K 20 0) = nI j
        · rw [if_pos hb, if_pos (decide_eq_true hb)]
        · rw [if_neg hb, if_neg (by rw [decide_eq_false hb]; decide)])
      (nK K 3) 0 0 fz (by omega) (by rw [fz_is]; omega)
    try dsimp only at k1 k2
    rw [hasT 1 1 rfl hC hw (by decide) hj, bnd_some, if_neg i10, r_isT isCueE hR hw (by decide) hj, bnd_some, if_neg i10]
    erw [k1]
    rw [bnd_some]
    erw [k2]
    rw [bnd_some]
    exact fin_giv hs SqC.rf SqR.rf ho _
theorem m_reader (h : Rel C R) (a b : Int32) : OK2 (f_X11_reader a b C) (f_X12_reader a b R) := by
  obtain ⟨hs, ho⟩ := h
  obtain ⟨K, hw, hC, hR, h0, h1⟩ := ho.get
  have hn := hw.n4
  rw [f_X11_reader, f_X12_reader, if_neg (nn h0)]
  rcases ix a (n := nK K 4) (by omega) with hx | ⟨j, hj, rfl⟩
  · rw [hasF 4 4 rfl hC hw (by decide) hx, bnd_some, if_pos i00, r_isF isReaderE hR hw (by decide) hx, bnd_some, if_pos i00]
    exact fin_ref hs SqC.rf SqR.rf ho 1
  · rw [hasT 4 4 rfl hC hw (by decide) hj, bnd_some, if_neg i10, r_isT isReaderE hR hw (by decide) hj, bnd_some, if_neg i10]
    rcases ix b (n := 2) (by decide) with hx | ⟨w, hwm, rfl⟩
    · rw [withinF 2 2 rfl hx, bnd_some, if_pos i00]
      by_cases hb : b < 0
      · rw [if_pos hb]; exact fin_ref hs SqC.rf SqR.rf ho 1
      · have : ¬ b ≤ 1 := by
          have := hx.resolve_left hb
          rw [i_le] at this ⊢
          rw [nI_toInt (by decide)] at this
          rw [show (1 : Int32).toInt = 1 from by decide]
          omega
        rw [if_neg hb, if_neg this]; exact fin_ref hs SqC.rf SqR.rf ho 1
    · rw [withinT 2 2 rfl (by decide) hwm, bnd_some, if_neg i10, if_neg (nI_pos (by omega) : ¬ nI w < 0), if_pos (show nI w ≤ (1 : Int32) from nI_le (b := 1) (by omega) (by decide)), if_neg (nn h0), if_neg (nn h0)]
      rcases (show w = 0 ∨ w = 1 by omega) with rfl | rfl
      · rw [if_pos (show nI 0 = (0 : Int32) from rfl), if_pos (show nI 0 = (0 : Int32) from rfl), f_X11_reader_J48, p_cell (kC_0_5 h0).2 (by omega) (by decide), bnd_some, (hC.2.2.2.2.1 j hj).1, r_slipOf hR hj (by omega), bnd_some]
        exact fin_giv hs SqC.rf SqR.rf ho _
      · rw [if_neg (show ¬ nI 1 = (0 : Int32) by decide), if_neg (show ¬ nI 1 = (0 : Int32) by decide), f_X11_reader_J48, p_cell (kC_0_6 h0).2 (by omega) (by decide), bnd_some, (hC.2.2.2.2.1 j hj).2, r_votesOf hR hj (by omega), bnd_some]
        exact fin_giv hs SqC.rf SqR.rf ho _
theorem m_word (h : Rel C R) (a b : Int32) : OK2 (f_X11_word a b C) (f_X12_word a b R) := by
  obtain ⟨hs, ho⟩ := h
  obtain ⟨K, hw, hC, hR, h0, h1⟩ := ho.get
  have hn := hw.n5
  rw [f_X11_word, f_X12_word, if_neg (nn h0)]
  rcases ix a (n := nK K 5) (by omega) with hx | ⟨j, hj, rfl⟩
  · rw [hasF 5 5 rfl hC hw (by decide) hx, bnd_some, if_pos i00]
    by_cases hb : a < 0
    · rw [if_pos hb]; exact fin_ref hs SqC.rf SqR.rf ho 1
    · rw [if_neg hb, hR.cnt (by decide), hn.1, if_pos (hx.resolve_left hb)]; exact fin_ref hs SqC.rf SqR.rf ho 1
  · rw [hasT 5 5 rfl hC hw (by decide) hj, bnd_some, if_neg i10, if_neg (nI_pos (by omega) : ¬ nI j < 0), hR.cnt (by decide), hn.1, if_neg (nI_ge hj (by omega))]
    rcases ix b (n := 2) (by decide) with hx | ⟨w, hwm, rfl⟩
    · rw [withinF 2 2 rfl hx, bnd_some, if_pos i00]
      by_cases hb : b < 0
      · rw [if_pos hb]; exact fin_ref hs SqC.rf SqR.rf ho 1
      · have : ¬ b ≤ 1 := by
          have := hx.resolve_left hb
          rw [i_le] at this ⊢
          rw [nI_toInt (by decide)] at this
          rw [show (1 : Int32).toInt = 1 from by decide]
          omega
        rw [if_neg hb, if_neg this]; exact fin_ref hs SqC.rf SqR.rf ho 1
    · have he : (114 : Int32) + (2 : Int32) * nI j + nI w = nI (114 + 2 * j + w) := by rw [litI, litI, pk_mul, nI_add, nI_add]
      obtain ⟨q1, q2⟩ := r_rd he (by omega)
      rw [withinT 2 2 rfl (by decide) hwm, bnd_some, if_neg i10, if_neg (nI_pos (by omega) : ¬ nI w < 0), if_pos (show nI w ≤ (1 : Int32) from nI_le (b := 1) (by omega) (by decide)), if_neg (nn h0), if_neg (nn h0), if_neg q1, q2]
      rcases (show w = 0 ∨ w = 1 by omega) with rfl | rfl
      · rw [if_pos (show nI 0 = (0 : Int32) from rfl), f_X11_word_J48, p_cell (kC_0_7 h0).2 (by omega) (by decide), bnd_some, (hC.2.2.2.2.2.1 j hj).1, Nat.add_zero, (hR.word hj).1]
        exact fin_giv hs SqC.rf SqR.rf ho _
      · rw [if_neg (show ¬ nI 1 = (0 : Int32) by decide), f_X11_word_J48, p_cell (kC_0_8 h0).2 (by omega) (by decide), bnd_some, (hC.2.2.2.2.2.1 j hj).2, (hR.word hj).2]
        exact fin_giv hs SqC.rf SqR.rf ho _
end SETS
