/-! GAMES: the class's answer -/
theorem par2 {u : Nat} (hu : u < 100) : nI u - nI u / 2 * 2 = nI (u % 2) := pk_rem (d := 2) (by omega) (by decide) (by decide)
theorem play_ok {C0 : Mem} {sp T : Nat} (hc : shC sp = 0) (hT : T ≤ 3) : ∀ t u depth, u + t = T → t < depth → SpecP C0 sp T t (decide (u % 2 = 0)) (f_X1_play depth) u := by
  intro t
  induction t with
  | zero =>
    intro u depth h1 h2 K C lo hi hw g1 g2 l1 l2 l3
    obtain ⟨dp, rfl⟩ : ∃ k, depth = k + 1 := ⟨depth - 1, by omega⟩
    have s1 := stK_in hw
    refine ⟨stK K, C, ?_, g1, g2, fun _ => rfl, by omega, by omega, ?_⟩
    · rw [f_X1_play, if_pos (nI_le (by omega) (by omega)), g2]
    · rw [vaK]
      exact ⟨fun _ => by omega, fun _ => by omega, fun _ _ => rfl⟩
  | succ t ih =>
    intro u depth h1 h2 K C lo hi hw g1 g2 l1 l2 l3
    obtain ⟨dp, rfl⟩ : ∃ k, depth = k + 1 := ⟨depth - 1, by omega⟩
    have sub := ih (u + 1) dp (by omega) (by omega)
    rw [f_X1_play, if_neg (nI_ge (by omega) (by omega)), if_pos (show nI u < (3 : Int32) from nI_lt (b := 3) (by omega) (by decide)), par2 (by omega), vaK]
    by_cases z : u % 2 = 0
    · have z1 : ¬ (u + 1) % 2 = 0 := by omega
      rw [decide_eq_false z1] at sub
      rw [z, decide_eq_true (show (0 : Nat) = 0 from rfl), if_pos rfl, if_pos (show nI 0 = 0 from rfl), f_X1_play_J26, if_neg i10, f_X1_play_J40]
      obtain ⟨r, C', k1, k2, k3, k4, k5, k6, k7, -⟩ := lp_mx sub hc (by omega) hw l1 l2 l3 37 0 fz (-7) (-7) C (by omega) (by rw [fz_is]; omega) g1 g2 (by omega) (by omega) (by omega) ⟨fun _ => by omega, fun _ => by omega, fun _ _ => rfl⟩
      rw [show max lo (-7) = lo by omega] at k1
      have k1' : f_X1_play_L53 (f_X1_play dp) sp (nI u) (nI T) 1 fz (-7) (iI lo) (iI hi) 0 C = some (iI r, C') := k1
      rw [k1', bnd_some]
      exact ⟨r, C', rfl, k2, k3, k4, k5, k6, k7⟩
    · have z1 : (u + 1) % 2 = 0 := by omega
      rw [decide_eq_true z1] at sub
      rw [decide_eq_false z, show ∀ x y : Int, (if false = true then x else y) = y from fun _ _ => rfl, if_neg (nI_ne0 (show 0 < u % 2 by omega) (by omega)), f_X1_play_J26, if_pos i00, f_X1_play_J40]
      obtain ⟨r, C', k1, k2, k3, k4, k5, k6, k7⟩ := lp_mn sub hc (by omega) (by omega) hw l1 l2 l3 37 0 fz 7 7 C (by omega) (by rw [fz_is]; omega) g1 g2 (by omega) (by omega) (by omega) ⟨fun _ => by omega, fun _ => by omega, fun _ _ => rfl⟩
      rw [show min hi 7 = hi by omega] at k1
      have k1' : f_X1_play_L53 (f_X1_play dp) sp (nI u) (nI T) 0 fz 7 (iI lo) (iI hi) 0 C = some (iI r, C') := k1
      rw [k1', bnd_some]
      exact ⟨r, C', rfl, k2, k3, k4, k5, k6, k7⟩
/-- the first of the best moves, by the class's numbers -/
def fmK (T : Nat) (K : Kt) : Nat := match T with
  | 0 => 36
  | t + 1 => ((mvF K 0 37).foldl (rSt t K) (-7, 36)).2
theorem p_begin {C : Mem} {sp T : Nat} {K : Kt} (hc : shC sp = 0) (hC : IsC C sp K) (hw : WFK K) (hT : T ≤ 3) : ∃ C', f_X1_begin sp (nI T) C = some (iI (vaK T true K), C') ∧ GmI C sp K C' ∧ gI C' 24 0 = nI (fmK T K) := by
  have hn := hw.n3
  have g0 : GmI C sp K C := ⟨hC, fun _ _ _ _ => rfl, fun _ _ => rfl, fun _ _ => rfl⟩
  have g1 := g0.s24 hc hw 0 36
  have key := loopN (fun fu (a : Int) i => f_X1_begin_L11 sp (nI T) fu (iI a) (nI i) (sI C 24 0 36)) (nK K 3) (fun p a => a + wvI (mnK K p)) (fun a => some (iI a, sI C 24 0 36))
    (fun fu a => by
      try dsimp only
      rw [f_X1_begin_L11, p_count3, bnd_some, g1.1.1 3 (by decide), hn.1, if_pos (Int32.le_refl _)])
    (fun fu a i hi => by
      try dsimp only
      rw [f_X1_begin_L11, p_count3, bnd_some, g1.1.1 3 (by decide), hn.1, if_neg (nI_ge hi (by omega)), p_worth hc g1.1 hw i (by omega), bnd_some, letF, letF, nI_s, iI_add]
      unfold wqK
      rw [if_pos hi])
    (nK K 3) 0 0 fz (by omega) (by rw [fz_is]; omega)
  have key' : f_X1_begin_L11 sp (nI T) fz 0 0 (sI C 24 0 36) = some (iI (stK K), sI C 24 0 36) := key
  have g2 := g1.s24 hc hw 1 (iI (stK K))
  have v2 : gI (sI (sI C 24 0 36) 24 1 (iI (stK K))) 24 1 = iI (stK K) := gI_same _ _ _ _
  have q2 : gI (sI (sI C 24 0 36) 24 1 (iI (stK K))) 24 0 = nI 36 := by rw [gI_I, if_neg (by omega), gI_same]; rfl
  rw [f_X1_begin, letF, key', bnd_some, letF]
  cases T with
  | zero =>
    refine ⟨_, ?_, g2, q2⟩
    rw [show (5 : Nat) = 4 + 1 from rfl, f_X1_play, if_pos (show nI 0 ≤ (0 : Int32) from Int32.le_refl _), v2, bnd_some]
    rfl
  | succ t =>
    have sub := play_ok (C0 := C) (sp := sp) (T := t + 1) hc hT t 1 4 (by omega) (by omega)
    rw [decide_eq_false (show ¬ 1 % 2 = 0 by decide)] at sub
    obtain ⟨r, C', k1, k2, k3, k4, k5, k6, k7, k8⟩ := lp_mx (u := 0) sub hc (by omega) hw (lo := -7) (hi := 7) (by omega) (by omega) (by omega) 37 0 fz (-7) (-7) _ (by omega) (by rw [fz_is]; omega) g2 v2 (by omega) (by omega) (by omega) ⟨fun _ => by omega, fun _ => by omega, fun _ _ => rfl⟩
    have k1' : f_X1_play_L53 (f_X1_play 4) sp 0 (nI (t + 1)) 1 fz (-7) (-7) 7 0 (sI (sI C 24 0 36) 24 1 (iI (stK K))) = some (iI r, C') := k1
    have hv := vaK_in (t + 1) true K hw
    have hr : r = vaK (t + 1) true K := by
      obtain ⟨q1, q3, q4⟩ := k7
      rw [vaK, if_pos rfl] at hv ⊢
      by_cases y1 : r ≤ -7
      · have := q1 y1; omega
      · by_cases y2 : 7 ≤ r
        · have := q3 y2; omega
        · exact (q4 (by omega) (by omega)).symm
    refine ⟨C', ?_, k2, k8 rfl rfl rfl (by omega) 36 q2⟩
    rw [show (5 : Nat) = 4 + 1 from rfl, f_X1_play, if_neg (show ¬ nI (t + 1) ≤ (0 : Int32) from nI_nle (by omega) (by omega)), if_pos (by decide), if_pos (by decide), f_X1_play_J26, if_neg i10, f_X1_play_J40, k1', bnd_some, bnd_some, hr]
