/-! LIFE: all blocks -/
section BLKALL
variable {C0 R0 : Mem} {c m : Nat} {K0 : Kt}
theorem BOut.bnd {j e n lo hi q lim : Nat} {C R : Mem} {X : Rs Unit} {g : Nat → Nat} (h : BOut C0 c R0 K0 j e n lo hi C R X g q lim) : BOut C0 c R0 K0 j e n lo hi C R (bnd X fun _ M => some ((), M)) g q lim := by
  rcases h with ⟨n', C', R', e1, e2, e3, e4⟩ | ⟨C', R', tag, e1, e2⟩
  · exact Or.inl ⟨n', C', R', e1, e2, by rw [e3, bnd_some], e4⟩
  · exact Or.inr ⟨C', R', tag, by rw [e1, bnd_some], e2⟩
/-- what comes behind a part that doesn't end all -/
theorem BOut.pre {j j1 e n n1 lo hi : Nat} {C R C1 R1 : Mem} {X : Rs Unit} (hn : n ≤ n1) (hn1 : n1 ≤ 300) (hlo : lo ≤ j1) (h : BOut C0 c R0 K0 j1 e n1 j1 hi C1 R1 X (fun nb => nb) 1 (100 * (62 - e)))
    (hf : ∀ k, (k < lo ∨ hi ≤ k) → gI R1 17 k = gI R 17 k) (hev : ∀ nb f out, 1 ≤ nb → nb ≤ 100 * (62 - e) → Ev nb j1 f R1 out → Ev 1 j (f + (n1 - n)) R out) (he : e ≤ 60) :
    BOut C0 c R0 K0 j e n lo hi C R X (fun nb => nb) 1 (100 * (62 - e)) := by
  rcases h with ⟨n', C', R', e1, e2, e3, e4, e5, e6⟩ | ⟨C', R', tag, e1, e2, e3⟩
  · refine Or.inl ⟨n', C', R', by omega, e2, e3, e4, fun k hk => (e5 k (by omega)).trans (hf k hk), fun nb f out w1 w2 w3 => ?_⟩
    exact (hev nb _ out w1 w2 (e6 nb f out w1 w2 w3)).mono w1 (by omega)
  · exact Or.inr ⟨C', R', tag, e1, e2, (hev 1 _ _ (by omega) (by omega) e3).mono (by omega) (by omega)⟩
theorem blk_run (hc : shC c = 0) (hm0 : gI R0 1 8 = nI m) (hm : m ≤ 60) : ∀ (N d j e : Nat), Blk K0 (fun k => gI C0 (c + 25) k) (fun k => gI R0 1 (134 + k)) m N d j e → j ≤ e → e ≤ m → ∀ dp n C R b7 fu, d + dp = 4 → Run C0 c R0 K0 n C R → n ≤ 300 → b7 ≤ cntW (fun k => gI R0 1 (134 + k)) j → e + 2 ≤ fu + j →
    BOut C0 c R0 K0 j e n j e C R (f_X2_runSteps_L12 (f_X2_runSteps dp) c (nI (cntW (fun k => gI R0 1 (134 + k)) e)) (nI d) (c + 24) fu (nI (cntW (fun k => gI R0 1 (134 + k)) j)) (nI b7) C) (fun nb => nb) 1 (100 * (62 - e)) := by
  have here : ∀ (d j dp n : Nat) (C R : Mem) (b7 fu : Nat), Run C0 c R0 K0 n C R → n ≤ 300 → 1 ≤ fu → BOut C0 c R0 K0 j j n j j C R (f_X2_runSteps_L12 (f_X2_runSteps dp) c (nI (cntW (fun k => gI R0 1 (134 + k)) j)) (nI d) (c + 24) fu (nI (cntW (fun k => gI R0 1 (134 + k)) j)) (nI b7) C) (fun nb => nb) 1 (100 * (62 - j)) := by
    intro d j dp n C R b7 fu hr hn hfu
    obtain ⟨fu, rfl⟩ : ∃ k, fu = k + 1 := ⟨fu - 1, by omega⟩
    refine Or.inl ⟨n, C, R, Nat.le_refl _, hn, ?_, hr, fun _ _ => rfl, fun nb f out _ _ h => ?_⟩
    · rw [f_X2_runSteps_L12]
      by_cases z : (30 : Int32) ≤ nI b7
      · rw [if_pos z]
      · rw [if_neg z, if_pos (Int32.le_refl _)]
    · rw [Nat.sub_self]; exact h
  intro N
  induction N with
  | zero =>
    intro d j e hb hj he dp n C R b7 fu hdp hr hn hb7 hfu
    have : j = e := hb
    subst this
    exact here d j dp n C R b7 fu hr hn (by omega)
  | succ N ih =>
    intro d j e hb hj he dp n C R b7 fu hdp hr hn hb7 hfu
    rcases hb with rfl | ⟨h1, h2, h3, hrow⟩
    · exact here d j dp n C R b7 fu hr hn (by omega)
    have hje : j < m := by omega
    have z1 : ¬ (30 : Int32) ≤ nI b7 := nI_ge (b := 30) (by omega) (by decide)
    have cle := cntW_le (fun k => gI R0 1 (134 + k)) e
    have hw24 : ¬ gI R0 1 (134 + 6 * j) = 24 := by
      rcases hrow with ⟨h, -⟩ | ⟨h, -⟩ | ⟨p, -, -, -, h, -⟩
      · exact (smp_at h).1
      · intro z
        rw [show gI R0 1 (134 + 6 * j) = 25 from h] at z
        exact absurd z (by decide)
      · exact (opn_at h).1
    have hs1 : cntW (fun k => gI R0 1 (134 + k)) (j + 1) = cntW (fun k => gI R0 1 (134 + k)) j + 1 := cnt_s hw24
    have hmono := cntW_mono (fun k => gI R0 1 (134 + k)) (a := j + 1) (b := e) h1
    have z2 : ¬ nI (cntW (fun k => gI R0 1 (134 + k)) e) ≤ nI (cntW (fun k => gI R0 1 (134 + k)) j) := nI_ge (by omega) (by omega)
    obtain ⟨fu, rfl⟩ : ∃ k, fu = k + 2 := ⟨fu - 2, by omega⟩
    by_cases hn300 : n = 300
    · subst hn300
      obtain ⟨C', g1, g2, g3⟩ := row_full hc hm0 hm hje hw24 hr
      exact Or.inr ⟨C', R, 0, g2 _ _ _ (fu + 1) _ _ z1 z2, g1, g3.mono (by omega) (by omega)⟩
    have hn' : n < 300 := by omega
    rcases hrow with ⟨h, hnext⟩ | ⟨h, hk, -⟩ | ⟨p, p1, p2, p3, p4, p5, p6, p7, p8, p9, p10⟩
    · obtain ⟨C1, R1, g1, g2, g3, g4⟩ := row_smp hc hm0 hm hje h3 h hn' hr
      rw [show fu + 2 = (fu + 1) + 1 from rfl, g3 _ _ _ _ _ z1 z2, nI_s, ← hs1]
      exact BOut.pre (by omega) (by omega) (by omega) (ih d (j + 1) e hnext h1 he dp (n + 1) C1 R1 (b7 + 1) (fu + 1) hdp g1 (by omega) (by omega) (by omega)) (fun k _ => g2 k) (fun nb f out w1 w2 w3 => by
        have := g4 nb f out (by omega) w3
        rw [show n + 1 - n = 1 by omega]
        exact this) (by omega)
    · obtain ⟨C1, R1, g1, g2, g3⟩ := row_stp hc hm0 hm hje h3 h hk hn' hr
      exact Or.inr ⟨C1, R1, 1, g2 _ _ _ fu _ z1 z2, g1, g3.mono (by omega) (by omega)⟩
    · obtain ⟨dp, rfl⟩ : ∃ k, dp = k + 1 := ⟨dp - 1, by omega⟩
      obtain ⟨T, C1, R1, g1, g2, g3, g4⟩ := row_opn hc hm0 hm hje (p := p) (by omega) h3 p4 (show gI R0 1 (134 + 6 * j + 4) = nI p from p5) p6 hn' hr
      have hcp : cntW (fun k => gI R0 1 (134 + k)) (p + 1) = cntW (fun k => gI R0 1 (134 + k)) p := cnt_c p7
      have hm2 := cntW_mono (fun k => gI R0 1 (134 + k)) (a := j + 1) (b := p) p1
      have rest : ∀ n2 C2 R2, Run C0 c R0 K0 n2 C2 R2 → n2 ≤ 300 → BOut C0 c R0 K0 (p + 1) e n2 (p + 1) e C2 R2 (f_X2_runSteps_L12 (f_X2_runSteps (dp + 1)) c (nI (cntW (fun k => gI R0 1 (134 + k)) e)) (nI d) (c + 24) (fu + 1) (nI (cntW (fun k => gI R0 1 (134 + k)) p)) (nI b7 + 1) C2) (fun nb => nb) 1 (100 * (62 - e)) := by
        intro n2 C2 R2 w1 w2
        rw [nI_s, ← hcp]
        exact ih d (p + 1) e p10 p2 he (dp + 1) n2 C2 R2 (b7 + 1) (fu + 1) hdp w1 w2 (by omega) (by omega)
      rw [show fu + 2 = (fu + 1) + 1 from rfl, g3 _ _ _ _ _ z1 z2]
      rcases g4 with ⟨rfl, g4⟩ | ⟨t, rfl, t1, t2, g4⟩
      · have e0 : f_X2_runSteps_L109 (f_X2_runSteps (dp + 1)) c (nI (cntW (fun k => gI R0 1 (134 + k)) e)) (nI d) (c + 24) (nI (cntW (fun k => gI R0 1 (134 + k)) j)) (nI b7) (nI (cntW (fun k => gI R0 1 (134 + k)) p)) (nI 0) fz 0 C1 = some ((), C1) := by
          have : fz = (fz - 1) + 1 := by rw [fz_is]
          rw [this, f_X2_runSteps_L109, if_pos (show nI 0 ≤ (0 : Int32) from Int32.le_refl _)]
        rw [e0, bnd_some]
        exact BOut.pre (j1 := p + 1) (by omega) (by omega) (by omega) (rest (n + 1) C1 R1 g1 (by omega)) (fun k hk => g2 k (by omega)) (fun nb f out w1 w2 w3 => by
          have := g4 nb f out (by omega) w3
          rw [show n + 1 - n = 1 by omega]
          exact this) (by omega)
      · have body : ∀ n C R, Run C0 c R0 K0 n C R → n ≤ 300 → BOut C0 c R0 K0 (j + 1) p n (j + 1) p C R (f_X2_runSteps (dp + 1) c (nI (cntW (fun k => gI R0 1 (134 + k)) j + 1)) (nI (cntW (fun k => gI R0 1 (134 + k)) p)) (nI (d + 1)) C) (fun nb => nb) 1 (100 * (62 - p)) := by
          intro n C R w1 w2
          rw [f_X2_runSteps, ← hs1]
          exact (ih (d + 1) (j + 1) p p9 p1 (by omega) dp n C R 0 fz (by omega) w1 w2 (by omega) (by rw [fz_is]; omega)).bnd
        have hp58 : t + 2 ≤ 100 * (62 - p) := by omega
        have lr := loop_run hc hm0 hm (j := j) (p := p) (d := d) (dp := dp + 1) p1 (by omega) p3 p7 p8 body (nI (cntW (fun k => gI R0 1 (134 + k)) e)) (nI b7) t (n + 1) C1 R1 0 fz g1 (by omega) t1 (by omega) (by rw [fz_is]; omega) t2
        rw [show 0 + (t + 1) = t + 1 by omega] at lr
        rcases lr with ⟨n2, C2, R2, l1, l2, l3, l4, l5, l6⟩ | ⟨C2, R2, tag, l1, l2, l3⟩
        · have l3' : f_X2_runSteps_L109 (f_X2_runSteps (dp + 1)) c (nI (cntW (fun k => gI R0 1 (134 + k)) e)) (nI d) (c + 24) (nI (cntW (fun k => gI R0 1 (134 + k)) j)) (nI b7) (nI (cntW (fun k => gI R0 1 (134 + k)) p)) (nI (t + 1)) fz 0 C1 = some ((), C2) := l3
          rw [l3', bnd_some]
          refine BOut.pre (j1 := p + 1) (by omega) l2 (by omega) (rest n2 C2 R2 l4 l2) (fun k hk => by rw [l5 k (by omega), g2 k (by omega)]) (fun nb f out w1 w2 w3 => ?_) (by omega)
          have := g4 (nb + t + 1) _ out (by omega) (l6 nb f out w1 (by show nb + t + 1 ≤ _; omega) w3)
          exact this.mono (by omega) (by omega)
        · have l1' : f_X2_runSteps_L109 (f_X2_runSteps (dp + 1)) c (nI (cntW (fun k => gI R0 1 (134 + k)) e)) (nI d) (c + 24) (nI (cntW (fun k => gI R0 1 (134 + k)) j)) (nI b7) (nI (cntW (fun k => gI R0 1 (134 + k)) p)) (nI (t + 1)) fz 0 C1 = some ((), C2) := l1
          have o6 : gI C2 25 6 = 1 := by
            obtain ⟨_, _, _, _, _, o6, _⟩ := l2
            exact o6
          refine Or.inr ⟨C2, R2, tag, ?_, l2, (g4 (t + 1) _ _ (by omega) l3).mono (by omega) (by omega)⟩
          rw [l1', bnd_some]
          exact over_L12 _ _ _ _ _ _ _ _ o6
end BLKALL
