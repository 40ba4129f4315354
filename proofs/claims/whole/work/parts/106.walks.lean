theorem dX11_reach_0 : decode cX11_reach 0 = .ok (.aload_n 0, 1) := by decide +kernel
theorem dX11_reach_1 : decode cX11_reach 1 = .ok (.getfield 10, 3) := by decide +kernel
theorem dX11_reach_4 : decode cX11_reach 4 = .ok (.iconst 2, 1) := by decide +kernel
theorem dX11_reach_5 : decode cX11_reach 5 = .ok (.iload_n 1, 1) := by decide +kernel
theorem dX11_reach_6 : decode cX11_reach 6 = .ok (.invokevirtual 213, 3) := by decide +kernel
theorem dX11_reach_9 : decode cX11_reach 9 = .ok (.ifCond .ne 9, 3) := by decide +kernel
theorem dX11_reach_12 : decode cX11_reach 12 = .ok (.aload_n 0, 1) := by decide +kernel
theorem dX11_reach_13 : decode cX11_reach 13 = .ok (.iconst 1, 1) := by decide +kernel
theorem dX11_reach_14 : decode cX11_reach 14 = .ok (.invokevirtual 132, 3) := by decide +kernel
theorem dX11_reach_17 : decode cX11_reach 17 = .ok (.ireturn, 1) := by decide +kernel
theorem dX11_reach_18 : decode cX11_reach 18 = .ok (.aload_n 0, 1) := by decide +kernel
theorem dX11_reach_19 : decode cX11_reach 19 = .ok (.getfield 57, 3) := by decide +kernel
theorem dX11_reach_22 : decode cX11_reach 22 = .ok (.aload_n 0, 1) := by decide +kernel
theorem dX11_reach_23 : decode cX11_reach 23 = .ok (.getfield 10, 3) := by decide +kernel
theorem dX11_reach_26 : decode cX11_reach 26 = .ok (.invokevirtual 351, 3) := by decide +kernel
theorem dX11_reach_29 : decode cX11_reach 29 = .ok (.aload_n 0, 1) := by decide +kernel
theorem dX11_reach_30 : decode cX11_reach 30 = .ok (.aload_n 0, 1) := by decide +kernel
theorem dX11_reach_31 : decode cX11_reach 31 = .ok (.getfield 57, 3) := by decide +kernel
theorem dX11_reach_34 : decode cX11_reach 34 = .ok (.getfield 354, 3) := by decide +kernel
theorem dX11_reach_37 : decode cX11_reach 37 = .ok (.iload_n 1, 1) := by decide +kernel
theorem dX11_reach_38 : decode cX11_reach 38 = .ok (.invokestatic 254, 3) := by decide +kernel
theorem dX11_reach_41 : decode cX11_reach 41 = .ok (.invokevirtual 191, 3) := by decide +kernel
theorem dX11_reach_44 : decode cX11_reach 44 = .ok (.ireturn, 1) := by decide +kernel
set_option maxRecDepth 100000 in
set_option maxHeartbeats 8000000 in
theorem c_X11_reach (l : Launch) (D : va_G) (cA : Nat → ClassId) (q aK aV : Nat → Nat) (hq : injG 167 q) {a1 : Int32} {M M0 : Mem} {r0 : Int32} (h : f_X11_reach a1 M = some (r0, M0)) : Met l yX11_reach (.code yX11_reach cX11_reach 2 (some .int) :: BW) ({ frames := 4, cells := 0, slots := 0, locals := 93 } : Room) (va_Pc [.ref (q 0), .int a1] (CB 167 (ceC cA q) D cA q aK aV M)) (Qi 167 (ceC cA q) D q r0 M0) 0 0 (AqG 167 q) := by
  refine gMet RX11 (by decide +kernel) rfl hq (Nat.le_of_ble_eq_true rfl) ?_
  intro p e s m below meth c ls X hr hk hP hS hl
  have hx := X.1
  have hb := X.2.1
  have hl : lv_has ls 2 [(0, .ref (q 0)), (1, .int a1)] := hl
  rw [f_X11_reach] at h
  refine lv_aload_n hx hb dX11_reach_0 rfl (lv_at hl 0 rfl) ?_
  refine gfC_11_0 X hP sC_0 bw_430 dX11_reach_1 ?_
  obtain ⟨g1, h⟩ := gd_inv h
  have g1 := Decidable.not_not.mp g1
  refine lv_iconst (v := 2) hx hb dX11_reach_4 (by decide) ?_
  refine lv_iload_n hx hb dX11_reach_5 rfl (lv_at hl 1 rfl) ?_
  obtain ⟨r2, M3, hc4, h⟩ := bnd_inv h
  refine gV_i (As := [.int (2 : Int32), .int a1]) X hP hS hl.1 (c_X0_has l D cA q aK aV hq g1 hc4) sf_X0_has bw_830 sv_X0_has (rcC_0 g1) rfl ⟨rfl, rfl⟩ ⟨Nat.le_of_ble_eq_true rfl, Nat.le_of_ble_eq_true rfl⟩ rfl rfl (Nat.le_of_ble_eq_true rfl) dX11_reach_6 (fun H locs hP hS => ?_)
  refine lv_if_ne (tgt := 18) hx hb dX11_reach_9 (by decide) (fun c5 => ?_) (fun c5 => ?_)
  · rw [if_neg c5] at h
    refine lv_aload_n hx hb dX11_reach_18 rfl (lv_at hl 0 rfl) ?_
    refine gfC_11_8 X hP sC_0 bw_438 dX11_reach_19 ?_
    refine lv_aload_n hx hb dX11_reach_22 rfl (lv_at hl 0 rfl) ?_
    refine gfC_11_0 X hP sC_0 bw_430 dX11_reach_23 ?_
    obtain ⟨g6, h⟩ := gd_inv h
    have g6 := Decidable.not_not.mp g6
    obtain ⟨_, M8, hc9, h⟩ := bnd_inv h
    refine gV_v (As := [.ref (q (gR M3 0 0))]) X hP hS hl.1 (c_X10_countIn l D cA q aK aV hq g6 hc9) sf_X10_countIn bw_1074 sv_X10_countIn (rcC_10 sC_18) rfl ⟨rfl, rfl⟩ ⟨Nat.le_of_ble_eq_true rfl, Nat.le_of_ble_eq_true rfl⟩ rfl rfl (Nat.le_of_ble_eq_true rfl) dX11_reach_26 (fun H locs hP hS => ?_)
    refine lv_aload_n hx hb dX11_reach_29 rfl (lv_at hl 0 rfl) ?_
    refine lv_aload_n hx hb dX11_reach_30 rfl (lv_at hl 0 rfl) ?_
    refine gfC_11_8 X hP sC_0 bw_438 dX11_reach_31 ?_
    refine gfC_10_0 X hP sC_18 bw_355 dX11_reach_34 ?_
    refine lv_iload_n hx hb dX11_reach_37 rfl (lv_at hl 1 rfl) ?_
    obtain ⟨r10, M11, hc12, h⟩ := bnd_inv h
    refine gS_i (As := [.ref (q 19), .int a1]) X hP hS hl.1 (c_X11_cell l D cA q aK aV hq sC_19 hc12) sf_X11_cell bw_857 ss_X11_cell ⟨rfl, rfl⟩ ⟨Nat.le_of_ble_eq_true rfl, Nat.le_of_ble_eq_true rfl⟩ rfl rfl (Nat.le_of_ble_eq_true rfl) dX11_reach_38 (fun H locs hP hS => ?_)
    obtain ⟨r13, M14, hc15, h⟩ := bnd_inv h
    refine gV_i (As := [.int r10]) X hP hS hl.1 (c_X11_given l D cA q aK aV hq hc15) sf_X11_given bw_755 sv_X11_given (rcC_11 sC_0) rfl ⟨rfl, rfl⟩ ⟨Nat.le_of_ble_eq_true rfl, Nat.le_of_ble_eq_true rfl⟩ rfl rfl (Nat.le_of_ble_eq_true rfl) dX11_reach_41 (fun H locs hP hS => ?_)
    exact end_i X hr hk hP hS h dX11_reach_44
  · rw [if_pos c5] at h
    refine lv_aload_n hx hb dX11_reach_12 rfl (lv_at hl 0 rfl) ?_
    refine lv_iconst (v := 1) hx hb dX11_reach_13 (by decide) ?_
    obtain ⟨r16, M17, hc18, h⟩ := bnd_inv h
    refine gV_i (As := [.int (1 : Int32)]) X hP hS hl.1 (c_X11_refused l D cA q aK aV hq hc18) sf_X11_refused bw_552 sv_X11_refused (rcC_11 sC_0) rfl ⟨rfl, rfl⟩ ⟨Nat.le_of_ble_eq_true rfl, Nat.le_of_ble_eq_true rfl⟩ rfl rfl (Nat.le_of_ble_eq_true rfl) dX11_reach_14 (fun H locs hP hS => ?_)
    exact end_i X hr hk hP hS h dX11_reach_17
theorem dX11_idle_0 : decode cX11_idle 0 = .ok (.aload_n 0, 1) := by decide +kernel
theorem dX11_idle_1 : decode cX11_idle 1 = .ok (.getfield 57, 3) := by decide +kernel
theorem dX11_idle_4 : decode cX11_idle 4 = .ok (.aload_n 0, 1) := by decide +kernel
theorem dX11_idle_5 : decode cX11_idle 5 = .ok (.getfield 10, 3) := by decide +kernel
theorem dX11_idle_8 : decode cX11_idle 8 = .ok (.invokevirtual 351, 3) := by decide +kernel
theorem dX11_idle_11 : decode cX11_idle 11 = .ok (.iconst 0, 1) := by decide +kernel
theorem dX11_idle_12 : decode cX11_idle 12 = .ok (.istore_n 1, 1) := by decide +kernel
theorem dX11_idle_13 : decode cX11_idle 13 = .ok (.iconst 0, 1) := by decide +kernel
theorem dX11_idle_14 : decode cX11_idle 14 = .ok (.istore_n 2, 1) := by decide +kernel
theorem dX11_idle_15 : decode cX11_idle 15 = .ok (.iload_n 2, 1) := by decide +kernel
theorem dX11_idle_16 : decode cX11_idle 16 = .ok (.aload_n 0, 1) := by decide +kernel
theorem dX11_idle_17 : decode cX11_idle 17 = .ok (.getfield 10, 3) := by decide +kernel
theorem dX11_idle_20 : decode cX11_idle 20 = .ok (.iconst 2, 1) := by decide +kernel
theorem dX11_idle_21 : decode cX11_idle 21 = .ok (.invokevirtual 167, 3) := by decide +kernel
theorem dX11_idle_24 : decode cX11_idle 24 = .ok (.if_icmp .ge 29, 3) := by decide +kernel
theorem dX11_idle_27 : decode cX11_idle 27 = .ok (.aload_n 0, 1) := by decide +kernel
theorem dX11_idle_28 : decode cX11_idle 28 = .ok (.getfield 57, 3) := by decide +kernel
theorem dX11_idle_31 : decode cX11_idle 31 = .ok (.getfield 354, 3) := by decide +kernel
theorem dX11_idle_34 : decode cX11_idle 34 = .ok (.iload_n 2, 1) := by decide +kernel
theorem dX11_idle_35 : decode cX11_idle 35 = .ok (.invokestatic 254, 3) := by decide +kernel
theorem dX11_idle_38 : decode cX11_idle 38 = .ok (.ifCond .ne 9, 3) := by decide +kernel
theorem dX11_idle_41 : decode cX11_idle 41 = .ok (.iload_n 1, 1) := by decide +kernel
theorem dX11_idle_42 : decode cX11_idle 42 = .ok (.iconst 1, 1) := by decide +kernel
theorem dX11_idle_43 : decode cX11_idle 43 = .ok (.iload_n 2, 1) := by decide +kernel
theorem dX11_idle_44 : decode cX11_idle 44 = .ok (.ishl, 1) := by decide +kernel
theorem dX11_idle_45 : decode cX11_idle 45 = .ok (.ior, 1) := by decide +kernel
theorem dX11_idle_46 : decode cX11_idle 46 = .ok (.istore_n 1, 1) := by decide +kernel
theorem dX11_idle_47 : decode cX11_idle 47 = .ok (.iinc 2 1, 3) := by decide +kernel
theorem dX11_idle_50 : decode cX11_idle 50 = .ok (.goto (-35), 3) := by decide +kernel
theorem dX11_idle_53 : decode cX11_idle 53 = .ok (.aload_n 0, 1) := by decide +kernel
theorem dX11_idle_54 : decode cX11_idle 54 = .ok (.iload_n 1, 1) := by decide +kernel
theorem dX11_idle_55 : decode cX11_idle 55 = .ok (.invokevirtual 191, 3) := by decide +kernel
theorem dX11_idle_58 : decode cX11_idle 58 = .ok (.ireturn, 1) := by decide +kernel
set_option maxRecDepth 100000 in
set_option maxHeartbeats 8000000 in
theorem c_X11_idle (l : Launch) (D : va_G) (cA : Nat → ClassId) (q aK aV : Nat → Nat) (hq : injG 167 q) {M M0 : Mem} {r0 : Int32} (h : f_X11_idle M = some (r0, M0)) : Met l yX11_idle (.code yX11_idle cX11_idle 3 (some .int) :: BW) ({ frames := 4, cells := 0, slots := 0, locals := 93 } : Room) (va_Pc [.ref (q 0)] (CB 167 (ceC cA q) D cA q aK aV M)) (Qi 167 (ceC cA q) D q r0 M0) 0 0 (AqG 167 q) := by
  refine gMet RX11 (by decide +kernel) rfl hq (Nat.le_of_ble_eq_true rfl) ?_
  intro p e s m below meth c ls X hr hk hP hS hl
  have hx := X.1
  have hb := X.2.1
  have hl : lv_has ls 3 [(0, .ref (q 0))] := hl
  rw [f_X11_idle] at h
  have hL15 : ∀ (fu : Nat) (b1 : Int32) (b2 : Int32) (M : Mem) (res : (Int32) × Mem) (H : Heap) (locs : List Loc) (ls : Array Slot), f_X11_idle_L15 fu b1 b2 M = some res → va_P D vwCl (wsG 167 (ceC cA q) q M) H → va_S (AqG 167 q) s.heap H locs → lv_has ls 3 [(0, .ref (q 0)), (1, .int b1), (2, .int b2)] → (∀ (H : Heap) (locs : List Loc) (ls : Array Slot), va_P D vwCl (wsG 167 (ceC cA q) q res.2) H → va_S (AqG 167 q) s.heap H locs → lv_has ls 3 [(0, .ref (q 0)), (1, .int (res.1))] → W p l e ({ frames := 4, cells := 0, slots := 0, locals := 93 } : Room) s m [.ref (q 0)].toArray below meth c H locs 0 0 (MQ below (Qi 167 (ceC cA q) D q r0 M0) [.ref (q 0)].toArray s 0 0 (AqG 167 q)) (F0 m 53 ls [])) → W p l e ({ frames := 4, cells := 0, slots := 0, locals := 93 } : Room) s m [.ref (q 0)].toArray below meth c H locs 0 0 (MQ below (Qi 167 (ceC cA q) D q r0 M0) [.ref (q 0)].toArray s 0 0 (AqG 167 q)) (F0 m 15 ls []) := by
    intro fu
    induction fu with
    | zero => intro b1 b2 M res H locs ls h; exact absurd h (by simp [f_X11_idle_L15])
    | succ fu ih =>
      intro b1 b2 M res H locs ls h hP hS hl K15_0
      rw [f_X11_idle_L15] at h
      refine lv_iload_n hx hb dX11_idle_15 rfl (lv_at hl 2 rfl) ?_
      refine lv_aload_n hx hb dX11_idle_16 rfl (lv_at hl 0 rfl) ?_
      refine gfC_11_0 X hP sC_0 bw_430 dX11_idle_17 ?_
      obtain ⟨g12, h⟩ := gd_inv h
      have g12 := Decidable.not_not.mp g12
      refine lv_iconst (v := 2) hx hb dX11_idle_20 (by decide) ?_
      obtain ⟨r13, M14, hc15, h⟩ := bnd_inv h
      refine gV_i (As := [.int (2 : Int32)]) X hP hS hl.1 (c_X0_countOf l D cA q aK aV hq g12 hc15) sf_X0_countOf bw_750 sv_X0_countOf (rcC_0 g12) rfl ⟨rfl, rfl⟩ ⟨Nat.le_of_ble_eq_true rfl, Nat.le_of_ble_eq_true rfl⟩ rfl rfl (Nat.le_of_ble_eq_true rfl) dX11_idle_21 (fun H locs hP hS => ?_)
      refine lv_icmp_ge (tgt := 53) hx hb dX11_idle_24 (by decide) (fun c16 => ?_) (fun c16 => ?_)
      · rw [if_pos c16] at h
        cases h
        exact K15_0 _ _ _ hP hS (lv_sub hl [0, 1] rfl)
      · rw [if_neg c16] at h
        refine lv_aload_n hx hb dX11_idle_27 rfl (lv_at hl 0 rfl) ?_
        refine gfC_11_8 X hP sC_0 bw_438 dX11_idle_28 ?_
        refine gfC_10_0 X hP sC_18 bw_355 dX11_idle_31 ?_
        refine lv_iload_n hx hb dX11_idle_34 rfl (lv_at hl 2 rfl) ?_
        obtain ⟨r17, M18, hc19, h⟩ := bnd_inv h
        refine gS_i (As := [.ref (q 19), .int b2]) X hP hS hl.1 (c_X11_cell l D cA q aK aV hq sC_19 hc19) sf_X11_cell bw_857 ss_X11_cell ⟨rfl, rfl⟩ ⟨Nat.le_of_ble_eq_true rfl, Nat.le_of_ble_eq_true rfl⟩ rfl rfl (Nat.le_of_ble_eq_true rfl) dX11_idle_35 (fun H locs hP hS => ?_)
        refine lv_if_ne (tgt := 47) hx hb dX11_idle_38 (by decide) (fun c20 => ?_) (fun c20 => ?_)
        · rw [if_neg c20] at h
          obtain ⟨y21, ey21, h⟩ := lt_inv h
          refine lv_iinc (v := y21) (lv' := [(2, .int y21), (0, .ref (q 0)), (1, .int b1)]) hx hb dX11_idle_47 hl (k := 2) rfl (by rw [ey21]; rfl) (by decide) rfl (fun ls hl => ?_)
          refine lv_goto (tgt := 15) hx hb dX11_idle_50 (by decide) ?_
          exact ih _ _ _ res _ _ _ h hP hS (lv_sub hl [1, 2, 0] rfl) K15_0
        · rw [if_pos c20] at h
          refine lv_iload_n hx hb dX11_idle_41 rfl (lv_at hl 1 rfl) ?_
          refine lv_iconst (v := 1) hx hb dX11_idle_42 (by decide) ?_
          refine lv_iload_n hx hb dX11_idle_43 rfl (lv_at hl 2 rfl) ?_
          refine lv_ishl hx hb dX11_idle_44 ?_
          refine lv_ior hx hb dX11_idle_45 ?_
          obtain ⟨y22, ey22, h⟩ := lt_inv h
          refine topE ey22 ?_
          refine lv_istore_n (lv' := [(1, .int y22), (0, .ref (q 0)), (2, .int b2)]) hx hb dX11_idle_46 rfl hl (by decide) rfl (fun ls hl => ?_)
          obtain ⟨y23, ey23, h⟩ := lt_inv h
          refine lv_iinc (v := y23) (lv' := [(2, .int y23), (1, .int y22), (0, .ref (q 0))]) hx hb dX11_idle_47 hl (k := 2) rfl (by rw [ey23]; rfl) (by decide) rfl (fun ls hl => ?_)
          refine lv_goto (tgt := 15) hx hb dX11_idle_50 (by decide) ?_
          exact ih _ _ _ res _ _ _ h hP hS (lv_sub hl [2, 1, 0] rfl) K15_0
  refine lv_aload_n hx hb dX11_idle_0 rfl (lv_at hl 0 rfl) ?_
  refine gfC_11_8 X hP sC_0 bw_438 dX11_idle_1 ?_
  refine lv_aload_n hx hb dX11_idle_4 rfl (lv_at hl 0 rfl) ?_
  refine gfC_11_0 X hP sC_0 bw_430 dX11_idle_5 ?_
  obtain ⟨g1, h⟩ := gd_inv h
  have g1 := Decidable.not_not.mp g1
  obtain ⟨_, M3, hc4, h⟩ := bnd_inv h
  refine gV_v (As := [.ref (q (gR M 0 0))]) X hP hS hl.1 (c_X10_countIn l D cA q aK aV hq g1 hc4) sf_X10_countIn bw_1074 sv_X10_countIn (rcC_10 sC_18) rfl ⟨rfl, rfl⟩ ⟨Nat.le_of_ble_eq_true rfl, Nat.le_of_ble_eq_true rfl⟩ rfl rfl (Nat.le_of_ble_eq_true rfl) dX11_idle_8 (fun H locs hP hS => ?_)
  refine lv_iconst (v := 0) hx hb dX11_idle_11 (by decide) ?_
  refine lv_istore_n (lv' := [(1, .int (0 : Int32)), (0, .ref (q 0))]) hx hb dX11_idle_12 rfl hl (by decide) rfl (fun ls hl => ?_)
  refine lv_iconst (v := 0) hx hb dX11_idle_13 (by decide) ?_
  refine lv_istore_n (lv' := [(2, .int (0 : Int32)), (1, .int (0 : Int32)), (0, .ref (q 0))]) hx hb dX11_idle_14 rfl hl (by decide) rfl (fun ls hl => ?_)
  obtain ⟨s5, M6, hc7, h⟩ := bnd_inv h
  obtain ⟨x8, rfl⟩ : ∃ z, z = s5 := ⟨_, rfl⟩
  try dsimp only at h
  refine hL15  fz _ _ _ _ _ _ _ hc7 hP hS (lv_sub hl [2, 1, 0] rfl) (fun H locs ls hP hS hl => ?_)
  have hl : lv_has ls 3 [(0, .ref (q 0)), (1, .int x8)] := hl
  refine lv_aload_n hx hb dX11_idle_53 rfl (lv_at hl 0 rfl) ?_
  refine lv_iload_n hx hb dX11_idle_54 rfl (lv_at hl 1 rfl) ?_
  obtain ⟨r9, M10, hc11, h⟩ := bnd_inv h
  refine gV_i (As := [.int x8]) X hP hS hl.1 (c_X11_given l D cA q aK aV hq hc11) sf_X11_given bw_755 sv_X11_given (rcC_11 sC_0) rfl ⟨rfl, rfl⟩ ⟨Nat.le_of_ble_eq_true rfl, Nat.le_of_ble_eq_true rfl⟩ rfl rfl (Nat.le_of_ble_eq_true rfl) dX11_idle_55 (fun H locs hP hS => ?_)
  exact end_i X hr hk hP hS h dX11_idle_58
theorem dX11_tells_0 : decode cX11_tells 0 = .ok (.aload_n 0, 1) := by decide +kernel
theorem dX11_tells_1 : decode cX11_tells 1 = .ok (.getfield 10, 3) := by decide +kernel
theorem dX11_tells_4 : decode cX11_tells 4 = .ok (.iconst 1, 1) := by decide +kernel
theorem dX11_tells_5 : decode cX11_tells 5 = .ok (.iload_n 1, 1) := by decide +kernel
theorem dX11_tells_6 : decode cX11_tells 6 = .ok (.invokevirtual 213, 3) := by decide +kernel
theorem dX11_tells_9 : decode cX11_tells 9 = .ok (.ifCond .ne 9, 3) := by decide +kernel
theorem dX11_tells_12 : decode cX11_tells 12 = .ok (.aload_n 0, 1) := by decide +kernel
theorem dX11_tells_13 : decode cX11_tells 13 = .ok (.iconst 1, 1) := by decide +kernel
theorem dX11_tells_14 : decode cX11_tells 14 = .ok (.invokevirtual 108, 3) := by decide +kernel
theorem dX11_tells_17 : decode cX11_tells 17 = .ok (.ireturn, 1) := by decide +kernel
theorem dX11_tells_18 : decode cX11_tells 18 = .ok (.aload_n 0, 1) := by decide +kernel
theorem dX11_tells_19 : decode cX11_tells 19 = .ok (.getfield 57, 3) := by decide +kernel
theorem dX11_tells_22 : decode cX11_tells 22 = .ok (.aload_n 0, 1) := by decide +kernel
theorem dX11_tells_23 : decode cX11_tells 23 = .ok (.getfield 10, 3) := by decide +kernel
theorem dX11_tells_26 : decode cX11_tells 26 = .ok (.invokevirtual 351, 3) := by decide +kernel
theorem dX11_tells_29 : decode cX11_tells 29 = .ok (.iconst 0, 1) := by decide +kernel
theorem dX11_tells_30 : decode cX11_tells 30 = .ok (.istore_n 2, 1) := by decide +kernel
theorem dX11_tells_31 : decode cX11_tells 31 = .ok (.iconst 0, 1) := by decide +kernel
theorem dX11_tells_32 : decode cX11_tells 32 = .ok (.istore_n 3, 1) := by decide +kernel
theorem dX11_tells_33 : decode cX11_tells 33 = .ok (.iconst 0, 1) := by decide +kernel
theorem dX11_tells_34 : decode cX11_tells 34 = .ok (.istore 4, 2) := by decide +kernel
theorem dX11_tells_36 : decode cX11_tells 36 = .ok (.iload 4, 2) := by decide +kernel
theorem dX11_tells_38 : decode cX11_tells 38 = .ok (.aload_n 0, 1) := by decide +kernel
theorem dX11_tells_39 : decode cX11_tells 39 = .ok (.getfield 10, 3) := by decide +kernel
theorem dX11_tells_42 : decode cX11_tells 42 = .ok (.iconst 2, 1) := by decide +kernel
theorem dX11_tells_43 : decode cX11_tells 43 = .ok (.invokevirtual 167, 3) := by decide +kernel
theorem dX11_tells_46 : decode cX11_tells 46 = .ok (.if_icmp .ge 55, 3) := by decide +kernel
theorem dX11_tells_49 : decode cX11_tells 49 = .ok (.aload_n 0, 1) := by decide +kernel
theorem dX11_tells_50 : decode cX11_tells 50 = .ok (.getfield 10, 3) := by decide +kernel
theorem dX11_tells_53 : decode cX11_tells 53 = .ok (.iload 4, 2) := by decide +kernel
theorem dX11_tells_55 : decode cX11_tells 55 = .ok (.invokevirtual 219, 3) := by decide +kernel
theorem dX11_tells_58 : decode cX11_tells 58 = .ok (.getfield 357, 3) := by decide +kernel
theorem dX11_tells_61 : decode cX11_tells 61 = .ok (.iload_n 1, 1) := by decide +kernel
theorem dX11_tells_62 : decode cX11_tells 62 = .ok (.if_icmp .ne 33, 3) := by decide +kernel
theorem dX11_tells_65 : decode cX11_tells 65 = .ok (.iload_n 2, 1) := by decide +kernel
theorem dX11_tells_66 : decode cX11_tells 66 = .ok (.aload_n 0, 1) := by decide +kernel
theorem dX11_tells_67 : decode cX11_tells 67 = .ok (.getfield 57, 3) := by decide +kernel
theorem dX11_tells_70 : decode cX11_tells 70 = .ok (.getfield 354, 3) := by decide +kernel
theorem dX11_tells_73 : decode cX11_tells 73 = .ok (.iload 4, 2) := by decide +kernel
theorem dX11_tells_75 : decode cX11_tells 75 = .ok (.invokestatic 254, 3) := by decide +kernel
theorem dX11_tells_78 : decode cX11_tells 78 = .ok (.iadd, 1) := by decide +kernel
theorem dX11_tells_79 : decode cX11_tells 79 = .ok (.istore_n 2, 1) := by decide +kernel
theorem dX11_tells_80 : decode cX11_tells 80 = .ok (.iload_n 3, 1) := by decide +kernel
theorem dX11_tells_81 : decode cX11_tells 81 = .ok (.aload_n 0, 1) := by decide +kernel
theorem dX11_tells_82 : decode cX11_tells 82 = .ok (.getfield 57, 3) := by decide +kernel
theorem dX11_tells_85 : decode cX11_tells 85 = .ok (.getfield 360, 3) := by decide +kernel
theorem dX11_tells_88 : decode cX11_tells 88 = .ok (.iload 4, 2) := by decide +kernel
theorem dX11_tells_90 : decode cX11_tells 90 = .ok (.invokestatic 254, 3) := by decide +kernel
theorem dX11_tells_93 : decode cX11_tells 93 = .ok (.iadd, 1) := by decide +kernel
theorem dX11_tells_94 : decode cX11_tells 94 = .ok (.istore_n 3, 1) := by decide +kernel
theorem dX11_tells_95 : decode cX11_tells 95 = .ok (.iinc 4 1, 3) := by decide +kernel
theorem dX11_tells_98 : decode cX11_tells 98 = .ok (.goto (-62), 3) := by decide +kernel
theorem dX11_tells_101 : decode cX11_tells 101 = .ok (.iload_n 2, 1) := by decide +kernel
theorem dX11_tells_102 : decode cX11_tells 102 = .ok (.ifCond .ne 12, 3) := by decide +kernel
theorem dX11_tells_105 : decode cX11_tells 105 = .ok (.aload_n 0, 1) := by decide +kernel
theorem dX11_tells_106 : decode cX11_tells 106 = .ok (.bipush 6, 2) := by decide +kernel
theorem dX11_tells_108 : decode cX11_tells 108 = .ok (.invokevirtual 108, 3) := by decide +kernel
theorem dX11_tells_111 : decode cX11_tells 111 = .ok (.goto 11, 3) := by decide +kernel
theorem dX11_tells_114 : decode cX11_tells 114 = .ok (.aload_n 0, 1) := by decide +kernel
theorem dX11_tells_115 : decode cX11_tells 115 = .ok (.iload_n 3, 1) := by decide +kernel
theorem dX11_tells_116 : decode cX11_tells 116 = .ok (.i2l, 1) := by decide +kernel
theorem dX11_tells_117 : decode cX11_tells 117 = .ok (.iload_n 2, 1) := by decide +kernel
theorem dX11_tells_118 : decode cX11_tells 118 = .ok (.i2l, 1) := by decide +kernel
theorem dX11_tells_119 : decode cX11_tells 119 = .ok (.invokevirtual 341, 3) := by decide +kernel
theorem dX11_tells_122 : decode cX11_tells 122 = .ok (.ireturn, 1) := by decide +kernel
set_option maxRecDepth 100000 in
set_option maxHeartbeats 8000000 in
theorem c_X11_tells (l : Launch) (D : va_G) (cA : Nat → ClassId) (q aK aV : Nat → Nat) (hq : injG 167 q) {a1 : Int32} {M M0 : Mem} {r0 : Int32} (h : f_X11_tells a1 M = some (r0, M0)) : Met l yX11_tells (.code yX11_tells cX11_tells 5 (some .boolean) :: BW) ({ frames := 4, cells := 0, slots := 0, locals := 93 } : Room) (va_Pc [.ref (q 0), .int a1] (CB 167 (ceC cA q) D cA q aK aV M)) (Qi 167 (ceC cA q) D q r0 M0) 0 0 (AqG 167 q) := by
  refine gMet RX11 (by decide +kernel) rfl hq (Nat.le_of_ble_eq_true rfl) ?_
  intro p e s m below meth c ls X hr hk hP hS hl
  have hx := X.1
  have hb := X.2.1
  have hl : lv_has ls 5 [(0, .ref (q 0)), (1, .int a1)] := hl
  rw [f_X11_tells] at h
  have hL36 : ∀ (fu : Nat) (b2 : Int32) (b3 : Int32) (b4 : Int32) (M : Mem) (res : (Int32 × Int32) × Mem) (H : Heap) (locs : List Loc) (ls : Array Slot), f_X11_tells_L36 a1 fu b2 b3 b4 M = some res → va_P D vwCl (wsG 167 (ceC cA q) q M) H → va_S (AqG 167 q) s.heap H locs → lv_has ls 5 [(0, .ref (q 0)), (1, .int a1), (2, .int b2), (3, .int b3), (4, .int b4)] → (∀ (H : Heap) (locs : List Loc) (ls : Array Slot), va_P D vwCl (wsG 167 (ceC cA q) q res.2) H → va_S (AqG 167 q) s.heap H locs → lv_has ls 5 [(0, .ref (q 0)), (2, .int (res.1.1)), (3, .int (res.1.2))] → W p l e ({ frames := 4, cells := 0, slots := 0, locals := 93 } : Room) s m [.ref (q 0), .int a1].toArray below meth c H locs 0 0 (MQ below (Qi 167 (ceC cA q) D q r0 M0) [.ref (q 0), .int a1].toArray s 0 0 (AqG 167 q)) (F0 m 101 ls [])) → W p l e ({ frames := 4, cells := 0, slots := 0, locals := 93 } : Room) s m [.ref (q 0), .int a1].toArray below meth c H locs 0 0 (MQ below (Qi 167 (ceC cA q) D q r0 M0) [.ref (q 0), .int a1].toArray s 0 0 (AqG 167 q)) (F0 m 36 ls []) := by
    intro fu
    induction fu with
    | zero => intro b2 b3 b4 M res H locs ls h; exact absurd h (by simp [f_X11_tells_L36])
    | succ fu ih =>
      intro b2 b3 b4 M res H locs ls h hP hS hl K36_0
      rw [f_X11_tells_L36] at h
      refine lv_iload hx hb dX11_tells_36 (lv_at hl 4 rfl) ?_
      refine lv_aload_n hx hb dX11_tells_38 rfl (lv_at hl 0 rfl) ?_
      refine gfC_11_0 X hP sC_0 bw_430 dX11_tells_39 ?_
      obtain ⟨g28, h⟩ := gd_inv h
      have g28 := Decidable.not_not.mp g28
      refine lv_iconst (v := 2) hx hb dX11_tells_42 (by decide) ?_
      obtain ⟨r29, M30, hc31, h⟩ := bnd_inv h
      refine gV_i (As := [.int (2 : Int32)]) X hP hS hl.1 (c_X0_countOf l D cA q aK aV hq g28 hc31) sf_X0_countOf bw_750 sv_X0_countOf (rcC_0 g28) rfl ⟨rfl, rfl⟩ ⟨Nat.le_of_ble_eq_true rfl, Nat.le_of_ble_eq_true rfl⟩ rfl rfl (Nat.le_of_ble_eq_true rfl) dX11_tells_43 (fun H locs hP hS => ?_)
      refine lv_icmp_ge (tgt := 101) hx hb dX11_tells_46 (by decide) (fun c32 => ?_) (fun c32 => ?_)
      · rw [if_pos c32] at h
        cases h
        exact K36_0 _ _ _ hP hS (lv_sub hl [0, 2, 3] rfl)
      · rw [if_neg c32] at h
        refine lv_aload_n hx hb dX11_tells_49 rfl (lv_at hl 0 rfl) ?_
        refine gfC_11_0 X hP sC_0 bw_430 dX11_tells_50 ?_
        obtain ⟨g33, h⟩ := gd_inv h
        have g33 := Decidable.not_not.mp g33
        refine lv_iload hx hb dX11_tells_53 (lv_at hl 4 rfl) ?_
        obtain ⟨r34, M35, hc36, h⟩ := bnd_inv h
        refine gV_r (As := [.int b4]) X hP hS hl.1 (c_X0_ruleAt l D cA q aK aV hq g33 hc36) sf_X0_ruleAt bw_843 sv_X0_ruleAt (rcC_0 g33) rfl ⟨rfl, rfl⟩ ⟨Nat.le_of_ble_eq_true rfl, Nat.le_of_ble_eq_true rfl⟩ rfl rfl (Nat.le_of_ble_eq_true rfl) dX11_tells_55 (fun H locs hP hS => ?_)
        obtain ⟨g37, h⟩ := gd_inv h
        have g37 := Decidable.not_not.mp g37
        refine gfC_6_0 X hP g37 bw_67 dX11_tells_58 ?_
        refine lv_iload_n hx hb dX11_tells_61 rfl (lv_at hl 1 rfl) ?_
        refine lv_icmp_ne (tgt := 95) hx hb dX11_tells_62 (by decide) (fun c38 => ?_) (fun c38 => ?_)
        · rw [if_neg c38] at h
          obtain ⟨y39, ey39, h⟩ := lt_inv h
          refine lv_iinc (v := y39) (lv' := [(4, .int y39), (0, .ref (q 0)), (1, .int a1), (2, .int b2), (3, .int b3)]) hx hb dX11_tells_95 hl (k := 4) rfl (by rw [ey39]; rfl) (by decide) rfl (fun ls hl => ?_)
          refine lv_goto (tgt := 36) hx hb dX11_tells_98 (by decide) ?_
          exact ih _ _ _ _ res _ _ _ h hP hS (lv_sub hl [1, 2, 3, 4, 0] rfl) K36_0
        · rw [if_pos c38] at h
          refine lv_iload_n hx hb dX11_tells_65 rfl (lv_at hl 2 rfl) ?_
          refine lv_aload_n hx hb dX11_tells_66 rfl (lv_at hl 0 rfl) ?_
          refine gfC_11_8 X hP sC_0 bw_438 dX11_tells_67 ?_
          refine gfC_10_0 X hP sC_18 bw_355 dX11_tells_70 ?_
          refine lv_iload hx hb dX11_tells_73 (lv_at hl 4 rfl) ?_
          obtain ⟨r40, M41, hc42, h⟩ := bnd_inv h
          refine gS_i (As := [.ref (q 19), .int b4]) X hP hS hl.1 (c_X11_cell l D cA q aK aV hq sC_19 hc42) sf_X11_cell bw_857 ss_X11_cell ⟨rfl, rfl⟩ ⟨Nat.le_of_ble_eq_true rfl, Nat.le_of_ble_eq_true rfl⟩ rfl rfl (Nat.le_of_ble_eq_true rfl) dX11_tells_75 (fun H locs hP hS => ?_)
          refine lv_iadd hx hb dX11_tells_78 ?_
          obtain ⟨y43, ey43, h⟩ := lt_inv h
          refine topE ey43 ?_
          refine lv_istore_n (lv' := [(2, .int y43), (0, .ref (q 0)), (1, .int a1), (3, .int b3), (4, .int b4)]) hx hb dX11_tells_79 rfl hl (by decide) rfl (fun ls hl => ?_)
          refine lv_iload_n hx hb dX11_tells_80 rfl (lv_at hl 3 rfl) ?_
          refine lv_aload_n hx hb dX11_tells_81 rfl (lv_at hl 1 rfl) ?_
          refine gfC_11_8 X hP sC_0 bw_438 dX11_tells_82 ?_
          refine gfC_10_1 X hP sC_18 bw_357 dX11_tells_85 ?_
          refine lv_iload hx hb dX11_tells_88 (lv_at hl 4 rfl) ?_
          obtain ⟨r44, M45, hc46, h⟩ := bnd_inv h
          refine gS_i (As := [.ref (q 20), .int b4]) X hP hS hl.1 (c_X11_cell l D cA q aK aV hq sC_20 hc46) sf_X11_cell bw_857 ss_X11_cell ⟨rfl, rfl⟩ ⟨Nat.le_of_ble_eq_true rfl, Nat.le_of_ble_eq_true rfl⟩ rfl rfl (Nat.le_of_ble_eq_true rfl) dX11_tells_90 (fun H locs hP hS => ?_)
          refine lv_iadd hx hb dX11_tells_93 ?_
          obtain ⟨y47, ey47, h⟩ := lt_inv h
          refine topE ey47 ?_
          refine lv_istore_n (lv' := [(3, .int y47), (2, .int y43), (0, .ref (q 0)), (1, .int a1), (4, .int b4)]) hx hb dX11_tells_94 rfl hl (by decide) rfl (fun ls hl => ?_)
          obtain ⟨y48, ey48, h⟩ := lt_inv h
          refine lv_iinc (v := y48) (lv' := [(4, .int y48), (3, .int y47), (2, .int y43), (0, .ref (q 0)), (1, .int a1)]) hx hb dX11_tells_95 hl (k := 4) rfl (by rw [ey48]; rfl) (by decide) rfl (fun ls hl => ?_)
          refine lv_goto (tgt := 36) hx hb dX11_tells_98 (by decide) ?_
          exact ih _ _ _ _ res _ _ _ h hP hS (lv_sub hl [3, 4, 2, 1, 0] rfl) K36_0
  refine lv_aload_n hx hb dX11_tells_0 rfl (lv_at hl 0 rfl) ?_
  refine gfC_11_0 X hP sC_0 bw_430 dX11_tells_1 ?_
  obtain ⟨g1, h⟩ := gd_inv h
  have g1 := Decidable.not_not.mp g1
  refine lv_iconst (v := 1) hx hb dX11_tells_4 (by decide) ?_
  refine lv_iload_n hx hb dX11_tells_5 rfl (lv_at hl 1 rfl) ?_
  obtain ⟨r2, M3, hc4, h⟩ := bnd_inv h
  refine gV_i (As := [.int (1 : Int32), .int a1]) X hP hS hl.1 (c_X0_has l D cA q aK aV hq g1 hc4) sf_X0_has bw_830 sv_X0_has (rcC_0 g1) rfl ⟨rfl, rfl⟩ ⟨Nat.le_of_ble_eq_true rfl, Nat.le_of_ble_eq_true rfl⟩ rfl rfl (Nat.le_of_ble_eq_true rfl) dX11_tells_6 (fun H locs hP hS => ?_)
  refine lv_if_ne (tgt := 18) hx hb dX11_tells_9 (by decide) (fun c5 => ?_) (fun c5 => ?_)
  · rw [if_neg c5] at h
    refine lv_aload_n hx hb dX11_tells_18 rfl (lv_at hl 0 rfl) ?_
    refine gfC_11_8 X hP sC_0 bw_438 dX11_tells_19 ?_
    refine lv_aload_n hx hb dX11_tells_22 rfl (lv_at hl 0 rfl) ?_
    refine gfC_11_0 X hP sC_0 bw_430 dX11_tells_23 ?_
    obtain ⟨g6, h⟩ := gd_inv h
    have g6 := Decidable.not_not.mp g6
    obtain ⟨_, M8, hc9, h⟩ := bnd_inv h
    refine gV_v (As := [.ref (q (gR M3 0 0))]) X hP hS hl.1 (c_X10_countIn l D cA q aK aV hq g6 hc9) sf_X10_countIn bw_1074 sv_X10_countIn (rcC_10 sC_18) rfl ⟨rfl, rfl⟩ ⟨Nat.le_of_ble_eq_true rfl, Nat.le_of_ble_eq_true rfl⟩ rfl rfl (Nat.le_of_ble_eq_true rfl) dX11_tells_26 (fun H locs hP hS => ?_)
    refine lv_iconst (v := 0) hx hb dX11_tells_29 (by decide) ?_
    refine lv_istore_n (lv' := [(2, .int (0 : Int32)), (0, .ref (q 0)), (1, .int a1)]) hx hb dX11_tells_30 rfl hl (by decide) rfl (fun ls hl => ?_)
    refine lv_iconst (v := 0) hx hb dX11_tells_31 (by decide) ?_
    refine lv_istore_n (lv' := [(3, .int (0 : Int32)), (2, .int (0 : Int32)), (0, .ref (q 0)), (1, .int a1)]) hx hb dX11_tells_32 rfl hl (by decide) rfl (fun ls hl => ?_)
    refine lv_iconst (v := 0) hx hb dX11_tells_33 (by decide) ?_
    refine lv_istore (lv' := [(4, .int (0 : Int32)), (3, .int (0 : Int32)), (2, .int (0 : Int32)), (0, .ref (q 0)), (1, .int a1)]) hx hb dX11_tells_34 hl (by decide) rfl (fun ls hl => ?_)
    obtain ⟨s10, M11, hc12, h⟩ := bnd_inv h
    obtain ⟨x13, x14⟩ := s10
    try dsimp only at h
    refine hL36  fz _ _ _ _ _ _ _ _ hc12 hP hS (lv_sub hl [3, 4, 2, 1, 0] rfl) (fun H locs ls hP hS hl => ?_)
    have hl : lv_has ls 5 [(0, .ref (q 0)), (2, .int x13), (3, .int x14)] := hl
    refine lv_iload_n hx hb dX11_tells_101 rfl (lv_at hl 1 rfl) ?_
    refine lv_if_ne (tgt := 114) hx hb dX11_tells_102 (by decide) (fun c15 => ?_) (fun c15 => ?_)
    · rw [if_neg c15] at h
      refine lv_aload_n hx hb dX11_tells_114 rfl (lv_at hl 0 rfl) ?_
      refine lv_iload_n hx hb dX11_tells_115 rfl (lv_at hl 2 rfl) ?_
      refine lv_i2l hx hb dX11_tells_116 rfl ?_
      refine lv_iload_n hx hb dX11_tells_117 rfl (lv_at hl 1 rfl) ?_
      refine lv_i2l hx hb dX11_tells_118 rfl ?_
      obtain ⟨r16, M17, hc18, h⟩ := bnd_inv h
      refine gV_i (As := [.long (x14.toInt64), .long (x13.toInt64)]) X hP hS hl.1 (c_X11_tellFraction l D cA q aK aV hq hc18) sf_X11_tellFraction bw_1043 sv_X11_tellFraction (rcC_11 sC_0) rfl ⟨rfl, rfl⟩ ⟨Nat.le_of_ble_eq_true rfl, Nat.le_of_ble_eq_true rfl⟩ rfl rfl (Nat.le_of_ble_eq_true rfl) dX11_tells_119 (fun H locs hP hS => ?_)
      obtain ⟨g19, h⟩ := gd_inv h
      exact end_z X hr hk hP hS (Decidable.not_not.mp g19) h dX11_tells_122
    · rw [if_pos c15] at h
      refine lv_aload_n hx hb dX11_tells_105 rfl (lv_at hl 0 rfl) ?_
      refine lv_bipush (v := 6) hx hb dX11_tells_106 (by decide) ?_
      obtain ⟨r20, M21, hc22, h⟩ := bnd_inv h
      refine gV_i (As := [.int (6 : Int32)]) X hP hS hl.1 (c_X11_denied l D cA q aK aV hq hc22) sf_X11_denied bw_507 sv_X11_denied (rcC_11 sC_0) rfl ⟨rfl, rfl⟩ ⟨Nat.le_of_ble_eq_true rfl, Nat.le_of_ble_eq_true rfl⟩ rfl rfl (Nat.le_of_ble_eq_true rfl) dX11_tells_108 (fun H locs hP hS => ?_)
      refine lv_goto (tgt := 122) hx hb dX11_tells_111 (by decide) ?_
      obtain ⟨g23, h⟩ := gd_inv h
      exact end_z X hr hk hP hS (Decidable.not_not.mp g23) h dX11_tells_122
  · rw [if_pos c5] at h
    refine lv_aload_n hx hb dX11_tells_12 rfl (lv_at hl 0 rfl) ?_
    refine lv_iconst (v := 1) hx hb dX11_tells_13 (by decide) ?_
    obtain ⟨r24, M25, hc26, h⟩ := bnd_inv h
    refine gV_i (As := [.int (1 : Int32)]) X hP hS hl.1 (c_X11_denied l D cA q aK aV hq hc26) sf_X11_denied bw_507 sv_X11_denied (rcC_11 sC_0) rfl ⟨rfl, rfl⟩ ⟨Nat.le_of_ble_eq_true rfl, Nat.le_of_ble_eq_true rfl⟩ rfl rfl (Nat.le_of_ble_eq_true rfl) dX11_tells_14 (fun H locs hP hS => ?_)
    obtain ⟨g27, h⟩ := gd_inv h
    exact end_z X hr hk hP hS (Decidable.not_not.mp g27) h dX11_tells_17
theorem dX11_mute_0 : decode cX11_mute 0 = .ok (.aload_n 0, 1) := by decide +kernel
theorem dX11_mute_1 : decode cX11_mute 1 = .ok (.getfield 57, 3) := by decide +kernel
theorem dX11_mute_4 : decode cX11_mute 4 = .ok (.aload_n 0, 1) := by decide +kernel
theorem dX11_mute_5 : decode cX11_mute 5 = .ok (.getfield 10, 3) := by decide +kernel
theorem dX11_mute_8 : decode cX11_mute 8 = .ok (.invokevirtual 351, 3) := by decide +kernel
theorem dX11_mute_11 : decode cX11_mute 11 = .ok (.aload_n 0, 1) := by decide +kernel
theorem dX11_mute_12 : decode cX11_mute 12 = .ok (.aload_n 0, 1) := by decide +kernel
theorem dX11_mute_13 : decode cX11_mute 13 = .ok (.getfield 57, 3) := by decide +kernel
theorem dX11_mute_16 : decode cX11_mute 16 = .ok (.getfield 363, 3) := by decide +kernel
theorem dX11_mute_19 : decode cX11_mute 19 = .ok (.invokevirtual 191, 3) := by decide +kernel
theorem dX11_mute_22 : decode cX11_mute 22 = .ok (.ireturn, 1) := by decide +kernel
set_option maxRecDepth 100000 in
set_option maxHeartbeats 8000000 in
theorem c_X11_mute (l : Launch) (D : va_G) (cA : Nat → ClassId) (q aK aV : Nat → Nat) (hq : injG 167 q) {M M0 : Mem} {r0 : Int32} (h : f_X11_mute M = some (r0, M0)) : Met l yX11_mute (.code yX11_mute cX11_mute 1 (some .int) :: BW) ({ frames := 4, cells := 0, slots := 0, locals := 93 } : Room) (va_Pc [.ref (q 0)] (CB 167 (ceC cA q) D cA q aK aV M)) (Qi 167 (ceC cA q) D q r0 M0) 0 0 (AqG 167 q) := by
  refine gMet RX11 (by decide +kernel) rfl hq (Nat.le_of_ble_eq_true rfl) ?_
  intro p e s m below meth c ls X hr hk hP hS hl
  have hx := X.1
  have hb := X.2.1
  have hl : lv_has ls 1 [(0, .ref (q 0))] := hl
  rw [f_X11_mute] at h
  refine lv_aload_n hx hb dX11_mute_0 rfl (lv_at hl 0 rfl) ?_
  refine gfC_11_8 X hP sC_0 bw_438 dX11_mute_1 ?_
  refine lv_aload_n hx hb dX11_mute_4 rfl (lv_at hl 0 rfl) ?_
  refine gfC_11_0 X hP sC_0 bw_430 dX11_mute_5 ?_
  obtain ⟨g1, h⟩ := gd_inv h
  have g1 := Decidable.not_not.mp g1
  obtain ⟨_, M3, hc4, h⟩ := bnd_inv h
  refine gV_v (As := [.ref (q (gR M 0 0))]) X hP hS hl.1 (c_X10_countIn l D cA q aK aV hq g1 hc4) sf_X10_countIn bw_1074 sv_X10_countIn (rcC_10 sC_18) rfl ⟨rfl, rfl⟩ ⟨Nat.le_of_ble_eq_true rfl, Nat.le_of_ble_eq_true rfl⟩ rfl rfl (Nat.le_of_ble_eq_true rfl) dX11_mute_8 (fun H locs hP hS => ?_)
  refine lv_aload_n hx hb dX11_mute_11 rfl (lv_at hl 0 rfl) ?_
  refine lv_aload_n hx hb dX11_mute_12 rfl (lv_at hl 0 rfl) ?_
  refine gfC_11_8 X hP sC_0 bw_438 dX11_mute_13 ?_
  refine gfC_10_2 X hP sC_18 bw_359 dX11_mute_16 ?_
  obtain ⟨r5, M6, hc7, h⟩ := bnd_inv h
  refine gV_i (As := [.int (gI M3 18 2)]) X hP hS hl.1 (c_X11_given l D cA q aK aV hq hc7) sf_X11_given bw_755 sv_X11_given (rcC_11 sC_0) rfl ⟨rfl, rfl⟩ ⟨Nat.le_of_ble_eq_true rfl, Nat.le_of_ble_eq_true rfl⟩ rfl rfl (Nat.le_of_ble_eq_true rfl) dX11_mute_19 (fun H locs hP hS => ?_)
  exact end_i X hr hk hP hS h dX11_mute_22
theorem dX0_weightOf_0 : decode cX0_weightOf 0 = .ok (.lconst 1, 1) := by decide +kernel
theorem dX0_weightOf_1 : decode cX0_weightOf 1 = .ok (.lstore_n 3, 1) := by decide +kernel
theorem dX0_weightOf_2 : decode cX0_weightOf 2 = .ok (.iconst 0, 1) := by decide +kernel
theorem dX0_weightOf_3 : decode cX0_weightOf 3 = .ok (.istore 5, 2) := by decide +kernel
theorem dX0_weightOf_5 : decode cX0_weightOf 5 = .ok (.iload 5, 2) := by decide +kernel
theorem dX0_weightOf_7 : decode cX0_weightOf 7 = .ok (.aload_n 0, 1) := by decide +kernel
theorem dX0_weightOf_8 : decode cX0_weightOf 8 = .ok (.iconst 4, 1) := by decide +kernel
theorem dX0_weightOf_9 : decode cX0_weightOf 9 = .ok (.invokevirtual 77, 3) := by decide +kernel
theorem dX0_weightOf_12 : decode cX0_weightOf 12 = .ok (.if_icmp .ge 53, 3) := by decide +kernel
theorem dX0_weightOf_15 : decode cX0_weightOf 15 = .ok (.iload_n 1, 1) := by decide +kernel
theorem dX0_weightOf_16 : decode cX0_weightOf 16 = .ok (.iload 5, 2) := by decide +kernel
theorem dX0_weightOf_18 : decode cX0_weightOf 18 = .ok (.invokestatic 127, 3) := by decide +kernel
theorem dX0_weightOf_21 : decode cX0_weightOf 21 = .ok (.ifCond .eq 38, 3) := by decide +kernel
theorem dX0_weightOf_24 : decode cX0_weightOf 24 = .ok (.aload_n 0, 1) := by decide +kernel
theorem dX0_weightOf_25 : decode cX0_weightOf 25 = .ok (.getfield 34, 3) := by decide +kernel
theorem dX0_weightOf_28 : decode cX0_weightOf 28 = .ok (.iload 5, 2) := by decide +kernel
theorem dX0_weightOf_30 : decode cX0_weightOf 30 = .ok (.invokestatic 102, 3) := by decide +kernel
theorem dX0_weightOf_33 : decode cX0_weightOf 33 = .ok (.istore 6, 2) := by decide +kernel
theorem dX0_weightOf_35 : decode cX0_weightOf 35 = .ok (.lload_n 3, 1) := by decide +kernel
theorem dX0_weightOf_36 : decode cX0_weightOf 36 = .ok (.iload_n 2, 1) := by decide +kernel
theorem dX0_weightOf_37 : decode cX0_weightOf 37 = .ok (.iload 5, 2) := by decide +kernel
theorem dX0_weightOf_39 : decode cX0_weightOf 39 = .ok (.invokestatic 127, 3) := by decide +kernel
theorem dX0_weightOf_42 : decode cX0_weightOf 42 = .ok (.ifCond .eq 12, 3) := by decide +kernel
theorem dX0_weightOf_45 : decode cX0_weightOf 45 = .ok (.bipush 16, 2) := by decide +kernel
theorem dX0_weightOf_47 : decode cX0_weightOf 47 = .ok (.iload 6, 2) := by decide +kernel
theorem dX0_weightOf_49 : decode cX0_weightOf 49 = .ok (.isub, 1) := by decide +kernel
theorem dX0_weightOf_50 : decode cX0_weightOf 50 = .ok (.i2l, 1) := by decide +kernel
theorem dX0_weightOf_51 : decode cX0_weightOf 51 = .ok (.goto 6, 3) := by decide +kernel
theorem dX0_weightOf_54 : decode cX0_weightOf 54 = .ok (.iload 6, 2) := by decide +kernel
theorem dX0_weightOf_56 : decode cX0_weightOf 56 = .ok (.i2l, 1) := by decide +kernel
theorem dX0_weightOf_57 : decode cX0_weightOf 57 = .ok (.lmul, 1) := by decide +kernel
theorem dX0_weightOf_58 : decode cX0_weightOf 58 = .ok (.lstore_n 3, 1) := by decide +kernel
theorem dX0_weightOf_59 : decode cX0_weightOf 59 = .ok (.iinc 5 1, 3) := by decide +kernel
theorem dX0_weightOf_62 : decode cX0_weightOf 62 = .ok (.goto (-57), 3) := by decide +kernel
theorem dX0_weightOf_65 : decode cX0_weightOf 65 = .ok (.lload_n 3, 1) := by decide +kernel
theorem dX0_weightOf_66 : decode cX0_weightOf 66 = .ok (.lreturn, 1) := by decide +kernel
set_option maxRecDepth 100000 in
set_option maxHeartbeats 8000000 in
theorem c_X0_weightOf (l : Launch) (D : va_G) (cA : Nat → ClassId) (q aK aV : Nat → Nat) (hq : injG 167 q) {a0 : Nat} {a1 : Int32} {a2 : Int32} {M M0 : Mem} {r0 : Int64} (h0 : shC a0 = 0) (h : f_X0_weightOf a0 a1 a2 M = some (r0, M0)) : Met l yX0_weightOf (.code yX0_weightOf cX0_weightOf 7 (some .long) :: BW) ({ frames := 2, cells := 0, slots := 0, locals := 34 } : Room) (va_Pc [.ref (q a0), .int a1, .int a2] (CB 167 (ceC cA q) D cA q aK aV M)) (Ql 167 (ceC cA q) D q r0 M0) 0 0 (AqG 167 q) := by
  refine gMet RX0 (by decide +kernel) rfl hq (Nat.le_of_ble_eq_true rfl) ?_
  intro p e s m below meth c ls X hr hk hP hS hl
  have hx := X.1
  have hb := X.2.1
  have hl : lv_has ls 7 [(0, .ref (q a0)), (1, .int a1), (2, .int a2)] := hl
  rw [f_X0_weightOf] at h
  have hL5 : ∀ (fu : Nat) (b3 : Int64) (b5 : Int32) (M : Mem) (res : (Int64) × Mem) (H : Heap) (locs : List Loc) (ls : Array Slot), f_X0_weightOf_L5 a0 a1 a2 fu b3 b5 M = some res → va_P D vwCl (wsG 167 (ceC cA q) q M) H → va_S (AqG 167 q) s.heap H locs → lv_has ls 7 [(0, .ref (q a0)), (1, .int a1), (2, .int a2), (3, .long b3), (5, .int b5)] → (∀ (H : Heap) (locs : List Loc) (ls : Array Slot), va_P D vwCl (wsG 167 (ceC cA q) q res.2) H → va_S (AqG 167 q) s.heap H locs → lv_has ls 7 [(3, .long (res.1))] → W p l e ({ frames := 2, cells := 0, slots := 0, locals := 34 } : Room) s m [.ref (q a0), .int a1, .int a2].toArray below meth c H locs 0 0 (MQ below (Ql 167 (ceC cA q) D q r0 M0) [.ref (q a0), .int a1, .int a2].toArray s 0 0 (AqG 167 q)) (F0 m 65 ls [])) → W p l e ({ frames := 2, cells := 0, slots := 0, locals := 34 } : Room) s m [.ref (q a0), .int a1, .int a2].toArray below meth c H locs 0 0 (MQ below (Ql 167 (ceC cA q) D q r0 M0) [.ref (q a0), .int a1, .int a2].toArray s 0 0 (AqG 167 q)) (F0 m 5 ls []) := by
    intro fu
    induction fu with
    | zero => intro b3 b5 M res H locs ls h; exact absurd h (by simp [f_X0_weightOf_L5])
    | succ fu ih =>
      intro b3 b5 M res H locs ls h hP hS hl K5_0
      rw [f_X0_weightOf_L5] at h
      refine lv_iload hx hb dX0_weightOf_5 (lv_at hl 4 rfl) ?_
      refine lv_aload_n hx hb dX0_weightOf_7 rfl (lv_at hl 0 rfl) ?_
      refine lv_iconst (v := 4) hx hb dX0_weightOf_8 (by decide) ?_
      obtain ⟨r5, M6, hc7, h⟩ := bnd_inv h
      refine gV_i (As := [.int (4 : Int32)]) X hP hS hl.1 (c_X0_countOf l D cA q aK aV hq h0 hc7) sf_X0_countOf bw_645 sv_X0_countOf (rcC_0 h0) rfl ⟨rfl, rfl⟩ ⟨Nat.le_of_ble_eq_true rfl, Nat.le_of_ble_eq_true rfl⟩ rfl rfl (Nat.le_of_ble_eq_true rfl) dX0_weightOf_9 (fun H locs hP hS => ?_)
      refine lv_icmp_ge (tgt := 65) hx hb dX0_weightOf_12 (by decide) (fun c8 => ?_) (fun c8 => ?_)
      · rw [if_pos c8] at h
        cases h
        exact K5_0 _ _ _ hP hS (lv_sub hl [3] rfl)
      · rw [if_neg c8] at h
        refine lv_iload_n hx hb dX0_weightOf_15 rfl (lv_at hl 1 rfl) ?_
        refine lv_iload hx hb dX0_weightOf_16 (lv_at hl 4 rfl) ?_
        obtain ⟨r9, M10, hc11, h⟩ := bnd_inv h
        refine gSN_i (As := [.int a1, .int b5]) X hP hS hl.1 (c_X11_isIn l D cA q aK aV hq hc11) sf_X11_isIn nw_19 ss_X11_isIn ⟨rfl, rfl⟩ ⟨Nat.le_of_ble_eq_true rfl, Nat.le_of_ble_eq_true rfl⟩ rfl rfl (Nat.le_of_ble_eq_true rfl) dX0_weightOf_18 (fun H locs hP hS => ?_)
        refine lv_if_eq (tgt := 59) hx hb dX0_weightOf_21 (by decide) (fun c12 => ?_) (fun c12 => ?_)
        · rw [if_pos c12] at h
          obtain ⟨y13, ey13, h⟩ := lt_inv h
          refine lv_iinc (v := y13) (lv' := [(5, .int y13), (0, .ref (q a0)), (1, .int a1), (2, .int a2), (3, .long b3)]) hx hb dX0_weightOf_59 hl (k := 4) rfl (by rw [ey13]; rfl) (by decide) rfl (fun ls hl => ?_)
          refine lv_goto (tgt := 5) hx hb dX0_weightOf_62 (by decide) ?_
          exact ih _ _ _ res _ _ _ h hP hS (lv_sub hl [1, 2, 3, 4, 0] rfl) K5_0
        · rw [if_neg c12] at h
          refine lv_aload_n hx hb dX0_weightOf_24 rfl (lv_at hl 0 rfl) ?_
          refine gfC_0_5 X hP h0 bw_150 dX0_weightOf_25 ?_
          refine lv_iload hx hb dX0_weightOf_28 (lv_at hl 4 rfl) ?_
          obtain ⟨r14, M15, hc16, h⟩ := bnd_inv h
          refine gSN_i (As := [.ref (q (a0 + 20)), .int b5]) X hP hS hl.1 (c_X11_cell l D cA q aK aV hq ((kC_0_5 h0).1) hc16) sf_X11_cell nw_11 ss_X11_cell ⟨rfl, rfl⟩ ⟨Nat.le_of_ble_eq_true rfl, Nat.le_of_ble_eq_true rfl⟩ rfl rfl (Nat.le_of_ble_eq_true rfl) dX0_weightOf_30 (fun H locs hP hS => ?_)
          refine lv_istore (lv' := [(6, .int r14), (0, .ref (q a0)), (1, .int a1), (2, .int a2), (3, .long b3), (5, .int b5)]) hx hb dX0_weightOf_33 hl (by decide) rfl (fun ls hl => ?_)
          refine lv_lload_n hx hb dX0_weightOf_35 rfl (lv_at hl 4 rfl) ?_
          refine lv_iload_n hx hb dX0_weightOf_36 rfl (lv_at hl 3 rfl) ?_
          refine lv_iload hx hb dX0_weightOf_37 (lv_at hl 5 rfl) ?_
          obtain ⟨r17, M18, hc19, h⟩ := bnd_inv h
          refine gSN_i (As := [.int a2, .int b5]) X hP hS hl.1 (c_X11_isIn l D cA q aK aV hq hc19) sf_X11_isIn nw_19 ss_X11_isIn ⟨rfl, rfl⟩ ⟨Nat.le_of_ble_eq_true rfl, Nat.le_of_ble_eq_true rfl⟩ rfl rfl (Nat.le_of_ble_eq_true rfl) dX0_weightOf_39 (fun H locs hP hS => ?_)
          refine lv_if_eq (tgt := 54) hx hb dX0_weightOf_42 (by decide) (fun c20 => ?_) (fun c20 => ?_)
          · rw [if_pos c20] at h
            refine lv_iload hx hb dX0_weightOf_54 (lv_at hl 0 rfl) ?_
            refine lv_i2l hx hb dX0_weightOf_56 rfl ?_
            refine lv_lmul hx hb dX0_weightOf_57 ?_
            obtain ⟨y21, ey21, h⟩ := lt_inv h
            refine topL ey21 ?_
            refine lv_lstore_n (lv' := [(3, .long y21), (6, .int r14), (0, .ref (q a0)), (1, .int a1), (2, .int a2), (5, .int b5)]) hx hb dX0_weightOf_58 rfl hl (by decide) rfl (fun ls hl => ?_)
            obtain ⟨y22, ey22, h⟩ := lt_inv h
            refine lv_iinc (v := y22) (lv' := [(5, .int y22), (3, .long y21), (6, .int r14), (0, .ref (q a0)), (1, .int a1), (2, .int a2)]) hx hb dX0_weightOf_59 hl (k := 5) rfl (by rw [ey22]; rfl) (by decide) rfl (fun ls hl => ?_)
            refine lv_goto (tgt := 5) hx hb dX0_weightOf_62 (by decide) ?_
            exact ih _ _ _ res _ _ _ h hP hS (lv_sub hl [3, 4, 5, 1, 0] rfl) K5_0
          · rw [if_neg c20] at h
            refine lv_bipush (v := 16) hx hb dX0_weightOf_45 (by decide) ?_
            refine lv_iload hx hb dX0_weightOf_47 (lv_at hl 0 rfl) ?_
            refine lv_isub hx hb dX0_weightOf_49 ?_
            refine lv_i2l hx hb dX0_weightOf_50 rfl ?_
            refine lv_goto (tgt := 57) hx hb dX0_weightOf_51 (by decide) ?_
            refine lv_lmul hx hb dX0_weightOf_57 ?_
            obtain ⟨y23, ey23, h⟩ := lt_inv h
            refine topL ey23 ?_
            refine lv_lstore_n (lv' := [(3, .long y23), (6, .int r14), (0, .ref (q a0)), (1, .int a1), (2, .int a2), (5, .int b5)]) hx hb dX0_weightOf_58 rfl hl (by decide) rfl (fun ls hl => ?_)
            obtain ⟨y24, ey24, h⟩ := lt_inv h
            refine lv_iinc (v := y24) (lv' := [(5, .int y24), (3, .long y23), (6, .int r14), (0, .ref (q a0)), (1, .int a1), (2, .int a2)]) hx hb dX0_weightOf_59 hl (k := 5) rfl (by rw [ey24]; rfl) (by decide) rfl (fun ls hl => ?_)
            refine lv_goto (tgt := 5) hx hb dX0_weightOf_62 (by decide) ?_
            exact ih _ _ _ res _ _ _ h hP hS (lv_sub hl [3, 4, 5, 1, 0] rfl) K5_0
  refine lv_lconst (v := 1) hx hb dX0_weightOf_0 (by decide) ?_
  refine lv_lstore_n (lv' := [(3, .long (1 : Int64)), (0, .ref (q a0)), (1, .int a1), (2, .int a2)]) hx hb dX0_weightOf_1 rfl hl (by decide) rfl (fun ls hl => ?_)
  refine lv_iconst (v := 0) hx hb dX0_weightOf_2 (by decide) ?_
  refine lv_istore (lv' := [(5, .int (0 : Int32)), (3, .long (1 : Int64)), (0, .ref (q a0)), (1, .int a1), (2, .int a2)]) hx hb dX0_weightOf_3 hl (by decide) rfl (fun ls hl => ?_)
  obtain ⟨s1, M2, hc3, h⟩ := bnd_inv h
  obtain ⟨x4, rfl⟩ : ∃ z, z = s1 := ⟨_, rfl⟩
  try dsimp only at h
  refine hL5  fz _ _ _ _ _ _ _ hc3 hP hS (lv_sub hl [2, 3, 4, 1, 0] rfl) (fun H locs ls hP hS hl => ?_)
  have hl : lv_has ls 7 [(3, .long x4)] := hl
  refine lv_lload_n hx hb dX0_weightOf_65 rfl (lv_at hl 0 rfl) ?_
  exact end_l X hr hk hP hS h dX0_weightOf_66
theorem dX0_rightWeight_0 : decode cX0_rightWeight 0 = .ok (.lconst 0, 1) := by decide +kernel
theorem dX0_rightWeight_1 : decode cX0_rightWeight 1 = .ok (.lstore_n 2, 1) := by decide +kernel
theorem dX0_rightWeight_2 : decode cX0_rightWeight 2 = .ok (.iconst 1, 1) := by decide +kernel
theorem dX0_rightWeight_3 : decode cX0_rightWeight 3 = .ok (.istore 4, 2) := by decide +kernel
theorem dX0_rightWeight_5 : decode cX0_rightWeight 5 = .ok (.iload 4, 2) := by decide +kernel
theorem dX0_rightWeight_7 : decode cX0_rightWeight 7 = .ok (.iload_n 1, 1) := by decide +kernel
theorem dX0_rightWeight_8 : decode cX0_rightWeight 8 = .ok (.if_icmp .gt 56, 3) := by decide +kernel
theorem dX0_rightWeight_11 : decode cX0_rightWeight 11 = .ok (.iload 4, 2) := by decide +kernel
theorem dX0_rightWeight_13 : decode cX0_rightWeight 13 = .ok (.iload_n 1, 1) := by decide +kernel
theorem dX0_rightWeight_14 : decode cX0_rightWeight 14 = .ok (.iconst (-1), 1) := by decide +kernel
theorem dX0_rightWeight_15 : decode cX0_rightWeight 15 = .ok (.ixor, 1) := by decide +kernel
theorem dX0_rightWeight_16 : decode cX0_rightWeight 16 = .ok (.iand, 1) := by decide +kernel
theorem dX0_rightWeight_17 : decode cX0_rightWeight 17 = .ok (.ifCond .ne 7, 3) := by decide +kernel
theorem dX0_rightWeight_20 : decode cX0_rightWeight 20 = .ok (.iconst 1, 1) := by decide +kernel
theorem dX0_rightWeight_21 : decode cX0_rightWeight 21 = .ok (.goto 4, 3) := by decide +kernel
theorem dX0_rightWeight_24 : decode cX0_rightWeight 24 = .ok (.iconst 0, 1) := by decide +kernel
theorem dX0_rightWeight_25 : decode cX0_rightWeight 25 = .ok (.istore 5, 2) := by decide +kernel
theorem dX0_rightWeight_27 : decode cX0_rightWeight 27 = .ok (.iload 5, 2) := by decide +kernel
theorem dX0_rightWeight_29 : decode cX0_rightWeight 29 = .ok (.ifCond .eq 29, 3) := by decide +kernel
theorem dX0_rightWeight_32 : decode cX0_rightWeight 32 = .ok (.iconst 2, 1) := by decide +kernel
theorem dX0_rightWeight_33 : decode cX0_rightWeight 33 = .ok (.aload_n 0, 1) := by decide +kernel
theorem dX0_rightWeight_34 : decode cX0_rightWeight 34 = .ok (.iload 4, 2) := by decide +kernel
theorem dX0_rightWeight_36 : decode cX0_rightWeight 36 = .ok (.invokevirtual 130, 3) := by decide +kernel
theorem dX0_rightWeight_39 : decode cX0_rightWeight 39 = .ok (.imul, 1) := by decide +kernel
theorem dX0_rightWeight_40 : decode cX0_rightWeight 40 = .ok (.aload_n 0, 1) := by decide +kernel
theorem dX0_rightWeight_41 : decode cX0_rightWeight 41 = .ok (.iload_n 1, 1) := by decide +kernel
theorem dX0_rightWeight_42 : decode cX0_rightWeight 42 = .ok (.invokevirtual 130, 3) := by decide +kernel
theorem dX0_rightWeight_45 : decode cX0_rightWeight 45 = .ok (.if_icmp .le 13, 3) := by decide +kernel
theorem dX0_rightWeight_48 : decode cX0_rightWeight 48 = .ok (.lload_n 2, 1) := by decide +kernel
theorem dX0_rightWeight_49 : decode cX0_rightWeight 49 = .ok (.aload_n 0, 1) := by decide +kernel
theorem dX0_rightWeight_50 : decode cX0_rightWeight 50 = .ok (.iload_n 1, 1) := by decide +kernel
theorem dX0_rightWeight_51 : decode cX0_rightWeight 51 = .ok (.iload 4, 2) := by decide +kernel
theorem dX0_rightWeight_53 : decode cX0_rightWeight 53 = .ok (.invokevirtual 133, 3) := by decide +kernel
theorem dX0_rightWeight_56 : decode cX0_rightWeight 56 = .ok (.ladd, 1) := by decide +kernel
theorem dX0_rightWeight_57 : decode cX0_rightWeight 57 = .ok (.lstore_n 2, 1) := by decide +kernel
theorem dX0_rightWeight_58 : decode cX0_rightWeight 58 = .ok (.iinc 4 1, 3) := by decide +kernel
theorem dX0_rightWeight_61 : decode cX0_rightWeight 61 = .ok (.goto (-56), 3) := by decide +kernel
theorem dX0_rightWeight_64 : decode cX0_rightWeight 64 = .ok (.lload_n 2, 1) := by decide +kernel
theorem dX0_rightWeight_65 : decode cX0_rightWeight 65 = .ok (.lreturn, 1) := by decide +kernel
set_option maxRecDepth 100000 in
set_option maxHeartbeats 8000000 in
theorem c_X0_rightWeight (l : Launch) (D : va_G) (cA : Nat → ClassId) (q aK aV : Nat → Nat) (hq : injG 167 q) {a0 : Nat} {a1 : Int32} {M M0 : Mem} {r0 : Int64} (h0 : shC a0 = 0) (h : f_X0_rightWeight a0 a1 M = some (r0, M0)) : Met l yX0_rightWeight (.code yX0_rightWeight cX0_rightWeight 6 (some .long) :: BW) ({ frames := 3, cells := 0, slots := 0, locals := 60 } : Room) (va_Pc [.ref (q a0), .int a1] (CB 167 (ceC cA q) D cA q aK aV M)) (Ql 167 (ceC cA q) D q r0 M0) 0 0 (AqG 167 q) := by
  refine gMet RX0 (by decide +kernel) rfl hq (Nat.le_of_ble_eq_true rfl) ?_
  intro p e s m below meth c ls X hr hk hP hS hl
  have hx := X.1
  have hb := X.2.1
  have hl : lv_has ls 6 [(0, .ref (q a0)), (1, .int a1)] := hl
  rw [f_X0_rightWeight] at h
  have hL5 : ∀ (fu : Nat) (b2 : Int64) (b4 : Int32) (M : Mem) (res : (Int64) × Mem) (H : Heap) (locs : List Loc) (ls : Array Slot), f_X0_rightWeight_L5 a0 a1 fu b2 b4 M = some res → va_P D vwCl (wsG 167 (ceC cA q) q M) H → va_S (AqG 167 q) s.heap H locs → lv_has ls 6 [(0, .ref (q a0)), (1, .int a1), (2, .long b2), (4, .int b4)] → (∀ (H : Heap) (locs : List Loc) (ls : Array Slot), va_P D vwCl (wsG 167 (ceC cA q) q res.2) H → va_S (AqG 167 q) s.heap H locs → lv_has ls 6 [(2, .long (res.1))] → W p l e ({ frames := 3, cells := 0, slots := 0, locals := 60 } : Room) s m [.ref (q a0), .int a1].toArray below meth c H locs 0 0 (MQ below (Ql 167 (ceC cA q) D q r0 M0) [.ref (q a0), .int a1].toArray s 0 0 (AqG 167 q)) (F0 m 64 ls [])) → W p l e ({ frames := 3, cells := 0, slots := 0, locals := 60 } : Room) s m [.ref (q a0), .int a1].toArray below meth c H locs 0 0 (MQ below (Ql 167 (ceC cA q) D q r0 M0) [.ref (q a0), .int a1].toArray s 0 0 (AqG 167 q)) (F0 m 5 ls []) := by
    intro fu
    induction fu with
    | zero => intro b2 b4 M res H locs ls h; exact absurd h (by simp [f_X0_rightWeight_L5])
    | succ fu ih =>
      intro b2 b4 M res H locs ls h hP hS hl K5_0
      rw [f_X0_rightWeight_L5] at h
      have hJ25 : ∀ (b2 : Int64) (b4 : Int32) (s0 : Int32) (M : Mem) (H : Heap) (locs : List Loc) (ls : Array Slot), f_X0_rightWeight_J25 (f_X0_rightWeight_L5 a0 a1 fu) a0 a1 b2 b4 s0 M = some res → va_P D vwCl (wsG 167 (ceC cA q) q M) H → va_S (AqG 167 q) s.heap H locs → lv_has ls 6 [(0, .ref (q a0)), (1, .int a1), (2, .long b2), (4, .int b4)] → W p l e ({ frames := 3, cells := 0, slots := 0, locals := 60 } : Room) s m [.ref (q a0), .int a1].toArray below meth c H locs 0 0 (MQ below (Ql 167 (ceC cA q) D q r0 M0) [.ref (q a0), .int a1].toArray s 0 0 (AqG 167 q)) (F0 m 25 ls [.int s0]) := by
        intro b2 b4 s0 M H locs ls h hP hS hl
        rw [f_X0_rightWeight_J25] at h
        refine lv_istore (lv' := [(5, .int s0), (0, .ref (q a0)), (1, .int a1), (2, .long b2), (4, .int b4)]) hx hb dX0_rightWeight_25 hl (by decide) rfl (fun ls hl => ?_)
        refine lv_iload hx hb dX0_rightWeight_27 (lv_at hl 0 rfl) ?_
        refine lv_if_eq (tgt := 58) hx hb dX0_rightWeight_29 (by decide) (fun c7 => ?_) (fun c7 => ?_)
        · rw [if_pos c7] at h
          obtain ⟨y8, ey8, h⟩ := lt_inv h
          refine lv_iinc (v := y8) (lv' := [(4, .int y8), (5, .int s0), (0, .ref (q a0)), (1, .int a1), (2, .long b2)]) hx hb dX0_rightWeight_58 hl (k := 4) rfl (by rw [ey8]; rfl) (by decide) rfl (fun ls hl => ?_)
          refine lv_goto (tgt := 5) hx hb dX0_rightWeight_61 (by decide) ?_
          exact ih _ _ _ res _ _ _ h hP hS (lv_sub hl [2, 3, 4, 0] rfl) K5_0
        · rw [if_neg c7] at h
          refine lv_iconst (v := 2) hx hb dX0_rightWeight_32 (by decide) ?_
          refine lv_aload_n hx hb dX0_rightWeight_33 rfl (lv_at hl 1 rfl) ?_
          refine lv_iload hx hb dX0_rightWeight_34 (lv_at hl 4 rfl) ?_
          obtain ⟨r9, M10, hc11, h⟩ := bnd_inv h
          refine gV_i (As := [.int b4]) X hP hS hl.1 (c_X0_votesOf l D cA q aK aV hq h0 hc11) sf_X0_votesOf bw_1108 sv_X0_votesOf (rcC_0 h0) rfl ⟨rfl, rfl⟩ ⟨Nat.le_of_ble_eq_true rfl, Nat.le_of_ble_eq_true rfl⟩ rfl rfl (Nat.le_of_ble_eq_true rfl) dX0_rightWeight_36 (fun H locs hP hS => ?_)
          refine lv_imul hx hb dX0_rightWeight_39 ?_
          refine lv_aload_n hx hb dX0_rightWeight_40 rfl (lv_at hl 1 rfl) ?_
          refine lv_iload_n hx hb dX0_rightWeight_41 rfl (lv_at hl 2 rfl) ?_
          obtain ⟨r12, M13, hc14, h⟩ := bnd_inv h
          refine gV_i (As := [.int a1]) X hP hS hl.1 (c_X0_votesOf l D cA q aK aV hq h0 hc14) sf_X0_votesOf bw_1108 sv_X0_votesOf (rcC_0 h0) rfl ⟨rfl, rfl⟩ ⟨Nat.le_of_ble_eq_true rfl, Nat.le_of_ble_eq_true rfl⟩ rfl rfl (Nat.le_of_ble_eq_true rfl) dX0_rightWeight_42 (fun H locs hP hS => ?_)
          refine lv_icmp_le (tgt := 58) hx hb dX0_rightWeight_45 (by decide) (fun c15 => ?_) (fun c15 => ?_)
          · rw [if_pos c15] at h
            obtain ⟨y16, ey16, h⟩ := lt_inv h
            refine lv_iinc (v := y16) (lv' := [(4, .int y16), (5, .int s0), (0, .ref (q a0)), (1, .int a1), (2, .long b2)]) hx hb dX0_rightWeight_58 hl (k := 4) rfl (by rw [ey16]; rfl) (by decide) rfl (fun ls hl => ?_)
            refine lv_goto (tgt := 5) hx hb dX0_rightWeight_61 (by decide) ?_
            exact ih _ _ _ res _ _ _ h hP hS (lv_sub hl [2, 3, 4, 0] rfl) K5_0
          · rw [if_neg c15] at h
            refine lv_lload_n hx hb dX0_rightWeight_48 rfl (lv_at hl 3 rfl) ?_
            refine lv_aload_n hx hb dX0_rightWeight_49 rfl (lv_at hl 1 rfl) ?_
            refine lv_iload_n hx hb dX0_rightWeight_50 rfl (lv_at hl 2 rfl) ?_
            refine lv_iload hx hb dX0_rightWeight_51 (lv_at hl 4 rfl) ?_
            obtain ⟨r17, M18, hc19, h⟩ := bnd_inv h
            refine gV_l (As := [.int a1, .int b4]) X hP hS hl.1 (c_X0_weightOf l D cA q aK aV hq h0 hc19) sf_X0_weightOf bw_1109 sv_X0_weightOf (rcC_0 h0) rfl ⟨rfl, rfl⟩ ⟨Nat.le_of_ble_eq_true rfl, Nat.le_of_ble_eq_true rfl⟩ rfl rfl (Nat.le_of_ble_eq_true rfl) dX0_rightWeight_53 (fun H locs hP hS => ?_)
            refine lv_ladd hx hb dX0_rightWeight_56 ?_
            obtain ⟨y20, ey20, h⟩ := lt_inv h
            refine topL ey20 ?_
            refine lv_lstore_n (lv' := [(2, .long y20), (5, .int s0), (0, .ref (q a0)), (1, .int a1), (4, .int b4)]) hx hb dX0_rightWeight_57 rfl hl (by decide) rfl (fun ls hl => ?_)
            obtain ⟨y21, ey21, h⟩ := lt_inv h
            refine lv_iinc (v := y21) (lv' := [(4, .int y21), (2, .long y20), (5, .int s0), (0, .ref (q a0)), (1, .int a1)]) hx hb dX0_rightWeight_58 hl (k := 4) rfl (by rw [ey21]; rfl) (by decide) rfl (fun ls hl => ?_)
            refine lv_goto (tgt := 5) hx hb dX0_rightWeight_61 (by decide) ?_
            exact ih _ _ _ res _ _ _ h hP hS (lv_sub hl [3, 4, 1, 0] rfl) K5_0
      refine lv_iload hx hb dX0_rightWeight_5 (lv_at hl 3 rfl) ?_
      refine lv_iload_n hx hb dX0_rightWeight_7 rfl (lv_at hl 1 rfl) ?_
      refine lv_icmp_gt (tgt := 64) hx hb dX0_rightWeight_8 (by decide) (fun c5 => ?_) (fun c5 => ?_)
      · rw [if_pos c5] at h
        cases h
        exact K5_0 _ _ _ hP hS (lv_sub hl [2] rfl)
      · rw [if_neg c5] at h
        refine lv_iload hx hb dX0_rightWeight_11 (lv_at hl 3 rfl) ?_
        refine lv_iload_n hx hb dX0_rightWeight_13 rfl (lv_at hl 1 rfl) ?_
        refine lv_iconst (v := -1) hx hb dX0_rightWeight_14 (by decide) ?_
        refine lv_ixor hx hb dX0_rightWeight_15 ?_
        refine lv_iand hx hb dX0_rightWeight_16 ?_
        refine lv_if_ne (tgt := 24) hx hb dX0_rightWeight_17 (by decide) (fun c6 => ?_) (fun c6 => ?_)
        · rw [if_neg c6] at h
          refine lv_iconst (v := 0) hx hb dX0_rightWeight_24 (by decide) ?_
          exact hJ25 _ _ _ _ _ _ _ h hP hS (lv_sub hl [0, 1, 2, 3] rfl)
        · rw [if_pos c6] at h
          refine lv_iconst (v := 1) hx hb dX0_rightWeight_20 (by decide) ?_
          refine lv_goto (tgt := 25) hx hb dX0_rightWeight_21 (by decide) ?_
          exact hJ25 _ _ _ _ _ _ _ h hP hS (lv_sub hl [0, 1, 2, 3] rfl)
  refine lv_lconst (v := 0) hx hb dX0_rightWeight_0 (by decide) ?_
  refine lv_lstore_n (lv' := [(2, .long (0 : Int64)), (0, .ref (q a0)), (1, .int a1)]) hx hb dX0_rightWeight_1 rfl hl (by decide) rfl (fun ls hl => ?_)
  refine lv_iconst (v := 1) hx hb dX0_rightWeight_2 (by decide) ?_
  refine lv_istore (lv' := [(4, .int (1 : Int32)), (2, .long (0 : Int64)), (0, .ref (q a0)), (1, .int a1)]) hx hb dX0_rightWeight_3 hl (by decide) rfl (fun ls hl => ?_)
  obtain ⟨s1, M2, hc3, h⟩ := bnd_inv h
  obtain ⟨x4, rfl⟩ : ∃ z, z = s1 := ⟨_, rfl⟩
  try dsimp only at h
  refine hL5  fz _ _ _ _ _ _ _ hc3 hP hS (lv_sub hl [2, 3, 1, 0] rfl) (fun H locs ls hP hS hl => ?_)
  have hl : lv_has ls 6 [(2, .long x4)] := hl
  refine lv_lload_n hx hb dX0_rightWeight_64 rfl (lv_at hl 0 rfl) ?_
  exact end_l X hr hk hP hS h dX0_rightWeight_65
theorem dX11_verdict_0 : decode cX11_verdict 0 = .ok (.iload_n 1, 1) := by decide +kernel
theorem dX11_verdict_1 : decode cX11_verdict 1 = .ok (.iconst 1, 1) := by decide +kernel
theorem dX11_verdict_2 : decode cX11_verdict 2 = .ok (.if_icmp .lt 18, 3) := by decide +kernel
theorem dX11_verdict_5 : decode cX11_verdict 5 = .ok (.iload_n 1, 1) := by decide +kernel
theorem dX11_verdict_6 : decode cX11_verdict 6 = .ok (.aload_n 0, 1) := by decide +kernel
theorem dX11_verdict_7 : decode cX11_verdict 7 = .ok (.getfield 10, 3) := by decide +kernel
theorem dX11_verdict_10 : decode cX11_verdict 10 = .ok (.iconst 4, 1) := by decide +kernel
theorem dX11_verdict_11 : decode cX11_verdict 11 = .ok (.invokevirtual 167, 3) := by decide +kernel
theorem dX11_verdict_14 : decode cX11_verdict 14 = .ok (.invokestatic 207, 3) := by decide +kernel
theorem dX11_verdict_17 : decode cX11_verdict 17 = .ok (.if_icmp .le 9, 3) := by decide +kernel
theorem dX11_verdict_20 : decode cX11_verdict 20 = .ok (.aload_n 0, 1) := by decide +kernel
theorem dX11_verdict_21 : decode cX11_verdict 21 = .ok (.iconst 1, 1) := by decide +kernel
theorem dX11_verdict_22 : decode cX11_verdict 22 = .ok (.invokevirtual 108, 3) := by decide +kernel
theorem dX11_verdict_25 : decode cX11_verdict 25 = .ok (.ireturn, 1) := by decide +kernel
theorem dX11_verdict_26 : decode cX11_verdict 26 = .ok (.aload_n 0, 1) := by decide +kernel
theorem dX11_verdict_27 : decode cX11_verdict 27 = .ok (.aload_n 0, 1) := by decide +kernel
theorem dX11_verdict_28 : decode cX11_verdict 28 = .ok (.getfield 10, 3) := by decide +kernel
theorem dX11_verdict_31 : decode cX11_verdict 31 = .ok (.iload_n 1, 1) := by decide +kernel
theorem dX11_verdict_32 : decode cX11_verdict 32 = .ok (.invokevirtual 366, 3) := by decide +kernel
theorem dX11_verdict_35 : decode cX11_verdict 35 = .ok (.lconst 1, 1) := by decide +kernel
theorem dX11_verdict_36 : decode cX11_verdict 36 = .ok (.iconst 4, 1) := by decide +kernel
theorem dX11_verdict_37 : decode cX11_verdict 37 = .ok (.iload_n 1, 1) := by decide +kernel
theorem dX11_verdict_38 : decode cX11_verdict 38 = .ok (.invokestatic 270, 3) := by decide +kernel
theorem dX11_verdict_41 : decode cX11_verdict 41 = .ok (.imul, 1) := by decide +kernel
theorem dX11_verdict_42 : decode cX11_verdict 42 = .ok (.lshl, 1) := by decide +kernel
theorem dX11_verdict_43 : decode cX11_verdict 43 = .ok (.invokevirtual 341, 3) := by decide +kernel
theorem dX11_verdict_46 : decode cX11_verdict 46 = .ok (.ireturn, 1) := by decide +kernel
set_option maxRecDepth 100000 in
set_option maxHeartbeats 8000000 in
theorem c_X11_verdict (l : Launch) (D : va_G) (cA : Nat → ClassId) (q aK aV : Nat → Nat) (hq : injG 167 q) {a1 : Int32} {M M0 : Mem} {r0 : Int32} (h : f_X11_verdict a1 M = some (r0, M0)) : Met l yX11_verdict (.code yX11_verdict cX11_verdict 2 (some .boolean) :: BW) ({ frames := 4, cells := 0, slots := 0, locals := 85 } : Room) (va_Pc [.ref (q 0), .int a1] (CB 167 (ceC cA q) D cA q aK aV M)) (Qi 167 (ceC cA q) D q r0 M0) 0 0 (AqG 167 q) := by
  refine gMet RX11 (by decide +kernel) rfl hq (Nat.le_of_ble_eq_true rfl) ?_
  intro p e s m below meth c ls X hr hk hP hS hl
  have hx := X.1
  have hb := X.2.1
  have hl : lv_has ls 2 [(0, .ref (q 0)), (1, .int a1)] := hl
  rw [f_X11_verdict] at h
  refine lv_iload_n hx hb dX11_verdict_0 rfl (lv_at hl 1 rfl) ?_
  refine lv_iconst (v := 1) hx hb dX11_verdict_1 (by decide) ?_
  refine lv_icmp_lt (tgt := 20) hx hb dX11_verdict_2 (by decide) (fun c1 => ?_) (fun c1 => ?_)
  · rw [if_pos c1] at h
    refine lv_aload_n hx hb dX11_verdict_20 rfl (lv_at hl 0 rfl) ?_
    refine lv_iconst (v := 1) hx hb dX11_verdict_21 (by decide) ?_
    obtain ⟨r2, M3, hc4, h⟩ := bnd_inv h
    refine gV_i (As := [.int (1 : Int32)]) X hP hS hl.1 (c_X11_denied l D cA q aK aV hq hc4) sf_X11_denied bw_507 sv_X11_denied (rcC_11 sC_0) rfl ⟨rfl, rfl⟩ ⟨Nat.le_of_ble_eq_true rfl, Nat.le_of_ble_eq_true rfl⟩ rfl rfl (Nat.le_of_ble_eq_true rfl) dX11_verdict_22 (fun H locs hP hS => ?_)
    obtain ⟨g5, h⟩ := gd_inv h
    exact end_z X hr hk hP hS (Decidable.not_not.mp g5) h dX11_verdict_25
  · rw [if_neg c1] at h
    refine lv_iload_n hx hb dX11_verdict_5 rfl (lv_at hl 1 rfl) ?_
    refine lv_aload_n hx hb dX11_verdict_6 rfl (lv_at hl 0 rfl) ?_
    refine gfC_11_0 X hP sC_0 bw_430 dX11_verdict_7 ?_
    obtain ⟨g6, h⟩ := gd_inv h
    have g6 := Decidable.not_not.mp g6
    refine lv_iconst (v := 4) hx hb dX11_verdict_10 (by decide) ?_
    obtain ⟨r7, M8, hc9, h⟩ := bnd_inv h
    refine gV_i (As := [.int (4 : Int32)]) X hP hS hl.1 (c_X0_countOf l D cA q aK aV hq g6 hc9) sf_X0_countOf bw_750 sv_X0_countOf (rcC_0 g6) rfl ⟨rfl, rfl⟩ ⟨Nat.le_of_ble_eq_true rfl, Nat.le_of_ble_eq_true rfl⟩ rfl rfl (Nat.le_of_ble_eq_true rfl) dX11_verdict_11 (fun H locs hP hS => ?_)
    obtain ⟨r10, M11, hc12, h⟩ := bnd_inv h
    refine gS_i (As := [.int r7]) X hP hS hl.1 (c_X11_setOfAll l D cA q aK aV hq hc12) sf_X11_setOfAll bw_818 ss_X11_setOfAll ⟨rfl, rfl⟩ ⟨Nat.le_of_ble_eq_true rfl, Nat.le_of_ble_eq_true rfl⟩ rfl rfl (Nat.le_of_ble_eq_true rfl) dX11_verdict_14 (fun H locs hP hS => ?_)
    refine lv_icmp_le (tgt := 26) hx hb dX11_verdict_17 (by decide) (fun c13 => ?_) (fun c13 => ?_)
    · rw [if_pos c13] at h
      refine lv_aload_n hx hb dX11_verdict_26 rfl (lv_at hl 0 rfl) ?_
      refine lv_aload_n hx hb dX11_verdict_27 rfl (lv_at hl 0 rfl) ?_
      refine gfC_11_0 X hP sC_0 bw_430 dX11_verdict_28 ?_
      obtain ⟨g14, h⟩ := gd_inv h
      have g14 := Decidable.not_not.mp g14
      refine lv_iload_n hx hb dX11_verdict_31 rfl (lv_at hl 1 rfl) ?_
      obtain ⟨r15, M16, hc17, h⟩ := bnd_inv h
      refine gV_l (As := [.int a1]) X hP hS hl.1 (c_X0_rightWeight l D cA q aK aV hq g14 hc17) sf_X0_rightWeight bw_1104 sv_X0_rightWeight (rcC_0 g14) rfl ⟨rfl, rfl⟩ ⟨Nat.le_of_ble_eq_true rfl, Nat.le_of_ble_eq_true rfl⟩ rfl rfl (Nat.le_of_ble_eq_true rfl) dX11_verdict_32 (fun H locs hP hS => ?_)
      refine lv_lconst (v := 1) hx hb dX11_verdict_35 (by decide) ?_
      refine lv_iconst (v := 4) hx hb dX11_verdict_36 (by decide) ?_
      refine lv_iload_n hx hb dX11_verdict_37 rfl (lv_at hl 1 rfl) ?_
      obtain ⟨r18, M19, hc20, h⟩ := bnd_inv h
      refine gS_i (As := [.int a1]) X hP hS hl.1 (c_J6_bitCount_0f7a4_C l D cA q aK aV hq hc20) sf_J6_bitCount_0f7a4 bw_894 ss_J6_bitCount_0f7a4 ⟨rfl, rfl⟩ ⟨Nat.le_of_ble_eq_true rfl, Nat.le_of_ble_eq_true rfl⟩ rfl rfl (Nat.le_of_ble_eq_true rfl) dX11_verdict_38 (fun H locs hP hS => ?_)
      refine lv_imul hx hb dX11_verdict_41 ?_
      refine lv_lshl hx hb dX11_verdict_42 rfl ?_
      obtain ⟨r21, M22, hc23, h⟩ := bnd_inv h
      refine gV_i (As := [.long r15, .long ((1 : Int64) <<< ((((4 : Int32) * r18)).toInt64 &&& 63))]) X hP hS hl.1 (c_X11_tellFraction l D cA q aK aV hq hc23) sf_X11_tellFraction bw_1043 sv_X11_tellFraction (rcC_11 sC_0) rfl ⟨rfl, rfl⟩ ⟨Nat.le_of_ble_eq_true rfl, Nat.le_of_ble_eq_true rfl⟩ rfl rfl (Nat.le_of_ble_eq_true rfl) dX11_verdict_43 (fun H locs hP hS => ?_)
      obtain ⟨g24, h⟩ := gd_inv h
      exact end_z X hr hk hP hS (Decidable.not_not.mp g24) h dX11_verdict_46
    · rw [if_neg c13] at h
      refine lv_aload_n hx hb dX11_verdict_20 rfl (lv_at hl 0 rfl) ?_
      refine lv_iconst (v := 1) hx hb dX11_verdict_21 (by decide) ?_
      obtain ⟨r25, M26, hc27, h⟩ := bnd_inv h
      refine gV_i (As := [.int (1 : Int32)]) X hP hS hl.1 (c_X11_denied l D cA q aK aV hq hc27) sf_X11_denied bw_507 sv_X11_denied (rcC_11 sC_0) rfl ⟨rfl, rfl⟩ ⟨Nat.le_of_ble_eq_true rfl, Nat.le_of_ble_eq_true rfl⟩ rfl rfl (Nat.le_of_ble_eq_true rfl) dX11_verdict_22 (fun H locs hP hS => ?_)
      obtain ⟨g28, h⟩ := gd_inv h
      exact end_z X hr hk hP hS (Decidable.not_not.mp g28) h dX11_verdict_25
theorem dX11_sworn_0 : decode cX11_sworn 0 = .ok (.iload_n 1, 1) := by decide +kernel
theorem dX11_sworn_1 : decode cX11_sworn 1 = .ok (.iconst 1, 1) := by decide +kernel
theorem dX11_sworn_2 : decode cX11_sworn 2 = .ok (.if_icmp .lt 9, 3) := by decide +kernel
theorem dX11_sworn_5 : decode cX11_sworn 5 = .ok (.iload_n 1, 1) := by decide +kernel
theorem dX11_sworn_6 : decode cX11_sworn 6 = .ok (.bipush 6, 2) := by decide +kernel
theorem dX11_sworn_8 : decode cX11_sworn 8 = .ok (.if_icmp .le 9, 3) := by decide +kernel
theorem dX11_sworn_11 : decode cX11_sworn 11 = .ok (.aload_n 0, 1) := by decide +kernel
theorem dX11_sworn_12 : decode cX11_sworn 12 = .ok (.iconst 1, 1) := by decide +kernel
theorem dX11_sworn_13 : decode cX11_sworn 13 = .ok (.invokevirtual 132, 3) := by decide +kernel
theorem dX11_sworn_16 : decode cX11_sworn 16 = .ok (.ireturn, 1) := by decide +kernel
theorem dX11_sworn_17 : decode cX11_sworn 17 = .ok (.iload_n 1, 1) := by decide +kernel
theorem dX11_sworn_18 : decode cX11_sworn 18 = .ok (.aload_n 0, 1) := by decide +kernel
theorem dX11_sworn_19 : decode cX11_sworn 19 = .ok (.getfield 10, 3) := by decide +kernel
theorem dX11_sworn_22 : decode cX11_sworn 22 = .ok (.iconst 4, 1) := by decide +kernel
theorem dX11_sworn_23 : decode cX11_sworn 23 = .ok (.invokevirtual 167, 3) := by decide +kernel
theorem dX11_sworn_26 : decode cX11_sworn 26 = .ok (.if_icmp .le 10, 3) := by decide +kernel
theorem dX11_sworn_29 : decode cX11_sworn 29 = .ok (.aload_n 0, 1) := by decide +kernel
theorem dX11_sworn_30 : decode cX11_sworn 30 = .ok (.bipush 6, 2) := by decide +kernel
theorem dX11_sworn_32 : decode cX11_sworn 32 = .ok (.invokevirtual 132, 3) := by decide +kernel
theorem dX11_sworn_35 : decode cX11_sworn 35 = .ok (.ireturn, 1) := by decide +kernel
theorem dX11_sworn_36 : decode cX11_sworn 36 = .ok (.iconst 0, 1) := by decide +kernel
theorem dX11_sworn_37 : decode cX11_sworn 37 = .ok (.istore_n 2, 1) := by decide +kernel
theorem dX11_sworn_38 : decode cX11_sworn 38 = .ok (.ldc2_w 369, 3) := by decide +kernel
theorem dX11_sworn_41 : decode cX11_sworn 41 = .ok (.lstore_n 3, 1) := by decide +kernel
theorem dX11_sworn_42 : decode cX11_sworn 42 = .ok (.iconst 1, 1) := by decide +kernel
theorem dX11_sworn_43 : decode cX11_sworn 43 = .ok (.istore 5, 2) := by decide +kernel
theorem dX11_sworn_45 : decode cX11_sworn 45 = .ok (.iload 5, 2) := by decide +kernel
theorem dX11_sworn_47 : decode cX11_sworn 47 = .ok (.aload_n 0, 1) := by decide +kernel
theorem dX11_sworn_48 : decode cX11_sworn 48 = .ok (.getfield 10, 3) := by decide +kernel
theorem dX11_sworn_51 : decode cX11_sworn 51 = .ok (.iconst 4, 1) := by decide +kernel
theorem dX11_sworn_52 : decode cX11_sworn 52 = .ok (.invokevirtual 167, 3) := by decide +kernel
theorem dX11_sworn_55 : decode cX11_sworn 55 = .ok (.invokestatic 207, 3) := by decide +kernel
theorem dX11_sworn_58 : decode cX11_sworn 58 = .ok (.if_icmp .gt 48, 3) := by decide +kernel
theorem dX11_sworn_61 : decode cX11_sworn 61 = .ok (.iload 5, 2) := by decide +kernel
theorem dX11_sworn_63 : decode cX11_sworn 63 = .ok (.invokestatic 270, 3) := by decide +kernel
theorem dX11_sworn_66 : decode cX11_sworn 66 = .ok (.iload_n 1, 1) := by decide +kernel
theorem dX11_sworn_67 : decode cX11_sworn 67 = .ok (.if_icmp .ne 15, 3) := by decide +kernel
theorem dX11_sworn_70 : decode cX11_sworn 70 = .ok (.aload_n 0, 1) := by decide +kernel
theorem dX11_sworn_71 : decode cX11_sworn 71 = .ok (.getfield 10, 3) := by decide +kernel
theorem dX11_sworn_74 : decode cX11_sworn 74 = .ok (.iload 5, 2) := by decide +kernel
theorem dX11_sworn_76 : decode cX11_sworn 76 = .ok (.invokevirtual 366, 3) := by decide +kernel
theorem dX11_sworn_79 : decode cX11_sworn 79 = .ok (.goto 6, 3) := by decide +kernel
theorem dX11_sworn_82 : decode cX11_sworn 82 = .ok (.ldc2_w 369, 3) := by decide +kernel
theorem dX11_sworn_85 : decode cX11_sworn 85 = .ok (.lstore 6, 2) := by decide +kernel
theorem dX11_sworn_87 : decode cX11_sworn 87 = .ok (.lload 6, 2) := by decide +kernel
theorem dX11_sworn_89 : decode cX11_sworn 89 = .ok (.lload_n 3, 1) := by decide +kernel
theorem dX11_sworn_90 : decode cX11_sworn 90 = .ok (.lcmp, 1) := by decide +kernel
theorem dX11_sworn_91 : decode cX11_sworn 91 = .ok (.ifCond .le 9, 3) := by decide +kernel
theorem dX11_sworn_94 : decode cX11_sworn 94 = .ok (.iload 5, 2) := by decide +kernel
theorem dX11_sworn_96 : decode cX11_sworn 96 = .ok (.istore_n 2, 1) := by decide +kernel
theorem dX11_sworn_97 : decode cX11_sworn 97 = .ok (.lload 6, 2) := by decide +kernel
theorem dX11_sworn_99 : decode cX11_sworn 99 = .ok (.lstore_n 3, 1) := by decide +kernel
theorem dX11_sworn_100 : decode cX11_sworn 100 = .ok (.iinc 5 1, 3) := by decide +kernel
theorem dX11_sworn_103 : decode cX11_sworn 103 = .ok (.goto (-58), 3) := by decide +kernel
theorem dX11_sworn_106 : decode cX11_sworn 106 = .ok (.aload_n 0, 1) := by decide +kernel
theorem dX11_sworn_107 : decode cX11_sworn 107 = .ok (.iload_n 2, 1) := by decide +kernel
theorem dX11_sworn_108 : decode cX11_sworn 108 = .ok (.invokevirtual 191, 3) := by decide +kernel
theorem dX11_sworn_111 : decode cX11_sworn 111 = .ok (.ireturn, 1) := by decide +kernel
set_option maxRecDepth 100000 in
set_option maxHeartbeats 8000000 in
theorem c_X11_sworn (l : Launch) (D : va_G) (cA : Nat → ClassId) (q aK aV : Nat → Nat) (hq : injG 167 q) {a1 : Int32} {M M0 : Mem} {r0 : Int32} (h : f_X11_sworn a1 M = some (r0, M0)) : Met l yX11_sworn (.code yX11_sworn cX11_sworn 8 (some .int) :: BW) ({ frames := 4, cells := 0, slots := 0, locals := 85 } : Room) (va_Pc [.ref (q 0), .int a1] (CB 167 (ceC cA q) D cA q aK aV M)) (Qi 167 (ceC cA q) D q r0 M0) 0 0 (AqG 167 q) := by
  refine gMet RX11 (by decide +kernel) rfl hq (Nat.le_of_ble_eq_true rfl) ?_
  intro p e s m below meth c ls X hr hk hP hS hl
  have hx := X.1
  have hb := X.2.1
  have hl : lv_has ls 8 [(0, .ref (q 0)), (1, .int a1)] := hl
  rw [f_X11_sworn] at h
  have hL45 : ∀ (fu : Nat) (b2 : Int32) (b3 : Int64) (b5 : Int32) (M : Mem) (res : (Int32) × Mem) (H : Heap) (locs : List Loc) (ls : Array Slot), f_X11_sworn_L45 a1 fu b2 b3 b5 M = some res → va_P D vwCl (wsG 167 (ceC cA q) q M) H → va_S (AqG 167 q) s.heap H locs → lv_has ls 8 [(0, .ref (q 0)), (1, .int a1), (2, .int b2), (3, .long b3), (5, .int b5)] → (∀ (H : Heap) (locs : List Loc) (ls : Array Slot), va_P D vwCl (wsG 167 (ceC cA q) q res.2) H → va_S (AqG 167 q) s.heap H locs → lv_has ls 8 [(0, .ref (q 0)), (2, .int (res.1))] → W p l e ({ frames := 4, cells := 0, slots := 0, locals := 85 } : Room) s m [.ref (q 0), .int a1].toArray below meth c H locs 0 0 (MQ below (Qi 167 (ceC cA q) D q r0 M0) [.ref (q 0), .int a1].toArray s 0 0 (AqG 167 q)) (F0 m 106 ls [])) → W p l e ({ frames := 4, cells := 0, slots := 0, locals := 85 } : Room) s m [.ref (q 0), .int a1].toArray below meth c H locs 0 0 (MQ below (Qi 167 (ceC cA q) D q r0 M0) [.ref (q 0), .int a1].toArray s 0 0 (AqG 167 q)) (F0 m 45 ls []) := by
    intro fu
    induction fu with
    | zero => intro b2 b3 b5 M res H locs ls h; exact absurd h (by simp [f_X11_sworn_L45])
    | succ fu ih =>
      intro b2 b3 b5 M res H locs ls h hP hS hl K45_0
      rw [f_X11_sworn_L45] at h
      have hJ85 : ∀ (b2 : Int32) (b3 : Int64) (b5 : Int32) (s0 : Int64) (M : Mem) (H : Heap) (locs : List Loc) (ls : Array Slot), f_X11_sworn_J85 (f_X11_sworn_L45 a1 fu) a1 b2 b3 b5 s0 M = some res → va_P D vwCl (wsG 167 (ceC cA q) q M) H → va_S (AqG 167 q) s.heap H locs → lv_has ls 8 [(0, .ref (q 0)), (1, .int a1), (2, .int b2), (3, .long b3), (5, .int b5)] → W p l e ({ frames := 4, cells := 0, slots := 0, locals := 85 } : Room) s m [.ref (q 0), .int a1].toArray below meth c H locs 0 0 (MQ below (Qi 167 (ceC cA q) D q r0 M0) [.ref (q 0), .int a1].toArray s 0 0 (AqG 167 q)) (F0 m 85 ls [.long s0]) := by
        intro b2 b3 b5 s0 M H locs ls h hP hS hl
        rw [f_X11_sworn_J85] at h
        refine lv_lstore (lv' := [(6, .long s0), (0, .ref (q 0)), (1, .int a1), (2, .int b2), (3, .long b3), (5, .int b5)]) hx hb dX11_sworn_85 hl (by decide) rfl (fun ls hl => ?_)
        refine lv_lload hx hb dX11_sworn_87 (lv_at hl 0 rfl) ?_
        refine lv_lload_n hx hb dX11_sworn_89 rfl (lv_at hl 4 rfl) ?_
        refine W.lcmp hx hb dX11_sworn_90 ?_
        refine lv_if_le (tgt := 100) hx hb dX11_sworn_91 (by decide) (fun c40 => ?_) (fun c40 => ?_)
        · rw [if_pos c40] at h
          obtain ⟨y41, ey41, h⟩ := lt_inv h
          refine lv_iinc (v := y41) (lv' := [(5, .int y41), (6, .long s0), (0, .ref (q 0)), (1, .int a1), (2, .int b2), (3, .long b3)]) hx hb dX11_sworn_100 hl (k := 5) rfl (by rw [ey41]; rfl) (by decide) rfl (fun ls hl => ?_)
          refine lv_goto (tgt := 45) hx hb dX11_sworn_103 (by decide) ?_
          exact ih _ _ _ _ res _ _ _ h hP hS (lv_sub hl [2, 3, 4, 5, 0] rfl) K45_0
        · rw [if_neg c40] at h
          refine lv_iload hx hb dX11_sworn_94 (lv_at hl 5 rfl) ?_
          refine lv_istore_n (lv' := [(2, .int b5), (6, .long s0), (0, .ref (q 0)), (1, .int a1), (3, .long b3), (5, .int b5)]) hx hb dX11_sworn_96 rfl hl (by decide) rfl (fun ls hl => ?_)
          refine lv_lload hx hb dX11_sworn_97 (lv_at hl 1 rfl) ?_
          refine lv_lstore_n (lv' := [(3, .long s0), (2, .int b5), (6, .long s0), (0, .ref (q 0)), (1, .int a1), (5, .int b5)]) hx hb dX11_sworn_99 rfl hl (by decide) rfl (fun ls hl => ?_)
          obtain ⟨y42, ey42, h⟩ := lt_inv h
          refine lv_iinc (v := y42) (lv' := [(5, .int y42), (3, .long s0), (2, .int b5), (6, .long s0), (0, .ref (q 0)), (1, .int a1)]) hx hb dX11_sworn_100 hl (k := 5) rfl (by rw [ey42]; rfl) (by decide) rfl (fun ls hl => ?_)
          refine lv_goto (tgt := 45) hx hb dX11_sworn_103 (by decide) ?_
          exact ih _ _ _ _ res _ _ _ h hP hS (lv_sub hl [4, 5, 2, 1, 0] rfl) K45_0
      refine lv_iload hx hb dX11_sworn_45 (lv_at hl 4 rfl) ?_
      refine lv_aload_n hx hb dX11_sworn_47 rfl (lv_at hl 0 rfl) ?_
      refine gfC_11_0 X hP sC_0 bw_430 dX11_sworn_48 ?_
      obtain ⟨g24, h⟩ := gd_inv h
      have g24 := Decidable.not_not.mp g24
      refine lv_iconst (v := 4) hx hb dX11_sworn_51 (by decide) ?_
      obtain ⟨r25, M26, hc27, h⟩ := bnd_inv h
      refine gV_i (As := [.int (4 : Int32)]) X hP hS hl.1 (c_X0_countOf l D cA q aK aV hq g24 hc27) sf_X0_countOf bw_750 sv_X0_countOf (rcC_0 g24) rfl ⟨rfl, rfl⟩ ⟨Nat.le_of_ble_eq_true rfl, Nat.le_of_ble_eq_true rfl⟩ rfl rfl (Nat.le_of_ble_eq_true rfl) dX11_sworn_52 (fun H locs hP hS => ?_)
      obtain ⟨r28, M29, hc30, h⟩ := bnd_inv h
      refine gS_i (As := [.int r25]) X hP hS hl.1 (c_X11_setOfAll l D cA q aK aV hq hc30) sf_X11_setOfAll bw_818 ss_X11_setOfAll ⟨rfl, rfl⟩ ⟨Nat.le_of_ble_eq_true rfl, Nat.le_of_ble_eq_true rfl⟩ rfl rfl (Nat.le_of_ble_eq_true rfl) dX11_sworn_55 (fun H locs hP hS => ?_)
      refine lv_icmp_gt (tgt := 106) hx hb dX11_sworn_58 (by decide) (fun c31 => ?_) (fun c31 => ?_)
      · rw [if_pos c31] at h
        cases h
        exact K45_0 _ _ _ hP hS (lv_sub hl [0, 2] rfl)
      · rw [if_neg c31] at h
        refine lv_iload hx hb dX11_sworn_61 (lv_at hl 4 rfl) ?_
        obtain ⟨r32, M33, hc34, h⟩ := bnd_inv h
        refine gS_i (As := [.int b5]) X hP hS hl.1 (c_J6_bitCount_0f7a4_C l D cA q aK aV hq hc34) sf_J6_bitCount_0f7a4 bw_894 ss_J6_bitCount_0f7a4 ⟨rfl, rfl⟩ ⟨Nat.le_of_ble_eq_true rfl, Nat.le_of_ble_eq_true rfl⟩ rfl rfl (Nat.le_of_ble_eq_true rfl) dX11_sworn_63 (fun H locs hP hS => ?_)
        refine lv_iload_n hx hb dX11_sworn_66 rfl (lv_at hl 1 rfl) ?_
        refine lv_icmp_ne (tgt := 82) hx hb dX11_sworn_67 (by decide) (fun c35 => ?_) (fun c35 => ?_)
        · rw [if_neg c35] at h
          refine lv_ldc2 hx hb X.2.2.2.1 (X.2.2.2.2.1 _ bw_1117) dX11_sworn_82 ?_
          exact hJ85 _ _ _ _ _ _ _ _ h hP hS (lv_sub hl [0, 1, 2, 3, 4] rfl)
        · rw [if_pos c35] at h
          refine lv_aload_n hx hb dX11_sworn_70 rfl (lv_at hl 0 rfl) ?_
          refine gfC_11_0 X hP sC_0 bw_430 dX11_sworn_71 ?_
          obtain ⟨g36, h⟩ := gd_inv h
          have g36 := Decidable.not_not.mp g36
          refine lv_iload hx hb dX11_sworn_74 (lv_at hl 4 rfl) ?_
          obtain ⟨r37, M38, hc39, h⟩ := bnd_inv h
          refine gV_l (As := [.int b5]) X hP hS hl.1 (c_X0_rightWeight l D cA q aK aV hq g36 hc39) sf_X0_rightWeight bw_1104 sv_X0_rightWeight (rcC_0 g36) rfl ⟨rfl, rfl⟩ ⟨Nat.le_of_ble_eq_true rfl, Nat.le_of_ble_eq_true rfl⟩ rfl rfl (Nat.le_of_ble_eq_true rfl) dX11_sworn_76 (fun H locs hP hS => ?_)
          refine lv_goto (tgt := 85) hx hb dX11_sworn_79 (by decide) ?_
          exact hJ85 _ _ _ _ _ _ _ _ h hP hS (lv_sub hl [0, 1, 2, 3, 4] rfl)
  refine lv_iload_n hx hb dX11_sworn_0 rfl (lv_at hl 1 rfl) ?_
  refine lv_iconst (v := 1) hx hb dX11_sworn_1 (by decide) ?_
  refine lv_icmp_lt (tgt := 11) hx hb dX11_sworn_2 (by decide) (fun c1 => ?_) (fun c1 => ?_)
  · rw [if_pos c1] at h
    refine lv_aload_n hx hb dX11_sworn_11 rfl (lv_at hl 0 rfl) ?_
    refine lv_iconst (v := 1) hx hb dX11_sworn_12 (by decide) ?_
    obtain ⟨r2, M3, hc4, h⟩ := bnd_inv h
    refine gV_i (As := [.int (1 : Int32)]) X hP hS hl.1 (c_X11_refused l D cA q aK aV hq hc4) sf_X11_refused bw_552 sv_X11_refused (rcC_11 sC_0) rfl ⟨rfl, rfl⟩ ⟨Nat.le_of_ble_eq_true rfl, Nat.le_of_ble_eq_true rfl⟩ rfl rfl (Nat.le_of_ble_eq_true rfl) dX11_sworn_13 (fun H locs hP hS => ?_)
    exact end_i X hr hk hP hS h dX11_sworn_16
  · rw [if_neg c1] at h
    refine lv_iload_n hx hb dX11_sworn_5 rfl (lv_at hl 1 rfl) ?_
    refine lv_bipush (v := 6) hx hb dX11_sworn_6 (by decide) ?_
    refine lv_icmp_le (tgt := 17) hx hb dX11_sworn_8 (by decide) (fun c5 => ?_) (fun c5 => ?_)
    · rw [if_pos c5] at h
      refine lv_iload_n hx hb dX11_sworn_17 rfl (lv_at hl 1 rfl) ?_
      refine lv_aload_n hx hb dX11_sworn_18 rfl (lv_at hl 0 rfl) ?_
      refine gfC_11_0 X hP sC_0 bw_430 dX11_sworn_19 ?_
      obtain ⟨g6, h⟩ := gd_inv h
      have g6 := Decidable.not_not.mp g6
      refine lv_iconst (v := 4) hx hb dX11_sworn_22 (by decide) ?_
      obtain ⟨r7, M8, hc9, h⟩ := bnd_inv h
      refine gV_i (As := [.int (4 : Int32)]) X hP hS hl.1 (c_X0_countOf l D cA q aK aV hq g6 hc9) sf_X0_countOf bw_750 sv_X0_countOf (rcC_0 g6) rfl ⟨rfl, rfl⟩ ⟨Nat.le_of_ble_eq_true rfl, Nat.le_of_ble_eq_true rfl⟩ rfl rfl (Nat.le_of_ble_eq_true rfl) dX11_sworn_23 (fun H locs hP hS => ?_)
      refine lv_icmp_le (tgt := 36) hx hb dX11_sworn_26 (by decide) (fun c10 => ?_) (fun c10 => ?_)
      · rw [if_pos c10] at h
        refine lv_iconst (v := 0) hx hb dX11_sworn_36 (by decide) ?_
        refine lv_istore_n (lv' := [(2, .int (0 : Int32)), (0, .ref (q 0)), (1, .int a1)]) hx hb dX11_sworn_37 rfl hl (by decide) rfl (fun ls hl => ?_)
        refine lv_ldc2 hx hb X.2.2.2.1 (X.2.2.2.2.1 _ bw_1117) dX11_sworn_38 ?_
        refine lv_lstore_n (lv' := [(3, .long (-1 : Int64)), (2, .int (0 : Int32)), (0, .ref (q 0)), (1, .int a1)]) hx hb dX11_sworn_41 rfl hl (by decide) rfl (fun ls hl => ?_)
        refine lv_iconst (v := 1) hx hb dX11_sworn_42 (by decide) ?_
        refine lv_istore (lv' := [(5, .int (1 : Int32)), (3, .long (-1 : Int64)), (2, .int (0 : Int32)), (0, .ref (q 0)), (1, .int a1)]) hx hb dX11_sworn_43 hl (by decide) rfl (fun ls hl => ?_)
        obtain ⟨s11, M12, hc13, h⟩ := bnd_inv h
        obtain ⟨x14, rfl⟩ : ∃ z, z = s11 := ⟨_, rfl⟩
        try dsimp only at h
        refine hL45  fz _ _ _ _ _ _ _ _ hc13 hP hS (lv_sub hl [3, 4, 2, 1, 0] rfl) (fun H locs ls hP hS hl => ?_)
        have hl : lv_has ls 8 [(0, .ref (q 0)), (2, .int x14)] := hl
        refine lv_aload_n hx hb dX11_sworn_106 rfl (lv_at hl 0 rfl) ?_
        refine lv_iload_n hx hb dX11_sworn_107 rfl (lv_at hl 1 rfl) ?_
        obtain ⟨r15, M16, hc17, h⟩ := bnd_inv h
        refine gV_i (As := [.int x14]) X hP hS hl.1 (c_X11_given l D cA q aK aV hq hc17) sf_X11_given bw_755 sv_X11_given (rcC_11 sC_0) rfl ⟨rfl, rfl⟩ ⟨Nat.le_of_ble_eq_true rfl, Nat.le_of_ble_eq_true rfl⟩ rfl rfl (Nat.le_of_ble_eq_true rfl) dX11_sworn_108 (fun H locs hP hS => ?_)
        exact end_i X hr hk hP hS h dX11_sworn_111
      · rw [if_neg c10] at h
        refine lv_aload_n hx hb dX11_sworn_29 rfl (lv_at hl 0 rfl) ?_
        refine lv_bipush (v := 6) hx hb dX11_sworn_30 (by decide) ?_
        obtain ⟨r18, M19, hc20, h⟩ := bnd_inv h
        refine gV_i (As := [.int (6 : Int32)]) X hP hS hl.1 (c_X11_refused l D cA q aK aV hq hc20) sf_X11_refused bw_552 sv_X11_refused (rcC_11 sC_0) rfl ⟨rfl, rfl⟩ ⟨Nat.le_of_ble_eq_true rfl, Nat.le_of_ble_eq_true rfl⟩ rfl rfl (Nat.le_of_ble_eq_true rfl) dX11_sworn_32 (fun H locs hP hS => ?_)
        exact end_i X hr hk hP hS h dX11_sworn_35
    · rw [if_neg c5] at h
      refine lv_aload_n hx hb dX11_sworn_11 rfl (lv_at hl 0 rfl) ?_
      refine lv_iconst (v := 1) hx hb dX11_sworn_12 (by decide) ?_
      obtain ⟨r21, M22, hc23, h⟩ := bnd_inv h
      refine gV_i (As := [.int (1 : Int32)]) X hP hS hl.1 (c_X11_refused l D cA q aK aV hq hc23) sf_X11_refused bw_552 sv_X11_refused (rcC_11 sC_0) rfl ⟨rfl, rfl⟩ ⟨Nat.le_of_ble_eq_true rfl, Nat.le_of_ble_eq_true rfl⟩ rfl rfl (Nat.le_of_ble_eq_true rfl) dX11_sworn_13 (fun H locs hP hS => ?_)
      exact end_i X hr hk hP hS h dX11_sworn_16
theorem dX11_ordersOf_0 : decode cX11_ordersOf 0 = .ok (.iconst 1, 1) := by decide +kernel
theorem dX11_ordersOf_1 : decode cX11_ordersOf 1 = .ok (.istore_n 1, 1) := by decide +kernel
theorem dX11_ordersOf_2 : decode cX11_ordersOf 2 = .ok (.iconst 2, 1) := by decide +kernel
theorem dX11_ordersOf_3 : decode cX11_ordersOf 3 = .ok (.istore_n 2, 1) := by decide +kernel
theorem dX11_ordersOf_4 : decode cX11_ordersOf 4 = .ok (.iload_n 2, 1) := by decide +kernel
theorem dX11_ordersOf_5 : decode cX11_ordersOf 5 = .ok (.iload_n 0, 1) := by decide +kernel
theorem dX11_ordersOf_6 : decode cX11_ordersOf 6 = .ok (.if_icmp .gt 19, 3) := by decide +kernel
theorem dX11_ordersOf_9 : decode cX11_ordersOf 9 = .ok (.iload_n 2, 1) := by decide +kernel
theorem dX11_ordersOf_10 : decode cX11_ordersOf 10 = .ok (.bipush 6, 2) := by decide +kernel
theorem dX11_ordersOf_12 : decode cX11_ordersOf 12 = .ok (.if_icmp .gt 13, 3) := by decide +kernel
theorem dX11_ordersOf_15 : decode cX11_ordersOf 15 = .ok (.iload_n 1, 1) := by decide +kernel
theorem dX11_ordersOf_16 : decode cX11_ordersOf 16 = .ok (.iload_n 2, 1) := by decide +kernel
theorem dX11_ordersOf_17 : decode cX11_ordersOf 17 = .ok (.imul, 1) := by decide +kernel
theorem dX11_ordersOf_18 : decode cX11_ordersOf 18 = .ok (.istore_n 1, 1) := by decide +kernel
theorem dX11_ordersOf_19 : decode cX11_ordersOf 19 = .ok (.iinc 2 1, 3) := by decide +kernel
theorem dX11_ordersOf_22 : decode cX11_ordersOf 22 = .ok (.goto (-18), 3) := by decide +kernel
theorem dX11_ordersOf_25 : decode cX11_ordersOf 25 = .ok (.iload_n 1, 1) := by decide +kernel
theorem dX11_ordersOf_26 : decode cX11_ordersOf 26 = .ok (.ireturn, 1) := by decide +kernel
set_option maxRecDepth 100000 in
set_option maxHeartbeats 8000000 in
theorem c_X11_ordersOf (l : Launch) (D : va_G) (cA : Nat → ClassId) (q aK aV : Nat → Nat) (hq : injG 167 q) {a0 : Int32} {M M0 : Mem} {r0 : Int32} (h : f_X11_ordersOf a0 M = some (r0, M0)) : Met l yX11_ordersOf (.code yX11_ordersOf cX11_ordersOf 3 (some .int) :: BW) ({ frames := 1, cells := 0, slots := 0, locals := 14 } : Room) (va_Pc [.int a0] (CB 167 (ceC cA q) D cA q aK aV M)) (Qi 167 (ceC cA q) D q r0 M0) 0 0 (AqG 167 q) := by
  refine gMet RX11 (by decide +kernel) rfl hq (Nat.le_of_ble_eq_true rfl) ?_
  intro p e s m below meth c ls X hr hk hP hS hl
  have hx := X.1
  have hb := X.2.1
  have hl : lv_has ls 3 [(0, .int a0)] := hl
  rw [f_X11_ordersOf] at h
  have hL4 : ∀ (fu : Nat) (b1 : Int32) (b2 : Int32) (M : Mem) (res : (Int32) × Mem) (H : Heap) (locs : List Loc) (ls : Array Slot), f_X11_ordersOf_L4 a0 fu b1 b2 M = some res → va_P D vwCl (wsG 167 (ceC cA q) q M) H → va_S (AqG 167 q) s.heap H locs → lv_has ls 3 [(0, .int a0), (1, .int b1), (2, .int b2)] → (∀ (H : Heap) (locs : List Loc) (ls : Array Slot), va_P D vwCl (wsG 167 (ceC cA q) q res.2) H → va_S (AqG 167 q) s.heap H locs → lv_has ls 3 [(1, .int (res.1))] → W p l e ({ frames := 1, cells := 0, slots := 0, locals := 14 } : Room) s m [.int a0].toArray below meth c H locs 0 0 (MQ below (Qi 167 (ceC cA q) D q r0 M0) [.int a0].toArray s 0 0 (AqG 167 q)) (F0 m 25 ls [])) → W p l e ({ frames := 1, cells := 0, slots := 0, locals := 14 } : Room) s m [.int a0].toArray below meth c H locs 0 0 (MQ below (Qi 167 (ceC cA q) D q r0 M0) [.int a0].toArray s 0 0 (AqG 167 q)) (F0 m 4 ls []) := by
    intro fu
    induction fu with
    | zero => intro b1 b2 M res H locs ls h; exact absurd h (by simp [f_X11_ordersOf_L4])
    | succ fu ih =>
      intro b1 b2 M res H locs ls h hP hS hl K4_0
      rw [f_X11_ordersOf_L4] at h
      refine lv_iload_n hx hb dX11_ordersOf_4 rfl (lv_at hl 2 rfl) ?_
      refine lv_iload_n hx hb dX11_ordersOf_5 rfl (lv_at hl 0 rfl) ?_
      refine lv_icmp_gt (tgt := 25) hx hb dX11_ordersOf_6 (by decide) (fun c5 => ?_) (fun c5 => ?_)
      · rw [if_pos c5] at h
        cases h
        exact K4_0 _ _ _ hP hS (lv_sub hl [1] rfl)
      · rw [if_neg c5] at h
        refine lv_iload_n hx hb dX11_ordersOf_9 rfl (lv_at hl 2 rfl) ?_
        refine lv_bipush (v := 6) hx hb dX11_ordersOf_10 (by decide) ?_
        refine lv_icmp_gt (tgt := 25) hx hb dX11_ordersOf_12 (by decide) (fun c6 => ?_) (fun c6 => ?_)
        · rw [if_pos c6] at h
          cases h
          exact K4_0 _ _ _ hP hS (lv_sub hl [1] rfl)
        · rw [if_neg c6] at h
          refine lv_iload_n hx hb dX11_ordersOf_15 rfl (lv_at hl 1 rfl) ?_
          refine lv_iload_n hx hb dX11_ordersOf_16 rfl (lv_at hl 2 rfl) ?_
          refine lv_imul hx hb dX11_ordersOf_17 ?_
          obtain ⟨y7, ey7, h⟩ := lt_inv h
          refine topE ey7 ?_
          refine lv_istore_n (lv' := [(1, .int y7), (0, .int a0), (2, .int b2)]) hx hb dX11_ordersOf_18 rfl hl (by decide) rfl (fun ls hl => ?_)
          obtain ⟨y8, ey8, h⟩ := lt_inv h
          refine lv_iinc (v := y8) (lv' := [(2, .int y8), (1, .int y7), (0, .int a0)]) hx hb dX11_ordersOf_19 hl (k := 2) rfl (by rw [ey8]; rfl) (by decide) rfl (fun ls hl => ?_)
          refine lv_goto (tgt := 4) hx hb dX11_ordersOf_22 (by decide) ?_
          exact ih _ _ _ res _ _ _ h hP hS (lv_sub hl [2, 1, 0] rfl) K4_0
  refine lv_iconst (v := 1) hx hb dX11_ordersOf_0 (by decide) ?_
  refine lv_istore_n (lv' := [(1, .int (1 : Int32)), (0, .int a0)]) hx hb dX11_ordersOf_1 rfl hl (by decide) rfl (fun ls hl => ?_)
  refine lv_iconst (v := 2) hx hb dX11_ordersOf_2 (by decide) ?_
  refine lv_istore_n (lv' := [(2, .int (2 : Int32)), (1, .int (1 : Int32)), (0, .int a0)]) hx hb dX11_ordersOf_3 rfl hl (by decide) rfl (fun ls hl => ?_)
  obtain ⟨s1, M2, hc3, h⟩ := bnd_inv h
  obtain ⟨x4, rfl⟩ : ∃ z, z = s1 := ⟨_, rfl⟩
  try dsimp only at h
  refine hL4  fz _ _ _ _ _ _ _ hc3 hP hS (lv_sub hl [2, 1, 0] rfl) (fun H locs ls hP hS hl => ?_)
  have hl : lv_has ls 3 [(1, .int x4)] := hl
  refine lv_iload_n hx hb dX11_ordersOf_25 rfl (lv_at hl 0 rfl) ?_
  exact end_i X hr hk hP hS h dX11_ordersOf_26
theorem dX11_power_0 : decode cX11_power 0 = .ok (.aload_n 0, 1) := by decide +kernel
theorem dX11_power_1 : decode cX11_power 1 = .ok (.getfield 10, 3) := by decide +kernel
theorem dX11_power_4 : decode cX11_power 4 = .ok (.iconst 4, 1) := by decide +kernel
theorem dX11_power_5 : decode cX11_power 5 = .ok (.iload_n 1, 1) := by decide +kernel
theorem dX11_power_6 : decode cX11_power 6 = .ok (.invokevirtual 213, 3) := by decide +kernel
theorem dX11_power_9 : decode cX11_power 9 = .ok (.ifCond .ne 9, 3) := by decide +kernel
theorem dX11_power_12 : decode cX11_power 12 = .ok (.aload_n 0, 1) := by decide +kernel
theorem dX11_power_13 : decode cX11_power 13 = .ok (.iconst 1, 1) := by decide +kernel
theorem dX11_power_14 : decode cX11_power 14 = .ok (.invokevirtual 108, 3) := by decide +kernel
theorem dX11_power_17 : decode cX11_power 17 = .ok (.ireturn, 1) := by decide +kernel
theorem dX11_power_18 : decode cX11_power 18 = .ok (.aload_n 0, 1) := by decide +kernel
theorem dX11_power_19 : decode cX11_power 19 = .ok (.getfield 10, 3) := by decide +kernel
theorem dX11_power_22 : decode cX11_power 22 = .ok (.iconst 4, 1) := by decide +kernel
theorem dX11_power_23 : decode cX11_power 23 = .ok (.invokevirtual 167, 3) := by decide +kernel
theorem dX11_power_26 : decode cX11_power 26 = .ok (.istore_n 2, 1) := by decide +kernel
theorem dX11_power_27 : decode cX11_power 27 = .ok (.aload_n 0, 1) := by decide +kernel
theorem dX11_power_28 : decode cX11_power 28 = .ok (.getfield 10, 3) := by decide +kernel
theorem dX11_power_31 : decode cX11_power 31 = .ok (.iload_n 2, 1) := by decide +kernel
theorem dX11_power_32 : decode cX11_power 32 = .ok (.invokestatic 207, 3) := by decide +kernel
theorem dX11_power_35 : decode cX11_power 35 = .ok (.invokevirtual 210, 3) := by decide +kernel
theorem dX11_power_38 : decode cX11_power 38 = .ok (.istore_n 3, 1) := by decide +kernel
theorem dX11_power_39 : decode cX11_power 39 = .ok (.iconst 0, 1) := by decide +kernel
theorem dX11_power_40 : decode cX11_power 40 = .ok (.istore 4, 2) := by decide +kernel
theorem dX11_power_42 : decode cX11_power 42 = .ok (.iconst 0, 1) := by decide +kernel
theorem dX11_power_43 : decode cX11_power 43 = .ok (.istore 5, 2) := by decide +kernel
theorem dX11_power_45 : decode cX11_power 45 = .ok (.iload 5, 2) := by decide +kernel
theorem dX11_power_47 : decode cX11_power 47 = .ok (.iload_n 2, 1) := by decide +kernel
theorem dX11_power_48 : decode cX11_power 48 = .ok (.invokestatic 207, 3) := by decide +kernel
theorem dX11_power_51 : decode cX11_power 51 = .ok (.if_icmp .gt 91, 3) := by decide +kernel
theorem dX11_power_54 : decode cX11_power 54 = .ok (.iload 5, 2) := by decide +kernel
theorem dX11_power_56 : decode cX11_power 56 = .ok (.iload_n 1, 1) := by decide +kernel
theorem dX11_power_57 : decode cX11_power 57 = .ok (.invokestatic 336, 3) := by decide +kernel
theorem dX11_power_60 : decode cX11_power 60 = .ok (.ifCond .ne 41, 3) := by decide +kernel
theorem dX11_power_63 : decode cX11_power 63 = .ok (.iconst 2, 1) := by decide +kernel
theorem dX11_power_64 : decode cX11_power 64 = .ok (.aload_n 0, 1) := by decide +kernel
theorem dX11_power_65 : decode cX11_power 65 = .ok (.getfield 10, 3) := by decide +kernel
theorem dX11_power_68 : decode cX11_power 68 = .ok (.iload 5, 2) := by decide +kernel
theorem dX11_power_70 : decode cX11_power 70 = .ok (.invokevirtual 210, 3) := by decide +kernel
theorem dX11_power_73 : decode cX11_power 73 = .ok (.imul, 1) := by decide +kernel
theorem dX11_power_74 : decode cX11_power 74 = .ok (.iload_n 3, 1) := by decide +kernel
theorem dX11_power_75 : decode cX11_power 75 = .ok (.if_icmp .gt 26, 3) := by decide +kernel
theorem dX11_power_78 : decode cX11_power 78 = .ok (.iconst 2, 1) := by decide +kernel
theorem dX11_power_79 : decode cX11_power 79 = .ok (.aload_n 0, 1) := by decide +kernel
theorem dX11_power_80 : decode cX11_power 80 = .ok (.getfield 10, 3) := by decide +kernel
theorem dX11_power_83 : decode cX11_power 83 = .ok (.iload 5, 2) := by decide +kernel
theorem dX11_power_85 : decode cX11_power 85 = .ok (.iconst 1, 1) := by decide +kernel
theorem dX11_power_86 : decode cX11_power 86 = .ok (.iload_n 1, 1) := by decide +kernel
theorem dX11_power_87 : decode cX11_power 87 = .ok (.ishl, 1) := by decide +kernel
theorem dX11_power_88 : decode cX11_power 88 = .ok (.ior, 1) := by decide +kernel
theorem dX11_power_89 : decode cX11_power 89 = .ok (.invokevirtual 210, 3) := by decide +kernel
theorem dX11_power_92 : decode cX11_power 92 = .ok (.imul, 1) := by decide +kernel
theorem dX11_power_93 : decode cX11_power 93 = .ok (.iload_n 3, 1) := by decide +kernel
theorem dX11_power_94 : decode cX11_power 94 = .ok (.if_icmp .le 7, 3) := by decide +kernel
theorem dX11_power_97 : decode cX11_power 97 = .ok (.iconst 1, 1) := by decide +kernel
theorem dX11_power_98 : decode cX11_power 98 = .ok (.goto 4, 3) := by decide +kernel
theorem dX11_power_101 : decode cX11_power 101 = .ok (.iconst 0, 1) := by decide +kernel
theorem dX11_power_102 : decode cX11_power 102 = .ok (.istore 6, 2) := by decide +kernel
theorem dX11_power_104 : decode cX11_power 104 = .ok (.iload 6, 2) := by decide +kernel
theorem dX11_power_106 : decode cX11_power 106 = .ok (.ifCond .eq 30, 3) := by decide +kernel
theorem dX11_power_109 : decode cX11_power 109 = .ok (.iload 5, 2) := by decide +kernel
theorem dX11_power_111 : decode cX11_power 111 = .ok (.invokestatic 270, 3) := by decide +kernel
theorem dX11_power_114 : decode cX11_power 114 = .ok (.istore 7, 2) := by decide +kernel
theorem dX11_power_116 : decode cX11_power 116 = .ok (.iload 4, 2) := by decide +kernel
theorem dX11_power_118 : decode cX11_power 118 = .ok (.iload 7, 2) := by decide +kernel
theorem dX11_power_120 : decode cX11_power 120 = .ok (.invokestatic 371, 3) := by decide +kernel
theorem dX11_power_123 : decode cX11_power 123 = .ok (.iload_n 2, 1) := by decide +kernel
theorem dX11_power_124 : decode cX11_power 124 = .ok (.iconst 1, 1) := by decide +kernel
theorem dX11_power_125 : decode cX11_power 125 = .ok (.isub, 1) := by decide +kernel
theorem dX11_power_126 : decode cX11_power 126 = .ok (.iload 7, 2) := by decide +kernel
theorem dX11_power_128 : decode cX11_power 128 = .ok (.isub, 1) := by decide +kernel
theorem dX11_power_129 : decode cX11_power 129 = .ok (.invokestatic 371, 3) := by decide +kernel
theorem dX11_power_132 : decode cX11_power 132 = .ok (.imul, 1) := by decide +kernel
theorem dX11_power_133 : decode cX11_power 133 = .ok (.iadd, 1) := by decide +kernel
theorem dX11_power_134 : decode cX11_power 134 = .ok (.istore 4, 2) := by decide +kernel
theorem dX11_power_136 : decode cX11_power 136 = .ok (.iinc 5 1, 3) := by decide +kernel
theorem dX11_power_139 : decode cX11_power 139 = .ok (.goto (-94), 3) := by decide +kernel
theorem dX11_power_142 : decode cX11_power 142 = .ok (.aload_n 0, 1) := by decide +kernel
theorem dX11_power_143 : decode cX11_power 143 = .ok (.iload 4, 2) := by decide +kernel
theorem dX11_power_145 : decode cX11_power 145 = .ok (.i2l, 1) := by decide +kernel
theorem dX11_power_146 : decode cX11_power 146 = .ok (.iload_n 2, 1) := by decide +kernel
theorem dX11_power_147 : decode cX11_power 147 = .ok (.invokestatic 371, 3) := by decide +kernel
theorem dX11_power_150 : decode cX11_power 150 = .ok (.i2l, 1) := by decide +kernel
theorem dX11_power_151 : decode cX11_power 151 = .ok (.invokevirtual 341, 3) := by decide +kernel
theorem dX11_power_154 : decode cX11_power 154 = .ok (.ireturn, 1) := by decide +kernel
set_option maxRecDepth 100000 in
set_option maxHeartbeats 8000000 in
theorem c_X11_power (l : Launch) (D : va_G) (cA : Nat → ClassId) (q aK aV : Nat → Nat) (hq : injG 167 q) {a1 : Int32} {M M0 : Mem} {r0 : Int32} (h : f_X11_power a1 M = some (r0, M0)) : Met l yX11_power (.code yX11_power cX11_power 8 (some .boolean) :: BW) ({ frames := 3, cells := 0, slots := 0, locals := 78 } : Room) (va_Pc [.ref (q 0), .int a1] (CB 167 (ceC cA q) D cA q aK aV M)) (Qi 167 (ceC cA q) D q r0 M0) 0 0 (AqG 167 q) := by
  refine gMet RX11 (by decide +kernel) rfl hq (Nat.le_of_ble_eq_true rfl) ?_
  intro p e s m below meth c ls X hr hk hP hS hl
  have hx := X.1
  have hb := X.2.1
  have hl : lv_has ls 8 [(0, .ref (q 0)), (1, .int a1)] := hl
  rw [f_X11_power] at h
  have hL45 : ∀ (b2 : Int32) (b3 : Int32) (fu : Nat) (b4 : Int32) (b5 : Int32) (M : Mem) (res : (Int32) × Mem) (H : Heap) (locs : List Loc) (ls : Array Slot), f_X11_power_L45 a1 b2 b3 fu b4 b5 M = some res → va_P D vwCl (wsG 167 (ceC cA q) q M) H → va_S (AqG 167 q) s.heap H locs → lv_has ls 8 [(0, .ref (q 0)), (1, .int a1), (2, .int b2), (3, .int b3), (4, .int b4), (5, .int b5)] → (∀ (H : Heap) (locs : List Loc) (ls : Array Slot), va_P D vwCl (wsG 167 (ceC cA q) q res.2) H → va_S (AqG 167 q) s.heap H locs → lv_has ls 8 [(0, .ref (q 0)), (2, .int b2), (4, .int (res.1))] → W p l e ({ frames := 3, cells := 0, slots := 0, locals := 78 } : Room) s m [.ref (q 0), .int a1].toArray below meth c H locs 0 0 (MQ below (Qi 167 (ceC cA q) D q r0 M0) [.ref (q 0), .int a1].toArray s 0 0 (AqG 167 q)) (F0 m 142 ls [])) → W p l e ({ frames := 3, cells := 0, slots := 0, locals := 78 } : Room) s m [.ref (q 0), .int a1].toArray below meth c H locs 0 0 (MQ below (Qi 167 (ceC cA q) D q r0 M0) [.ref (q 0), .int a1].toArray s 0 0 (AqG 167 q)) (F0 m 45 ls []) := by
    intro b2 b3 fu
    induction fu with
    | zero => intro b4 b5 M res H locs ls h; exact absurd h (by simp [f_X11_power_L45])
    | succ fu ih =>
      intro b4 b5 M res H locs ls h hP hS hl K45_0
      rw [f_X11_power_L45] at h
      have hJ102 : ∀ (b4 : Int32) (b5 : Int32) (s0 : Int32) (M : Mem) (H : Heap) (locs : List Loc) (ls : Array Slot), f_X11_power_J102 (f_X11_power_L45 a1 b2 b3 fu) a1 b2 b3 b4 b5 s0 M = some res → va_P D vwCl (wsG 167 (ceC cA q) q M) H → va_S (AqG 167 q) s.heap H locs → lv_has ls 8 [(0, .ref (q 0)), (1, .int a1), (2, .int b2), (3, .int b3), (4, .int b4), (5, .int b5)] → W p l e ({ frames := 3, cells := 0, slots := 0, locals := 78 } : Room) s m [.ref (q 0), .int a1].toArray below meth c H locs 0 0 (MQ below (Qi 167 (ceC cA q) D q r0 M0) [.ref (q 0), .int a1].toArray s 0 0 (AqG 167 q)) (F0 m 102 ls [.int s0]) := by
        intro b4 b5 s0 M H locs ls h hP hS hl
        rw [f_X11_power_J102] at h
        refine lv_istore (lv' := [(6, .int s0), (0, .ref (q 0)), (1, .int a1), (2, .int b2), (3, .int b3), (4, .int b4), (5, .int b5)]) hx hb dX11_power_102 hl (by decide) rfl (fun ls hl => ?_)
        refine lv_iload hx hb dX11_power_104 (lv_at hl 0 rfl) ?_
        refine lv_if_eq (tgt := 136) hx hb dX11_power_106 (by decide) (fun c50 => ?_) (fun c50 => ?_)
        · rw [if_pos c50] at h
          obtain ⟨y51, ey51, h⟩ := lt_inv h
          refine lv_iinc (v := y51) (lv' := [(5, .int y51), (6, .int s0), (0, .ref (q 0)), (1, .int a1), (2, .int b2), (3, .int b3), (4, .int b4)]) hx hb dX11_power_136 hl (k := 6) rfl (by rw [ey51]; rfl) (by decide) rfl (fun ls hl => ?_)
          refine lv_goto (tgt := 45) hx hb dX11_power_139 (by decide) ?_
          exact ih _ _ _ res _ _ _ h hP hS (lv_sub hl [2, 3, 4, 5, 6, 0] rfl) K45_0
        · rw [if_neg c50] at h
          refine lv_iload hx hb dX11_power_109 (lv_at hl 6 rfl) ?_
          obtain ⟨r52, M53, hc54, h⟩ := bnd_inv h
          refine gS_i (As := [.int b5]) X hP hS hl.1 (c_J6_bitCount_0f7a4_C l D cA q aK aV hq hc54) sf_J6_bitCount_0f7a4 bw_894 ss_J6_bitCount_0f7a4 ⟨rfl, rfl⟩ ⟨Nat.le_of_ble_eq_true rfl, Nat.le_of_ble_eq_true rfl⟩ rfl rfl (Nat.le_of_ble_eq_true rfl) dX11_power_111 (fun H locs hP hS => ?_)
          refine lv_istore (lv' := [(7, .int r52), (6, .int s0), (0, .ref (q 0)), (1, .int a1), (2, .int b2), (3, .int b3), (4, .int b4), (5, .int b5)]) hx hb dX11_power_114 hl (by decide) rfl (fun ls hl => ?_)
          refine lv_iload hx hb dX11_power_116 (lv_at hl 6 rfl) ?_
          refine lv_iload hx hb dX11_power_118 (lv_at hl 0 rfl) ?_
          obtain ⟨r55, M56, hc57, h⟩ := bnd_inv h
          refine gS_i (As := [.int r52]) X hP hS hl.1 (c_X11_ordersOf l D cA q aK aV hq hc57) sf_X11_ordersOf bw_1122 ss_X11_ordersOf ⟨rfl, rfl⟩ ⟨Nat.le_of_ble_eq_true rfl, Nat.le_of_ble_eq_true rfl⟩ rfl rfl (Nat.le_of_ble_eq_true rfl) dX11_power_120 (fun H locs hP hS => ?_)
          refine lv_iload_n hx hb dX11_power_123 rfl (lv_at hl 4 rfl) ?_
          refine lv_iconst (v := 1) hx hb dX11_power_124 (by decide) ?_
          refine lv_isub hx hb dX11_power_125 ?_
          refine lv_iload hx hb dX11_power_126 (lv_at hl 0 rfl) ?_
          refine lv_isub hx hb dX11_power_128 ?_
          obtain ⟨r58, M59, hc60, h⟩ := bnd_inv h
          refine gS_i (As := [.int ((b2 - (1 : Int32)) - r52)]) X hP hS hl.1 (c_X11_ordersOf l D cA q aK aV hq hc60) sf_X11_ordersOf bw_1122 ss_X11_ordersOf ⟨rfl, rfl⟩ ⟨Nat.le_of_ble_eq_true rfl, Nat.le_of_ble_eq_true rfl⟩ rfl rfl (Nat.le_of_ble_eq_true rfl) dX11_power_129 (fun H locs hP hS => ?_)
          refine lv_imul hx hb dX11_power_132 ?_
          refine lv_iadd hx hb dX11_power_133 ?_
          obtain ⟨y61, ey61, h⟩ := lt_inv h
          refine topE ey61 ?_
          refine lv_istore (lv' := [(4, .int y61), (7, .int r52), (6, .int s0), (0, .ref (q 0)), (1, .int a1), (2, .int b2), (3, .int b3), (5, .int b5)]) hx hb dX11_power_134 hl (by decide) rfl (fun ls hl => ?_)
          obtain ⟨y62, ey62, h⟩ := lt_inv h
          refine lv_iinc (v := y62) (lv' := [(5, .int y62), (4, .int y61), (7, .int r52), (6, .int s0), (0, .ref (q 0)), (1, .int a1), (2, .int b2), (3, .int b3)]) hx hb dX11_power_136 hl (k := 7) rfl (by rw [ey62]; rfl) (by decide) rfl (fun ls hl => ?_)
          refine lv_goto (tgt := 45) hx hb dX11_power_139 (by decide) ?_
          exact ih _ _ _ res _ _ _ h hP hS (lv_sub hl [4, 5, 6, 7, 1, 0] rfl) K45_0
      have hJ101 : ∀ (b4 : Int32) (b5 : Int32) (M : Mem) (H : Heap) (locs : List Loc) (ls : Array Slot), f_X11_power_J101 (f_X11_power_L45 a1 b2 b3 fu) a1 b2 b3 b4 b5 M = some res → va_P D vwCl (wsG 167 (ceC cA q) q M) H → va_S (AqG 167 q) s.heap H locs → lv_has ls 8 [(0, .ref (q 0)), (1, .int a1), (2, .int b2), (3, .int b3), (4, .int b4), (5, .int b5)] → W p l e ({ frames := 3, cells := 0, slots := 0, locals := 78 } : Room) s m [.ref (q 0), .int a1].toArray below meth c H locs 0 0 (MQ below (Qi 167 (ceC cA q) D q r0 M0) [.ref (q 0), .int a1].toArray s 0 0 (AqG 167 q)) (F0 m 101 ls []) := by
        intro b4 b5 M H locs ls h hP hS hl
        rw [f_X11_power_J101] at h
        refine lv_iconst (v := 0) hx hb dX11_power_101 (by decide) ?_
        exact hJ102 _ _ _ _ _ _ _ h hP hS (lv_sub hl [0, 1, 2, 3, 4, 5] rfl)
      refine lv_iload hx hb dX11_power_45 (lv_at hl 5 rfl) ?_
      refine lv_iload_n hx hb dX11_power_47 rfl (lv_at hl 2 rfl) ?_
      obtain ⟨r32, M33, hc34, h⟩ := bnd_inv h
      refine gS_i (As := [.int b2]) X hP hS hl.1 (c_X11_setOfAll l D cA q aK aV hq hc34) sf_X11_setOfAll bw_818 ss_X11_setOfAll ⟨rfl, rfl⟩ ⟨Nat.le_of_ble_eq_true rfl, Nat.le_of_ble_eq_true rfl⟩ rfl rfl (Nat.le_of_ble_eq_true rfl) dX11_power_48 (fun H locs hP hS => ?_)
      refine lv_icmp_gt (tgt := 142) hx hb dX11_power_51 (by decide) (fun c35 => ?_) (fun c35 => ?_)
      · rw [if_pos c35] at h
        cases h
        exact K45_0 _ _ _ hP hS (lv_sub hl [0, 2, 4] rfl)
      · rw [if_neg c35] at h
        refine lv_iload hx hb dX11_power_54 (lv_at hl 5 rfl) ?_
        refine lv_iload_n hx hb dX11_power_56 rfl (lv_at hl 1 rfl) ?_
        obtain ⟨r36, M37, hc38, h⟩ := bnd_inv h
        refine gS_i (As := [.int b5, .int a1]) X hP hS hl.1 (c_X11_isIn l D cA q aK aV hq hc38) sf_X11_isIn bw_1037 ss_X11_isIn ⟨rfl, rfl⟩ ⟨Nat.le_of_ble_eq_true rfl, Nat.le_of_ble_eq_true rfl⟩ rfl rfl (Nat.le_of_ble_eq_true rfl) dX11_power_57 (fun H locs hP hS => ?_)
        refine lv_if_ne (tgt := 101) hx hb dX11_power_60 (by decide) (fun c39 => ?_) (fun c39 => ?_)
        · rw [if_neg c39] at h
          exact hJ101 _ _ _ _ _ _ h hP hS (lv_sub hl [0, 1, 2, 3, 4, 5] rfl)
        · rw [if_pos c39] at h
          refine lv_iconst (v := 2) hx hb dX11_power_63 (by decide) ?_
          refine lv_aload_n hx hb dX11_power_64 rfl (lv_at hl 0 rfl) ?_
          refine gfC_11_0 X hP sC_0 bw_430 dX11_power_65 ?_
          obtain ⟨g40, h⟩ := gd_inv h
          have g40 := Decidable.not_not.mp g40
          refine lv_iload hx hb dX11_power_68 (lv_at hl 5 rfl) ?_
          obtain ⟨r41, M42, hc43, h⟩ := bnd_inv h
          refine gV_i (As := [.int b5]) X hP hS hl.1 (c_X0_votesOf l D cA q aK aV hq g40 hc43) sf_X0_votesOf bw_821 sv_X0_votesOf (rcC_0 g40) rfl ⟨rfl, rfl⟩ ⟨Nat.le_of_ble_eq_true rfl, Nat.le_of_ble_eq_true rfl⟩ rfl rfl (Nat.le_of_ble_eq_true rfl) dX11_power_70 (fun H locs hP hS => ?_)
          refine lv_imul hx hb dX11_power_73 ?_
          refine lv_iload_n hx hb dX11_power_74 rfl (lv_at hl 3 rfl) ?_
          refine lv_icmp_gt (tgt := 101) hx hb dX11_power_75 (by decide) (fun c44 => ?_) (fun c44 => ?_)
          · rw [if_pos c44] at h
            exact hJ101 _ _ _ _ _ _ h hP hS (lv_sub hl [0, 1, 2, 3, 4, 5] rfl)
          · rw [if_neg c44] at h
            refine lv_iconst (v := 2) hx hb dX11_power_78 (by decide) ?_
            refine lv_aload_n hx hb dX11_power_79 rfl (lv_at hl 0 rfl) ?_
            refine gfC_11_0 X hP sC_0 bw_430 dX11_power_80 ?_
            obtain ⟨g45, h⟩ := gd_inv h
            have g45 := Decidable.not_not.mp g45
            refine lv_iload hx hb dX11_power_83 (lv_at hl 5 rfl) ?_
            refine lv_iconst (v := 1) hx hb dX11_power_85 (by decide) ?_
            refine lv_iload_n hx hb dX11_power_86 rfl (lv_at hl 1 rfl) ?_
            refine lv_ishl hx hb dX11_power_87 ?_
            refine lv_ior hx hb dX11_power_88 ?_
            obtain ⟨r46, M47, hc48, h⟩ := bnd_inv h
            refine gV_i (As := [.int (b5 ||| ((1 : Int32) <<< (a1 &&& 31)))]) X hP hS hl.1 (c_X0_votesOf l D cA q aK aV hq g45 hc48) sf_X0_votesOf bw_821 sv_X0_votesOf (rcC_0 g45) rfl ⟨rfl, rfl⟩ ⟨Nat.le_of_ble_eq_true rfl, Nat.le_of_ble_eq_true rfl⟩ rfl rfl (Nat.le_of_ble_eq_true rfl) dX11_power_89 (fun H locs hP hS => ?_)
            refine lv_imul hx hb dX11_power_92 ?_
            refine lv_iload_n hx hb dX11_power_93 rfl (lv_at hl 3 rfl) ?_
            refine lv_icmp_le (tgt := 101) hx hb dX11_power_94 (by decide) (fun c49 => ?_) (fun c49 => ?_)
            · rw [if_pos c49] at h
              exact hJ101 _ _ _ _ _ _ h hP hS (lv_sub hl [0, 1, 2, 3, 4, 5] rfl)
            · rw [if_neg c49] at h
              refine lv_iconst (v := 1) hx hb dX11_power_97 (by decide) ?_
              refine lv_goto (tgt := 102) hx hb dX11_power_98 (by decide) ?_
              exact hJ102 _ _ _ _ _ _ _ h hP hS (lv_sub hl [0, 1, 2, 3, 4, 5] rfl)
  refine lv_aload_n hx hb dX11_power_0 rfl (lv_at hl 0 rfl) ?_
  refine gfC_11_0 X hP sC_0 bw_430 dX11_power_1 ?_
  obtain ⟨g1, h⟩ := gd_inv h
  have g1 := Decidable.not_not.mp g1
  refine lv_iconst (v := 4) hx hb dX11_power_4 (by decide) ?_
  refine lv_iload_n hx hb dX11_power_5 rfl (lv_at hl 1 rfl) ?_
  obtain ⟨r2, M3, hc4, h⟩ := bnd_inv h
  refine gV_i (As := [.int (4 : Int32), .int a1]) X hP hS hl.1 (c_X0_has l D cA q aK aV hq g1 hc4) sf_X0_has bw_830 sv_X0_has (rcC_0 g1) rfl ⟨rfl, rfl⟩ ⟨Nat.le_of_ble_eq_true rfl, Nat.le_of_ble_eq_true rfl⟩ rfl rfl (Nat.le_of_ble_eq_true rfl) dX11_power_6 (fun H locs hP hS => ?_)
  refine lv_if_ne (tgt := 18) hx hb dX11_power_9 (by decide) (fun c5 => ?_) (fun c5 => ?_)
  · rw [if_neg c5] at h
    refine lv_aload_n hx hb dX11_power_18 rfl (lv_at hl 0 rfl) ?_
    refine gfC_11_0 X hP sC_0 bw_430 dX11_power_19 ?_
    obtain ⟨g6, h⟩ := gd_inv h
    have g6 := Decidable.not_not.mp g6
    refine lv_iconst (v := 4) hx hb dX11_power_22 (by decide) ?_
    obtain ⟨r7, M8, hc9, h⟩ := bnd_inv h
    refine gV_i (As := [.int (4 : Int32)]) X hP hS hl.1 (c_X0_countOf l D cA q aK aV hq g6 hc9) sf_X0_countOf bw_750 sv_X0_countOf (rcC_0 g6) rfl ⟨rfl, rfl⟩ ⟨Nat.le_of_ble_eq_true rfl, Nat.le_of_ble_eq_true rfl⟩ rfl rfl (Nat.le_of_ble_eq_true rfl) dX11_power_23 (fun H locs hP hS => ?_)
    refine lv_istore_n (lv' := [(2, .int r7), (0, .ref (q 0)), (1, .int a1)]) hx hb dX11_power_26 rfl hl (by decide) rfl (fun ls hl => ?_)
    refine lv_aload_n hx hb dX11_power_27 rfl (lv_at hl 1 rfl) ?_
    refine gfC_11_0 X hP sC_0 bw_430 dX11_power_28 ?_
    obtain ⟨g10, h⟩ := gd_inv h
    have g10 := Decidable.not_not.mp g10
    refine lv_iload_n hx hb dX11_power_31 rfl (lv_at hl 0 rfl) ?_
    obtain ⟨r11, M12, hc13, h⟩ := bnd_inv h
    refine gS_i (As := [.int r7]) X hP hS hl.1 (c_X11_setOfAll l D cA q aK aV hq hc13) sf_X11_setOfAll bw_818 ss_X11_setOfAll ⟨rfl, rfl⟩ ⟨Nat.le_of_ble_eq_true rfl, Nat.le_of_ble_eq_true rfl⟩ rfl rfl (Nat.le_of_ble_eq_true rfl) dX11_power_32 (fun H locs hP hS => ?_)
    obtain ⟨r14, M15, hc16, h⟩ := bnd_inv h
    refine gV_i (As := [.int r11]) X hP hS hl.1 (c_X0_votesOf l D cA q aK aV hq g10 hc16) sf_X0_votesOf bw_821 sv_X0_votesOf (rcC_0 g10) rfl ⟨rfl, rfl⟩ ⟨Nat.le_of_ble_eq_true rfl, Nat.le_of_ble_eq_true rfl⟩ rfl rfl (Nat.le_of_ble_eq_true rfl) dX11_power_35 (fun H locs hP hS => ?_)
    refine lv_istore_n (lv' := [(3, .int r14), (2, .int r7), (0, .ref (q 0)), (1, .int a1)]) hx hb dX11_power_38 rfl hl (by decide) rfl (fun ls hl => ?_)
    refine lv_iconst (v := 0) hx hb dX11_power_39 (by decide) ?_
    refine lv_istore (lv' := [(4, .int (0 : Int32)), (3, .int r14), (2, .int r7), (0, .ref (q 0)), (1, .int a1)]) hx hb dX11_power_40 hl (by decide) rfl (fun ls hl => ?_)
    refine lv_iconst (v := 0) hx hb dX11_power_42 (by decide) ?_
    refine lv_istore (lv' := [(5, .int (0 : Int32)), (4, .int (0 : Int32)), (3, .int r14), (2, .int r7), (0, .ref (q 0)), (1, .int a1)]) hx hb dX11_power_43 hl (by decide) rfl (fun ls hl => ?_)
    obtain ⟨s17, M18, hc19, h⟩ := bnd_inv h
    obtain ⟨x20, rfl⟩ : ∃ z, z = s17 := ⟨_, rfl⟩
    try dsimp only at h
    refine hL45 _ _ fz _ _ _ _ _ _ _ hc19 hP hS (lv_sub hl [4, 5, 3, 2, 1, 0] rfl) (fun H locs ls hP hS hl => ?_)
    have hl : lv_has ls 8 [(0, .ref (q 0)), (2, .int r7), (4, .int x20)] := hl
    refine lv_aload_n hx hb dX11_power_142 rfl (lv_at hl 0 rfl) ?_
    refine lv_iload hx hb dX11_power_143 (lv_at hl 2 rfl) ?_
    refine lv_i2l hx hb dX11_power_145 rfl ?_
    refine lv_iload_n hx hb dX11_power_146 rfl (lv_at hl 1 rfl) ?_
    obtain ⟨r21, M22, hc23, h⟩ := bnd_inv h
    refine gS_i (As := [.int r7]) X hP hS hl.1 (c_X11_ordersOf l D cA q aK aV hq hc23) sf_X11_ordersOf bw_1122 ss_X11_ordersOf ⟨rfl, rfl⟩ ⟨Nat.le_of_ble_eq_true rfl, Nat.le_of_ble_eq_true rfl⟩ rfl rfl (Nat.le_of_ble_eq_true rfl) dX11_power_147 (fun H locs hP hS => ?_)
    refine lv_i2l hx hb dX11_power_150 rfl ?_
    obtain ⟨r24, M25, hc26, h⟩ := bnd_inv h
    refine gV_i (As := [.long (x20.toInt64), .long (r21.toInt64)]) X hP hS hl.1 (c_X11_tellFraction l D cA q aK aV hq hc26) sf_X11_tellFraction bw_1043 sv_X11_tellFraction (rcC_11 sC_0) rfl ⟨rfl, rfl⟩ ⟨Nat.le_of_ble_eq_true rfl, Nat.le_of_ble_eq_true rfl⟩ rfl rfl (Nat.le_of_ble_eq_true rfl) dX11_power_151 (fun H locs hP hS => ?_)
    obtain ⟨g27, h⟩ := gd_inv h
    exact end_z X hr hk hP hS (Decidable.not_not.mp g27) h dX11_power_154
  · rw [if_pos c5] at h
    refine lv_aload_n hx hb dX11_power_12 rfl (lv_at hl 0 rfl) ?_
    refine lv_iconst (v := 1) hx hb dX11_power_13 (by decide) ?_
    obtain ⟨r28, M29, hc30, h⟩ := bnd_inv h
    refine gV_i (As := [.int (1 : Int32)]) X hP hS hl.1 (c_X11_denied l D cA q aK aV hq hc30) sf_X11_denied bw_507 sv_X11_denied (rcC_11 sC_0) rfl ⟨rfl, rfl⟩ ⟨Nat.le_of_ble_eq_true rfl, Nat.le_of_ble_eq_true rfl⟩ rfl rfl (Nat.le_of_ble_eq_true rfl) dX11_power_14 (fun H locs hP hS => ?_)
    obtain ⟨g31, h⟩ := gd_inv h
    exact end_z X hr hk hP hS (Decidable.not_not.mp g31) h dX11_power_17
theorem dX0_senseBefore_0 : decode cX0_senseBefore 0 = .ok (.aload_n 0, 1) := by decide +kernel
theorem dX0_senseBefore_1 : decode cX0_senseBefore 1 = .ok (.aload_n 0, 1) := by decide +kernel
theorem dX0_senseBefore_2 : decode cX0_senseBefore 2 = .ok (.iload_n 1, 1) := by decide +kernel
theorem dX0_senseBefore_3 : decode cX0_senseBefore 3 = .ok (.iload_n 2, 1) := by decide +kernel
theorem dX0_senseBefore_4 : decode cX0_senseBefore 4 = .ok (.invokevirtual 154, 3) := by decide +kernel
theorem dX0_senseBefore_7 : decode cX0_senseBefore 7 = .ok (.invokevirtual 158, 3) := by decide +kernel
theorem dX0_senseBefore_10 : decode cX0_senseBefore 10 = .ok (.ireturn, 1) := by decide +kernel
set_option maxRecDepth 100000 in
set_option maxHeartbeats 8000000 in
theorem c_X0_senseBefore (l : Launch) (D : va_G) (cA : Nat → ClassId) (q aK aV : Nat → Nat) (hq : injG 167 q) {a0 : Nat} {a1 : Int32} {a2 : Int32} {M M0 : Mem} {r0 : Int32} (h0 : shC a0 = 0) (h : f_X0_senseBefore a0 a1 a2 M = some (r0, M0)) : Met l yX0_senseBefore (.code yX0_senseBefore cX0_senseBefore 3 (some .int) :: BW) ({ frames := 4, cells := 0, slots := 0, locals := 89 } : Room) (va_Pc [.ref (q a0), .int a1, .int a2] (CB 167 (ceC cA q) D cA q aK aV M)) (Qi 167 (ceC cA q) D q r0 M0) 0 0 (AqG 167 q) := by
  refine gMet RX0 (by decide +kernel) rfl hq (Nat.le_of_ble_eq_true rfl) ?_
  intro p e s m below meth c ls X hr hk hP hS hl
  have hx := X.1
  have hb := X.2.1
  have hl : lv_has ls 3 [(0, .ref (q a0)), (1, .int a1), (2, .int a2)] := hl
  rw [f_X0_senseBefore] at h
  refine lv_aload_n hx hb dX0_senseBefore_0 rfl (lv_at hl 0 rfl) ?_
  refine lv_aload_n hx hb dX0_senseBefore_1 rfl (lv_at hl 0 rfl) ?_
  refine lv_iload_n hx hb dX0_senseBefore_2 rfl (lv_at hl 1 rfl) ?_
  refine lv_iload_n hx hb dX0_senseBefore_3 rfl (lv_at hl 2 rfl) ?_
  obtain ⟨r1, M2, hc3, h⟩ := bnd_inv h
  refine gV_i (As := [.int a1, .int a2]) X hP hS hl.1 (c_X0_cueBefore l D cA q aK aV hq h0 hc3) sf_X0_cueBefore bw_874 sv_X0_cueBefore (rcC_0 h0) rfl ⟨rfl, rfl⟩ ⟨Nat.le_of_ble_eq_true rfl, Nat.le_of_ble_eq_true rfl⟩ rfl rfl (Nat.le_of_ble_eq_true rfl) dX0_senseBefore_4 (fun H locs hP hS => ?_)
  obtain ⟨r4, M5, hc6, h⟩ := bnd_inv h
  refine gV_i (As := [.int r1]) X hP hS hl.1 (c_X0_senseOf l D cA q aK aV hq h0 hc6) sf_X0_senseOf bw_905 sv_X0_senseOf (rcC_0 h0) rfl ⟨rfl, rfl⟩ ⟨Nat.le_of_ble_eq_true rfl, Nat.le_of_ble_eq_true rfl⟩ rfl rfl (Nat.le_of_ble_eq_true rfl) dX0_senseBefore_7 (fun H locs hP hS => ?_)
  exact end_i X hr hk hP hS h dX0_senseBefore_10
theorem dX11_clash_0 : decode cX11_clash 0 = .ok (.iconst 0, 1) := by decide +kernel
theorem dX11_clash_1 : decode cX11_clash 1 = .ok (.istore_n 1, 1) := by decide +kernel
theorem dX11_clash_2 : decode cX11_clash 2 = .ok (.iconst 0, 1) := by decide +kernel
theorem dX11_clash_3 : decode cX11_clash 3 = .ok (.istore_n 2, 1) := by decide +kernel
theorem dX11_clash_4 : decode cX11_clash 4 = .ok (.iload_n 2, 1) := by decide +kernel
theorem dX11_clash_5 : decode cX11_clash 5 = .ok (.aload_n 0, 1) := by decide +kernel
theorem dX11_clash_6 : decode cX11_clash 6 = .ok (.getfield 10, 3) := by decide +kernel
theorem dX11_clash_9 : decode cX11_clash 9 = .ok (.iconst 5, 1) := by decide +kernel
theorem dX11_clash_10 : decode cX11_clash 10 = .ok (.invokevirtual 167, 3) := by decide +kernel
theorem dX11_clash_13 : decode cX11_clash 13 = .ok (.if_icmp .ge 60, 3) := by decide +kernel
theorem dX11_clash_16 : decode cX11_clash 16 = .ok (.aload_n 0, 1) := by decide +kernel
theorem dX11_clash_17 : decode cX11_clash 17 = .ok (.getfield 10, 3) := by decide +kernel
theorem dX11_clash_20 : decode cX11_clash 20 = .ok (.aload_n 0, 1) := by decide +kernel
theorem dX11_clash_21 : decode cX11_clash 21 = .ok (.getfield 10, 3) := by decide +kernel
theorem dX11_clash_24 : decode cX11_clash 24 = .ok (.getfield 258, 3) := by decide +kernel
theorem dX11_clash_27 : decode cX11_clash 27 = .ok (.iload_n 2, 1) := by decide +kernel
theorem dX11_clash_28 : decode cX11_clash 28 = .ok (.invokestatic 254, 3) := by decide +kernel
theorem dX11_clash_31 : decode cX11_clash 31 = .ok (.aload_n 0, 1) := by decide +kernel
theorem dX11_clash_32 : decode cX11_clash 32 = .ok (.getfield 10, 3) := by decide +kernel
theorem dX11_clash_35 : decode cX11_clash 35 = .ok (.getfield 194, 3) := by decide +kernel
theorem dX11_clash_38 : decode cX11_clash 38 = .ok (.invokevirtual 374, 3) := by decide +kernel
theorem dX11_clash_41 : decode cX11_clash 41 = .ok (.istore_n 3, 1) := by decide +kernel
theorem dX11_clash_42 : decode cX11_clash 42 = .ok (.iload_n 3, 1) := by decide +kernel
theorem dX11_clash_43 : decode cX11_clash 43 = .ok (.ifCond .eq 24, 3) := by decide +kernel
theorem dX11_clash_46 : decode cX11_clash 46 = .ok (.iload_n 3, 1) := by decide +kernel
theorem dX11_clash_47 : decode cX11_clash 47 = .ok (.aload_n 0, 1) := by decide +kernel
theorem dX11_clash_48 : decode cX11_clash 48 = .ok (.getfield 10, 3) := by decide +kernel
theorem dX11_clash_51 : decode cX11_clash 51 = .ok (.getfield 261, 3) := by decide +kernel
theorem dX11_clash_54 : decode cX11_clash 54 = .ok (.iload_n 2, 1) := by decide +kernel
theorem dX11_clash_55 : decode cX11_clash 55 = .ok (.invokestatic 254, 3) := by decide +kernel
theorem dX11_clash_58 : decode cX11_clash 58 = .ok (.if_icmp .eq 9, 3) := by decide +kernel
theorem dX11_clash_61 : decode cX11_clash 61 = .ok (.iload_n 1, 1) := by decide +kernel
theorem dX11_clash_62 : decode cX11_clash 62 = .ok (.iconst 1, 1) := by decide +kernel
theorem dX11_clash_63 : decode cX11_clash 63 = .ok (.iload_n 2, 1) := by decide +kernel
theorem dX11_clash_64 : decode cX11_clash 64 = .ok (.ishl, 1) := by decide +kernel
theorem dX11_clash_65 : decode cX11_clash 65 = .ok (.ior, 1) := by decide +kernel
theorem dX11_clash_66 : decode cX11_clash 66 = .ok (.istore_n 1, 1) := by decide +kernel
theorem dX11_clash_67 : decode cX11_clash 67 = .ok (.iinc 2 1, 3) := by decide +kernel
theorem dX11_clash_70 : decode cX11_clash 70 = .ok (.goto (-66), 3) := by decide +kernel
theorem dX11_clash_73 : decode cX11_clash 73 = .ok (.aload_n 0, 1) := by decide +kernel
theorem dX11_clash_74 : decode cX11_clash 74 = .ok (.iload_n 1, 1) := by decide +kernel
theorem dX11_clash_75 : decode cX11_clash 75 = .ok (.invokevirtual 191, 3) := by decide +kernel
theorem dX11_clash_78 : decode cX11_clash 78 = .ok (.ireturn, 1) := by decide +kernel
set_option maxRecDepth 100000 in
set_option maxHeartbeats 8000000 in
theorem c_X11_clash (l : Launch) (D : va_G) (cA : Nat → ClassId) (q aK aV : Nat → Nat) (hq : injG 167 q) {M M0 : Mem} {r0 : Int32} (h : f_X11_clash M = some (r0, M0)) : Met l yX11_clash (.code yX11_clash cX11_clash 4 (some .int) :: BW) ({ frames := 5, cells := 0, slots := 0, locals := 111 } : Room) (va_Pc [.ref (q 0)] (CB 167 (ceC cA q) D cA q aK aV M)) (Qi 167 (ceC cA q) D q r0 M0) 0 0 (AqG 167 q) := by
  refine gMet RX11 (by decide +kernel) rfl hq (Nat.le_of_ble_eq_true rfl) ?_
  intro p e s m below meth c ls X hr hk hP hS hl
  have hx := X.1
  have hb := X.2.1
  have hl : lv_has ls 4 [(0, .ref (q 0))] := hl
  rw [f_X11_clash] at h
  have hL4 : ∀ (fu : Nat) (b1 : Int32) (b2 : Int32) (M : Mem) (res : (Int32) × Mem) (H : Heap) (locs : List Loc) (ls : Array Slot), f_X11_clash_L4 fu b1 b2 M = some res → va_P D vwCl (wsG 167 (ceC cA q) q M) H → va_S (AqG 167 q) s.heap H locs → lv_has ls 4 [(0, .ref (q 0)), (1, .int b1), (2, .int b2)] → (∀ (H : Heap) (locs : List Loc) (ls : Array Slot), va_P D vwCl (wsG 167 (ceC cA q) q res.2) H → va_S (AqG 167 q) s.heap H locs → lv_has ls 4 [(0, .ref (q 0)), (1, .int (res.1))] → W p l e ({ frames := 5, cells := 0, slots := 0, locals := 111 } : Room) s m [.ref (q 0)].toArray below meth c H locs 0 0 (MQ below (Qi 167 (ceC cA q) D q r0 M0) [.ref (q 0)].toArray s 0 0 (AqG 167 q)) (F0 m 73 ls [])) → W p l e ({ frames := 5, cells := 0, slots := 0, locals := 111 } : Room) s m [.ref (q 0)].toArray below meth c H locs 0 0 (MQ below (Qi 167 (ceC cA q) D q r0 M0) [.ref (q 0)].toArray s 0 0 (AqG 167 q)) (F0 m 4 ls []) := by
    intro fu
    induction fu with
    | zero => intro b1 b2 M res H locs ls h; exact absurd h (by simp [f_X11_clash_L4])
    | succ fu ih =>
      intro b1 b2 M res H locs ls h hP hS hl K4_0
      rw [f_X11_clash_L4] at h
      refine lv_iload_n hx hb dX11_clash_4 rfl (lv_at hl 2 rfl) ?_
      refine lv_aload_n hx hb dX11_clash_5 rfl (lv_at hl 0 rfl) ?_
      refine gfC_11_0 X hP sC_0 bw_430 dX11_clash_6 ?_
      obtain ⟨g8, h⟩ := gd_inv h
      have g8 := Decidable.not_not.mp g8
      refine lv_iconst (v := 5) hx hb dX11_clash_9 (by decide) ?_
      obtain ⟨r9, M10, hc11, h⟩ := bnd_inv h
      refine gV_i (As := [.int (5 : Int32)]) X hP hS hl.1 (c_X0_countOf l D cA q aK aV hq g8 hc11) sf_X0_countOf bw_750 sv_X0_countOf (rcC_0 g8) rfl ⟨rfl, rfl⟩ ⟨Nat.le_of_ble_eq_true rfl, Nat.le_of_ble_eq_true rfl⟩ rfl rfl (Nat.le_of_ble_eq_true rfl) dX11_clash_10 (fun H locs hP hS => ?_)
      refine lv_icmp_ge (tgt := 73) hx hb dX11_clash_13 (by decide) (fun c12 => ?_) (fun c12 => ?_)
      · rw [if_pos c12] at h
        cases h
        exact K4_0 _ _ _ hP hS (lv_sub hl [0, 1] rfl)
      · rw [if_neg c12] at h
        refine lv_aload_n hx hb dX11_clash_16 rfl (lv_at hl 0 rfl) ?_
        refine gfC_11_0 X hP sC_0 bw_430 dX11_clash_17 ?_
        obtain ⟨g13, h⟩ := gd_inv h
        have g13 := Decidable.not_not.mp g13
        refine lv_aload_n hx hb dX11_clash_20 rfl (lv_at hl 0 rfl) ?_
        refine gfC_11_0 X hP sC_0 bw_430 dX11_clash_21 ?_
        obtain ⟨g14, h⟩ := gd_inv h
        have g14 := Decidable.not_not.mp g14
        refine gfC_0_7 X hP g14 bw_158 dX11_clash_24 ?_
        refine lv_iload_n hx hb dX11_clash_27 rfl (lv_at hl 2 rfl) ?_
        obtain ⟨r15, M16, hc17, h⟩ := bnd_inv h
        refine gS_i (As := [.ref (q ((gR M10 0 0) + 22)), .int b2]) X hP hS hl.1 (c_X11_cell l D cA q aK aV hq ((kC_0_7 g14).1) hc17) sf_X11_cell bw_857 ss_X11_cell ⟨rfl, rfl⟩ ⟨Nat.le_of_ble_eq_true rfl, Nat.le_of_ble_eq_true rfl⟩ rfl rfl (Nat.le_of_ble_eq_true rfl) dX11_clash_28 (fun H locs hP hS => ?_)
        refine lv_aload_n hx hb dX11_clash_31 rfl (lv_at hl 0 rfl) ?_
        refine gfC_11_0 X hP sC_0 bw_430 dX11_clash_32 ?_
        obtain ⟨g18, h⟩ := gd_inv h
        have g18 := Decidable.not_not.mp g18
        refine gfC_0_12 X hP g18 bw_171 dX11_clash_35 ?_
        obtain ⟨r19, M20, hc21, h⟩ := bnd_inv h
        refine gV_i (As := [.int r15, .int (gI M16 (gR M16 0 0) 12)]) X hP hS hl.1 (c_X0_senseBefore l D cA q aK aV hq g13 hc21) sf_X0_senseBefore bw_1129 sv_X0_senseBefore (rcC_0 g13) rfl ⟨rfl, rfl⟩ ⟨Nat.le_of_ble_eq_true rfl, Nat.le_of_ble_eq_true rfl⟩ rfl rfl (Nat.le_of_ble_eq_true rfl) dX11_clash_38 (fun H locs hP hS => ?_)
        refine lv_istore_n (lv' := [(3, .int r19), (0, .ref (q 0)), (1, .int b1), (2, .int b2)]) hx hb dX11_clash_41 rfl hl (by decide) rfl (fun ls hl => ?_)
        refine lv_iload_n hx hb dX11_clash_42 rfl (lv_at hl 0 rfl) ?_
        refine lv_if_eq (tgt := 67) hx hb dX11_clash_43 (by decide) (fun c22 => ?_) (fun c22 => ?_)
        · rw [if_pos c22] at h
          obtain ⟨y23, ey23, h⟩ := lt_inv h
          refine lv_iinc (v := y23) (lv' := [(2, .int y23), (3, .int r19), (0, .ref (q 0)), (1, .int b1)]) hx hb dX11_clash_67 hl (k := 3) rfl (by rw [ey23]; rfl) (by decide) rfl (fun ls hl => ?_)
          refine lv_goto (tgt := 4) hx hb dX11_clash_70 (by decide) ?_
          exact ih _ _ _ res _ _ _ h hP hS (lv_sub hl [2, 3, 0] rfl) K4_0
        · rw [if_neg c22] at h
          refine lv_iload_n hx hb dX11_clash_46 rfl (lv_at hl 0 rfl) ?_
          refine lv_aload_n hx hb dX11_clash_47 rfl (lv_at hl 1 rfl) ?_
          refine gfC_11_0 X hP sC_0 bw_430 dX11_clash_48 ?_
          obtain ⟨g24, h⟩ := gd_inv h
          have g24 := Decidable.not_not.mp g24
          refine gfC_0_8 X hP g24 bw_161 dX11_clash_51 ?_
          refine lv_iload_n hx hb dX11_clash_54 rfl (lv_at hl 3 rfl) ?_
          obtain ⟨r25, M26, hc27, h⟩ := bnd_inv h
          refine gS_i (As := [.ref (q ((gR M20 0 0) + 23)), .int b2]) X hP hS hl.1 (c_X11_cell l D cA q aK aV hq ((kC_0_8 g24).1) hc27) sf_X11_cell bw_857 ss_X11_cell ⟨rfl, rfl⟩ ⟨Nat.le_of_ble_eq_true rfl, Nat.le_of_ble_eq_true rfl⟩ rfl rfl (Nat.le_of_ble_eq_true rfl) dX11_clash_55 (fun H locs hP hS => ?_)
          refine lv_icmp_eq (tgt := 67) hx hb dX11_clash_58 (by decide) (fun c28 => ?_) (fun c28 => ?_)
          · rw [if_pos c28] at h
            obtain ⟨y29, ey29, h⟩ := lt_inv h
            refine lv_iinc (v := y29) (lv' := [(2, .int y29), (3, .int r19), (0, .ref (q 0)), (1, .int b1)]) hx hb dX11_clash_67 hl (k := 3) rfl (by rw [ey29]; rfl) (by decide) rfl (fun ls hl => ?_)
            refine lv_goto (tgt := 4) hx hb dX11_clash_70 (by decide) ?_
            exact ih _ _ _ res _ _ _ h hP hS (lv_sub hl [2, 3, 0] rfl) K4_0
          · rw [if_neg c28] at h
            refine lv_iload_n hx hb dX11_clash_61 rfl (lv_at hl 2 rfl) ?_
            refine lv_iconst (v := 1) hx hb dX11_clash_62 (by decide) ?_
            refine lv_iload_n hx hb dX11_clash_63 rfl (lv_at hl 3 rfl) ?_
            refine lv_ishl hx hb dX11_clash_64 ?_
            refine lv_ior hx hb dX11_clash_65 ?_
            obtain ⟨y30, ey30, h⟩ := lt_inv h
            refine topE ey30 ?_
            refine lv_istore_n (lv' := [(1, .int y30), (3, .int r19), (0, .ref (q 0)), (2, .int b2)]) hx hb dX11_clash_66 rfl hl (by decide) rfl (fun ls hl => ?_)
            obtain ⟨y31, ey31, h⟩ := lt_inv h
            refine lv_iinc (v := y31) (lv' := [(2, .int y31), (1, .int y30), (3, .int r19), (0, .ref (q 0))]) hx hb dX11_clash_67 hl (k := 3) rfl (by rw [ey31]; rfl) (by decide) rfl (fun ls hl => ?_)
            refine lv_goto (tgt := 4) hx hb dX11_clash_70 (by decide) ?_
            exact ih _ _ _ res _ _ _ h hP hS (lv_sub hl [3, 1, 0] rfl) K4_0
  refine lv_iconst (v := 0) hx hb dX11_clash_0 (by decide) ?_
  refine lv_istore_n (lv' := [(1, .int (0 : Int32)), (0, .ref (q 0))]) hx hb dX11_clash_1 rfl hl (by decide) rfl (fun ls hl => ?_)
  refine lv_iconst (v := 0) hx hb dX11_clash_2 (by decide) ?_
  refine lv_istore_n (lv' := [(2, .int (0 : Int32)), (1, .int (0 : Int32)), (0, .ref (q 0))]) hx hb dX11_clash_3 rfl hl (by decide) rfl (fun ls hl => ?_)
  obtain ⟨s1, M2, hc3, h⟩ := bnd_inv h
  obtain ⟨x4, rfl⟩ : ∃ z, z = s1 := ⟨_, rfl⟩
  try dsimp only at h
  refine hL4  fz _ _ _ _ _ _ _ hc3 hP hS (lv_sub hl [2, 1, 0] rfl) (fun H locs ls hP hS hl => ?_)
  have hl : lv_has ls 4 [(0, .ref (q 0)), (1, .int x4)] := hl
  refine lv_aload_n hx hb dX11_clash_73 rfl (lv_at hl 0 rfl) ?_
  refine lv_iload_n hx hb dX11_clash_74 rfl (lv_at hl 1 rfl) ?_
  obtain ⟨r5, M6, hc7, h⟩ := bnd_inv h
  refine gV_i (As := [.int x4]) X hP hS hl.1 (c_X11_given l D cA q aK aV hq hc7) sf_X11_given bw_755 sv_X11_given (rcC_11 sC_0) rfl ⟨rfl, rfl⟩ ⟨Nat.le_of_ble_eq_true rfl, Nat.le_of_ble_eq_true rfl⟩ rfl rfl (Nat.le_of_ble_eq_true rfl) dX11_clash_75 (fun H locs hP hS => ?_)
  exact end_i X hr hk hP hS h dX11_clash_78
theorem dX0_wordsOf_0 : decode cX0_wordsOf 0 = .ok (.iconst 0, 1) := by decide +kernel
theorem dX0_wordsOf_1 : decode cX0_wordsOf 1 = .ok (.istore_n 3, 1) := by decide +kernel
theorem dX0_wordsOf_2 : decode cX0_wordsOf 2 = .ok (.iconst 0, 1) := by decide +kernel
theorem dX0_wordsOf_3 : decode cX0_wordsOf 3 = .ok (.istore 4, 2) := by decide +kernel
theorem dX0_wordsOf_5 : decode cX0_wordsOf 5 = .ok (.iload 4, 2) := by decide +kernel
theorem dX0_wordsOf_7 : decode cX0_wordsOf 7 = .ok (.aload_n 0, 1) := by decide +kernel
theorem dX0_wordsOf_8 : decode cX0_wordsOf 8 = .ok (.iconst 5, 1) := by decide +kernel
theorem dX0_wordsOf_9 : decode cX0_wordsOf 9 = .ok (.invokevirtual 77, 3) := by decide +kernel
theorem dX0_wordsOf_12 : decode cX0_wordsOf 12 = .ok (.if_icmp .ge 42, 3) := by decide +kernel
theorem dX0_wordsOf_15 : decode cX0_wordsOf 15 = .ok (.aload_n 0, 1) := by decide +kernel
theorem dX0_wordsOf_16 : decode cX0_wordsOf 16 = .ok (.getfield 40, 3) := by decide +kernel
theorem dX0_wordsOf_19 : decode cX0_wordsOf 19 = .ok (.iload 4, 2) := by decide +kernel
theorem dX0_wordsOf_21 : decode cX0_wordsOf 21 = .ok (.invokestatic 102, 3) := by decide +kernel
theorem dX0_wordsOf_24 : decode cX0_wordsOf 24 = .ok (.iload_n 1, 1) := by decide +kernel
theorem dX0_wordsOf_25 : decode cX0_wordsOf 25 = .ok (.if_icmp .ne 23, 3) := by decide +kernel
theorem dX0_wordsOf_28 : decode cX0_wordsOf 28 = .ok (.aload_n 0, 1) := by decide +kernel
theorem dX0_wordsOf_29 : decode cX0_wordsOf 29 = .ok (.getfield 43, 3) := by decide +kernel
theorem dX0_wordsOf_32 : decode cX0_wordsOf 32 = .ok (.iload 4, 2) := by decide +kernel
theorem dX0_wordsOf_34 : decode cX0_wordsOf 34 = .ok (.invokestatic 102, 3) := by decide +kernel
theorem dX0_wordsOf_37 : decode cX0_wordsOf 37 = .ok (.iload_n 2, 1) := by decide +kernel
theorem dX0_wordsOf_38 : decode cX0_wordsOf 38 = .ok (.if_icmp .ne 10, 3) := by decide +kernel
theorem dX0_wordsOf_41 : decode cX0_wordsOf 41 = .ok (.iload_n 3, 1) := by decide +kernel
theorem dX0_wordsOf_42 : decode cX0_wordsOf 42 = .ok (.iconst 1, 1) := by decide +kernel
theorem dX0_wordsOf_43 : decode cX0_wordsOf 43 = .ok (.iload 4, 2) := by decide +kernel
theorem dX0_wordsOf_45 : decode cX0_wordsOf 45 = .ok (.ishl, 1) := by decide +kernel
theorem dX0_wordsOf_46 : decode cX0_wordsOf 46 = .ok (.ior, 1) := by decide +kernel
theorem dX0_wordsOf_47 : decode cX0_wordsOf 47 = .ok (.istore_n 3, 1) := by decide +kernel
theorem dX0_wordsOf_48 : decode cX0_wordsOf 48 = .ok (.iinc 4 1, 3) := by decide +kernel
theorem dX0_wordsOf_51 : decode cX0_wordsOf 51 = .ok (.goto (-46), 3) := by decide +kernel
theorem dX0_wordsOf_54 : decode cX0_wordsOf 54 = .ok (.iload_n 3, 1) := by decide +kernel
theorem dX0_wordsOf_55 : decode cX0_wordsOf 55 = .ok (.ireturn, 1) := by decide +kernel
set_option maxRecDepth 100000 in
set_option maxHeartbeats 8000000 in
theorem c_X0_wordsOf (l : Launch) (D : va_G) (cA : Nat → ClassId) (q aK aV : Nat → Nat) (hq : injG 167 q) {a0 : Nat} {a1 : Int32} {a2 : Int32} {M M0 : Mem} {r0 : Int32} (h0 : shC a0 = 0) (h : f_X0_wordsOf a0 a1 a2 M = some (r0, M0)) : Met l yX0_wordsOf (.code yX0_wordsOf cX0_wordsOf 5 (some .int) :: BW) ({ frames := 2, cells := 0, slots := 0, locals := 34 } : Room) (va_Pc [.ref (q a0), .int a1, .int a2] (CB 167 (ceC cA q) D cA q aK aV M)) (Qi 167 (ceC cA q) D q r0 M0) 0 0 (AqG 167 q) := by
  refine gMet RX0 (by decide +kernel) rfl hq (Nat.le_of_ble_eq_true rfl) ?_
  intro p e s m below meth c ls X hr hk hP hS hl
  have hx := X.1
  have hb := X.2.1
  have hl : lv_has ls 5 [(0, .ref (q a0)), (1, .int a1), (2, .int a2)] := hl
  rw [f_X0_wordsOf] at h
  have hL5 : ∀ (fu : Nat) (b3 : Int32) (b4 : Int32) (M : Mem) (res : (Int32) × Mem) (H : Heap) (locs : List Loc) (ls : Array Slot), f_X0_wordsOf_L5 a0 a1 a2 fu b3 b4 M = some res → va_P D vwCl (wsG 167 (ceC cA q) q M) H → va_S (AqG 167 q) s.heap H locs → lv_has ls 5 [(0, .ref (q a0)), (1, .int a1), (2, .int a2), (3, .int b3), (4, .int b4)] → (∀ (H : Heap) (locs : List Loc) (ls : Array Slot), va_P D vwCl (wsG 167 (ceC cA q) q res.2) H → va_S (AqG 167 q) s.heap H locs → lv_has ls 5 [(3, .int (res.1))] → W p l e ({ frames := 2, cells := 0, slots := 0, locals := 34 } : Room) s m [.ref (q a0), .int a1, .int a2].toArray below meth c H locs 0 0 (MQ below (Qi 167 (ceC cA q) D q r0 M0) [.ref (q a0), .int a1, .int a2].toArray s 0 0 (AqG 167 q)) (F0 m 54 ls [])) → W p l e ({ frames := 2, cells := 0, slots := 0, locals := 34 } : Room) s m [.ref (q a0), .int a1, .int a2].toArray below meth c H locs 0 0 (MQ below (Qi 167 (ceC cA q) D q r0 M0) [.ref (q a0), .int a1, .int a2].toArray s 0 0 (AqG 167 q)) (F0 m 5 ls []) := by
    intro fu
    induction fu with
    | zero => intro b3 b4 M res H locs ls h; exact absurd h (by simp [f_X0_wordsOf_L5])
    | succ fu ih =>
      intro b3 b4 M res H locs ls h hP hS hl K5_0
      rw [f_X0_wordsOf_L5] at h
      refine lv_iload hx hb dX0_wordsOf_5 (lv_at hl 4 rfl) ?_
      refine lv_aload_n hx hb dX0_wordsOf_7 rfl (lv_at hl 0 rfl) ?_
      refine lv_iconst (v := 5) hx hb dX0_wordsOf_8 (by decide) ?_
      obtain ⟨r5, M6, hc7, h⟩ := bnd_inv h
      refine gV_i (As := [.int (5 : Int32)]) X hP hS hl.1 (c_X0_countOf l D cA q aK aV hq h0 hc7) sf_X0_countOf bw_645 sv_X0_countOf (rcC_0 h0) rfl ⟨rfl, rfl⟩ ⟨Nat.le_of_ble_eq_true rfl, Nat.le_of_ble_eq_true rfl⟩ rfl rfl (Nat.le_of_ble_eq_true rfl) dX0_wordsOf_9 (fun H locs hP hS => ?_)
      refine lv_icmp_ge (tgt := 54) hx hb dX0_wordsOf_12 (by decide) (fun c8 => ?_) (fun c8 => ?_)
      · rw [if_pos c8] at h
        cases h
        exact K5_0 _ _ _ hP hS (lv_sub hl [3] rfl)
      · rw [if_neg c8] at h
        refine lv_aload_n hx hb dX0_wordsOf_15 rfl (lv_at hl 0 rfl) ?_
        refine gfC_0_7 X hP h0 bw_156 dX0_wordsOf_16 ?_
        refine lv_iload hx hb dX0_wordsOf_19 (lv_at hl 4 rfl) ?_
        obtain ⟨r9, M10, hc11, h⟩ := bnd_inv h
        refine gSN_i (As := [.ref (q (a0 + 22)), .int b4]) X hP hS hl.1 (c_X11_cell l D cA q aK aV hq ((kC_0_7 h0).1) hc11) sf_X11_cell nw_11 ss_X11_cell ⟨rfl, rfl⟩ ⟨Nat.le_of_ble_eq_true rfl, Nat.le_of_ble_eq_true rfl⟩ rfl rfl (Nat.le_of_ble_eq_true rfl) dX0_wordsOf_21 (fun H locs hP hS => ?_)
        refine lv_iload_n hx hb dX0_wordsOf_24 rfl (lv_at hl 1 rfl) ?_
        refine lv_icmp_ne (tgt := 48) hx hb dX0_wordsOf_25 (by decide) (fun c12 => ?_) (fun c12 => ?_)
        · rw [if_neg c12] at h
          obtain ⟨y13, ey13, h⟩ := lt_inv h
          refine lv_iinc (v := y13) (lv' := [(4, .int y13), (0, .ref (q a0)), (1, .int a1), (2, .int a2), (3, .int b3)]) hx hb dX0_wordsOf_48 hl (k := 4) rfl (by rw [ey13]; rfl) (by decide) rfl (fun ls hl => ?_)
          refine lv_goto (tgt := 5) hx hb dX0_wordsOf_51 (by decide) ?_
          exact ih _ _ _ res _ _ _ h hP hS (lv_sub hl [1, 2, 3, 4, 0] rfl) K5_0
        · rw [if_pos c12] at h
          refine lv_aload_n hx hb dX0_wordsOf_28 rfl (lv_at hl 0 rfl) ?_
          refine gfC_0_8 X hP h0 bw_159 dX0_wordsOf_29 ?_
          refine lv_iload hx hb dX0_wordsOf_32 (lv_at hl 4 rfl) ?_
          obtain ⟨r14, M15, hc16, h⟩ := bnd_inv h
          refine gSN_i (As := [.ref (q (a0 + 23)), .int b4]) X hP hS hl.1 (c_X11_cell l D cA q aK aV hq ((kC_0_8 h0).1) hc16) sf_X11_cell nw_11 ss_X11_cell ⟨rfl, rfl⟩ ⟨Nat.le_of_ble_eq_true rfl, Nat.le_of_ble_eq_true rfl⟩ rfl rfl (Nat.le_of_ble_eq_true rfl) dX0_wordsOf_34 (fun H locs hP hS => ?_)
          refine lv_iload_n hx hb dX0_wordsOf_37 rfl (lv_at hl 2 rfl) ?_
          refine lv_icmp_ne (tgt := 48) hx hb dX0_wordsOf_38 (by decide) (fun c17 => ?_) (fun c17 => ?_)
          · rw [if_neg c17] at h
            obtain ⟨y18, ey18, h⟩ := lt_inv h
            refine lv_iinc (v := y18) (lv' := [(4, .int y18), (0, .ref (q a0)), (1, .int a1), (2, .int a2), (3, .int b3)]) hx hb dX0_wordsOf_48 hl (k := 4) rfl (by rw [ey18]; rfl) (by decide) rfl (fun ls hl => ?_)
            refine lv_goto (tgt := 5) hx hb dX0_wordsOf_51 (by decide) ?_
            exact ih _ _ _ res _ _ _ h hP hS (lv_sub hl [1, 2, 3, 4, 0] rfl) K5_0
          · rw [if_pos c17] at h
            refine lv_iload_n hx hb dX0_wordsOf_41 rfl (lv_at hl 3 rfl) ?_
            refine lv_iconst (v := 1) hx hb dX0_wordsOf_42 (by decide) ?_
            refine lv_iload hx hb dX0_wordsOf_43 (lv_at hl 4 rfl) ?_
            refine lv_ishl hx hb dX0_wordsOf_45 ?_
            refine lv_ior hx hb dX0_wordsOf_46 ?_
            obtain ⟨y19, ey19, h⟩ := lt_inv h
            refine topE ey19 ?_
            refine lv_istore_n (lv' := [(3, .int y19), (0, .ref (q a0)), (1, .int a1), (2, .int a2), (4, .int b4)]) hx hb dX0_wordsOf_47 rfl hl (by decide) rfl (fun ls hl => ?_)
            obtain ⟨y20, ey20, h⟩ := lt_inv h
            refine lv_iinc (v := y20) (lv' := [(4, .int y20), (3, .int y19), (0, .ref (q a0)), (1, .int a1), (2, .int a2)]) hx hb dX0_wordsOf_48 hl (k := 4) rfl (by rw [ey20]; rfl) (by decide) rfl (fun ls hl => ?_)
            refine lv_goto (tgt := 5) hx hb dX0_wordsOf_51 (by decide) ?_
            exact ih _ _ _ res _ _ _ h hP hS (lv_sub hl [2, 3, 4, 1, 0] rfl) K5_0
  refine lv_iconst (v := 0) hx hb dX0_wordsOf_0 (by decide) ?_
  refine lv_istore_n (lv' := [(3, .int (0 : Int32)), (0, .ref (q a0)), (1, .int a1), (2, .int a2)]) hx hb dX0_wordsOf_1 rfl hl (by decide) rfl (fun ls hl => ?_)
  refine lv_iconst (v := 0) hx hb dX0_wordsOf_2 (by decide) ?_
  refine lv_istore (lv' := [(4, .int (0 : Int32)), (3, .int (0 : Int32)), (0, .ref (q a0)), (1, .int a1), (2, .int a2)]) hx hb dX0_wordsOf_3 hl (by decide) rfl (fun ls hl => ?_)
  obtain ⟨s1, M2, hc3, h⟩ := bnd_inv h
  obtain ⟨x4, rfl⟩ : ∃ z, z = s1 := ⟨_, rfl⟩
  try dsimp only at h
  refine hL5  fz _ _ _ _ _ _ _ hc3 hP hS (lv_sub hl [2, 3, 4, 1, 0] rfl) (fun H locs ls hP hS hl => ?_)
  have hl : lv_has ls 5 [(3, .int x4)] := hl
  refine lv_iload_n hx hb dX0_wordsOf_54 rfl (lv_at hl 0 rfl) ?_
  exact end_i X hr hk hP hS h dX0_wordsOf_55
theorem dX11_lesserSet_0 : decode cX11_lesserSet 0 = .ok (.iload_n 0, 1) := by decide +kernel
theorem dX11_lesserSet_1 : decode cX11_lesserSet 1 = .ok (.invokestatic 270, 3) := by decide +kernel
theorem dX11_lesserSet_4 : decode cX11_lesserSet 4 = .ok (.iload_n 1, 1) := by decide +kernel
theorem dX11_lesserSet_5 : decode cX11_lesserSet 5 = .ok (.invokestatic 270, 3) := by decide +kernel
theorem dX11_lesserSet_8 : decode cX11_lesserSet 8 = .ok (.isub, 1) := by decide +kernel
theorem dX11_lesserSet_9 : decode cX11_lesserSet 9 = .ok (.istore_n 2, 1) := by decide +kernel
theorem dX11_lesserSet_10 : decode cX11_lesserSet 10 = .ok (.iload_n 2, 1) := by decide +kernel
theorem dX11_lesserSet_11 : decode cX11_lesserSet 11 = .ok (.ifCond .eq 13, 3) := by decide +kernel
theorem dX11_lesserSet_14 : decode cX11_lesserSet 14 = .ok (.iload_n 2, 1) := by decide +kernel
theorem dX11_lesserSet_15 : decode cX11_lesserSet 15 = .ok (.ifCond .ge 7, 3) := by decide +kernel
theorem dX11_lesserSet_18 : decode cX11_lesserSet 18 = .ok (.iload_n 0, 1) := by decide +kernel
theorem dX11_lesserSet_19 : decode cX11_lesserSet 19 = .ok (.goto 4, 3) := by decide +kernel
theorem dX11_lesserSet_22 : decode cX11_lesserSet 22 = .ok (.iload_n 1, 1) := by decide +kernel
theorem dX11_lesserSet_23 : decode cX11_lesserSet 23 = .ok (.ireturn, 1) := by decide +kernel
theorem dX11_lesserSet_24 : decode cX11_lesserSet 24 = .ok (.iload_n 0, 1) := by decide +kernel
theorem dX11_lesserSet_25 : decode cX11_lesserSet 25 = .ok (.iload_n 1, 1) := by decide +kernel
theorem dX11_lesserSet_26 : decode cX11_lesserSet 26 = .ok (.invokestatic 455, 3) := by decide +kernel
theorem dX11_lesserSet_29 : decode cX11_lesserSet 29 = .ok (.ireturn, 1) := by decide +kernel
set_option maxRecDepth 100000 in
set_option maxHeartbeats 8000000 in
theorem c_X11_lesserSet (l : Launch) (D : va_G) (cA : Nat → ClassId) (q aK aV : Nat → Nat) (hq : injG 167 q) {a0 : Int32} {a1 : Int32} {M M0 : Mem} {r0 : Int32} (h : f_X11_lesserSet a0 a1 M = some (r0, M0)) : Met l yX11_lesserSet (.code yX11_lesserSet cX11_lesserSet 3 (some .int) :: BW) ({ frames := 2, cells := 0, slots := 0, locals := 40 } : Room) (va_Pc [.int a0, .int a1] (CB 167 (ceC cA q) D cA q aK aV M)) (Qi 167 (ceC cA q) D q r0 M0) 0 0 (AqG 167 q) := by
  refine gMet RX11 (by decide +kernel) rfl hq (Nat.le_of_ble_eq_true rfl) ?_
  intro p e s m below meth c ls X hr hk hP hS hl
  have hx := X.1
  have hb := X.2.1
  have hl : lv_has ls 3 [(0, .int a0), (1, .int a1)] := hl
  rw [f_X11_lesserSet] at h
  refine lv_iload_n hx hb dX11_lesserSet_0 rfl (lv_at hl 0 rfl) ?_
  obtain ⟨r1, M2, hc3, h⟩ := bnd_inv h
  refine gS_i (As := [.int a0]) X hP hS hl.1 (c_J6_bitCount_0f7a4_C l D cA q aK aV hq hc3) sf_J6_bitCount_0f7a4 bw_894 ss_J6_bitCount_0f7a4 ⟨rfl, rfl⟩ ⟨Nat.le_of_ble_eq_true rfl, Nat.le_of_ble_eq_true rfl⟩ rfl rfl (Nat.le_of_ble_eq_true rfl) dX11_lesserSet_1 (fun H locs hP hS => ?_)
  refine lv_iload_n hx hb dX11_lesserSet_4 rfl (lv_at hl 1 rfl) ?_
  obtain ⟨r4, M5, hc6, h⟩ := bnd_inv h
  refine gS_i (As := [.int a1]) X hP hS hl.1 (c_J6_bitCount_0f7a4_C l D cA q aK aV hq hc6) sf_J6_bitCount_0f7a4 bw_894 ss_J6_bitCount_0f7a4 ⟨rfl, rfl⟩ ⟨Nat.le_of_ble_eq_true rfl, Nat.le_of_ble_eq_true rfl⟩ rfl rfl (Nat.le_of_ble_eq_true rfl) dX11_lesserSet_5 (fun H locs hP hS => ?_)
  refine lv_isub hx hb dX11_lesserSet_8 ?_
  obtain ⟨y7, ey7, h⟩ := lt_inv h
  refine topE ey7 ?_
  refine lv_istore_n (lv' := [(2, .int y7), (0, .int a0), (1, .int a1)]) hx hb dX11_lesserSet_9 rfl hl (by decide) rfl (fun ls hl => ?_)
  refine lv_iload_n hx hb dX11_lesserSet_10 rfl (lv_at hl 0 rfl) ?_
  refine lv_if_eq (tgt := 24) hx hb dX11_lesserSet_11 (by decide) (fun c8 => ?_) (fun c8 => ?_)
  · rw [if_pos c8] at h
    refine lv_iload_n hx hb dX11_lesserSet_24 rfl (lv_at hl 1 rfl) ?_
    refine lv_iload_n hx hb dX11_lesserSet_25 rfl (lv_at hl 2 rfl) ?_
    obtain ⟨y9, ey9, h⟩ := lt_inv h
    refine va_mmin hx hb (by rw [X.2.2.1]; exact hl.1.symm) X.2.2.2.1 (X.2.2.2.2.1 _ bw_1148) (X.2.2.2.2.1 _ bw_888) (X.2.2.2.2.1 _ bw_18) (X.2.2.2.2.1 _ bw_889) (Nat.le_of_ble_eq_true rfl) (Nat.le_of_ble_eq_true rfl) (Nat.zero_le _) (Nat.zero_le _) dX11_lesserSet_26 ?_
    refine topE ey9 ?_
    exact end_i X hr hk hP hS h dX11_lesserSet_29
  · rw [if_neg c8] at h
    refine lv_iload_n hx hb dX11_lesserSet_14 rfl (lv_at hl 0 rfl) ?_
    refine lv_if_ge (tgt := 22) hx hb dX11_lesserSet_15 (by decide) (fun c10 => ?_) (fun c10 => ?_)
    · rw [if_pos c10] at h
      refine lv_iload_n hx hb dX11_lesserSet_22 rfl (lv_at hl 2 rfl) ?_
      exact end_i X hr hk hP hS h dX11_lesserSet_23
    · rw [if_neg c10] at h
      refine lv_iload_n hx hb dX11_lesserSet_18 rfl (lv_at hl 1 rfl) ?_
      refine lv_goto (tgt := 23) hx hb dX11_lesserSet_19 (by decide) ?_
      exact end_i X hr hk hP hS h dX11_lesserSet_23
theorem dX11_wordsToStrike_0 : decode cX11_wordsToStrike 0 = .ok (.iconst 0, 1) := by decide +kernel
theorem dX11_wordsToStrike_1 : decode cX11_wordsToStrike 1 = .ok (.istore_n 1, 1) := by decide +kernel
theorem dX11_wordsToStrike_2 : decode cX11_wordsToStrike 2 = .ok (.iconst 0, 1) := by decide +kernel
theorem dX11_wordsToStrike_3 : decode cX11_wordsToStrike 3 = .ok (.istore_n 2, 1) := by decide +kernel
theorem dX11_wordsToStrike_4 : decode cX11_wordsToStrike 4 = .ok (.iload_n 2, 1) := by decide +kernel
theorem dX11_wordsToStrike_5 : decode cX11_wordsToStrike 5 = .ok (.aload_n 0, 1) := by decide +kernel
theorem dX11_wordsToStrike_6 : decode cX11_wordsToStrike 6 = .ok (.getfield 10, 3) := by decide +kernel
theorem dX11_wordsToStrike_9 : decode cX11_wordsToStrike 9 = .ok (.iconst 3, 1) := by decide +kernel
theorem dX11_wordsToStrike_10 : decode cX11_wordsToStrike 10 = .ok (.invokevirtual 167, 3) := by decide +kernel
theorem dX11_wordsToStrike_13 : decode cX11_wordsToStrike 13 = .ok (.if_icmp .ge 83, 3) := by decide +kernel
theorem dX11_wordsToStrike_16 : decode cX11_wordsToStrike 16 = .ok (.aload_n 0, 1) := by decide +kernel
theorem dX11_wordsToStrike_17 : decode cX11_wordsToStrike 17 = .ok (.getfield 10, 3) := by decide +kernel
theorem dX11_wordsToStrike_20 : decode cX11_wordsToStrike 20 = .ok (.iload_n 2, 1) := by decide +kernel
theorem dX11_wordsToStrike_21 : decode cX11_wordsToStrike 21 = .ok (.iconst 1, 1) := by decide +kernel
theorem dX11_wordsToStrike_22 : decode cX11_wordsToStrike 22 = .ok (.invokevirtual 449, 3) := by decide +kernel
theorem dX11_wordsToStrike_25 : decode cX11_wordsToStrike 25 = .ok (.istore_n 3, 1) := by decide +kernel
theorem dX11_wordsToStrike_26 : decode cX11_wordsToStrike 26 = .ok (.aload_n 0, 1) := by decide +kernel
theorem dX11_wordsToStrike_27 : decode cX11_wordsToStrike 27 = .ok (.getfield 10, 3) := by decide +kernel
theorem dX11_wordsToStrike_30 : decode cX11_wordsToStrike 30 = .ok (.iload_n 2, 1) := by decide +kernel
theorem dX11_wordsToStrike_31 : decode cX11_wordsToStrike 31 = .ok (.iconst 2, 1) := by decide +kernel
theorem dX11_wordsToStrike_32 : decode cX11_wordsToStrike 32 = .ok (.invokevirtual 449, 3) := by decide +kernel
theorem dX11_wordsToStrike_35 : decode cX11_wordsToStrike 35 = .ok (.istore 4, 2) := by decide +kernel
theorem dX11_wordsToStrike_37 : decode cX11_wordsToStrike 37 = .ok (.aload_n 0, 1) := by decide +kernel
theorem dX11_wordsToStrike_38 : decode cX11_wordsToStrike 38 = .ok (.getfield 10, 3) := by decide +kernel
theorem dX11_wordsToStrike_41 : decode cX11_wordsToStrike 41 = .ok (.iload_n 2, 1) := by decide +kernel
theorem dX11_wordsToStrike_42 : decode cX11_wordsToStrike 42 = .ok (.aload_n 0, 1) := by decide +kernel
theorem dX11_wordsToStrike_43 : decode cX11_wordsToStrike 43 = .ok (.getfield 10, 3) := by decide +kernel
theorem dX11_wordsToStrike_46 : decode cX11_wordsToStrike 46 = .ok (.getfield 194, 3) := by decide +kernel
theorem dX11_wordsToStrike_49 : decode cX11_wordsToStrike 49 = .ok (.invokevirtual 374, 3) := by decide +kernel
theorem dX11_wordsToStrike_52 : decode cX11_wordsToStrike 52 = .ok (.istore 5, 2) := by decide +kernel
theorem dX11_wordsToStrike_54 : decode cX11_wordsToStrike 54 = .ok (.iload 5, 2) := by decide +kernel
theorem dX11_wordsToStrike_56 : decode cX11_wordsToStrike 56 = .ok (.iconst 1, 1) := by decide +kernel
theorem dX11_wordsToStrike_57 : decode cX11_wordsToStrike 57 = .ok (.if_icmp .ne 11, 3) := by decide +kernel
theorem dX11_wordsToStrike_60 : decode cX11_wordsToStrike 60 = .ok (.iload_n 1, 1) := by decide +kernel
theorem dX11_wordsToStrike_61 : decode cX11_wordsToStrike 61 = .ok (.iload 4, 2) := by decide +kernel
theorem dX11_wordsToStrike_63 : decode cX11_wordsToStrike 63 = .ok (.ior, 1) := by decide +kernel
theorem dX11_wordsToStrike_64 : decode cX11_wordsToStrike 64 = .ok (.istore_n 1, 1) := by decide +kernel
theorem dX11_wordsToStrike_65 : decode cX11_wordsToStrike 65 = .ok (.goto 25, 3) := by decide +kernel
theorem dX11_wordsToStrike_68 : decode cX11_wordsToStrike 68 = .ok (.iload 5, 2) := by decide +kernel
theorem dX11_wordsToStrike_70 : decode cX11_wordsToStrike 70 = .ok (.iconst 2, 1) := by decide +kernel
theorem dX11_wordsToStrike_71 : decode cX11_wordsToStrike 71 = .ok (.if_icmp .ne 10, 3) := by decide +kernel
theorem dX11_wordsToStrike_74 : decode cX11_wordsToStrike 74 = .ok (.iload_n 1, 1) := by decide +kernel
theorem dX11_wordsToStrike_75 : decode cX11_wordsToStrike 75 = .ok (.iload_n 3, 1) := by decide +kernel
theorem dX11_wordsToStrike_76 : decode cX11_wordsToStrike 76 = .ok (.ior, 1) := by decide +kernel
theorem dX11_wordsToStrike_77 : decode cX11_wordsToStrike 77 = .ok (.istore_n 1, 1) := by decide +kernel
theorem dX11_wordsToStrike_78 : decode cX11_wordsToStrike 78 = .ok (.goto 12, 3) := by decide +kernel
theorem dX11_wordsToStrike_81 : decode cX11_wordsToStrike 81 = .ok (.iload_n 1, 1) := by decide +kernel
theorem dX11_wordsToStrike_82 : decode cX11_wordsToStrike 82 = .ok (.iload_n 3, 1) := by decide +kernel
theorem dX11_wordsToStrike_83 : decode cX11_wordsToStrike 83 = .ok (.iload 4, 2) := by decide +kernel
theorem dX11_wordsToStrike_85 : decode cX11_wordsToStrike 85 = .ok (.invokestatic 452, 3) := by decide +kernel
theorem dX11_wordsToStrike_88 : decode cX11_wordsToStrike 88 = .ok (.ior, 1) := by decide +kernel
theorem dX11_wordsToStrike_89 : decode cX11_wordsToStrike 89 = .ok (.istore_n 1, 1) := by decide +kernel
theorem dX11_wordsToStrike_90 : decode cX11_wordsToStrike 90 = .ok (.iinc 2 1, 3) := by decide +kernel
theorem dX11_wordsToStrike_93 : decode cX11_wordsToStrike 93 = .ok (.goto (-89), 3) := by decide +kernel
theorem dX11_wordsToStrike_96 : decode cX11_wordsToStrike 96 = .ok (.iload_n 1, 1) := by decide +kernel
theorem dX11_wordsToStrike_97 : decode cX11_wordsToStrike 97 = .ok (.ireturn, 1) := by decide +kernel
set_option maxRecDepth 100000 in
set_option maxHeartbeats 8000000 in
theorem c_X11_wordsToStrike (l : Launch) (D : va_G) (cA : Nat → ClassId) (q aK aV : Nat → Nat) (hq : injG 167 q) {M M0 : Mem} {r0 : Int32} (h : f_X11_wordsToStrike M = some (r0, M0)) : Met l yX11_wordsToStrike (.code yX11_wordsToStrike cX11_wordsToStrike 6 (some .int) :: BW) ({ frames := 5, cells := 0, slots := 0, locals := 111 } : Room) (va_Pc [.ref (q 0)] (CB 167 (ceC cA q) D cA q aK aV M)) (Qi 167 (ceC cA q) D q r0 M0) 0 0 (AqG 167 q) := by
  refine gMet RX11 (by decide +kernel) rfl hq (Nat.le_of_ble_eq_true rfl) ?_
  intro p e s m below meth c ls X hr hk hP hS hl
  have hx := X.1
  have hb := X.2.1
  have hl : lv_has ls 6 [(0, .ref (q 0))] := hl
  rw [f_X11_wordsToStrike] at h
  have hL4 : ∀ (fu : Nat) (b1 : Int32) (b2 : Int32) (M : Mem) (res : (Int32) × Mem) (H : Heap) (locs : List Loc) (ls : Array Slot), f_X11_wordsToStrike_L4 fu b1 b2 M = some res → va_P D vwCl (wsG 167 (ceC cA q) q M) H → va_S (AqG 167 q) s.heap H locs → lv_has ls 6 [(0, .ref (q 0)), (1, .int b1), (2, .int b2)] → (∀ (H : Heap) (locs : List Loc) (ls : Array Slot), va_P D vwCl (wsG 167 (ceC cA q) q res.2) H → va_S (AqG 167 q) s.heap H locs → lv_has ls 6 [(1, .int (res.1))] → W p l e ({ frames := 5, cells := 0, slots := 0, locals := 111 } : Room) s m [.ref (q 0)].toArray below meth c H locs 0 0 (MQ below (Qi 167 (ceC cA q) D q r0 M0) [.ref (q 0)].toArray s 0 0 (AqG 167 q)) (F0 m 96 ls [])) → W p l e ({ frames := 5, cells := 0, slots := 0, locals := 111 } : Room) s m [.ref (q 0)].toArray below meth c H locs 0 0 (MQ below (Qi 167 (ceC cA q) D q r0 M0) [.ref (q 0)].toArray s 0 0 (AqG 167 q)) (F0 m 4 ls []) := by
    intro fu
    induction fu with
    | zero => intro b1 b2 M res H locs ls h; exact absurd h (by simp [f_X11_wordsToStrike_L4])
    | succ fu ih =>
      intro b1 b2 M res H locs ls h hP hS hl K4_0
      rw [f_X11_wordsToStrike_L4] at h
      refine lv_iload_n hx hb dX11_wordsToStrike_4 rfl (lv_at hl 2 rfl) ?_
      refine lv_aload_n hx hb dX11_wordsToStrike_5 rfl (lv_at hl 0 rfl) ?_
      refine gfC_11_0 X hP sC_0 bw_430 dX11_wordsToStrike_6 ?_
      obtain ⟨g5, h⟩ := gd_inv h
      have g5 := Decidable.not_not.mp g5
      refine lv_iconst (v := 3) hx hb dX11_wordsToStrike_9 (by decide) ?_
      obtain ⟨r6, M7, hc8, h⟩ := bnd_inv h
      refine gV_i (As := [.int (3 : Int32)]) X hP hS hl.1 (c_X0_countOf l D cA q aK aV hq g5 hc8) sf_X0_countOf bw_750 sv_X0_countOf (rcC_0 g5) rfl ⟨rfl, rfl⟩ ⟨Nat.le_of_ble_eq_true rfl, Nat.le_of_ble_eq_true rfl⟩ rfl rfl (Nat.le_of_ble_eq_true rfl) dX11_wordsToStrike_10 (fun H locs hP hS => ?_)
      refine lv_icmp_ge (tgt := 96) hx hb dX11_wordsToStrike_13 (by decide) (fun c9 => ?_) (fun c9 => ?_)
      · rw [if_pos c9] at h
        cases h
        exact K4_0 _ _ _ hP hS (lv_sub hl [1] rfl)
      · rw [if_neg c9] at h
        refine lv_aload_n hx hb dX11_wordsToStrike_16 rfl (lv_at hl 0 rfl) ?_
        refine gfC_11_0 X hP sC_0 bw_430 dX11_wordsToStrike_17 ?_
        obtain ⟨g10, h⟩ := gd_inv h
        have g10 := Decidable.not_not.mp g10
        refine lv_iload_n hx hb dX11_wordsToStrike_20 rfl (lv_at hl 2 rfl) ?_
        refine lv_iconst (v := 1) hx hb dX11_wordsToStrike_21 (by decide) ?_
        obtain ⟨r11, M12, hc13, h⟩ := bnd_inv h
        refine gV_i (As := [.int b2, .int (1 : Int32)]) X hP hS hl.1 (c_X0_wordsOf l D cA q aK aV hq g10 hc13) sf_X0_wordsOf bw_1141 sv_X0_wordsOf (rcC_0 g10) rfl ⟨rfl, rfl⟩ ⟨Nat.le_of_ble_eq_true rfl, Nat.le_of_ble_eq_true rfl⟩ rfl rfl (Nat.le_of_ble_eq_true rfl) dX11_wordsToStrike_22 (fun H locs hP hS => ?_)
        refine lv_istore_n (lv' := [(3, .int r11), (0, .ref (q 0)), (1, .int b1), (2, .int b2)]) hx hb dX11_wordsToStrike_25 rfl hl (by decide) rfl (fun ls hl => ?_)
        refine lv_aload_n hx hb dX11_wordsToStrike_26 rfl (lv_at hl 1 rfl) ?_
        refine gfC_11_0 X hP sC_0 bw_430 dX11_wordsToStrike_27 ?_
        obtain ⟨g14, h⟩ := gd_inv h
        have g14 := Decidable.not_not.mp g14
        refine lv_iload_n hx hb dX11_wordsToStrike_30 rfl (lv_at hl 3 rfl) ?_
        refine lv_iconst (v := 2) hx hb dX11_wordsToStrike_31 (by decide) ?_
        obtain ⟨r15, M16, hc17, h⟩ := bnd_inv h
        refine gV_i (As := [.int b2, .int (2 : Int32)]) X hP hS hl.1 (c_X0_wordsOf l D cA q aK aV hq g14 hc17) sf_X0_wordsOf bw_1141 sv_X0_wordsOf (rcC_0 g14) rfl ⟨rfl, rfl⟩ ⟨Nat.le_of_ble_eq_true rfl, Nat.le_of_ble_eq_true rfl⟩ rfl rfl (Nat.le_of_ble_eq_true rfl) dX11_wordsToStrike_32 (fun H locs hP hS => ?_)
        refine lv_istore (lv' := [(4, .int r15), (3, .int r11), (0, .ref (q 0)), (1, .int b1), (2, .int b2)]) hx hb dX11_wordsToStrike_35 hl (by decide) rfl (fun ls hl => ?_)
        refine lv_aload_n hx hb dX11_wordsToStrike_37 rfl (lv_at hl 2 rfl) ?_
        refine gfC_11_0 X hP sC_0 bw_430 dX11_wordsToStrike_38 ?_
        obtain ⟨g18, h⟩ := gd_inv h
        have g18 := Decidable.not_not.mp g18
        refine lv_iload_n hx hb dX11_wordsToStrike_41 rfl (lv_at hl 4 rfl) ?_
        refine lv_aload_n hx hb dX11_wordsToStrike_42 rfl (lv_at hl 2 rfl) ?_
        refine gfC_11_0 X hP sC_0 bw_430 dX11_wordsToStrike_43 ?_
        obtain ⟨g19, h⟩ := gd_inv h
        have g19 := Decidable.not_not.mp g19
        refine gfC_0_12 X hP g19 bw_171 dX11_wordsToStrike_46 ?_
        obtain ⟨r20, M21, hc22, h⟩ := bnd_inv h
        refine gV_i (As := [.int b2, .int (gI M16 (gR M16 0 0) 12)]) X hP hS hl.1 (c_X0_senseBefore l D cA q aK aV hq g18 hc22) sf_X0_senseBefore bw_1129 sv_X0_senseBefore (rcC_0 g18) rfl ⟨rfl, rfl⟩ ⟨Nat.le_of_ble_eq_true rfl, Nat.le_of_ble_eq_true rfl⟩ rfl rfl (Nat.le_of_ble_eq_true rfl) dX11_wordsToStrike_49 (fun H locs hP hS => ?_)
        refine lv_istore (lv' := [(5, .int r20), (4, .int r15), (3, .int r11), (0, .ref (q 0)), (1, .int b1), (2, .int b2)]) hx hb dX11_wordsToStrike_52 hl (by decide) rfl (fun ls hl => ?_)
        refine lv_iload hx hb dX11_wordsToStrike_54 (lv_at hl 0 rfl) ?_
        refine lv_iconst (v := 1) hx hb dX11_wordsToStrike_56 (by decide) ?_
        refine lv_icmp_ne (tgt := 68) hx hb dX11_wordsToStrike_57 (by decide) (fun c23 => ?_) (fun c23 => ?_)
        · rw [if_neg c23] at h
          refine lv_iload hx hb dX11_wordsToStrike_68 (lv_at hl 0 rfl) ?_
          refine lv_iconst (v := 2) hx hb dX11_wordsToStrike_70 (by decide) ?_
          refine lv_icmp_ne (tgt := 81) hx hb dX11_wordsToStrike_71 (by decide) (fun c24 => ?_) (fun c24 => ?_)
          · rw [if_neg c24] at h
            refine lv_iload_n hx hb dX11_wordsToStrike_81 rfl (lv_at hl 4 rfl) ?_
            refine lv_iload_n hx hb dX11_wordsToStrike_82 rfl (lv_at hl 2 rfl) ?_
            refine lv_iload hx hb dX11_wordsToStrike_83 (lv_at hl 1 rfl) ?_
            obtain ⟨r25, M26, hc27, h⟩ := bnd_inv h
            refine gS_i (As := [.int r11, .int r15]) X hP hS hl.1 (c_X11_lesserSet l D cA q aK aV hq hc27) sf_X11_lesserSet bw_1145 ss_X11_lesserSet ⟨rfl, rfl⟩ ⟨Nat.le_of_ble_eq_true rfl, Nat.le_of_ble_eq_true rfl⟩ rfl rfl (Nat.le_of_ble_eq_true rfl) dX11_wordsToStrike_85 (fun H locs hP hS => ?_)
            refine lv_ior hx hb dX11_wordsToStrike_88 ?_
            obtain ⟨y28, ey28, h⟩ := lt_inv h
            refine topE ey28 ?_
            refine lv_istore_n (lv' := [(1, .int y28), (5, .int r20), (4, .int r15), (3, .int r11), (0, .ref (q 0)), (2, .int b2)]) hx hb dX11_wordsToStrike_89 rfl hl (by decide) rfl (fun ls hl => ?_)
            obtain ⟨y29, ey29, h⟩ := lt_inv h
            refine lv_iinc (v := y29) (lv' := [(2, .int y29), (1, .int y28), (5, .int r20), (4, .int r15), (3, .int r11), (0, .ref (q 0))]) hx hb dX11_wordsToStrike_90 hl (k := 5) rfl (by rw [ey29]; rfl) (by decide) rfl (fun ls hl => ?_)
            refine lv_goto (tgt := 4) hx hb dX11_wordsToStrike_93 (by decide) ?_
            exact ih _ _ _ res _ _ _ h hP hS (lv_sub hl [5, 1, 0] rfl) K4_0
          · rw [if_pos c24] at h
            refine lv_iload_n hx hb dX11_wordsToStrike_74 rfl (lv_at hl 4 rfl) ?_
            refine lv_iload_n hx hb dX11_wordsToStrike_75 rfl (lv_at hl 2 rfl) ?_
            refine lv_ior hx hb dX11_wordsToStrike_76 ?_
            obtain ⟨y30, ey30, h⟩ := lt_inv h
            refine topE ey30 ?_
            refine lv_istore_n (lv' := [(1, .int y30), (5, .int r20), (4, .int r15), (3, .int r11), (0, .ref (q 0)), (2, .int b2)]) hx hb dX11_wordsToStrike_77 rfl hl (by decide) rfl (fun ls hl => ?_)
            refine lv_goto (tgt := 90) hx hb dX11_wordsToStrike_78 (by decide) ?_
            obtain ⟨y31, ey31, h⟩ := lt_inv h
            refine lv_iinc (v := y31) (lv' := [(2, .int y31), (1, .int y30), (5, .int r20), (4, .int r15), (3, .int r11), (0, .ref (q 0))]) hx hb dX11_wordsToStrike_90 hl (k := 5) rfl (by rw [ey31]; rfl) (by decide) rfl (fun ls hl => ?_)
            refine lv_goto (tgt := 4) hx hb dX11_wordsToStrike_93 (by decide) ?_
            exact ih _ _ _ res _ _ _ h hP hS (lv_sub hl [5, 1, 0] rfl) K4_0
        · rw [if_pos c23] at h
          refine lv_iload_n hx hb dX11_wordsToStrike_60 rfl (lv_at hl 4 rfl) ?_
          refine lv_iload hx hb dX11_wordsToStrike_61 (lv_at hl 1 rfl) ?_
          refine lv_ior hx hb dX11_wordsToStrike_63 ?_
          obtain ⟨y32, ey32, h⟩ := lt_inv h
          refine topE ey32 ?_
          refine lv_istore_n (lv' := [(1, .int y32), (5, .int r20), (4, .int r15), (3, .int r11), (0, .ref (q 0)), (2, .int b2)]) hx hb dX11_wordsToStrike_64 rfl hl (by decide) rfl (fun ls hl => ?_)
          refine lv_goto (tgt := 90) hx hb dX11_wordsToStrike_65 (by decide) ?_
          obtain ⟨y33, ey33, h⟩ := lt_inv h
          refine lv_iinc (v := y33) (lv' := [(2, .int y33), (1, .int y32), (5, .int r20), (4, .int r15), (3, .int r11), (0, .ref (q 0))]) hx hb dX11_wordsToStrike_90 hl (k := 5) rfl (by rw [ey33]; rfl) (by decide) rfl (fun ls hl => ?_)
          refine lv_goto (tgt := 4) hx hb dX11_wordsToStrike_93 (by decide) ?_
          exact ih _ _ _ res _ _ _ h hP hS (lv_sub hl [5, 1, 0] rfl) K4_0
  refine lv_iconst (v := 0) hx hb dX11_wordsToStrike_0 (by decide) ?_
  refine lv_istore_n (lv' := [(1, .int (0 : Int32)), (0, .ref (q 0))]) hx hb dX11_wordsToStrike_1 rfl hl (by decide) rfl (fun ls hl => ?_)
  refine lv_iconst (v := 0) hx hb dX11_wordsToStrike_2 (by decide) ?_
  refine lv_istore_n (lv' := [(2, .int (0 : Int32)), (1, .int (0 : Int32)), (0, .ref (q 0))]) hx hb dX11_wordsToStrike_3 rfl hl (by decide) rfl (fun ls hl => ?_)
  obtain ⟨s1, M2, hc3, h⟩ := bnd_inv h
  obtain ⟨x4, rfl⟩ : ∃ z, z = s1 := ⟨_, rfl⟩
  try dsimp only at h
  refine hL4  fz _ _ _ _ _ _ _ hc3 hP hS (lv_sub hl [2, 1, 0] rfl) (fun H locs ls hP hS hl => ?_)
  have hl : lv_has ls 6 [(1, .int x4)] := hl
  refine lv_iload_n hx hb dX11_wordsToStrike_96 rfl (lv_at hl 0 rfl) ?_
  exact end_i X hr hk hP hS h dX11_wordsToStrike_97
theorem dX11_struck_0 : decode cX11_struck 0 = .ok (.aload_n 0, 1) := by decide +kernel
theorem dX11_struck_1 : decode cX11_struck 1 = .ok (.aload_n 0, 1) := by decide +kernel
theorem dX11_struck_2 : decode cX11_struck 2 = .ok (.invokevirtual 377, 3) := by decide +kernel
theorem dX11_struck_5 : decode cX11_struck 5 = .ok (.invokestatic 270, 3) := by decide +kernel
theorem dX11_struck_8 : decode cX11_struck 8 = .ok (.invokevirtual 191, 3) := by decide +kernel
theorem dX11_struck_11 : decode cX11_struck 11 = .ok (.ireturn, 1) := by decide +kernel
set_option maxRecDepth 100000 in
set_option maxHeartbeats 8000000 in
theorem c_X11_struck (l : Launch) (D : va_G) (cA : Nat → ClassId) (q aK aV : Nat → Nat) (hq : injG 167 q) {M M0 : Mem} {r0 : Int32} (h : f_X11_struck M = some (r0, M0)) : Met l yX11_struck (.code yX11_struck cX11_struck 1 (some .int) :: BW) ({ frames := 6, cells := 0, slots := 0, locals := 136 } : Room) (va_Pc [.ref (q 0)] (CB 167 (ceC cA q) D cA q aK aV M)) (Qi 167 (ceC cA q) D q r0 M0) 0 0 (AqG 167 q) := by
  refine gMet RX11 (by decide +kernel) rfl hq (Nat.le_of_ble_eq_true rfl) ?_
  intro p e s m below meth c ls X hr hk hP hS hl
  have hx := X.1
  have hb := X.2.1
  have hl : lv_has ls 1 [(0, .ref (q 0))] := hl
  rw [f_X11_struck] at h
  refine lv_aload_n hx hb dX11_struck_0 rfl (lv_at hl 0 rfl) ?_
  refine lv_aload_n hx hb dX11_struck_1 rfl (lv_at hl 0 rfl) ?_
  obtain ⟨r1, M2, hc3, h⟩ := bnd_inv h
  refine gV_i (As := []) X hP hS hl.1 (c_X11_wordsToStrike l D cA q aK aV hq hc3) sf_X11_wordsToStrike bw_1137 sv_X11_wordsToStrike (rcC_11 sC_0) rfl ⟨rfl, rfl⟩ ⟨Nat.le_of_ble_eq_true rfl, Nat.le_of_ble_eq_true rfl⟩ rfl rfl (Nat.le_of_ble_eq_true rfl) dX11_struck_2 (fun H locs hP hS => ?_)
  obtain ⟨r4, M5, hc6, h⟩ := bnd_inv h
  refine gS_i (As := [.int r1]) X hP hS hl.1 (c_J6_bitCount_0f7a4_C l D cA q aK aV hq hc6) sf_J6_bitCount_0f7a4 bw_894 ss_J6_bitCount_0f7a4 ⟨rfl, rfl⟩ ⟨Nat.le_of_ble_eq_true rfl, Nat.le_of_ble_eq_true rfl⟩ rfl rfl (Nat.le_of_ble_eq_true rfl) dX11_struck_5 (fun H locs hP hS => ?_)
  obtain ⟨r7, M8, hc9, h⟩ := bnd_inv h
  refine gV_i (As := [.int r4]) X hP hS hl.1 (c_X11_given l D cA q aK aV hq hc9) sf_X11_given bw_755 sv_X11_given (rcC_11 sC_0) rfl ⟨rfl, rfl⟩ ⟨Nat.le_of_ble_eq_true rfl, Nat.le_of_ble_eq_true rfl⟩ rfl rfl (Nat.le_of_ble_eq_true rfl) dX11_struck_8 (fun H locs hP hS => ?_)
  exact end_i X hr hk hP hS h dX11_struck_11
theorem dX11_struckSet_0 : decode cX11_struckSet 0 = .ok (.aload_n 0, 1) := by decide +kernel
theorem dX11_struckSet_1 : decode cX11_struckSet 1 = .ok (.aload_n 0, 1) := by decide +kernel
theorem dX11_struckSet_2 : decode cX11_struckSet 2 = .ok (.invokevirtual 377, 3) := by decide +kernel
theorem dX11_struckSet_5 : decode cX11_struckSet 5 = .ok (.invokevirtual 191, 3) := by decide +kernel
theorem dX11_struckSet_8 : decode cX11_struckSet 8 = .ok (.ireturn, 1) := by decide +kernel
set_option maxRecDepth 100000 in
set_option maxHeartbeats 8000000 in
theorem c_X11_struckSet (l : Launch) (D : va_G) (cA : Nat → ClassId) (q aK aV : Nat → Nat) (hq : injG 167 q) {M M0 : Mem} {r0 : Int32} (h : f_X11_struckSet M = some (r0, M0)) : Met l yX11_struckSet (.code yX11_struckSet cX11_struckSet 1 (some .int) :: BW) ({ frames := 6, cells := 0, slots := 0, locals := 136 } : Room) (va_Pc [.ref (q 0)] (CB 167 (ceC cA q) D cA q aK aV M)) (Qi 167 (ceC cA q) D q r0 M0) 0 0 (AqG 167 q) := by
  refine gMet RX11 (by decide +kernel) rfl hq (Nat.le_of_ble_eq_true rfl) ?_
  intro p e s m below meth c ls X hr hk hP hS hl
  have hx := X.1
  have hb := X.2.1
  have hl : lv_has ls 1 [(0, .ref (q 0))] := hl
  rw [f_X11_struckSet] at h
  refine lv_aload_n hx hb dX11_struckSet_0 rfl (lv_at hl 0 rfl) ?_
  refine lv_aload_n hx hb dX11_struckSet_1 rfl (lv_at hl 0 rfl) ?_
  obtain ⟨r1, M2, hc3, h⟩ := bnd_inv h
  refine gV_i (As := []) X hP hS hl.1 (c_X11_wordsToStrike l D cA q aK aV hq hc3) sf_X11_wordsToStrike bw_1137 sv_X11_wordsToStrike (rcC_11 sC_0) rfl ⟨rfl, rfl⟩ ⟨Nat.le_of_ble_eq_true rfl, Nat.le_of_ble_eq_true rfl⟩ rfl rfl (Nat.le_of_ble_eq_true rfl) dX11_struckSet_2 (fun H locs hP hS => ?_)
  obtain ⟨r4, M5, hc6, h⟩ := bnd_inv h
  refine gV_i (As := [.int r1]) X hP hS hl.1 (c_X11_given l D cA q aK aV hq hc6) sf_X11_given bw_755 sv_X11_given (rcC_11 sC_0) rfl ⟨rfl, rfl⟩ ⟨Nat.le_of_ble_eq_true rfl, Nat.le_of_ble_eq_true rfl⟩ rfl rfl (Nat.le_of_ble_eq_true rfl) dX11_struckSet_5 (fun H locs hP hS => ?_)
  exact end_i X hr hk hP hS h dX11_struckSet_8
theorem dX3_freeWith_0 : decode cX3_freeWith 0 = .ok (.bipush 9, 2) := by decide +kernel
theorem dX3_freeWith_2 : decode cX3_freeWith 2 = .ok (.aload_n 1, 1) := by decide +kernel
theorem dX3_freeWith_3 : decode cX3_freeWith 3 = .ok (.getfield 64, 3) := by decide +kernel
theorem dX3_freeWith_6 : decode cX3_freeWith 6 = .ok (.iload_n 2, 1) := by decide +kernel
theorem dX3_freeWith_7 : decode cX3_freeWith 7 = .ok (.invokestatic 28, 3) := by decide +kernel
theorem dX3_freeWith_10 : decode cX3_freeWith 10 = .ok (.iadd, 1) := by decide +kernel
theorem dX3_freeWith_11 : decode cX3_freeWith 11 = .ok (.invokestatic 67, 3) := by decide +kernel
theorem dX3_freeWith_14 : decode cX3_freeWith 14 = .ok (.istore 4, 2) := by decide +kernel
theorem dX3_freeWith_16 : decode cX3_freeWith 16 = .ok (.aload_n 1, 1) := by decide +kernel
theorem dX3_freeWith_17 : decode cX3_freeWith 17 = .ok (.iload_n 3, 1) := by decide +kernel
theorem dX3_freeWith_18 : decode cX3_freeWith 18 = .ok (.iload 4, 2) := by decide +kernel
theorem dX3_freeWith_20 : decode cX3_freeWith 20 = .ok (.invokevirtual 70, 3) := by decide +kernel
theorem dX3_freeWith_23 : decode cX3_freeWith 23 = .ok (.iconst 2, 1) := by decide +kernel
theorem dX3_freeWith_24 : decode cX3_freeWith 24 = .ok (.if_icmp .ne 7, 3) := by decide +kernel
theorem dX3_freeWith_27 : decode cX3_freeWith 27 = .ok (.iconst 1, 1) := by decide +kernel
theorem dX3_freeWith_28 : decode cX3_freeWith 28 = .ok (.goto 4, 3) := by decide +kernel
theorem dX3_freeWith_31 : decode cX3_freeWith 31 = .ok (.iconst 0, 1) := by decide +kernel
theorem dX3_freeWith_32 : decode cX3_freeWith 32 = .ok (.istore 5, 2) := by decide +kernel
theorem dX3_freeWith_34 : decode cX3_freeWith 34 = .ok (.iload 5, 2) := by decide +kernel
theorem dX3_freeWith_36 : decode cX3_freeWith 36 = .ok (.aload_n 0, 1) := by decide +kernel
theorem dX3_freeWith_37 : decode cX3_freeWith 37 = .ok (.getfield 9, 3) := by decide +kernel
theorem dX3_freeWith_40 : decode cX3_freeWith 40 = .ok (.iload_n 2, 1) := by decide +kernel
theorem dX3_freeWith_41 : decode cX3_freeWith 41 = .ok (.iconst 1, 1) := by decide +kernel
theorem dX3_freeWith_42 : decode cX3_freeWith 42 = .ok (.iload_n 3, 1) := by decide +kernel
theorem dX3_freeWith_43 : decode cX3_freeWith 43 = .ok (.ishl, 1) := by decide +kernel
theorem dX3_freeWith_44 : decode cX3_freeWith 44 = .ok (.ior, 1) := by decide +kernel
theorem dX3_freeWith_45 : decode cX3_freeWith 45 = .ok (.invokestatic 44, 3) := by decide +kernel
theorem dX3_freeWith_48 : decode cX3_freeWith 48 = .ok (.iadd, 1) := by decide +kernel
theorem dX3_freeWith_49 : decode cX3_freeWith 49 = .ok (.ireturn, 1) := by decide +kernel
set_option maxRecDepth 100000 in
set_option maxHeartbeats 8000000 in
theorem c_X3_freeWith (l : Launch) (D : va_G) (cA : Nat → ClassId) (q aK aV : Nat → Nat) (hq : injG 167 q) {a1 : Nat} {a2 : Int32} {a3 : Int32} {M M0 : Mem} {r0 : Int32} (h1 : shC a1 = 0) (h : f_X3_freeWith a1 a2 a3 M = some (r0, M0)) : Met l yX3_freeWith (.code yX3_freeWith cX3_freeWith 6 (some .int) :: BW) ({ frames := 5, cells := 0, slots := 0, locals := 111 } : Room) (va_Pc [.ref (q 21), .ref (q a1), .int a2, .int a3] (CB 167 (ceC cA q) D cA q aK aV M)) (Qi 167 (ceC cA q) D q r0 M0) 0 0 (AqG 167 q) := by
  refine gMet RX3 (by decide +kernel) rfl hq (Nat.le_of_ble_eq_true rfl) ?_
  intro p e s m below meth c ls X hr hk hP hS hl
  have hx := X.1
  have hb := X.2.1
  have hl : lv_has ls 6 [(0, .ref (q 21)), (1, .ref (q a1)), (2, .int a2), (3, .int a3)] := hl
  rw [f_X3_freeWith] at h
  have hJ32 : ∀ (s0 : Int32) (M : Mem) (H : Heap) (locs : List Loc) (ls : Array Slot), f_X3_freeWith_J32 a2 a3 s0 M = some (r0, M0) → va_P D vwCl (wsG 167 (ceC cA q) q M) H → va_S (AqG 167 q) s.heap H locs → lv_has ls 6 [(0, .ref (q 21)), (2, .int a2), (3, .int a3)] → W p l e ({ frames := 5, cells := 0, slots := 0, locals := 111 } : Room) s m [.ref (q 21), .ref (q a1), .int a2, .int a3].toArray below meth c H locs 0 0 (MQ below (Qi 167 (ceC cA q) D q r0 M0) [.ref (q 21), .ref (q a1), .int a2, .int a3].toArray s 0 0 (AqG 167 q)) (F0 m 32 ls [.int s0]) := by
    intro s0 M H locs ls h hP hS hl
    rw [f_X3_freeWith_J32] at h
    refine lv_istore (lv' := [(5, .int s0), (0, .ref (q 21)), (2, .int a2), (3, .int a3)]) hx hb dX3_freeWith_32 hl (by decide) rfl (fun ls hl => ?_)
    refine lv_iload hx hb dX3_freeWith_34 (lv_at hl 0 rfl) ?_
    refine lv_aload_n hx hb dX3_freeWith_36 rfl (lv_at hl 1 rfl) ?_
    refine gfC_3_0 X hP sC_21 bw_373 dX3_freeWith_37 ?_
    refine lv_iload_n hx hb dX3_freeWith_40 rfl (lv_at hl 2 rfl) ?_
    refine lv_iconst (v := 1) hx hb dX3_freeWith_41 (by decide) ?_
    refine lv_iload_n hx hb dX3_freeWith_42 rfl (lv_at hl 3 rfl) ?_
    refine lv_ishl hx hb dX3_freeWith_43 ?_
    refine lv_ior hx hb dX3_freeWith_44 ?_
    obtain ⟨r9, M10, hc11, h⟩ := bnd_inv h
    refine gSN_i (As := [.ref (q 22), .int (a2 ||| ((1 : Int32) <<< (a3 &&& 31)))]) X hP hS hl.1 (c_X11_cell l D cA q aK aV hq sC_22 hc11) sf_X11_cell nw_25 ss_X11_cell ⟨rfl, rfl⟩ ⟨Nat.le_of_ble_eq_true rfl, Nat.le_of_ble_eq_true rfl⟩ rfl rfl (Nat.le_of_ble_eq_true rfl) dX3_freeWith_45 (fun H locs hP hS => ?_)
    refine lv_iadd hx hb dX3_freeWith_48 ?_
    exact end_i X hr hk hP hS h dX3_freeWith_49
  refine lv_bipush (v := 9) hx hb dX3_freeWith_0 (by decide) ?_
  refine lv_aload_n hx hb dX3_freeWith_2 rfl (lv_at hl 1 rfl) ?_
  refine gfC_0_12 X hP h1 bw_168 dX3_freeWith_3 ?_
  refine lv_iload_n hx hb dX3_freeWith_6 rfl (lv_at hl 2 rfl) ?_
  obtain ⟨r1, M2, hc3, h⟩ := bnd_inv h
  refine gS_i (As := [.int a2]) X hP hS hl.1 (c_J6_bitCount_0f7a4_C l D cA q aK aV hq hc3) sf_J6_bitCount_0f7a4 bw_1162 ss_J6_bitCount_0f7a4 ⟨rfl, rfl⟩ ⟨Nat.le_of_ble_eq_true rfl, Nat.le_of_ble_eq_true rfl⟩ rfl rfl (Nat.le_of_ble_eq_true rfl) dX3_freeWith_7 (fun H locs hP hS => ?_)
  refine lv_iadd hx hb dX3_freeWith_10 ?_
  obtain ⟨y4, ey4, h⟩ := lt_inv h
  refine va_mmin hx hb (by rw [X.2.2.1]; exact hl.1.symm) X.2.2.2.1 (X.2.2.2.2.1 _ bw_1173) (X.2.2.2.2.1 _ bw_888) (X.2.2.2.2.1 _ bw_18) (X.2.2.2.2.1 _ bw_889) (Nat.le_of_ble_eq_true rfl) (Nat.le_of_ble_eq_true rfl) (Nat.zero_le _) (Nat.zero_le _) dX3_freeWith_11 ?_
  refine topE ey4 ?_
  refine lv_istore (lv' := [(4, .int y4), (0, .ref (q 21)), (1, .ref (q a1)), (2, .int a2), (3, .int a3)]) hx hb dX3_freeWith_14 hl (by decide) rfl (fun ls hl => ?_)
  refine lv_aload_n hx hb dX3_freeWith_16 rfl (lv_at hl 2 rfl) ?_
  refine lv_iload_n hx hb dX3_freeWith_17 rfl (lv_at hl 4 rfl) ?_
  refine lv_iload hx hb dX3_freeWith_18 (lv_at hl 0 rfl) ?_
  obtain ⟨r5, M6, hc7, h⟩ := bnd_inv h
  refine gV_i (As := [.int a3, .int y4]) X hP hS hl.1 (c_X0_senseBefore l D cA q aK aV hq h1 hc7) sf_X0_senseBefore bw_1174 sv_X0_senseBefore (rcC_0 h1) rfl ⟨rfl, rfl⟩ ⟨Nat.le_of_ble_eq_true rfl, Nat.le_of_ble_eq_true rfl⟩ rfl rfl (Nat.le_of_ble_eq_true rfl) dX3_freeWith_20 (fun H locs hP hS => ?_)
  refine lv_iconst (v := 2) hx hb dX3_freeWith_23 (by decide) ?_
  refine lv_icmp_ne (tgt := 31) hx hb dX3_freeWith_24 (by decide) (fun c8 => ?_) (fun c8 => ?_)
  · rw [if_neg c8] at h
    refine lv_iconst (v := 0) hx hb dX3_freeWith_31 (by decide) ?_
    exact hJ32 _ _ _ _ _ h hP hS (lv_sub hl [1, 3, 4] rfl)
  · rw [if_pos c8] at h
    refine lv_iconst (v := 1) hx hb dX3_freeWith_27 (by decide) ?_
    refine lv_goto (tgt := 32) hx hb dX3_freeWith_28 (by decide) ?_
    exact hJ32 _ _ _ _ _ h hP hS (lv_sub hl [1, 3, 4] rfl)
theorem dX3_mostFrom_0 : decode cX3_mostFrom 0 = .ok (.iconst 0, 1) := by decide +kernel
theorem dX3_mostFrom_1 : decode cX3_mostFrom 1 = .ok (.istore 4, 2) := by decide +kernel
theorem dX3_mostFrom_3 : decode cX3_mostFrom 3 = .ok (.iconst 0, 1) := by decide +kernel
theorem dX3_mostFrom_4 : decode cX3_mostFrom 4 = .ok (.istore 5, 2) := by decide +kernel
theorem dX3_mostFrom_6 : decode cX3_mostFrom 6 = .ok (.iload 5, 2) := by decide +kernel
theorem dX3_mostFrom_8 : decode cX3_mostFrom 8 = .ok (.aload_n 1, 1) := by decide +kernel
theorem dX3_mostFrom_9 : decode cX3_mostFrom 9 = .ok (.iconst 3, 1) := by decide +kernel
theorem dX3_mostFrom_10 : decode cX3_mostFrom 10 = .ok (.invokevirtual 48, 3) := by decide +kernel
theorem dX3_mostFrom_13 : decode cX3_mostFrom 13 = .ok (.if_icmp .ge 37, 3) := by decide +kernel
theorem dX3_mostFrom_16 : decode cX3_mostFrom 16 = .ok (.iload_n 2, 1) := by decide +kernel
theorem dX3_mostFrom_17 : decode cX3_mostFrom 17 = .ok (.iload_n 3, 1) := by decide +kernel
theorem dX3_mostFrom_18 : decode cX3_mostFrom 18 = .ok (.iconst (-1), 1) := by decide +kernel
theorem dX3_mostFrom_19 : decode cX3_mostFrom 19 = .ok (.ixor, 1) := by decide +kernel
theorem dX3_mostFrom_20 : decode cX3_mostFrom 20 = .ok (.iand, 1) := by decide +kernel
theorem dX3_mostFrom_21 : decode cX3_mostFrom 21 = .ok (.iload 5, 2) := by decide +kernel
theorem dX3_mostFrom_23 : decode cX3_mostFrom 23 = .ok (.invokestatic 51, 3) := by decide +kernel
theorem dX3_mostFrom_26 : decode cX3_mostFrom 26 = .ok (.ifCond .eq 18, 3) := by decide +kernel
theorem dX3_mostFrom_29 : decode cX3_mostFrom 29 = .ok (.iload 4, 2) := by decide +kernel
theorem dX3_mostFrom_31 : decode cX3_mostFrom 31 = .ok (.aload_n 0, 1) := by decide +kernel
theorem dX3_mostFrom_32 : decode cX3_mostFrom 32 = .ok (.aload_n 1, 1) := by decide +kernel
theorem dX3_mostFrom_33 : decode cX3_mostFrom 33 = .ok (.iload_n 3, 1) := by decide +kernel
theorem dX3_mostFrom_34 : decode cX3_mostFrom 34 = .ok (.iload 5, 2) := by decide +kernel
theorem dX3_mostFrom_36 : decode cX3_mostFrom 36 = .ok (.invokevirtual 55, 3) := by decide +kernel
theorem dX3_mostFrom_39 : decode cX3_mostFrom 39 = .ok (.invokestatic 58, 3) := by decide +kernel
theorem dX3_mostFrom_42 : decode cX3_mostFrom 42 = .ok (.istore 4, 2) := by decide +kernel
theorem dX3_mostFrom_44 : decode cX3_mostFrom 44 = .ok (.iinc 5 1, 3) := by decide +kernel
theorem dX3_mostFrom_47 : decode cX3_mostFrom 47 = .ok (.goto (-41), 3) := by decide +kernel
theorem dX3_mostFrom_50 : decode cX3_mostFrom 50 = .ok (.iload 4, 2) := by decide +kernel
theorem dX3_mostFrom_52 : decode cX3_mostFrom 52 = .ok (.ireturn, 1) := by decide +kernel
set_option maxRecDepth 100000 in
set_option maxHeartbeats 8000000 in
theorem c_X3_mostFrom (l : Launch) (D : va_G) (cA : Nat → ClassId) (q aK aV : Nat → Nat) (hq : injG 167 q) {a1 : Nat} {a2 : Int32} {a3 : Int32} {M M0 : Mem} {r0 : Int32} (h1 : shC a1 = 0) (h : f_X3_mostFrom a1 a2 a3 M = some (r0, M0)) : Met l yX3_mostFrom (.code yX3_mostFrom cX3_mostFrom 6 (some .int) :: BW) ({ frames := 6, cells := 0, slots := 0, locals := 136 } : Room) (va_Pc [.ref (q 21), .ref (q a1), .int a2, .int a3] (CB 167 (ceC cA q) D cA q aK aV M)) (Qi 167 (ceC cA q) D q r0 M0) 0 0 (AqG 167 q) := by
  refine gMet RX3 (by decide +kernel) rfl hq (Nat.le_of_ble_eq_true rfl) ?_
  intro p e s m below meth c ls X hr hk hP hS hl
  have hx := X.1
  have hb := X.2.1
  have hl : lv_has ls 6 [(0, .ref (q 21)), (1, .ref (q a1)), (2, .int a2), (3, .int a3)] := hl
  rw [f_X3_mostFrom] at h
  have hL6 : ∀ (fu : Nat) (b4 : Int32) (b5 : Int32) (M : Mem) (res : (Int32) × Mem) (H : Heap) (locs : List Loc) (ls : Array Slot), f_X3_mostFrom_L6 a1 a2 a3 fu b4 b5 M = some res → va_P D vwCl (wsG 167 (ceC cA q) q M) H → va_S (AqG 167 q) s.heap H locs → lv_has ls 6 [(0, .ref (q 21)), (1, .ref (q a1)), (2, .int a2), (3, .int a3), (4, .int b4), (5, .int b5)] → (∀ (H : Heap) (locs : List Loc) (ls : Array Slot), va_P D vwCl (wsG 167 (ceC cA q) q res.2) H → va_S (AqG 167 q) s.heap H locs → lv_has ls 6 [(4, .int (res.1))] → W p l e ({ frames := 6, cells := 0, slots := 0, locals := 136 } : Room) s m [.ref (q 21), .ref (q a1), .int a2, .int a3].toArray below meth c H locs 0 0 (MQ below (Qi 167 (ceC cA q) D q r0 M0) [.ref (q 21), .ref (q a1), .int a2, .int a3].toArray s 0 0 (AqG 167 q)) (F0 m 50 ls [])) → W p l e ({ frames := 6, cells := 0, slots := 0, locals := 136 } : Room) s m [.ref (q 21), .ref (q a1), .int a2, .int a3].toArray below meth c H locs 0 0 (MQ below (Qi 167 (ceC cA q) D q r0 M0) [.ref (q 21), .ref (q a1), .int a2, .int a3].toArray s 0 0 (AqG 167 q)) (F0 m 6 ls []) := by
    intro fu
    induction fu with
    | zero => intro b4 b5 M res H locs ls h; exact absurd h (by simp [f_X3_mostFrom_L6])
    | succ fu ih =>
      intro b4 b5 M res H locs ls h hP hS hl K6_0
      rw [f_X3_mostFrom_L6] at h
      refine lv_iload hx hb dX3_mostFrom_6 (lv_at hl 5 rfl) ?_
      refine lv_aload_n hx hb dX3_mostFrom_8 rfl (lv_at hl 1 rfl) ?_
      refine lv_iconst (v := 3) hx hb dX3_mostFrom_9 (by decide) ?_
      obtain ⟨r5, M6, hc7, h⟩ := bnd_inv h
      refine gV_i (As := [.int (3 : Int32)]) X hP hS hl.1 (c_X0_countOf l D cA q aK aV hq h1 hc7) sf_X0_countOf bw_1167 sv_X0_countOf (rcC_0 h1) rfl ⟨rfl, rfl⟩ ⟨Nat.le_of_ble_eq_true rfl, Nat.le_of_ble_eq_true rfl⟩ rfl rfl (Nat.le_of_ble_eq_true rfl) dX3_mostFrom_10 (fun H locs hP hS => ?_)
      refine lv_icmp_ge (tgt := 50) hx hb dX3_mostFrom_13 (by decide) (fun c8 => ?_) (fun c8 => ?_)
      · rw [if_pos c8] at h
        cases h
        exact K6_0 _ _ _ hP hS (lv_sub hl [4] rfl)
      · rw [if_neg c8] at h
        refine lv_iload_n hx hb dX3_mostFrom_16 rfl (lv_at hl 2 rfl) ?_
        refine lv_iload_n hx hb dX3_mostFrom_17 rfl (lv_at hl 3 rfl) ?_
        refine lv_iconst (v := -1) hx hb dX3_mostFrom_18 (by decide) ?_
        refine lv_ixor hx hb dX3_mostFrom_19 ?_
        refine lv_iand hx hb dX3_mostFrom_20 ?_
        refine lv_iload hx hb dX3_mostFrom_21 (lv_at hl 5 rfl) ?_
        obtain ⟨r9, M10, hc11, h⟩ := bnd_inv h
        refine gSN_i (As := [.int (a2 &&& (a3 ^^^ (-1 : Int32))), .int b5]) X hP hS hl.1 (c_X11_isIn l D cA q aK aV hq hc11) sf_X11_isIn nw_24 ss_X11_isIn ⟨rfl, rfl⟩ ⟨Nat.le_of_ble_eq_true rfl, Nat.le_of_ble_eq_true rfl⟩ rfl rfl (Nat.le_of_ble_eq_true rfl) dX3_mostFrom_23 (fun H locs hP hS => ?_)
        refine lv_if_eq (tgt := 44) hx hb dX3_mostFrom_26 (by decide) (fun c12 => ?_) (fun c12 => ?_)
        · rw [if_pos c12] at h
          obtain ⟨y13, ey13, h⟩ := lt_inv h
          refine lv_iinc (v := y13) (lv' := [(5, .int y13), (0, .ref (q 21)), (1, .ref (q a1)), (2, .int a2), (3, .int a3), (4, .int b4)]) hx hb dX3_mostFrom_44 hl (k := 5) rfl (by rw [ey13]; rfl) (by decide) rfl (fun ls hl => ?_)
          refine lv_goto (tgt := 6) hx hb dX3_mostFrom_47 (by decide) ?_
          exact ih _ _ _ res _ _ _ h hP hS (lv_sub hl [1, 2, 3, 4, 5, 0] rfl) K6_0
        · rw [if_neg c12] at h
          refine lv_iload hx hb dX3_mostFrom_29 (lv_at hl 4 rfl) ?_
          refine lv_aload_n hx hb dX3_mostFrom_31 rfl (lv_at hl 0 rfl) ?_
          refine lv_aload_n hx hb dX3_mostFrom_32 rfl (lv_at hl 1 rfl) ?_
          refine lv_iload_n hx hb dX3_mostFrom_33 rfl (lv_at hl 3 rfl) ?_
          refine lv_iload hx hb dX3_mostFrom_34 (lv_at hl 5 rfl) ?_
          obtain ⟨r14, M15, hc16, h⟩ := bnd_inv h
          refine gV_i (As := [.ref (q a1), .int a3, .int b5]) X hP hS hl.1 (c_X3_freeWith l D cA q aK aV hq h1 hc16) sf_X3_freeWith bw_1169 sv_X3_freeWith (rcC_3 sC_21) rfl ⟨rfl, rfl⟩ ⟨Nat.le_of_ble_eq_true rfl, Nat.le_of_ble_eq_true rfl⟩ rfl rfl (Nat.le_of_ble_eq_true rfl) dX3_mostFrom_36 (fun H locs hP hS => ?_)
          obtain ⟨y17, ey17, h⟩ := lt_inv h
          refine va_mmax hx hb (by rw [X.2.2.1]; exact hl.1.symm) X.2.2.2.1 (X.2.2.2.2.1 _ bw_1176) (X.2.2.2.2.1 _ bw_1177) (X.2.2.2.2.1 _ bw_18) (X.2.2.2.2.1 _ bw_1178) (Nat.le_of_ble_eq_true rfl) (Nat.le_of_ble_eq_true rfl) (Nat.zero_le _) (Nat.zero_le _) dX3_mostFrom_39 ?_
          refine topE ey17 ?_
          refine lv_istore (lv' := [(4, .int y17), (0, .ref (q 21)), (1, .ref (q a1)), (2, .int a2), (3, .int a3), (5, .int b5)]) hx hb dX3_mostFrom_42 hl (by decide) rfl (fun ls hl => ?_)
          obtain ⟨y18, ey18, h⟩ := lt_inv h
          refine lv_iinc (v := y18) (lv' := [(5, .int y18), (4, .int y17), (0, .ref (q 21)), (1, .ref (q a1)), (2, .int a2), (3, .int a3)]) hx hb dX3_mostFrom_44 hl (k := 5) rfl (by rw [ey18]; rfl) (by decide) rfl (fun ls hl => ?_)
          refine lv_goto (tgt := 6) hx hb dX3_mostFrom_47 (by decide) ?_
          exact ih _ _ _ res _ _ _ h hP hS (lv_sub hl [2, 3, 4, 5, 1, 0] rfl) K6_0
  refine lv_iconst (v := 0) hx hb dX3_mostFrom_0 (by decide) ?_
  refine lv_istore (lv' := [(4, .int (0 : Int32)), (0, .ref (q 21)), (1, .ref (q a1)), (2, .int a2), (3, .int a3)]) hx hb dX3_mostFrom_1 hl (by decide) rfl (fun ls hl => ?_)
  refine lv_iconst (v := 0) hx hb dX3_mostFrom_3 (by decide) ?_
  refine lv_istore (lv' := [(5, .int (0 : Int32)), (4, .int (0 : Int32)), (0, .ref (q 21)), (1, .ref (q a1)), (2, .int a2), (3, .int a3)]) hx hb dX3_mostFrom_4 hl (by decide) rfl (fun ls hl => ?_)
  obtain ⟨s1, M2, hc3, h⟩ := bnd_inv h
  obtain ⟨x4, rfl⟩ : ∃ z, z = s1 := ⟨_, rfl⟩
  try dsimp only at h
  refine hL6  fz _ _ _ _ _ _ _ hc3 hP hS (lv_sub hl [2, 3, 4, 5, 1, 0] rfl) (fun H locs ls hP hS hl => ?_)
  have hl : lv_has ls 6 [(4, .int x4)] := hl
  refine lv_iload hx hb dX3_mostFrom_50 (lv_at hl 0 rfl) ?_
  exact end_i X hr hk hP hS h dX3_mostFrom_52
theorem dX3_firstOfBest_0 : decode cX3_firstOfBest 0 = .ok (.iconst 0, 1) := by decide +kernel
theorem dX3_firstOfBest_1 : decode cX3_firstOfBest 1 = .ok (.istore 4, 2) := by decide +kernel
theorem dX3_firstOfBest_3 : decode cX3_firstOfBest 3 = .ok (.iload 4, 2) := by decide +kernel
theorem dX3_firstOfBest_5 : decode cX3_firstOfBest 5 = .ok (.aload_n 1, 1) := by decide +kernel
theorem dX3_firstOfBest_6 : decode cX3_firstOfBest 6 = .ok (.iconst 3, 1) := by decide +kernel
theorem dX3_firstOfBest_7 : decode cX3_firstOfBest 7 = .ok (.invokevirtual 48, 3) := by decide +kernel
theorem dX3_firstOfBest_10 : decode cX3_firstOfBest 10 = .ok (.if_icmp .ge 44, 3) := by decide +kernel
theorem dX3_firstOfBest_13 : decode cX3_firstOfBest 13 = .ok (.iload_n 2, 1) := by decide +kernel
theorem dX3_firstOfBest_14 : decode cX3_firstOfBest 14 = .ok (.iload_n 3, 1) := by decide +kernel
theorem dX3_firstOfBest_15 : decode cX3_firstOfBest 15 = .ok (.iconst (-1), 1) := by decide +kernel
theorem dX3_firstOfBest_16 : decode cX3_firstOfBest 16 = .ok (.ixor, 1) := by decide +kernel
theorem dX3_firstOfBest_17 : decode cX3_firstOfBest 17 = .ok (.iand, 1) := by decide +kernel
theorem dX3_firstOfBest_18 : decode cX3_firstOfBest 18 = .ok (.iload 4, 2) := by decide +kernel
theorem dX3_firstOfBest_20 : decode cX3_firstOfBest 20 = .ok (.invokestatic 51, 3) := by decide +kernel
theorem dX3_firstOfBest_23 : decode cX3_firstOfBest 23 = .ok (.ifCond .eq 25, 3) := by decide +kernel
theorem dX3_firstOfBest_26 : decode cX3_firstOfBest 26 = .ok (.aload_n 0, 1) := by decide +kernel
theorem dX3_firstOfBest_27 : decode cX3_firstOfBest 27 = .ok (.aload_n 1, 1) := by decide +kernel
theorem dX3_firstOfBest_28 : decode cX3_firstOfBest 28 = .ok (.iload_n 3, 1) := by decide +kernel
theorem dX3_firstOfBest_29 : decode cX3_firstOfBest 29 = .ok (.iload 4, 2) := by decide +kernel
theorem dX3_firstOfBest_31 : decode cX3_firstOfBest 31 = .ok (.invokevirtual 55, 3) := by decide +kernel
theorem dX3_firstOfBest_34 : decode cX3_firstOfBest 34 = .ok (.aload_n 0, 1) := by decide +kernel
theorem dX3_firstOfBest_35 : decode cX3_firstOfBest 35 = .ok (.getfield 9, 3) := by decide +kernel
theorem dX3_firstOfBest_38 : decode cX3_firstOfBest 38 = .ok (.iload_n 3, 1) := by decide +kernel
theorem dX3_firstOfBest_39 : decode cX3_firstOfBest 39 = .ok (.invokestatic 44, 3) := by decide +kernel
theorem dX3_firstOfBest_42 : decode cX3_firstOfBest 42 = .ok (.if_icmp .ne 6, 3) := by decide +kernel
theorem dX3_firstOfBest_45 : decode cX3_firstOfBest 45 = .ok (.iload 4, 2) := by decide +kernel
theorem dX3_firstOfBest_47 : decode cX3_firstOfBest 47 = .ok (.ireturn, 1) := by decide +kernel
theorem dX3_firstOfBest_48 : decode cX3_firstOfBest 48 = .ok (.iinc 4 1, 3) := by decide +kernel
theorem dX3_firstOfBest_51 : decode cX3_firstOfBest 51 = .ok (.goto (-48), 3) := by decide +kernel
theorem dX3_firstOfBest_54 : decode cX3_firstOfBest 54 = .ok (.iconst 0, 1) := by decide +kernel
theorem dX3_firstOfBest_55 : decode cX3_firstOfBest 55 = .ok (.ireturn, 1) := by decide +kernel
set_option maxRecDepth 100000 in
set_option maxHeartbeats 8000000 in
theorem c_X3_firstOfBest (l : Launch) (D : va_G) (cA : Nat → ClassId) (q aK aV : Nat → Nat) (hq : injG 167 q) {a1 : Nat} {a2 : Int32} {a3 : Int32} {M M0 : Mem} {r0 : Int32} (h1 : shC a1 = 0) (h : f_X3_firstOfBest a1 a2 a3 M = some (r0, M0)) : Met l yX3_firstOfBest (.code yX3_firstOfBest cX3_firstOfBest 5 (some .int) :: BW) ({ frames := 6, cells := 0, slots := 0, locals := 136 } : Room) (va_Pc [.ref (q 21), .ref (q a1), .int a2, .int a3] (CB 167 (ceC cA q) D cA q aK aV M)) (Qi 167 (ceC cA q) D q r0 M0) 0 0 (AqG 167 q) := by
  refine gMet RX3 (by decide +kernel) rfl hq (Nat.le_of_ble_eq_true rfl) ?_
  intro p e s m below meth c ls X hr hk hP hS hl
  have hx := X.1
  have hb := X.2.1
  have hl : lv_has ls 5 [(0, .ref (q 21)), (1, .ref (q a1)), (2, .int a2), (3, .int a3)] := hl
  rw [f_X3_firstOfBest] at h
  have hL3 : ∀ (fu : Nat) (b4 : Int32) (M : Mem) (res : (Nat × Int32) × Mem) (H : Heap) (locs : List Loc) (ls : Array Slot), f_X3_firstOfBest_L3 a1 a2 a3 fu b4 M = some res → va_P D vwCl (wsG 167 (ceC cA q) q M) H → va_S (AqG 167 q) s.heap H locs → lv_has ls 5 [(0, .ref (q 21)), (1, .ref (q a1)), (2, .int a2), (3, .int a3), (4, .int b4)] → (res.1.1 = 0 → ∀ (H : Heap) (locs : List Loc) (ls : Array Slot), va_P D vwCl (wsG 167 (ceC cA q) q res.2) H → va_S (AqG 167 q) s.heap H locs → lv_has ls 5 [(4, .int (res.1.2))] → W p l e ({ frames := 6, cells := 0, slots := 0, locals := 136 } : Room) s m [.ref (q 21), .ref (q a1), .int a2, .int a3].toArray below meth c H locs 0 0 (MQ below (Qi 167 (ceC cA q) D q r0 M0) [.ref (q 21), .ref (q a1), .int a2, .int a3].toArray s 0 0 (AqG 167 q)) (F0 m 45 ls [])) → (res.1.1 = 1 → ∀ (H : Heap) (locs : List Loc) (ls : Array Slot), va_P D vwCl (wsG 167 (ceC cA q) q res.2) H → va_S (AqG 167 q) s.heap H locs → lv_has ls 5 [] → W p l e ({ frames := 6, cells := 0, slots := 0, locals := 136 } : Room) s m [.ref (q 21), .ref (q a1), .int a2, .int a3].toArray below meth c H locs 0 0 (MQ below (Qi 167 (ceC cA q) D q r0 M0) [.ref (q 21), .ref (q a1), .int a2, .int a3].toArray s 0 0 (AqG 167 q)) (F0 m 54 ls [])) → W p l e ({ frames := 6, cells := 0, slots := 0, locals := 136 } : Room) s m [.ref (q 21), .ref (q a1), .int a2, .int a3].toArray below meth c H locs 0 0 (MQ below (Qi 167 (ceC cA q) D q r0 M0) [.ref (q 21), .ref (q a1), .int a2, .int a3].toArray s 0 0 (AqG 167 q)) (F0 m 3 ls []) := by
    intro fu
    induction fu with
    | zero => intro b4 M res H locs ls h; exact absurd h (by simp [f_X3_firstOfBest_L3])
    | succ fu ih =>
      intro b4 M res H locs ls h hP hS hl K3_0 K3_1
      rw [f_X3_firstOfBest_L3] at h
      refine lv_iload hx hb dX3_firstOfBest_3 (lv_at hl 4 rfl) ?_
      refine lv_aload_n hx hb dX3_firstOfBest_5 rfl (lv_at hl 1 rfl) ?_
      refine lv_iconst (v := 3) hx hb dX3_firstOfBest_6 (by decide) ?_
      obtain ⟨r6, M7, hc8, h⟩ := bnd_inv h
      refine gV_i (As := [.int (3 : Int32)]) X hP hS hl.1 (c_X0_countOf l D cA q aK aV hq h1 hc8) sf_X0_countOf bw_1167 sv_X0_countOf (rcC_0 h1) rfl ⟨rfl, rfl⟩ ⟨Nat.le_of_ble_eq_true rfl, Nat.le_of_ble_eq_true rfl⟩ rfl rfl (Nat.le_of_ble_eq_true rfl) dX3_firstOfBest_7 (fun H locs hP hS => ?_)
      refine lv_icmp_ge (tgt := 54) hx hb dX3_firstOfBest_10 (by decide) (fun c9 => ?_) (fun c9 => ?_)
      · rw [if_pos c9] at h
        cases h
        exact K3_1 rfl _ _ _ hP hS (lv_sub hl [] rfl)
      · rw [if_neg c9] at h
        refine lv_iload_n hx hb dX3_firstOfBest_13 rfl (lv_at hl 2 rfl) ?_
        refine lv_iload_n hx hb dX3_firstOfBest_14 rfl (lv_at hl 3 rfl) ?_
        refine lv_iconst (v := -1) hx hb dX3_firstOfBest_15 (by decide) ?_
        refine lv_ixor hx hb dX3_firstOfBest_16 ?_
        refine lv_iand hx hb dX3_firstOfBest_17 ?_
        refine lv_iload hx hb dX3_firstOfBest_18 (lv_at hl 4 rfl) ?_
        obtain ⟨r10, M11, hc12, h⟩ := bnd_inv h
        refine gSN_i (As := [.int (a2 &&& (a3 ^^^ (-1 : Int32))), .int b4]) X hP hS hl.1 (c_X11_isIn l D cA q aK aV hq hc12) sf_X11_isIn nw_24 ss_X11_isIn ⟨rfl, rfl⟩ ⟨Nat.le_of_ble_eq_true rfl, Nat.le_of_ble_eq_true rfl⟩ rfl rfl (Nat.le_of_ble_eq_true rfl) dX3_firstOfBest_20 (fun H locs hP hS => ?_)
        refine lv_if_eq (tgt := 48) hx hb dX3_firstOfBest_23 (by decide) (fun c13 => ?_) (fun c13 => ?_)
        · rw [if_pos c13] at h
          obtain ⟨y14, ey14, h⟩ := lt_inv h
          refine lv_iinc (v := y14) (lv' := [(4, .int y14), (0, .ref (q 21)), (1, .ref (q a1)), (2, .int a2), (3, .int a3)]) hx hb dX3_firstOfBest_48 hl (k := 4) rfl (by rw [ey14]; rfl) (by decide) rfl (fun ls hl => ?_)
          refine lv_goto (tgt := 3) hx hb dX3_firstOfBest_51 (by decide) ?_
          exact ih _ _ res _ _ _ h hP hS (lv_sub hl [1, 2, 3, 4, 0] rfl) K3_0 K3_1
        · rw [if_neg c13] at h
          refine lv_aload_n hx hb dX3_firstOfBest_26 rfl (lv_at hl 0 rfl) ?_
          refine lv_aload_n hx hb dX3_firstOfBest_27 rfl (lv_at hl 1 rfl) ?_
          refine lv_iload_n hx hb dX3_firstOfBest_28 rfl (lv_at hl 3 rfl) ?_
          refine lv_iload hx hb dX3_firstOfBest_29 (lv_at hl 4 rfl) ?_
          obtain ⟨r15, M16, hc17, h⟩ := bnd_inv h
          refine gV_i (As := [.ref (q a1), .int a3, .int b4]) X hP hS hl.1 (c_X3_freeWith l D cA q aK aV hq h1 hc17) sf_X3_freeWith bw_1169 sv_X3_freeWith (rcC_3 sC_21) rfl ⟨rfl, rfl⟩ ⟨Nat.le_of_ble_eq_true rfl, Nat.le_of_ble_eq_true rfl⟩ rfl rfl (Nat.le_of_ble_eq_true rfl) dX3_firstOfBest_31 (fun H locs hP hS => ?_)
          refine lv_aload_n hx hb dX3_firstOfBest_34 rfl (lv_at hl 0 rfl) ?_
          refine gfC_3_0 X hP sC_21 bw_373 dX3_firstOfBest_35 ?_
          refine lv_iload_n hx hb dX3_firstOfBest_38 rfl (lv_at hl 3 rfl) ?_
          obtain ⟨r18, M19, hc20, h⟩ := bnd_inv h
          refine gSN_i (As := [.ref (q 22), .int a3]) X hP hS hl.1 (c_X11_cell l D cA q aK aV hq sC_22 hc20) sf_X11_cell nw_25 ss_X11_cell ⟨rfl, rfl⟩ ⟨Nat.le_of_ble_eq_true rfl, Nat.le_of_ble_eq_true rfl⟩ rfl rfl (Nat.le_of_ble_eq_true rfl) dX3_firstOfBest_39 (fun H locs hP hS => ?_)
          refine lv_icmp_ne (tgt := 48) hx hb dX3_firstOfBest_42 (by decide) (fun c21 => ?_) (fun c21 => ?_)
          · rw [if_neg c21] at h
            obtain ⟨y22, ey22, h⟩ := lt_inv h
            refine lv_iinc (v := y22) (lv' := [(4, .int y22), (0, .ref (q 21)), (1, .ref (q a1)), (2, .int a2), (3, .int a3)]) hx hb dX3_firstOfBest_48 hl (k := 4) rfl (by rw [ey22]; rfl) (by decide) rfl (fun ls hl => ?_)
            refine lv_goto (tgt := 3) hx hb dX3_firstOfBest_51 (by decide) ?_
            exact ih _ _ res _ _ _ h hP hS (lv_sub hl [1, 2, 3, 4, 0] rfl) K3_0 K3_1
          · rw [if_pos c21] at h
            cases h
            exact K3_0 rfl _ _ _ hP hS (lv_sub hl [4] rfl)
  refine lv_iconst (v := 0) hx hb dX3_firstOfBest_0 (by decide) ?_
  refine lv_istore (lv' := [(4, .int (0 : Int32)), (0, .ref (q 21)), (1, .ref (q a1)), (2, .int a2), (3, .int a3)]) hx hb dX3_firstOfBest_1 hl (by decide) rfl (fun ls hl => ?_)
  obtain ⟨s1, M2, hc3, h⟩ := bnd_inv h
  obtain ⟨k4, x5⟩ := s1
  try dsimp only at h
  refine hL3  fz _ _ _ _ _ _ hc3 hP hS (lv_sub hl [1, 2, 3, 4, 0] rfl) (fun hke H locs ls hP hS hl => ?_) (fun hke H locs ls hP hS hl => ?_)
  · have hke : k4 = 0 := hke
    have hl : lv_has ls 5 [(4, .int x5)] := hl
    subst hke
    rw [if_pos rfl] at h
    refine lv_iload hx hb dX3_firstOfBest_45 (lv_at hl 0 rfl) ?_
    exact end_i X hr hk hP hS h dX3_firstOfBest_47
  · have hke : k4 = 1 := hke
    have hl : lv_has ls 5 [] := hl
    subst hke
    rw [if_neg (by decide)] at h
    refine lv_iconst (v := 0) hx hb dX3_firstOfBest_54 (by decide) ?_
    exact end_i X hr hk hP hS h dX3_firstOfBest_55
theorem dX3_settle_0 : decode cX3_settle 0 = .ok (.aload_n 1, 1) := by decide +kernel
theorem dX3_settle_1 : decode cX3_settle 1 = .ok (.iconst 0, 1) := by decide +kernel
theorem dX3_settle_2 : decode cX3_settle 2 = .ok (.invokevirtual 22, 3) := by decide +kernel
theorem dX3_settle_5 : decode cX3_settle 5 = .ok (.istore_n 2, 1) := by decide +kernel
theorem dX3_settle_6 : decode cX3_settle 6 = .ok (.aload_n 0, 1) := by decide +kernel
theorem dX3_settle_7 : decode cX3_settle 7 = .ok (.iload_n 2, 1) := by decide +kernel
theorem dX3_settle_8 : decode cX3_settle 8 = .ok (.invokestatic 28, 3) := by decide +kernel
theorem dX3_settle_11 : decode cX3_settle 11 = .ok (.putfield 18, 3) := by decide +kernel
theorem dX3_settle_14 : decode cX3_settle 14 = .ok (.iload_n 2, 1) := by decide +kernel
theorem dX3_settle_15 : decode cX3_settle 15 = .ok (.istore_n 3, 1) := by decide +kernel
theorem dX3_settle_16 : decode cX3_settle 16 = .ok (.iload_n 3, 1) := by decide +kernel
theorem dX3_settle_17 : decode cX3_settle 17 = .ok (.ifCond .lt 32, 3) := by decide +kernel
theorem dX3_settle_20 : decode cX3_settle 20 = .ok (.iload_n 3, 1) := by decide +kernel
theorem dX3_settle_21 : decode cX3_settle 21 = .ok (.iload_n 2, 1) := by decide +kernel
theorem dX3_settle_22 : decode cX3_settle 22 = .ok (.iconst (-1), 1) := by decide +kernel
theorem dX3_settle_23 : decode cX3_settle 23 = .ok (.ixor, 1) := by decide +kernel
theorem dX3_settle_24 : decode cX3_settle 24 = .ok (.iand, 1) := by decide +kernel
theorem dX3_settle_25 : decode cX3_settle 25 = .ok (.ifCond .ne 18, 3) := by decide +kernel
theorem dX3_settle_28 : decode cX3_settle 28 = .ok (.aload_n 0, 1) := by decide +kernel
theorem dX3_settle_29 : decode cX3_settle 29 = .ok (.getfield 9, 3) := by decide +kernel
theorem dX3_settle_32 : decode cX3_settle 32 = .ok (.iload_n 3, 1) := by decide +kernel
theorem dX3_settle_33 : decode cX3_settle 33 = .ok (.aload_n 0, 1) := by decide +kernel
theorem dX3_settle_34 : decode cX3_settle 34 = .ok (.aload_n 1, 1) := by decide +kernel
theorem dX3_settle_35 : decode cX3_settle 35 = .ok (.iload_n 2, 1) := by decide +kernel
theorem dX3_settle_36 : decode cX3_settle 36 = .ok (.iload_n 3, 1) := by decide +kernel
theorem dX3_settle_37 : decode cX3_settle 37 = .ok (.invokevirtual 33, 3) := by decide +kernel
theorem dX3_settle_40 : decode cX3_settle 40 = .ok (.invokestatic 37, 3) := by decide +kernel
theorem dX3_settle_43 : decode cX3_settle 43 = .ok (.iinc 3 (-1), 3) := by decide +kernel
theorem dX3_settle_46 : decode cX3_settle 46 = .ok (.goto (-30), 3) := by decide +kernel
theorem dX3_settle_49 : decode cX3_settle 49 = .ok (.iconst 0, 1) := by decide +kernel
theorem dX3_settle_50 : decode cX3_settle 50 = .ok (.istore_n 3, 1) := by decide +kernel
theorem dX3_settle_51 : decode cX3_settle 51 = .ok (.iconst 0, 1) := by decide +kernel
theorem dX3_settle_52 : decode cX3_settle 52 = .ok (.istore 4, 2) := by decide +kernel
theorem dX3_settle_54 : decode cX3_settle 54 = .ok (.iload 4, 2) := by decide +kernel
theorem dX3_settle_56 : decode cX3_settle 56 = .ok (.aload_n 0, 1) := by decide +kernel
theorem dX3_settle_57 : decode cX3_settle 57 = .ok (.getfield 18, 3) := by decide +kernel
theorem dX3_settle_60 : decode cX3_settle 60 = .ok (.if_icmp .ge 36, 3) := by decide +kernel
theorem dX3_settle_63 : decode cX3_settle 63 = .ok (.aload_n 0, 1) := by decide +kernel
theorem dX3_settle_64 : decode cX3_settle 64 = .ok (.aload_n 1, 1) := by decide +kernel
theorem dX3_settle_65 : decode cX3_settle 65 = .ok (.iload_n 2, 1) := by decide +kernel
theorem dX3_settle_66 : decode cX3_settle 66 = .ok (.iload_n 3, 1) := by decide +kernel
theorem dX3_settle_67 : decode cX3_settle 67 = .ok (.invokevirtual 41, 3) := by decide +kernel
theorem dX3_settle_70 : decode cX3_settle 70 = .ok (.istore 5, 2) := by decide +kernel
theorem dX3_settle_72 : decode cX3_settle 72 = .ok (.aload_n 0, 1) := by decide +kernel
theorem dX3_settle_73 : decode cX3_settle 73 = .ok (.getfield 15, 3) := by decide +kernel
theorem dX3_settle_76 : decode cX3_settle 76 = .ok (.iload 4, 2) := by decide +kernel
theorem dX3_settle_78 : decode cX3_settle 78 = .ok (.iload 5, 2) := by decide +kernel
theorem dX3_settle_80 : decode cX3_settle 80 = .ok (.invokestatic 37, 3) := by decide +kernel
theorem dX3_settle_83 : decode cX3_settle 83 = .ok (.iload_n 3, 1) := by decide +kernel
theorem dX3_settle_84 : decode cX3_settle 84 = .ok (.iconst 1, 1) := by decide +kernel
theorem dX3_settle_85 : decode cX3_settle 85 = .ok (.iload 5, 2) := by decide +kernel
theorem dX3_settle_87 : decode cX3_settle 87 = .ok (.ishl, 1) := by decide +kernel
theorem dX3_settle_88 : decode cX3_settle 88 = .ok (.ior, 1) := by decide +kernel
theorem dX3_settle_89 : decode cX3_settle 89 = .ok (.istore_n 3, 1) := by decide +kernel
theorem dX3_settle_90 : decode cX3_settle 90 = .ok (.iinc 4 1, 3) := by decide +kernel
theorem dX3_settle_93 : decode cX3_settle 93 = .ok (.goto (-39), 3) := by decide +kernel
theorem dX3_settle_96 : decode cX3_settle 96 = .ok (.return_, 1) := by decide +kernel
set_option maxRecDepth 100000 in
set_option maxHeartbeats 8000000 in
theorem c_X3_settle (l : Launch) (D : va_G) (cA : Nat → ClassId) (q aK aV : Nat → Nat) (hq : injG 167 q) {a1 : Nat} {M M0 : Mem} (h1 : shC a1 = 0) (h : f_X3_settle a1 M = some ((), M0)) : Met l yX3_settle (.code yX3_settle cX3_settle 6 none :: BW) ({ frames := 7, cells := 0, slots := 0, locals := 161 } : Room) (va_Pc [.ref (q 21), .ref (q a1)] (CB 167 (ceC cA q) D cA q aK aV M)) (Qv 167 (ceC cA q) D q M0) 0 0 (AqG 167 q) := by
  refine gMet RX3 (by decide +kernel) rfl hq (Nat.le_of_ble_eq_true rfl) ?_
  intro p e s m below meth c ls X hr hk hP hS hl
  have hx := X.1
  have hb := X.2.1
  have hl : lv_has ls 6 [(0, .ref (q 21)), (1, .ref (q a1))] := hl
  rw [f_X3_settle] at h
  have hL54 : ∀ (b2 : Int32) (fu : Nat) (b3 : Int32) (b4 : Int32) (M : Mem) (res : (Unit) × Mem) (H : Heap) (locs : List Loc) (ls : Array Slot), f_X3_settle_L54 a1 b2 fu b3 b4 M = some res → va_P D vwCl (wsG 167 (ceC cA q) q M) H → va_S (AqG 167 q) s.heap H locs → lv_has ls 6 [(0, .ref (q 21)), (1, .ref (q a1)), (2, .int b2), (3, .int b3), (4, .int b4)] → (∀ (H : Heap) (locs : List Loc) (ls : Array Slot), va_P D vwCl (wsG 167 (ceC cA q) q res.2) H → va_S (AqG 167 q) s.heap H locs → lv_has ls 6 [] → W p l e ({ frames := 7, cells := 0, slots := 0, locals := 161 } : Room) s m [.ref (q 21), .ref (q a1)].toArray below meth c H locs 0 0 (MQ below (Qv 167 (ceC cA q) D q M0) [.ref (q 21), .ref (q a1)].toArray s 0 0 (AqG 167 q)) (F0 m 96 ls [])) → W p l e ({ frames := 7, cells := 0, slots := 0, locals := 161 } : Room) s m [.ref (q 21), .ref (q a1)].toArray below meth c H locs 0 0 (MQ below (Qv 167 (ceC cA q) D q M0) [.ref (q 21), .ref (q a1)].toArray s 0 0 (AqG 167 q)) (F0 m 54 ls []) := by
    intro b2 fu
    induction fu with
    | zero => intro b3 b4 M res H locs ls h; exact absurd h (by simp [f_X3_settle_L54])
    | succ fu ih =>
      intro b3 b4 M res H locs ls h hP hS hl K54_0
      rw [f_X3_settle_L54] at h
      refine lv_iload hx hb dX3_settle_54 (lv_at hl 4 rfl) ?_
      refine lv_aload_n hx hb dX3_settle_56 rfl (lv_at hl 0 rfl) ?_
      refine gfC_3_2 X hP sC_21 bw_376 dX3_settle_57 ?_
      refine lv_icmp_ge (tgt := 96) hx hb dX3_settle_60 (by decide) (fun c24 => ?_) (fun c24 => ?_)
      · rw [if_pos c24] at h
        cases h
        exact K54_0 _ _ _ hP hS (lv_sub hl [] rfl)
      · rw [if_neg c24] at h
        refine lv_aload_n hx hb dX3_settle_63 rfl (lv_at hl 0 rfl) ?_
        refine lv_aload_n hx hb dX3_settle_64 rfl (lv_at hl 1 rfl) ?_
        refine lv_iload_n hx hb dX3_settle_65 rfl (lv_at hl 2 rfl) ?_
        refine lv_iload_n hx hb dX3_settle_66 rfl (lv_at hl 3 rfl) ?_
        obtain ⟨r25, M26, hc27, h⟩ := bnd_inv h
        refine gV_i (As := [.ref (q a1), .int b2, .int b3]) X hP hS hl.1 (c_X3_firstOfBest l D cA q aK aV hq h1 hc27) sf_X3_firstOfBest bw_1180 sv_X3_firstOfBest (rcC_3 sC_21) rfl ⟨rfl, rfl⟩ ⟨Nat.le_of_ble_eq_true rfl, Nat.le_of_ble_eq_true rfl⟩ rfl rfl (Nat.le_of_ble_eq_true rfl) dX3_settle_67 (fun H locs hP hS => ?_)
        refine lv_istore (lv' := [(5, .int r25), (0, .ref (q 21)), (1, .ref (q a1)), (2, .int b2), (3, .int b3), (4, .int b4)]) hx hb dX3_settle_70 hl (by decide) rfl (fun ls hl => ?_)
        refine lv_aload_n hx hb dX3_settle_72 rfl (lv_at hl 1 rfl) ?_
        refine gfC_3_1 X hP sC_21 bw_374 dX3_settle_73 ?_
        refine lv_iload hx hb dX3_settle_76 (lv_at hl 5 rfl) ?_
        refine lv_iload hx hb dX3_settle_78 (lv_at hl 0 rfl) ?_
        obtain ⟨_, M29, hc30, h⟩ := bnd_inv h
        refine gSN_v (As := [.ref (q 23), .int b4, .int r25]) X hP hS hl.1 (c_X11_put l D cA q aK aV hq sC_23 hc30) sf_X11_put nw_26 ss_X11_put ⟨rfl, rfl⟩ ⟨Nat.le_of_ble_eq_true rfl, Nat.le_of_ble_eq_true rfl⟩ rfl rfl (Nat.le_of_ble_eq_true rfl) dX3_settle_80 (fun H locs hP hS => ?_)
        refine lv_iload_n hx hb dX3_settle_83 rfl (lv_at hl 4 rfl) ?_
        refine lv_iconst (v := 1) hx hb dX3_settle_84 (by decide) ?_
        refine lv_iload hx hb dX3_settle_85 (lv_at hl 0 rfl) ?_
        refine lv_ishl hx hb dX3_settle_87 ?_
        refine lv_ior hx hb dX3_settle_88 ?_
        obtain ⟨y31, ey31, h⟩ := lt_inv h
        refine topE ey31 ?_
        refine lv_istore_n (lv' := [(3, .int y31), (5, .int r25), (0, .ref (q 21)), (1, .ref (q a1)), (2, .int b2), (4, .int b4)]) hx hb dX3_settle_89 rfl hl (by decide) rfl (fun ls hl => ?_)
        obtain ⟨y32, ey32, h⟩ := lt_inv h
        refine lv_iinc (v := y32) (lv' := [(4, .int y32), (3, .int y31), (5, .int r25), (0, .ref (q 21)), (1, .ref (q a1)), (2, .int b2)]) hx hb dX3_settle_90 hl (k := 5) rfl (by rw [ey32]; rfl) (by decide) rfl (fun ls hl => ?_)
        refine lv_goto (tgt := 54) hx hb dX3_settle_93 (by decide) ?_
        exact ih _ _ _ res _ _ _ h hP hS (lv_sub hl [3, 4, 5, 1, 0] rfl) K54_0
  have hL16 : ∀ (b2 : Int32) (fu : Nat) (b3 : Int32) (M : Mem) (res : (Unit) × Mem) (H : Heap) (locs : List Loc) (ls : Array Slot), f_X3_settle_L16 a1 b2 fu b3 M = some res → va_P D vwCl (wsG 167 (ceC cA q) q M) H → va_S (AqG 167 q) s.heap H locs → lv_has ls 6 [(0, .ref (q 21)), (1, .ref (q a1)), (2, .int b2), (3, .int b3)] → (∀ (H : Heap) (locs : List Loc) (ls : Array Slot), va_P D vwCl (wsG 167 (ceC cA q) q res.2) H → va_S (AqG 167 q) s.heap H locs → lv_has ls 6 [(0, .ref (q 21)), (1, .ref (q a1)), (2, .int b2)] → W p l e ({ frames := 7, cells := 0, slots := 0, locals := 161 } : Room) s m [.ref (q 21), .ref (q a1)].toArray below meth c H locs 0 0 (MQ below (Qv 167 (ceC cA q) D q M0) [.ref (q 21), .ref (q a1)].toArray s 0 0 (AqG 167 q)) (F0 m 49 ls [])) → W p l e ({ frames := 7, cells := 0, slots := 0, locals := 161 } : Room) s m [.ref (q 21), .ref (q a1)].toArray below meth c H locs 0 0 (MQ below (Qv 167 (ceC cA q) D q M0) [.ref (q 21), .ref (q a1)].toArray s 0 0 (AqG 167 q)) (F0 m 16 ls []) := by
    intro b2 fu
    induction fu with
    | zero => intro b3 M res H locs ls h; exact absurd h (by simp [f_X3_settle_L16])
    | succ fu ih =>
      intro b3 M res H locs ls h hP hS hl K16_0
      rw [f_X3_settle_L16] at h
      refine lv_iload_n hx hb dX3_settle_16 rfl (lv_at hl 3 rfl) ?_
      refine lv_if_lt (tgt := 49) hx hb dX3_settle_17 (by decide) (fun c14 => ?_) (fun c14 => ?_)
      · rw [if_pos c14] at h
        cases h
        exact K16_0 _ _ _ hP hS (lv_sub hl [0, 1, 2] rfl)
      · rw [if_neg c14] at h
        refine lv_iload_n hx hb dX3_settle_20 rfl (lv_at hl 3 rfl) ?_
        refine lv_iload_n hx hb dX3_settle_21 rfl (lv_at hl 2 rfl) ?_
        refine lv_iconst (v := -1) hx hb dX3_settle_22 (by decide) ?_
        refine lv_ixor hx hb dX3_settle_23 ?_
        refine lv_iand hx hb dX3_settle_24 ?_
        refine lv_if_ne (tgt := 43) hx hb dX3_settle_25 (by decide) (fun c15 => ?_) (fun c15 => ?_)
        · rw [if_neg c15] at h
          obtain ⟨y16, ey16, h⟩ := lt_inv h
          refine lv_iinc (v := y16) (lv' := [(3, .int y16), (0, .ref (q 21)), (1, .ref (q a1)), (2, .int b2)]) hx hb dX3_settle_43 hl (k := 3) rfl (by rw [ey16]; rfl) (by decide) rfl (fun ls hl => ?_)
          refine lv_goto (tgt := 16) hx hb dX3_settle_46 (by decide) ?_
          exact ih _ _ res _ _ _ h hP hS (lv_sub hl [1, 2, 3, 0] rfl) K16_0
        · rw [if_pos c15] at h
          refine lv_aload_n hx hb dX3_settle_28 rfl (lv_at hl 0 rfl) ?_
          refine gfC_3_0 X hP sC_21 bw_373 dX3_settle_29 ?_
          refine lv_iload_n hx hb dX3_settle_32 rfl (lv_at hl 3 rfl) ?_
          refine lv_aload_n hx hb dX3_settle_33 rfl (lv_at hl 0 rfl) ?_
          refine lv_aload_n hx hb dX3_settle_34 rfl (lv_at hl 1 rfl) ?_
          refine lv_iload_n hx hb dX3_settle_35 rfl (lv_at hl 2 rfl) ?_
          refine lv_iload_n hx hb dX3_settle_36 rfl (lv_at hl 3 rfl) ?_
          obtain ⟨r17, M18, hc19, h⟩ := bnd_inv h
          refine gV_i (As := [.ref (q a1), .int b2, .int b3]) X hP hS hl.1 (c_X3_mostFrom l D cA q aK aV hq h1 hc19) sf_X3_mostFrom bw_1163 sv_X3_mostFrom (rcC_3 sC_21) rfl ⟨rfl, rfl⟩ ⟨Nat.le_of_ble_eq_true rfl, Nat.le_of_ble_eq_true rfl⟩ rfl rfl (Nat.le_of_ble_eq_true rfl) dX3_settle_37 (fun H locs hP hS => ?_)
          obtain ⟨_, M21, hc22, h⟩ := bnd_inv h
          refine gSN_v (As := [.ref (q 22), .int b3, .int r17]) X hP hS hl.1 (c_X11_put l D cA q aK aV hq sC_22 hc22) sf_X11_put nw_26 ss_X11_put ⟨rfl, rfl⟩ ⟨Nat.le_of_ble_eq_true rfl, Nat.le_of_ble_eq_true rfl⟩ rfl rfl (Nat.le_of_ble_eq_true rfl) dX3_settle_40 (fun H locs hP hS => ?_)
          obtain ⟨y23, ey23, h⟩ := lt_inv h
          refine lv_iinc (v := y23) (lv' := [(3, .int y23), (0, .ref (q 21)), (1, .ref (q a1)), (2, .int b2)]) hx hb dX3_settle_43 hl (k := 3) rfl (by rw [ey23]; rfl) (by decide) rfl (fun ls hl => ?_)
          refine lv_goto (tgt := 16) hx hb dX3_settle_46 (by decide) ?_
          exact ih _ _ res _ _ _ h hP hS (lv_sub hl [1, 2, 3, 0] rfl) K16_0
  refine lv_aload_n hx hb dX3_settle_0 rfl (lv_at hl 1 rfl) ?_
  refine lv_iconst (v := 0) hx hb dX3_settle_1 (by decide) ?_
  obtain ⟨r1, M2, hc3, h⟩ := bnd_inv h
  refine gV_i (As := [.int (0 : Int32)]) X hP hS hl.1 (c_X0_setOfFate l D cA q aK aV hq h1 hc3) sf_X0_setOfFate bw_1161 sv_X0_setOfFate (rcC_0 h1) rfl ⟨rfl, rfl⟩ ⟨Nat.le_of_ble_eq_true rfl, Nat.le_of_ble_eq_true rfl⟩ rfl rfl (Nat.le_of_ble_eq_true rfl) dX3_settle_2 (fun H locs hP hS => ?_)
  refine lv_istore_n (lv' := [(2, .int r1), (0, .ref (q 21)), (1, .ref (q a1))]) hx hb dX3_settle_5 rfl hl (by decide) rfl (fun ls hl => ?_)
  refine lv_aload_n hx hb dX3_settle_6 rfl (lv_at hl 1 rfl) ?_
  refine lv_iload_n hx hb dX3_settle_7 rfl (lv_at hl 0 rfl) ?_
  obtain ⟨r4, M5, hc6, h⟩ := bnd_inv h
  refine gS_i (As := [.int r1]) X hP hS hl.1 (c_J6_bitCount_0f7a4_C l D cA q aK aV hq hc6) sf_J6_bitCount_0f7a4 bw_1162 ss_J6_bitCount_0f7a4 ⟨rfl, rfl⟩ ⟨Nat.le_of_ble_eq_true rfl, Nat.le_of_ble_eq_true rfl⟩ rfl rfl (Nat.le_of_ble_eq_true rfl) dX3_settle_8 (fun H locs hP hS => ?_)
  obtain ⟨M7, eM7, h⟩ := lt_inv h
  refine pfC_3_2 X hP hS sC_21 bw_376 eM7 dX3_settle_11 (fun H locs hP hS => ?_)
  refine lv_iload_n hx hb dX3_settle_14 rfl (lv_at hl 0 rfl) ?_
  refine lv_istore_n (lv' := [(3, .int r1), (2, .int r1), (0, .ref (q 21)), (1, .ref (q a1))]) hx hb dX3_settle_15 rfl hl (by decide) rfl (fun ls hl => ?_)
  obtain ⟨s8, M9, hc10, h⟩ := bnd_inv h
  try dsimp only at h
  refine hL16 _ fz _ _ _ _ _ _ hc10 hP hS (lv_sub hl [2, 3, 1, 0] rfl) (fun H locs ls hP hS hl => ?_)
  have hl : lv_has ls 6 [(0, .ref (q 21)), (1, .ref (q a1)), (2, .int r1)] := hl
  refine lv_iconst (v := 0) hx hb dX3_settle_49 (by decide) ?_
  refine lv_istore_n (lv' := [(3, .int (0 : Int32)), (0, .ref (q 21)), (1, .ref (q a1)), (2, .int r1)]) hx hb dX3_settle_50 rfl hl (by decide) rfl (fun ls hl => ?_)
  refine lv_iconst (v := 0) hx hb dX3_settle_51 (by decide) ?_
  refine lv_istore (lv' := [(4, .int (0 : Int32)), (3, .int (0 : Int32)), (0, .ref (q 21)), (1, .ref (q a1)), (2, .int r1)]) hx hb dX3_settle_52 hl (by decide) rfl (fun ls hl => ?_)
  obtain ⟨s11, M12, hc13, h⟩ := bnd_inv h
  try dsimp only at h
  refine hL54 _ fz _ _ _ _ _ _ _ hc13 hP hS (lv_sub hl [2, 3, 4, 1, 0] rfl) (fun H locs ls hP hS hl => ?_)
  have hl : lv_has ls 6 [] := hl
  exact end_v X hr hk hP hS h dX3_settle_96
