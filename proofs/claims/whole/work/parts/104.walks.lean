theorem dX0_coolDown_0 : decode cX0_coolDown 0 = .ok (.aload_n 0, 1) := by decide +kernel
theorem dX0_coolDown_1 : decode cX0_coolDown 1 = .ok (.getfield 63, 3) := by decide +kernel
theorem dX0_coolDown_4 : decode cX0_coolDown 4 = .ok (.ifCond .le 7, 3) := by decide +kernel
theorem dX0_coolDown_7 : decode cX0_coolDown 7 = .ok (.iconst 1, 1) := by decide +kernel
theorem dX0_coolDown_8 : decode cX0_coolDown 8 = .ok (.goto 4, 3) := by decide +kernel
theorem dX0_coolDown_11 : decode cX0_coolDown 11 = .ok (.iconst 0, 1) := by decide +kernel
theorem dX0_coolDown_12 : decode cX0_coolDown 12 = .ok (.istore_n 1, 1) := by decide +kernel
theorem dX0_coolDown_13 : decode cX0_coolDown 13 = .ok (.aload_n 0, 1) := by decide +kernel
theorem dX0_coolDown_14 : decode cX0_coolDown 14 = .ok (.iconst 0, 1) := by decide +kernel
theorem dX0_coolDown_15 : decode cX0_coolDown 15 = .ok (.putfield 63, 3) := by decide +kernel
theorem dX0_coolDown_18 : decode cX0_coolDown 18 = .ok (.iload_n 1, 1) := by decide +kernel
theorem dX0_coolDown_19 : decode cX0_coolDown 19 = .ok (.ireturn, 1) := by decide +kernel
set_option maxRecDepth 100000 in
set_option maxHeartbeats 8000000 in
theorem c_X0_coolDown (l : Launch) (D : va_G) (cA : Nat → ClassId) (q aK aV : Nat → Nat) (hq : injG 167 q) {a0 : Nat} {M M0 : Mem} {r0 : Int32} (h0 : shC a0 = 0) (h : f_X0_coolDown a0 M = some (r0, M0)) : Met l yX0_coolDown (.code yX0_coolDown cX0_coolDown 2 (some .boolean) :: BW) ({ frames := 1, cells := 0, slots := 0, locals := 13 } : Room) (va_Pc [.ref (q a0)] (CB 167 (ceC cA q) D cA q aK aV M)) (Qi 167 (ceC cA q) D q r0 M0) 0 0 (AqG 167 q) := by
  refine gMet RX0 (by decide +kernel) rfl hq (Nat.le_of_ble_eq_true rfl) ?_
  intro p e s m below meth c ls X hr hk hP hS hl
  have hx := X.1
  have hb := X.2.1
  have hl : lv_has ls 2 [(0, .ref (q a0))] := hl
  rw [f_X0_coolDown] at h
  refine lv_aload_n hx hb dX0_coolDown_0 rfl (lv_at hl 0 rfl) ?_
  refine gfC_0_12 X hP h0 bw_167 dX0_coolDown_1 ?_
  refine lv_if_le (tgt := 11) hx hb dX0_coolDown_4 (by decide) (fun c1 => ?_) (fun c1 => ?_)
  · rw [if_pos c1] at h
    refine lv_iconst (v := 0) hx hb dX0_coolDown_11 (by decide) ?_
    refine lv_istore_n (lv' := [(1, .int (0 : Int32)), (0, .ref (q a0))]) hx hb dX0_coolDown_12 rfl hl (by decide) rfl (fun ls hl => ?_)
    refine lv_aload_n hx hb dX0_coolDown_13 rfl (lv_at hl 1 rfl) ?_
    refine lv_iconst (v := 0) hx hb dX0_coolDown_14 (by decide) ?_
    obtain ⟨M2, eM2, h⟩ := lt_inv h
    refine pfC_0_12 X hP hS h0 bw_167 eM2 dX0_coolDown_15 (fun H locs hP hS => ?_)
    refine lv_iload_n hx hb dX0_coolDown_18 rfl (lv_at hl 0 rfl) ?_
    exact end_z X hr hk hP hS (Or.inl rfl) h dX0_coolDown_19
  · rw [if_neg c1] at h
    refine lv_iconst (v := 1) hx hb dX0_coolDown_7 (by decide) ?_
    refine lv_goto (tgt := 12) hx hb dX0_coolDown_8 (by decide) ?_
    refine lv_istore_n (lv' := [(1, .int (1 : Int32)), (0, .ref (q a0))]) hx hb dX0_coolDown_12 rfl hl (by decide) rfl (fun ls hl => ?_)
    refine lv_aload_n hx hb dX0_coolDown_13 rfl (lv_at hl 1 rfl) ?_
    refine lv_iconst (v := 0) hx hb dX0_coolDown_14 (by decide) ?_
    obtain ⟨M3, eM3, h⟩ := lt_inv h
    refine pfC_0_12 X hP hS h0 bw_167 eM3 dX0_coolDown_15 (fun H locs hP hS => ?_)
    refine lv_iload_n hx hb dX0_coolDown_18 rfl (lv_at hl 0 rfl) ?_
    exact end_z X hr hk hP hS (Or.inr rfl) h dX0_coolDown_19
theorem dX11_night_0 : decode cX11_night 0 = .ok (.aload_n 0, 1) := by decide +kernel
theorem dX11_night_1 : decode cX11_night 1 = .ok (.getfield 10, 3) := by decide +kernel
theorem dX11_night_4 : decode cX11_night 4 = .ok (.getfield 194, 3) := by decide +kernel
theorem dX11_night_7 : decode cX11_night 7 = .ok (.istore_n 1, 1) := by decide +kernel
theorem dX11_night_8 : decode cX11_night 8 = .ok (.aload_n 0, 1) := by decide +kernel
theorem dX11_night_9 : decode cX11_night 9 = .ok (.getfield 10, 3) := by decide +kernel
theorem dX11_night_12 : decode cX11_night 12 = .ok (.invokevirtual 285, 3) := by decide +kernel
theorem dX11_night_15 : decode cX11_night 15 = .ok (.ifCond .eq 11, 3) := by decide +kernel
theorem dX11_night_18 : decode cX11_night 18 = .ok (.aload_n 0, 1) := by decide +kernel
theorem dX11_night_19 : decode cX11_night 19 = .ok (.iload_n 1, 1) := by decide +kernel
theorem dX11_night_20 : decode cX11_night 20 = .ok (.invokevirtual 191, 3) := by decide +kernel
theorem dX11_night_23 : decode cX11_night 23 = .ok (.goto 9, 3) := by decide +kernel
theorem dX11_night_26 : decode cX11_night 26 = .ok (.aload_n 0, 1) := by decide +kernel
theorem dX11_night_27 : decode cX11_night 27 = .ok (.bipush 7, 2) := by decide +kernel
theorem dX11_night_29 : decode cX11_night 29 = .ok (.invokevirtual 132, 3) := by decide +kernel
theorem dX11_night_32 : decode cX11_night 32 = .ok (.ireturn, 1) := by decide +kernel
set_option maxRecDepth 100000 in
set_option maxHeartbeats 8000000 in
theorem c_X11_night (l : Launch) (D : va_G) (cA : Nat → ClassId) (q aK aV : Nat → Nat) (hq : injG 167 q) {M M0 : Mem} {r0 : Int32} (h : f_X11_night M = some (r0, M0)) : Met l yX11_night (.code yX11_night cX11_night 2 (some .int) :: BW) ({ frames := 2, cells := 0, slots := 0, locals := 34 } : Room) (va_Pc [.ref (q 0)] (CB 167 (ceC cA q) D cA q aK aV M)) (Qi 167 (ceC cA q) D q r0 M0) 0 0 (AqG 167 q) := by
  refine gMet RX11 (by decide +kernel) rfl hq (Nat.le_of_ble_eq_true rfl) ?_
  intro p e s m below meth c ls X hr hk hP hS hl
  have hx := X.1
  have hb := X.2.1
  have hl : lv_has ls 2 [(0, .ref (q 0))] := hl
  rw [f_X11_night] at h
  refine lv_aload_n hx hb dX11_night_0 rfl (lv_at hl 0 rfl) ?_
  refine gfC_11_0 X hP sC_0 bw_430 dX11_night_1 ?_
  obtain ⟨g1, h⟩ := gd_inv h
  have g1 := Decidable.not_not.mp g1
  refine gfC_0_12 X hP g1 bw_171 dX11_night_4 ?_
  obtain ⟨y2, ey2, h⟩ := lt_inv h
  refine topE ey2 ?_
  refine lv_istore_n (lv' := [(1, .int y2), (0, .ref (q 0))]) hx hb dX11_night_7 rfl hl (by decide) rfl (fun ls hl => ?_)
  refine lv_aload_n hx hb dX11_night_8 rfl (lv_at hl 1 rfl) ?_
  refine gfC_11_0 X hP sC_0 bw_430 dX11_night_9 ?_
  obtain ⟨g3, h⟩ := gd_inv h
  have g3 := Decidable.not_not.mp g3
  obtain ⟨r4, M5, hc6, h⟩ := bnd_inv h
  refine gV_i (As := []) X hP hS hl.1 (c_X0_coolDown l D cA q aK aV hq g3 hc6) sf_X0_coolDown bw_926 sv_X0_coolDown (rcC_0 g3) rfl ⟨rfl, rfl⟩ ⟨Nat.le_of_ble_eq_true rfl, Nat.le_of_ble_eq_true rfl⟩ rfl rfl (Nat.le_of_ble_eq_true rfl) dX11_night_12 (fun H locs hP hS => ?_)
  refine lv_if_eq (tgt := 26) hx hb dX11_night_15 (by decide) (fun c7 => ?_) (fun c7 => ?_)
  · rw [if_pos c7] at h
    refine lv_aload_n hx hb dX11_night_26 rfl (lv_at hl 1 rfl) ?_
    refine lv_bipush (v := 7) hx hb dX11_night_27 (by decide) ?_
    obtain ⟨r8, M9, hc10, h⟩ := bnd_inv h
    refine gV_i (As := [.int (7 : Int32)]) X hP hS hl.1 (c_X11_refused l D cA q aK aV hq hc10) sf_X11_refused bw_552 sv_X11_refused (rcC_11 sC_0) rfl ⟨rfl, rfl⟩ ⟨Nat.le_of_ble_eq_true rfl, Nat.le_of_ble_eq_true rfl⟩ rfl rfl (Nat.le_of_ble_eq_true rfl) dX11_night_29 (fun H locs hP hS => ?_)
    exact end_i X hr hk hP hS h dX11_night_32
  · rw [if_neg c7] at h
    refine lv_aload_n hx hb dX11_night_18 rfl (lv_at hl 1 rfl) ?_
    refine lv_iload_n hx hb dX11_night_19 rfl (lv_at hl 0 rfl) ?_
    obtain ⟨r11, M12, hc13, h⟩ := bnd_inv h
    refine gV_i (As := [.int y2]) X hP hS hl.1 (c_X11_given l D cA q aK aV hq hc13) sf_X11_given bw_755 sv_X11_given (rcC_11 sC_0) rfl ⟨rfl, rfl⟩ ⟨Nat.le_of_ble_eq_true rfl, Nat.le_of_ble_eq_true rfl⟩ rfl rfl (Nat.le_of_ble_eq_true rfl) dX11_night_20 (fun H locs hP hS => ?_)
    refine lv_goto (tgt := 32) hx hb dX11_night_23 (by decide) ?_
    exact end_i X hr hk hP hS h dX11_night_32
theorem dX11_appeal_0 : decode cX11_appeal 0 = .ok (.aload_n 0, 1) := by decide +kernel
theorem dX11_appeal_1 : decode cX11_appeal 1 = .ok (.getfield 10, 3) := by decide +kernel
theorem dX11_appeal_4 : decode cX11_appeal 4 = .ok (.iconst 3, 1) := by decide +kernel
theorem dX11_appeal_5 : decode cX11_appeal 5 = .ok (.iload_n 1, 1) := by decide +kernel
theorem dX11_appeal_6 : decode cX11_appeal 6 = .ok (.invokevirtual 213, 3) := by decide +kernel
theorem dX11_appeal_9 : decode cX11_appeal 9 = .ok (.ifCond .ne 9, 3) := by decide +kernel
theorem dX11_appeal_12 : decode cX11_appeal 12 = .ok (.aload_n 0, 1) := by decide +kernel
theorem dX11_appeal_13 : decode cX11_appeal 13 = .ok (.iconst 1, 1) := by decide +kernel
theorem dX11_appeal_14 : decode cX11_appeal 14 = .ok (.invokevirtual 132, 3) := by decide +kernel
theorem dX11_appeal_17 : decode cX11_appeal 17 = .ok (.ireturn, 1) := by decide +kernel
theorem dX11_appeal_18 : decode cX11_appeal 18 = .ok (.aload_n 0, 1) := by decide +kernel
theorem dX11_appeal_19 : decode cX11_appeal 19 = .ok (.getfield 10, 3) := by decide +kernel
theorem dX11_appeal_22 : decode cX11_appeal 22 = .ok (.iload_n 1, 1) := by decide +kernel
theorem dX11_appeal_23 : decode cX11_appeal 23 = .ok (.invokevirtual 228, 3) := by decide +kernel
theorem dX11_appeal_26 : decode cX11_appeal 26 = .ok (.astore_n 2, 1) := by decide +kernel
theorem dX11_appeal_27 : decode cX11_appeal 27 = .ok (.aload_n 2, 1) := by decide +kernel
theorem dX11_appeal_28 : decode cX11_appeal 28 = .ok (.getfield 240, 3) := by decide +kernel
theorem dX11_appeal_31 : decode cX11_appeal 31 = .ok (.istore_n 3, 1) := by decide +kernel
theorem dX11_appeal_32 : decode cX11_appeal 32 = .ok (.iload_n 3, 1) := by decide +kernel
theorem dX11_appeal_33 : decode cX11_appeal 33 = .ok (.ifCond .ne 10, 3) := by decide +kernel
theorem dX11_appeal_36 : decode cX11_appeal 36 = .ok (.aload_n 0, 1) := by decide +kernel
theorem dX11_appeal_37 : decode cX11_appeal 37 = .ok (.bipush 7, 2) := by decide +kernel
theorem dX11_appeal_39 : decode cX11_appeal 39 = .ok (.invokevirtual 132, 3) := by decide +kernel
theorem dX11_appeal_42 : decode cX11_appeal 42 = .ok (.ireturn, 1) := by decide +kernel
theorem dX11_appeal_43 : decode cX11_appeal 43 = .ok (.aload_n 2, 1) := by decide +kernel
theorem dX11_appeal_44 : decode cX11_appeal 44 = .ok (.iconst 0, 1) := by decide +kernel
theorem dX11_appeal_45 : decode cX11_appeal 45 = .ok (.putfield 240, 3) := by decide +kernel
theorem dX11_appeal_48 : decode cX11_appeal 48 = .ok (.aload_n 0, 1) := by decide +kernel
theorem dX11_appeal_49 : decode cX11_appeal 49 = .ok (.iload_n 3, 1) := by decide +kernel
theorem dX11_appeal_50 : decode cX11_appeal 50 = .ok (.invokevirtual 191, 3) := by decide +kernel
theorem dX11_appeal_53 : decode cX11_appeal 53 = .ok (.ireturn, 1) := by decide +kernel
set_option maxRecDepth 100000 in
set_option maxHeartbeats 8000000 in
theorem c_X11_appeal (l : Launch) (D : va_G) (cA : Nat → ClassId) (q aK aV : Nat → Nat) (hq : injG 167 q) {a1 : Int32} {M M0 : Mem} {r0 : Int32} (h : f_X11_appeal a1 M = some (r0, M0)) : Met l yX11_appeal (.code yX11_appeal cX11_appeal 4 (some .int) :: BW) ({ frames := 3, cells := 0, slots := 0, locals := 56 } : Room) (va_Pc [.ref (q 0), .int a1] (CB 167 (ceC cA q) D cA q aK aV M)) (Qi 167 (ceC cA q) D q r0 M0) 0 0 (AqG 167 q) := by
  refine gMet RX11 (by decide +kernel) rfl hq (Nat.le_of_ble_eq_true rfl) ?_
  intro p e s m below meth c ls X hr hk hP hS hl
  have hx := X.1
  have hb := X.2.1
  have hl : lv_has ls 4 [(0, .ref (q 0)), (1, .int a1)] := hl
  rw [f_X11_appeal] at h
  refine lv_aload_n hx hb dX11_appeal_0 rfl (lv_at hl 0 rfl) ?_
  refine gfC_11_0 X hP sC_0 bw_430 dX11_appeal_1 ?_
  obtain ⟨g1, h⟩ := gd_inv h
  have g1 := Decidable.not_not.mp g1
  refine lv_iconst (v := 3) hx hb dX11_appeal_4 (by decide) ?_
  refine lv_iload_n hx hb dX11_appeal_5 rfl (lv_at hl 1 rfl) ?_
  obtain ⟨r2, M3, hc4, h⟩ := bnd_inv h
  refine gV_i (As := [.int (3 : Int32), .int a1]) X hP hS hl.1 (c_X0_has l D cA q aK aV hq g1 hc4) sf_X0_has bw_830 sv_X0_has (rcC_0 g1) rfl ⟨rfl, rfl⟩ ⟨Nat.le_of_ble_eq_true rfl, Nat.le_of_ble_eq_true rfl⟩ rfl rfl (Nat.le_of_ble_eq_true rfl) dX11_appeal_6 (fun H locs hP hS => ?_)
  refine lv_if_ne (tgt := 18) hx hb dX11_appeal_9 (by decide) (fun c5 => ?_) (fun c5 => ?_)
  · rw [if_neg c5] at h
    refine lv_aload_n hx hb dX11_appeal_18 rfl (lv_at hl 0 rfl) ?_
    refine gfC_11_0 X hP sC_0 bw_430 dX11_appeal_19 ?_
    obtain ⟨g6, h⟩ := gd_inv h
    have g6 := Decidable.not_not.mp g6
    refine lv_iload_n hx hb dX11_appeal_22 rfl (lv_at hl 1 rfl) ?_
    obtain ⟨r7, M8, hc9, h⟩ := bnd_inv h
    refine gV_r (As := [.int a1]) X hP hS hl.1 (c_X0_personAt l D cA q aK aV hq g6 hc9) sf_X0_personAt bw_852 sv_X0_personAt (rcC_0 g6) rfl ⟨rfl, rfl⟩ ⟨Nat.le_of_ble_eq_true rfl, Nat.le_of_ble_eq_true rfl⟩ rfl rfl (Nat.le_of_ble_eq_true rfl) dX11_appeal_23 (fun H locs hP hS => ?_)
    obtain ⟨g10, h⟩ := gd_inv h
    have g10 := Decidable.not_not.mp g10
    refine lv_astore_n (lv' := [(2, .ref (q r7)), (0, .ref (q 0)), (1, .int a1)]) hx hb dX11_appeal_26 rfl hl (by decide) rfl (fun ls hl => ?_)
    refine lv_aload_n hx hb dX11_appeal_27 rfl (lv_at hl 0 rfl) ?_
    refine gfC_5_3 X hP g10 bw_128 dX11_appeal_28 ?_
    obtain ⟨y11, ey11, h⟩ := lt_inv h
    refine topE ey11 ?_
    refine lv_istore_n (lv' := [(3, .int y11), (2, .ref (q r7)), (0, .ref (q 0)), (1, .int a1)]) hx hb dX11_appeal_31 rfl hl (by decide) rfl (fun ls hl => ?_)
    refine lv_iload_n hx hb dX11_appeal_32 rfl (lv_at hl 0 rfl) ?_
    refine lv_if_ne (tgt := 43) hx hb dX11_appeal_33 (by decide) (fun c12 => ?_) (fun c12 => ?_)
    · rw [if_neg c12] at h
      refine lv_aload_n hx hb dX11_appeal_43 rfl (lv_at hl 1 rfl) ?_
      refine lv_iconst (v := 0) hx hb dX11_appeal_44 (by decide) ?_
      obtain ⟨M13, eM13, h⟩ := lt_inv h
      refine pfC_5_3 X hP hS g10 bw_128 eM13 dX11_appeal_45 (fun H locs hP hS => ?_)
      refine lv_aload_n hx hb dX11_appeal_48 rfl (lv_at hl 2 rfl) ?_
      refine lv_iload_n hx hb dX11_appeal_49 rfl (lv_at hl 0 rfl) ?_
      obtain ⟨r14, M15, hc16, h⟩ := bnd_inv h
      refine gV_i (As := [.int y11]) X hP hS hl.1 (c_X11_given l D cA q aK aV hq hc16) sf_X11_given bw_755 sv_X11_given (rcC_11 sC_0) rfl ⟨rfl, rfl⟩ ⟨Nat.le_of_ble_eq_true rfl, Nat.le_of_ble_eq_true rfl⟩ rfl rfl (Nat.le_of_ble_eq_true rfl) dX11_appeal_50 (fun H locs hP hS => ?_)
      exact end_i X hr hk hP hS h dX11_appeal_53
    · rw [if_pos c12] at h
      refine lv_aload_n hx hb dX11_appeal_36 rfl (lv_at hl 2 rfl) ?_
      refine lv_bipush (v := 7) hx hb dX11_appeal_37 (by decide) ?_
      obtain ⟨r17, M18, hc19, h⟩ := bnd_inv h
      refine gV_i (As := [.int (7 : Int32)]) X hP hS hl.1 (c_X11_refused l D cA q aK aV hq hc19) sf_X11_refused bw_552 sv_X11_refused (rcC_11 sC_0) rfl ⟨rfl, rfl⟩ ⟨Nat.le_of_ble_eq_true rfl, Nat.le_of_ble_eq_true rfl⟩ rfl rfl (Nat.le_of_ble_eq_true rfl) dX11_appeal_39 (fun H locs hP hS => ?_)
      exact end_i X hr hk hP hS h dX11_appeal_42
  · rw [if_pos c5] at h
    refine lv_aload_n hx hb dX11_appeal_12 rfl (lv_at hl 0 rfl) ?_
    refine lv_iconst (v := 1) hx hb dX11_appeal_13 (by decide) ?_
    obtain ⟨r20, M21, hc22, h⟩ := bnd_inv h
    refine gV_i (As := [.int (1 : Int32)]) X hP hS hl.1 (c_X11_refused l D cA q aK aV hq hc22) sf_X11_refused bw_552 sv_X11_refused (rcC_11 sC_0) rfl ⟨rfl, rfl⟩ ⟨Nat.le_of_ble_eq_true rfl, Nat.le_of_ble_eq_true rfl⟩ rfl rfl (Nat.le_of_ble_eq_true rfl) dX11_appeal_14 (fun H locs hP hS => ?_)
    exact end_i X hr hk hP hS h dX11_appeal_17
theorem dX11_blame_0 : decode cX11_blame 0 = .ok (.aload_n 0, 1) := by decide +kernel
theorem dX11_blame_1 : decode cX11_blame 1 = .ok (.getfield 10, 3) := by decide +kernel
theorem dX11_blame_4 : decode cX11_blame 4 = .ok (.iconst 3, 1) := by decide +kernel
theorem dX11_blame_5 : decode cX11_blame 5 = .ok (.iload_n 1, 1) := by decide +kernel
theorem dX11_blame_6 : decode cX11_blame 6 = .ok (.invokevirtual 213, 3) := by decide +kernel
theorem dX11_blame_9 : decode cX11_blame 9 = .ok (.ifCond .ne 9, 3) := by decide +kernel
theorem dX11_blame_12 : decode cX11_blame 12 = .ok (.aload_n 0, 1) := by decide +kernel
theorem dX11_blame_13 : decode cX11_blame 13 = .ok (.iconst 1, 1) := by decide +kernel
theorem dX11_blame_14 : decode cX11_blame 14 = .ok (.invokevirtual 108, 3) := by decide +kernel
theorem dX11_blame_17 : decode cX11_blame 17 = .ok (.ireturn, 1) := by decide +kernel
theorem dX11_blame_18 : decode cX11_blame 18 = .ok (.aload_n 0, 1) := by decide +kernel
theorem dX11_blame_19 : decode cX11_blame 19 = .ok (.getfield 10, 3) := by decide +kernel
theorem dX11_blame_22 : decode cX11_blame 22 = .ok (.iload_n 1, 1) := by decide +kernel
theorem dX11_blame_23 : decode cX11_blame 23 = .ok (.invokevirtual 228, 3) := by decide +kernel
theorem dX11_blame_26 : decode cX11_blame 26 = .ok (.astore_n 3, 1) := by decide +kernel
theorem dX11_blame_27 : decode cX11_blame 27 = .ok (.iload_n 2, 1) := by decide +kernel
theorem dX11_blame_28 : decode cX11_blame 28 = .ok (.ifCond .eq 7, 3) := by decide +kernel
theorem dX11_blame_31 : decode cX11_blame 31 = .ok (.iconst 1, 1) := by decide +kernel
theorem dX11_blame_32 : decode cX11_blame 32 = .ok (.goto 4, 3) := by decide +kernel
theorem dX11_blame_35 : decode cX11_blame 35 = .ok (.iconst 2, 1) := by decide +kernel
theorem dX11_blame_36 : decode cX11_blame 36 = .ok (.istore 4, 2) := by decide +kernel
theorem dX11_blame_38 : decode cX11_blame 38 = .ok (.aload_n 3, 1) := by decide +kernel
theorem dX11_blame_39 : decode cX11_blame 39 = .ok (.getfield 243, 3) := by decide +kernel
theorem dX11_blame_42 : decode cX11_blame 42 = .ok (.iload 4, 2) := by decide +kernel
theorem dX11_blame_44 : decode cX11_blame 44 = .ok (.if_icmp .ne 10, 3) := by decide +kernel
theorem dX11_blame_47 : decode cX11_blame 47 = .ok (.aload_n 0, 1) := by decide +kernel
theorem dX11_blame_48 : decode cX11_blame 48 = .ok (.bipush 7, 2) := by decide +kernel
theorem dX11_blame_50 : decode cX11_blame 50 = .ok (.invokevirtual 108, 3) := by decide +kernel
theorem dX11_blame_53 : decode cX11_blame 53 = .ok (.ireturn, 1) := by decide +kernel
theorem dX11_blame_54 : decode cX11_blame 54 = .ok (.aload_n 3, 1) := by decide +kernel
theorem dX11_blame_55 : decode cX11_blame 55 = .ok (.iload 4, 2) := by decide +kernel
theorem dX11_blame_57 : decode cX11_blame 57 = .ok (.putfield 243, 3) := by decide +kernel
theorem dX11_blame_60 : decode cX11_blame 60 = .ok (.aload_n 0, 1) := by decide +kernel
theorem dX11_blame_61 : decode cX11_blame 61 = .ok (.invokevirtual 120, 3) := by decide +kernel
theorem dX11_blame_64 : decode cX11_blame 64 = .ok (.ireturn, 1) := by decide +kernel
set_option maxRecDepth 100000 in
set_option maxHeartbeats 8000000 in
theorem c_X11_blame (l : Launch) (D : va_G) (cA : Nat → ClassId) (q aK aV : Nat → Nat) (hq : injG 167 q) {a1 : Int32} {a2 : Int32} {M M0 : Mem} {r0 : Int32} (h : f_X11_blame a1 a2 M = some (r0, M0)) : Met l yX11_blame (.code yX11_blame cX11_blame 5 (some .boolean) :: BW) ({ frames := 3, cells := 0, slots := 0, locals := 56 } : Room) (va_Pc [.ref (q 0), .int a1, .int a2] (CB 167 (ceC cA q) D cA q aK aV M)) (Qi 167 (ceC cA q) D q r0 M0) 0 0 (AqG 167 q) := by
  refine gMet RX11 (by decide +kernel) rfl hq (Nat.le_of_ble_eq_true rfl) ?_
  intro p e s m below meth c ls X hr hk hP hS hl
  have hx := X.1
  have hb := X.2.1
  have hl : lv_has ls 5 [(0, .ref (q 0)), (1, .int a1), (2, .int a2)] := hl
  rw [f_X11_blame] at h
  have hJ36 : ∀ (b3 : Nat) (hb3 : shC b3 = 5) (s0 : Int32) (M : Mem) (H : Heap) (locs : List Loc) (ls : Array Slot), f_X11_blame_J36 b3 s0 M = some (r0, M0) → va_P D vwCl (wsG 167 (ceC cA q) q M) H → va_S (AqG 167 q) s.heap H locs → lv_has ls 5 [(0, .ref (q 0)), (3, .ref (q b3))] → W p l e ({ frames := 3, cells := 0, slots := 0, locals := 56 } : Room) s m [.ref (q 0), .int a1, .int a2].toArray below meth c H locs 0 0 (MQ below (Qi 167 (ceC cA q) D q r0 M0) [.ref (q 0), .int a1, .int a2].toArray s 0 0 (AqG 167 q)) (F0 m 36 ls [.int s0]) := by
    intro b3 hb3 s0 M H locs ls h hP hS hl
    rw [f_X11_blame_J36] at h
    refine lv_istore (lv' := [(4, .int s0), (0, .ref (q 0)), (3, .ref (q b3))]) hx hb dX11_blame_36 hl (by decide) rfl (fun ls hl => ?_)
    refine lv_aload_n hx hb dX11_blame_38 rfl (lv_at hl 2 rfl) ?_
    refine gfC_5_0 X hP hb3 bw_114 dX11_blame_39 ?_
    refine lv_iload hx hb dX11_blame_42 (lv_at hl 0 rfl) ?_
    refine lv_icmp_ne (tgt := 54) hx hb dX11_blame_44 (by decide) (fun c16 => ?_) (fun c16 => ?_)
    · rw [if_neg c16] at h
      refine lv_aload_n hx hb dX11_blame_54 rfl (lv_at hl 2 rfl) ?_
      refine lv_iload hx hb dX11_blame_55 (lv_at hl 0 rfl) ?_
      obtain ⟨M17, eM17, h⟩ := lt_inv h
      refine pfC_5_0 X hP hS hb3 bw_114 eM17 dX11_blame_57 (fun H locs hP hS => ?_)
      refine lv_aload_n hx hb dX11_blame_60 rfl (lv_at hl 1 rfl) ?_
      obtain ⟨r18, M19, hc20, h⟩ := bnd_inv h
      refine gV_i (As := []) X hP hS hl.1 (c_X11_done l D cA q aK aV hq hc20) sf_X11_done bw_519 sv_X11_done (rcC_11 sC_0) rfl ⟨rfl, rfl⟩ ⟨Nat.le_of_ble_eq_true rfl, Nat.le_of_ble_eq_true rfl⟩ rfl rfl (Nat.le_of_ble_eq_true rfl) dX11_blame_61 (fun H locs hP hS => ?_)
      obtain ⟨g21, h⟩ := gd_inv h
      exact end_z X hr hk hP hS (Decidable.not_not.mp g21) h dX11_blame_64
    · rw [if_pos c16] at h
      refine lv_aload_n hx hb dX11_blame_47 rfl (lv_at hl 1 rfl) ?_
      refine lv_bipush (v := 7) hx hb dX11_blame_48 (by decide) ?_
      obtain ⟨r22, M23, hc24, h⟩ := bnd_inv h
      refine gV_i (As := [.int (7 : Int32)]) X hP hS hl.1 (c_X11_denied l D cA q aK aV hq hc24) sf_X11_denied bw_507 sv_X11_denied (rcC_11 sC_0) rfl ⟨rfl, rfl⟩ ⟨Nat.le_of_ble_eq_true rfl, Nat.le_of_ble_eq_true rfl⟩ rfl rfl (Nat.le_of_ble_eq_true rfl) dX11_blame_50 (fun H locs hP hS => ?_)
      obtain ⟨g25, h⟩ := gd_inv h
      exact end_z X hr hk hP hS (Decidable.not_not.mp g25) h dX11_blame_53
  refine lv_aload_n hx hb dX11_blame_0 rfl (lv_at hl 0 rfl) ?_
  refine gfC_11_0 X hP sC_0 bw_430 dX11_blame_1 ?_
  obtain ⟨g1, h⟩ := gd_inv h
  have g1 := Decidable.not_not.mp g1
  refine lv_iconst (v := 3) hx hb dX11_blame_4 (by decide) ?_
  refine lv_iload_n hx hb dX11_blame_5 rfl (lv_at hl 1 rfl) ?_
  obtain ⟨r2, M3, hc4, h⟩ := bnd_inv h
  refine gV_i (As := [.int (3 : Int32), .int a1]) X hP hS hl.1 (c_X0_has l D cA q aK aV hq g1 hc4) sf_X0_has bw_830 sv_X0_has (rcC_0 g1) rfl ⟨rfl, rfl⟩ ⟨Nat.le_of_ble_eq_true rfl, Nat.le_of_ble_eq_true rfl⟩ rfl rfl (Nat.le_of_ble_eq_true rfl) dX11_blame_6 (fun H locs hP hS => ?_)
  refine lv_if_ne (tgt := 18) hx hb dX11_blame_9 (by decide) (fun c5 => ?_) (fun c5 => ?_)
  · rw [if_neg c5] at h
    refine lv_aload_n hx hb dX11_blame_18 rfl (lv_at hl 0 rfl) ?_
    refine gfC_11_0 X hP sC_0 bw_430 dX11_blame_19 ?_
    obtain ⟨g6, h⟩ := gd_inv h
    have g6 := Decidable.not_not.mp g6
    refine lv_iload_n hx hb dX11_blame_22 rfl (lv_at hl 1 rfl) ?_
    obtain ⟨r7, M8, hc9, h⟩ := bnd_inv h
    refine gV_r (As := [.int a1]) X hP hS hl.1 (c_X0_personAt l D cA q aK aV hq g6 hc9) sf_X0_personAt bw_852 sv_X0_personAt (rcC_0 g6) rfl ⟨rfl, rfl⟩ ⟨Nat.le_of_ble_eq_true rfl, Nat.le_of_ble_eq_true rfl⟩ rfl rfl (Nat.le_of_ble_eq_true rfl) dX11_blame_23 (fun H locs hP hS => ?_)
    obtain ⟨g10, h⟩ := gd_inv h
    have g10 := Decidable.not_not.mp g10
    refine lv_astore_n (lv' := [(3, .ref (q r7)), (0, .ref (q 0)), (1, .int a1), (2, .int a2)]) hx hb dX11_blame_26 rfl hl (by decide) rfl (fun ls hl => ?_)
    refine lv_iload_n hx hb dX11_blame_27 rfl (lv_at hl 3 rfl) ?_
    refine lv_if_eq (tgt := 35) hx hb dX11_blame_28 (by decide) (fun c11 => ?_) (fun c11 => ?_)
    · rw [if_pos c11] at h
      refine lv_iconst (v := 2) hx hb dX11_blame_35 (by decide) ?_
      exact hJ36 _ g10 _ _ _ _ _ h hP hS (lv_sub hl [1, 0] rfl)
    · rw [if_neg c11] at h
      refine lv_iconst (v := 1) hx hb dX11_blame_31 (by decide) ?_
      refine lv_goto (tgt := 36) hx hb dX11_blame_32 (by decide) ?_
      exact hJ36 _ g10 _ _ _ _ _ h hP hS (lv_sub hl [1, 0] rfl)
  · rw [if_pos c5] at h
    refine lv_aload_n hx hb dX11_blame_12 rfl (lv_at hl 0 rfl) ?_
    refine lv_iconst (v := 1) hx hb dX11_blame_13 (by decide) ?_
    obtain ⟨r12, M13, hc14, h⟩ := bnd_inv h
    refine gV_i (As := [.int (1 : Int32)]) X hP hS hl.1 (c_X11_denied l D cA q aK aV hq hc14) sf_X11_denied bw_507 sv_X11_denied (rcC_11 sC_0) rfl ⟨rfl, rfl⟩ ⟨Nat.le_of_ble_eq_true rfl, Nat.le_of_ble_eq_true rfl⟩ rfl rfl (Nat.le_of_ble_eq_true rfl) dX11_blame_14 (fun H locs hP hS => ?_)
    obtain ⟨g15, h⟩ := gd_inv h
    exact end_z X hr hk hP hS (Decidable.not_not.mp g15) h dX11_blame_17
theorem dX11_reread_0 : decode cX11_reread 0 = .ok (.aload_n 0, 1) := by decide +kernel
theorem dX11_reread_1 : decode cX11_reread 1 = .ok (.getfield 10, 3) := by decide +kernel
theorem dX11_reread_4 : decode cX11_reread 4 = .ok (.iconst 1, 1) := by decide +kernel
theorem dX11_reread_5 : decode cX11_reread 5 = .ok (.iload_n 1, 1) := by decide +kernel
theorem dX11_reread_6 : decode cX11_reread 6 = .ok (.invokevirtual 213, 3) := by decide +kernel
theorem dX11_reread_9 : decode cX11_reread 9 = .ok (.ifCond .eq 11, 3) := by decide +kernel
theorem dX11_reread_12 : decode cX11_reread 12 = .ok (.iload_n 2, 1) := by decide +kernel
theorem dX11_reread_13 : decode cX11_reread 13 = .ok (.iconst 3, 1) := by decide +kernel
theorem dX11_reread_14 : decode cX11_reread 14 = .ok (.invokestatic 104, 3) := by decide +kernel
theorem dX11_reread_17 : decode cX11_reread 17 = .ok (.ifCond .ne 9, 3) := by decide +kernel
theorem dX11_reread_20 : decode cX11_reread 20 = .ok (.aload_n 0, 1) := by decide +kernel
theorem dX11_reread_21 : decode cX11_reread 21 = .ok (.iconst 1, 1) := by decide +kernel
theorem dX11_reread_22 : decode cX11_reread 22 = .ok (.invokevirtual 108, 3) := by decide +kernel
theorem dX11_reread_25 : decode cX11_reread 25 = .ok (.ireturn, 1) := by decide +kernel
theorem dX11_reread_26 : decode cX11_reread 26 = .ok (.aload_n 0, 1) := by decide +kernel
theorem dX11_reread_27 : decode cX11_reread 27 = .ok (.getfield 10, 3) := by decide +kernel
theorem dX11_reread_30 : decode cX11_reread 30 = .ok (.getfield 288, 3) := by decide +kernel
theorem dX11_reread_33 : decode cX11_reread 33 = .ok (.iload_n 1, 1) := by decide +kernel
theorem dX11_reread_34 : decode cX11_reread 34 = .ok (.iload_n 2, 1) := by decide +kernel
theorem dX11_reread_35 : decode cX11_reread 35 = .ok (.invokestatic 291, 3) := by decide +kernel
theorem dX11_reread_38 : decode cX11_reread 38 = .ok (.aload_n 0, 1) := by decide +kernel
theorem dX11_reread_39 : decode cX11_reread 39 = .ok (.invokevirtual 120, 3) := by decide +kernel
theorem dX11_reread_42 : decode cX11_reread 42 = .ok (.ireturn, 1) := by decide +kernel
set_option maxRecDepth 100000 in
set_option maxHeartbeats 8000000 in
theorem c_X11_reread (l : Launch) (D : va_G) (cA : Nat → ClassId) (q aK aV : Nat → Nat) (hq : injG 167 q) {a1 : Int32} {a2 : Int32} {M M0 : Mem} {r0 : Int32} (h : f_X11_reread a1 a2 M = some (r0, M0)) : Met l yX11_reread (.code yX11_reread cX11_reread 3 (some .boolean) :: BW) ({ frames := 3, cells := 0, slots := 0, locals := 56 } : Room) (va_Pc [.ref (q 0), .int a1, .int a2] (CB 167 (ceC cA q) D cA q aK aV M)) (Qi 167 (ceC cA q) D q r0 M0) 0 0 (AqG 167 q) := by
  refine gMet RX11 (by decide +kernel) rfl hq (Nat.le_of_ble_eq_true rfl) ?_
  intro p e s m below meth c ls X hr hk hP hS hl
  have hx := X.1
  have hb := X.2.1
  have hl : lv_has ls 3 [(0, .ref (q 0)), (1, .int a1), (2, .int a2)] := hl
  rw [f_X11_reread] at h
  refine lv_aload_n hx hb dX11_reread_0 rfl (lv_at hl 0 rfl) ?_
  refine gfC_11_0 X hP sC_0 bw_430 dX11_reread_1 ?_
  obtain ⟨g1, h⟩ := gd_inv h
  have g1 := Decidable.not_not.mp g1
  refine lv_iconst (v := 1) hx hb dX11_reread_4 (by decide) ?_
  refine lv_iload_n hx hb dX11_reread_5 rfl (lv_at hl 1 rfl) ?_
  obtain ⟨r2, M3, hc4, h⟩ := bnd_inv h
  refine gV_i (As := [.int (1 : Int32), .int a1]) X hP hS hl.1 (c_X0_has l D cA q aK aV hq g1 hc4) sf_X0_has bw_830 sv_X0_has (rcC_0 g1) rfl ⟨rfl, rfl⟩ ⟨Nat.le_of_ble_eq_true rfl, Nat.le_of_ble_eq_true rfl⟩ rfl rfl (Nat.le_of_ble_eq_true rfl) dX11_reread_6 (fun H locs hP hS => ?_)
  refine lv_if_eq (tgt := 20) hx hb dX11_reread_9 (by decide) (fun c5 => ?_) (fun c5 => ?_)
  · rw [if_pos c5] at h
    refine lv_aload_n hx hb dX11_reread_20 rfl (lv_at hl 0 rfl) ?_
    refine lv_iconst (v := 1) hx hb dX11_reread_21 (by decide) ?_
    obtain ⟨r6, M7, hc8, h⟩ := bnd_inv h
    refine gV_i (As := [.int (1 : Int32)]) X hP hS hl.1 (c_X11_denied l D cA q aK aV hq hc8) sf_X11_denied bw_507 sv_X11_denied (rcC_11 sC_0) rfl ⟨rfl, rfl⟩ ⟨Nat.le_of_ble_eq_true rfl, Nat.le_of_ble_eq_true rfl⟩ rfl rfl (Nat.le_of_ble_eq_true rfl) dX11_reread_22 (fun H locs hP hS => ?_)
    obtain ⟨g9, h⟩ := gd_inv h
    exact end_z X hr hk hP hS (Decidable.not_not.mp g9) h dX11_reread_25
  · rw [if_neg c5] at h
    refine lv_iload_n hx hb dX11_reread_12 rfl (lv_at hl 2 rfl) ?_
    refine lv_iconst (v := 3) hx hb dX11_reread_13 (by decide) ?_
    obtain ⟨r10, M11, hc12, h⟩ := bnd_inv h
    refine gS_i (As := [.int a2, .int (3 : Int32)]) X hP hS hl.1 (c_X11_within l D cA q aK aV hq hc12) sf_X11_within bw_504 ss_X11_within ⟨rfl, rfl⟩ ⟨Nat.le_of_ble_eq_true rfl, Nat.le_of_ble_eq_true rfl⟩ rfl rfl (Nat.le_of_ble_eq_true rfl) dX11_reread_14 (fun H locs hP hS => ?_)
    refine lv_if_ne (tgt := 26) hx hb dX11_reread_17 (by decide) (fun c13 => ?_) (fun c13 => ?_)
    · rw [if_neg c13] at h
      refine lv_aload_n hx hb dX11_reread_26 rfl (lv_at hl 0 rfl) ?_
      refine gfC_11_0 X hP sC_0 bw_430 dX11_reread_27 ?_
      obtain ⟨g14, h⟩ := gd_inv h
      have g14 := Decidable.not_not.mp g14
      refine gfC_0_2 X hP g14 bw_147 dX11_reread_30 ?_
      refine lv_iload_n hx hb dX11_reread_33 rfl (lv_at hl 1 rfl) ?_
      refine lv_iload_n hx hb dX11_reread_34 rfl (lv_at hl 2 rfl) ?_
      obtain ⟨_, M16, hc17, h⟩ := bnd_inv h
      refine gS_v (As := [.ref (q ((gR M11 0 0) + 3)), .int a1, .int a2]) X hP hS hl.1 (c_X11_put l D cA q aK aV hq ((kC_0_2 g14).1) hc17) sf_X11_put bw_942 ss_X11_put ⟨rfl, rfl⟩ ⟨Nat.le_of_ble_eq_true rfl, Nat.le_of_ble_eq_true rfl⟩ rfl rfl (Nat.le_of_ble_eq_true rfl) dX11_reread_35 (fun H locs hP hS => ?_)
      refine lv_aload_n hx hb dX11_reread_38 rfl (lv_at hl 0 rfl) ?_
      obtain ⟨r18, M19, hc20, h⟩ := bnd_inv h
      refine gV_i (As := []) X hP hS hl.1 (c_X11_done l D cA q aK aV hq hc20) sf_X11_done bw_519 sv_X11_done (rcC_11 sC_0) rfl ⟨rfl, rfl⟩ ⟨Nat.le_of_ble_eq_true rfl, Nat.le_of_ble_eq_true rfl⟩ rfl rfl (Nat.le_of_ble_eq_true rfl) dX11_reread_39 (fun H locs hP hS => ?_)
      obtain ⟨g21, h⟩ := gd_inv h
      exact end_z X hr hk hP hS (Decidable.not_not.mp g21) h dX11_reread_42
    · rw [if_pos c13] at h
      refine lv_aload_n hx hb dX11_reread_20 rfl (lv_at hl 0 rfl) ?_
      refine lv_iconst (v := 1) hx hb dX11_reread_21 (by decide) ?_
      obtain ⟨r22, M23, hc24, h⟩ := bnd_inv h
      refine gV_i (As := [.int (1 : Int32)]) X hP hS hl.1 (c_X11_denied l D cA q aK aV hq hc24) sf_X11_denied bw_507 sv_X11_denied (rcC_11 sC_0) rfl ⟨rfl, rfl⟩ ⟨Nat.le_of_ble_eq_true rfl, Nat.le_of_ble_eq_true rfl⟩ rfl rfl (Nat.le_of_ble_eq_true rfl) dX11_reread_22 (fun H locs hP hS => ?_)
      obtain ⟨g25, h⟩ := gd_inv h
      exact end_z X hr hk hP hS (Decidable.not_not.mp g25) h dX11_reread_25
theorem dX11_enact_0 : decode cX11_enact 0 = .ok (.iload_n 3, 1) := by decide +kernel
theorem dX11_enact_1 : decode cX11_enact 1 = .ok (.iconst 5, 1) := by decide +kernel
theorem dX11_enact_2 : decode cX11_enact 2 = .ok (.if_icmp .eq 15, 3) := by decide +kernel
theorem dX11_enact_5 : decode cX11_enact 5 = .ok (.aload_n 0, 1) := by decide +kernel
theorem dX11_enact_6 : decode cX11_enact 6 = .ok (.getfield 10, 3) := by decide +kernel
theorem dX11_enact_9 : decode cX11_enact 9 = .ok (.iconst 0, 1) := by decide +kernel
theorem dX11_enact_10 : decode cX11_enact 10 = .ok (.iload_n 3, 1) := by decide +kernel
theorem dX11_enact_11 : decode cX11_enact 11 = .ok (.invokevirtual 213, 3) := by decide +kernel
theorem dX11_enact_14 : decode cX11_enact 14 = .ok (.ifCond .eq 7, 3) := by decide +kernel
theorem dX11_enact_17 : decode cX11_enact 17 = .ok (.iconst 1, 1) := by decide +kernel
theorem dX11_enact_18 : decode cX11_enact 18 = .ok (.goto 4, 3) := by decide +kernel
theorem dX11_enact_21 : decode cX11_enact 21 = .ok (.iconst 0, 1) := by decide +kernel
theorem dX11_enact_22 : decode cX11_enact 22 = .ok (.istore 4, 2) := by decide +kernel
theorem dX11_enact_24 : decode cX11_enact 24 = .ok (.aload_n 0, 1) := by decide +kernel
theorem dX11_enact_25 : decode cX11_enact 25 = .ok (.getfield 10, 3) := by decide +kernel
theorem dX11_enact_28 : decode cX11_enact 28 = .ok (.iconst 1, 1) := by decide +kernel
theorem dX11_enact_29 : decode cX11_enact 29 = .ok (.iload_n 1, 1) := by decide +kernel
theorem dX11_enact_30 : decode cX11_enact 30 = .ok (.invokevirtual 213, 3) := by decide +kernel
theorem dX11_enact_33 : decode cX11_enact 33 = .ok (.ifCond .eq 16, 3) := by decide +kernel
theorem dX11_enact_36 : decode cX11_enact 36 = .ok (.iload_n 2, 1) := by decide +kernel
theorem dX11_enact_37 : decode cX11_enact 37 = .ok (.iconst 3, 1) := by decide +kernel
theorem dX11_enact_38 : decode cX11_enact 38 = .ok (.invokestatic 104, 3) := by decide +kernel
theorem dX11_enact_41 : decode cX11_enact 41 = .ok (.ifCond .eq 8, 3) := by decide +kernel
theorem dX11_enact_44 : decode cX11_enact 44 = .ok (.iload 4, 2) := by decide +kernel
theorem dX11_enact_46 : decode cX11_enact 46 = .ok (.ifCond .ne 9, 3) := by decide +kernel
theorem dX11_enact_49 : decode cX11_enact 49 = .ok (.aload_n 0, 1) := by decide +kernel
theorem dX11_enact_50 : decode cX11_enact 50 = .ok (.iconst 1, 1) := by decide +kernel
theorem dX11_enact_51 : decode cX11_enact 51 = .ok (.invokevirtual 132, 3) := by decide +kernel
theorem dX11_enact_54 : decode cX11_enact 54 = .ok (.ireturn, 1) := by decide +kernel
theorem dX11_enact_55 : decode cX11_enact 55 = .ok (.aload_n 0, 1) := by decide +kernel
theorem dX11_enact_56 : decode cX11_enact 56 = .ok (.getfield 10, 3) := by decide +kernel
theorem dX11_enact_59 : decode cX11_enact 59 = .ok (.iconst 2, 1) := by decide +kernel
theorem dX11_enact_60 : decode cX11_enact 60 = .ok (.invokevirtual 295, 3) := by decide +kernel
theorem dX11_enact_63 : decode cX11_enact 63 = .ok (.ifCond .eq 9, 3) := by decide +kernel
theorem dX11_enact_66 : decode cX11_enact 66 = .ok (.aload_n 0, 1) := by decide +kernel
theorem dX11_enact_67 : decode cX11_enact 67 = .ok (.iconst 4, 1) := by decide +kernel
theorem dX11_enact_68 : decode cX11_enact 68 = .ok (.invokevirtual 132, 3) := by decide +kernel
theorem dX11_enact_71 : decode cX11_enact 71 = .ok (.ireturn, 1) := by decide +kernel
theorem dX11_enact_72 : decode cX11_enact 72 = .ok (.aload_n 0, 1) := by decide +kernel
theorem dX11_enact_73 : decode cX11_enact 73 = .ok (.getfield 10, 3) := by decide +kernel
theorem dX11_enact_76 : decode cX11_enact 76 = .ok (.iconst 2, 1) := by decide +kernel
theorem dX11_enact_77 : decode cX11_enact 77 = .ok (.invokevirtual 298, 3) := by decide +kernel
theorem dX11_enact_80 : decode cX11_enact 80 = .ok (.istore 5, 2) := by decide +kernel
theorem dX11_enact_82 : decode cX11_enact 82 = .ok (.aload_n 0, 1) := by decide +kernel
theorem dX11_enact_83 : decode cX11_enact 83 = .ok (.getfield 10, 3) := by decide +kernel
theorem dX11_enact_86 : decode cX11_enact 86 = .ok (.iload 5, 2) := by decide +kernel
theorem dX11_enact_88 : decode cX11_enact 88 = .ok (.invokevirtual 219, 3) := by decide +kernel
theorem dX11_enact_91 : decode cX11_enact 91 = .ok (.astore 6, 2) := by decide +kernel
theorem dX11_enact_93 : decode cX11_enact 93 = .ok (.aload 6, 2) := by decide +kernel
theorem dX11_enact_95 : decode cX11_enact 95 = .ok (.iload_n 1, 1) := by decide +kernel
theorem dX11_enact_96 : decode cX11_enact 96 = .ok (.invokevirtual 301, 3) := by decide +kernel
theorem dX11_enact_99 : decode cX11_enact 99 = .ok (.aload 6, 2) := by decide +kernel
theorem dX11_enact_101 : decode cX11_enact 101 = .ok (.iload_n 2, 1) := by decide +kernel
theorem dX11_enact_102 : decode cX11_enact 102 = .ok (.putfield 303, 3) := by decide +kernel
theorem dX11_enact_105 : decode cX11_enact 105 = .ok (.aload 6, 2) := by decide +kernel
theorem dX11_enact_107 : decode cX11_enact 107 = .ok (.iload_n 3, 1) := by decide +kernel
theorem dX11_enact_108 : decode cX11_enact 108 = .ok (.iconst 5, 1) := by decide +kernel
theorem dX11_enact_109 : decode cX11_enact 109 = .ok (.if_icmp .ne 7, 3) := by decide +kernel
theorem dX11_enact_112 : decode cX11_enact 112 = .ok (.iconst (-1), 1) := by decide +kernel
theorem dX11_enact_113 : decode cX11_enact 113 = .ok (.goto 4, 3) := by decide +kernel
theorem dX11_enact_116 : decode cX11_enact 116 = .ok (.iload_n 3, 1) := by decide +kernel
theorem dX11_enact_117 : decode cX11_enact 117 = .ok (.putfield 304, 3) := by decide +kernel
theorem dX11_enact_120 : decode cX11_enact 120 = .ok (.aload_n 0, 1) := by decide +kernel
theorem dX11_enact_121 : decode cX11_enact 121 = .ok (.iload 5, 2) := by decide +kernel
theorem dX11_enact_123 : decode cX11_enact 123 = .ok (.invokevirtual 191, 3) := by decide +kernel
theorem dX11_enact_126 : decode cX11_enact 126 = .ok (.ireturn, 1) := by decide +kernel
set_option maxRecDepth 100000 in
set_option maxHeartbeats 8000000 in
theorem c_X11_enact (l : Launch) (D : va_G) (cA : Nat → ClassId) (q aK aV : Nat → Nat) (hq : injG 167 q) {a1 : Int32} {a2 : Int32} {a3 : Int32} {M M0 : Mem} {r0 : Int32} (h : f_X11_enact a1 a2 a3 M = some (r0, M0)) : Met l yX11_enact (.code yX11_enact cX11_enact 7 (some .int) :: BW) ({ frames := 3, cells := 0, slots := 0, locals := 58 } : Room) (va_Pc [.ref (q 0), .int a1, .int a2, .int a3] (CB 167 (ceC cA q) D cA q aK aV M)) (Qi 167 (ceC cA q) D q r0 M0) 0 0 (AqG 167 q) := by
  refine gMet RX11 (by decide +kernel) rfl hq (Nat.le_of_ble_eq_true rfl) ?_
  intro p e s m below meth c ls X hr hk hP hS hl
  have hx := X.1
  have hb := X.2.1
  have hl : lv_has ls 7 [(0, .ref (q 0)), (1, .int a1), (2, .int a2), (3, .int a3)] := hl
  rw [f_X11_enact] at h
  have hJ22 : ∀ (s0 : Int32) (M : Mem) (H : Heap) (locs : List Loc) (ls : Array Slot), f_X11_enact_J22 a1 a2 a3 s0 M = some (r0, M0) → va_P D vwCl (wsG 167 (ceC cA q) q M) H → va_S (AqG 167 q) s.heap H locs → lv_has ls 7 [(0, .ref (q 0)), (1, .int a1), (2, .int a2), (3, .int a3)] → W p l e ({ frames := 3, cells := 0, slots := 0, locals := 58 } : Room) s m [.ref (q 0), .int a1, .int a2, .int a3].toArray below meth c H locs 0 0 (MQ below (Qi 167 (ceC cA q) D q r0 M0) [.ref (q 0), .int a1, .int a2, .int a3].toArray s 0 0 (AqG 167 q)) (F0 m 22 ls [.int s0]) := by
    intro s0 M H locs ls h hP hS hl
    rw [f_X11_enact_J22] at h
    refine lv_istore (lv' := [(4, .int s0), (0, .ref (q 0)), (1, .int a1), (2, .int a2), (3, .int a3)]) hx hb dX11_enact_22 hl (by decide) rfl (fun ls hl => ?_)
    refine lv_aload_n hx hb dX11_enact_24 rfl (lv_at hl 1 rfl) ?_
    refine gfC_11_0 X hP sC_0 bw_430 dX11_enact_25 ?_
    obtain ⟨g7, h⟩ := gd_inv h
    have g7 := Decidable.not_not.mp g7
    refine lv_iconst (v := 1) hx hb dX11_enact_28 (by decide) ?_
    refine lv_iload_n hx hb dX11_enact_29 rfl (lv_at hl 2 rfl) ?_
    obtain ⟨r8, M9, hc10, h⟩ := bnd_inv h
    refine gV_i (As := [.int (1 : Int32), .int a1]) X hP hS hl.1 (c_X0_has l D cA q aK aV hq g7 hc10) sf_X0_has bw_830 sv_X0_has (rcC_0 g7) rfl ⟨rfl, rfl⟩ ⟨Nat.le_of_ble_eq_true rfl, Nat.le_of_ble_eq_true rfl⟩ rfl rfl (Nat.le_of_ble_eq_true rfl) dX11_enact_30 (fun H locs hP hS => ?_)
    refine lv_if_eq (tgt := 49) hx hb dX11_enact_33 (by decide) (fun c11 => ?_) (fun c11 => ?_)
    · rw [if_pos c11] at h
      refine lv_aload_n hx hb dX11_enact_49 rfl (lv_at hl 1 rfl) ?_
      refine lv_iconst (v := 1) hx hb dX11_enact_50 (by decide) ?_
      obtain ⟨r12, M13, hc14, h⟩ := bnd_inv h
      refine gV_i (As := [.int (1 : Int32)]) X hP hS hl.1 (c_X11_refused l D cA q aK aV hq hc14) sf_X11_refused bw_552 sv_X11_refused (rcC_11 sC_0) rfl ⟨rfl, rfl⟩ ⟨Nat.le_of_ble_eq_true rfl, Nat.le_of_ble_eq_true rfl⟩ rfl rfl (Nat.le_of_ble_eq_true rfl) dX11_enact_51 (fun H locs hP hS => ?_)
      exact end_i X hr hk hP hS h dX11_enact_54
    · rw [if_neg c11] at h
      refine lv_iload_n hx hb dX11_enact_36 rfl (lv_at hl 3 rfl) ?_
      refine lv_iconst (v := 3) hx hb dX11_enact_37 (by decide) ?_
      obtain ⟨r15, M16, hc17, h⟩ := bnd_inv h
      refine gS_i (As := [.int a2, .int (3 : Int32)]) X hP hS hl.1 (c_X11_within l D cA q aK aV hq hc17) sf_X11_within bw_504 ss_X11_within ⟨rfl, rfl⟩ ⟨Nat.le_of_ble_eq_true rfl, Nat.le_of_ble_eq_true rfl⟩ rfl rfl (Nat.le_of_ble_eq_true rfl) dX11_enact_38 (fun H locs hP hS => ?_)
      refine lv_if_eq (tgt := 49) hx hb dX11_enact_41 (by decide) (fun c18 => ?_) (fun c18 => ?_)
      · rw [if_pos c18] at h
        refine lv_aload_n hx hb dX11_enact_49 rfl (lv_at hl 1 rfl) ?_
        refine lv_iconst (v := 1) hx hb dX11_enact_50 (by decide) ?_
        obtain ⟨r19, M20, hc21, h⟩ := bnd_inv h
        refine gV_i (As := [.int (1 : Int32)]) X hP hS hl.1 (c_X11_refused l D cA q aK aV hq hc21) sf_X11_refused bw_552 sv_X11_refused (rcC_11 sC_0) rfl ⟨rfl, rfl⟩ ⟨Nat.le_of_ble_eq_true rfl, Nat.le_of_ble_eq_true rfl⟩ rfl rfl (Nat.le_of_ble_eq_true rfl) dX11_enact_51 (fun H locs hP hS => ?_)
        exact end_i X hr hk hP hS h dX11_enact_54
      · rw [if_neg c18] at h
        refine lv_iload hx hb dX11_enact_44 (lv_at hl 0 rfl) ?_
        refine lv_if_ne (tgt := 55) hx hb dX11_enact_46 (by decide) (fun c22 => ?_) (fun c22 => ?_)
        · rw [if_neg c22] at h
          refine lv_aload_n hx hb dX11_enact_55 rfl (lv_at hl 1 rfl) ?_
          refine gfC_11_0 X hP sC_0 bw_430 dX11_enact_56 ?_
          obtain ⟨g23, h⟩ := gd_inv h
          have g23 := Decidable.not_not.mp g23
          refine lv_iconst (v := 2) hx hb dX11_enact_59 (by decide) ?_
          obtain ⟨r24, M25, hc26, h⟩ := bnd_inv h
          refine gV_i (As := [.int (2 : Int32)]) X hP hS hl.1 (c_X0_isFull l D cA q aK aV hq g23 hc26) sf_X0_isFull bw_947 sv_X0_isFull (rcC_0 g23) rfl ⟨rfl, rfl⟩ ⟨Nat.le_of_ble_eq_true rfl, Nat.le_of_ble_eq_true rfl⟩ rfl rfl (Nat.le_of_ble_eq_true rfl) dX11_enact_60 (fun H locs hP hS => ?_)
          refine lv_if_eq (tgt := 72) hx hb dX11_enact_63 (by decide) (fun c27 => ?_) (fun c27 => ?_)
          · rw [if_pos c27] at h
            refine lv_aload_n hx hb dX11_enact_72 rfl (lv_at hl 1 rfl) ?_
            refine gfC_11_0 X hP sC_0 bw_430 dX11_enact_73 ?_
            obtain ⟨g28, h⟩ := gd_inv h
            have g28 := Decidable.not_not.mp g28
            refine lv_iconst (v := 2) hx hb dX11_enact_76 (by decide) ?_
            obtain ⟨r29, M30, hc31, h⟩ := bnd_inv h
            refine gV_i (As := [.int (2 : Int32)]) X hP hS hl.1 (c_X0_addOne l D cA q aK aV hq g28 hc31) sf_X0_addOne bw_948 sv_X0_addOne (rcC_0 g28) rfl ⟨rfl, rfl⟩ ⟨Nat.le_of_ble_eq_true rfl, Nat.le_of_ble_eq_true rfl⟩ rfl rfl (Nat.le_of_ble_eq_true rfl) dX11_enact_77 (fun H locs hP hS => ?_)
            refine lv_istore (lv' := [(5, .int r29), (4, .int s0), (0, .ref (q 0)), (1, .int a1), (2, .int a2), (3, .int a3)]) hx hb dX11_enact_80 hl (by decide) rfl (fun ls hl => ?_)
            refine lv_aload_n hx hb dX11_enact_82 rfl (lv_at hl 2 rfl) ?_
            refine gfC_11_0 X hP sC_0 bw_430 dX11_enact_83 ?_
            obtain ⟨g32, h⟩ := gd_inv h
            have g32 := Decidable.not_not.mp g32
            refine lv_iload hx hb dX11_enact_86 (lv_at hl 0 rfl) ?_
            obtain ⟨r33, M34, hc35, h⟩ := bnd_inv h
            refine gV_r (As := [.int r29]) X hP hS hl.1 (c_X0_ruleAt l D cA q aK aV hq g32 hc35) sf_X0_ruleAt bw_843 sv_X0_ruleAt (rcC_0 g32) rfl ⟨rfl, rfl⟩ ⟨Nat.le_of_ble_eq_true rfl, Nat.le_of_ble_eq_true rfl⟩ rfl rfl (Nat.le_of_ble_eq_true rfl) dX11_enact_88 (fun H locs hP hS => ?_)
            obtain ⟨g36, h⟩ := gd_inv h
            have g36 := Decidable.not_not.mp g36
            refine lv_astore (lv' := [(6, .ref (q r33)), (5, .int r29), (4, .int s0), (0, .ref (q 0)), (1, .int a1), (2, .int a2), (3, .int a3)]) hx hb dX11_enact_91 hl (by decide) rfl (fun ls hl => ?_)
            refine lv_aload hx hb dX11_enact_93 (lv_at hl 0 rfl) ?_
            refine lv_iload_n hx hb dX11_enact_95 rfl (lv_at hl 4 rfl) ?_
            obtain ⟨_, M38, hc39, h⟩ := bnd_inv h
            refine gV_v (As := [.int a1]) X hP hS hl.1 (c_X6_renew l D cA q aK aV hq g36 hc39) sf_X6_renew bw_949 sv_X6_renew (rcC_6 g36) rfl ⟨rfl, rfl⟩ ⟨Nat.le_of_ble_eq_true rfl, Nat.le_of_ble_eq_true rfl⟩ rfl rfl (Nat.le_of_ble_eq_true rfl) dX11_enact_96 (fun H locs hP hS => ?_)
            refine lv_aload hx hb dX11_enact_99 (lv_at hl 0 rfl) ?_
            refine lv_iload_n hx hb dX11_enact_101 rfl (lv_at hl 5 rfl) ?_
            obtain ⟨M40, eM40, h⟩ := lt_inv h
            refine pfC_6_1 X hP hS g36 bw_70 eM40 dX11_enact_102 (fun H locs hP hS => ?_)
            refine lv_aload hx hb dX11_enact_105 (lv_at hl 0 rfl) ?_
            refine lv_iload_n hx hb dX11_enact_107 rfl (lv_at hl 6 rfl) ?_
            refine lv_iconst (v := 5) hx hb dX11_enact_108 (by decide) ?_
            refine lv_icmp_ne (tgt := 116) hx hb dX11_enact_109 (by decide) (fun c41 => ?_) (fun c41 => ?_)
            · rw [if_neg c41] at h
              refine lv_iload_n hx hb dX11_enact_116 rfl (lv_at hl 6 rfl) ?_
              obtain ⟨M42, eM42, h⟩ := lt_inv h
              refine pfC_6_2 X hP hS g36 bw_74 eM42 dX11_enact_117 (fun H locs hP hS => ?_)
              refine lv_aload_n hx hb dX11_enact_120 rfl (lv_at hl 3 rfl) ?_
              refine lv_iload hx hb dX11_enact_121 (lv_at hl 1 rfl) ?_
              obtain ⟨r43, M44, hc45, h⟩ := bnd_inv h
              refine gV_i (As := [.int r29]) X hP hS hl.1 (c_X11_given l D cA q aK aV hq hc45) sf_X11_given bw_755 sv_X11_given (rcC_11 sC_0) rfl ⟨rfl, rfl⟩ ⟨Nat.le_of_ble_eq_true rfl, Nat.le_of_ble_eq_true rfl⟩ rfl rfl (Nat.le_of_ble_eq_true rfl) dX11_enact_123 (fun H locs hP hS => ?_)
              exact end_i X hr hk hP hS h dX11_enact_126
            · rw [if_pos c41] at h
              refine lv_iconst (v := -1) hx hb dX11_enact_112 (by decide) ?_
              refine lv_goto (tgt := 117) hx hb dX11_enact_113 (by decide) ?_
              obtain ⟨M46, eM46, h⟩ := lt_inv h
              refine pfC_6_2 X hP hS g36 bw_74 eM46 dX11_enact_117 (fun H locs hP hS => ?_)
              refine lv_aload_n hx hb dX11_enact_120 rfl (lv_at hl 3 rfl) ?_
              refine lv_iload hx hb dX11_enact_121 (lv_at hl 1 rfl) ?_
              obtain ⟨r47, M48, hc49, h⟩ := bnd_inv h
              refine gV_i (As := [.int r29]) X hP hS hl.1 (c_X11_given l D cA q aK aV hq hc49) sf_X11_given bw_755 sv_X11_given (rcC_11 sC_0) rfl ⟨rfl, rfl⟩ ⟨Nat.le_of_ble_eq_true rfl, Nat.le_of_ble_eq_true rfl⟩ rfl rfl (Nat.le_of_ble_eq_true rfl) dX11_enact_123 (fun H locs hP hS => ?_)
              exact end_i X hr hk hP hS h dX11_enact_126
          · rw [if_neg c27] at h
            refine lv_aload_n hx hb dX11_enact_66 rfl (lv_at hl 1 rfl) ?_
            refine lv_iconst (v := 4) hx hb dX11_enact_67 (by decide) ?_
            obtain ⟨r50, M51, hc52, h⟩ := bnd_inv h
            refine gV_i (As := [.int (4 : Int32)]) X hP hS hl.1 (c_X11_refused l D cA q aK aV hq hc52) sf_X11_refused bw_552 sv_X11_refused (rcC_11 sC_0) rfl ⟨rfl, rfl⟩ ⟨Nat.le_of_ble_eq_true rfl, Nat.le_of_ble_eq_true rfl⟩ rfl rfl (Nat.le_of_ble_eq_true rfl) dX11_enact_68 (fun H locs hP hS => ?_)
            exact end_i X hr hk hP hS h dX11_enact_71
        · rw [if_pos c22] at h
          refine lv_aload_n hx hb dX11_enact_49 rfl (lv_at hl 1 rfl) ?_
          refine lv_iconst (v := 1) hx hb dX11_enact_50 (by decide) ?_
          obtain ⟨r53, M54, hc55, h⟩ := bnd_inv h
          refine gV_i (As := [.int (1 : Int32)]) X hP hS hl.1 (c_X11_refused l D cA q aK aV hq hc55) sf_X11_refused bw_552 sv_X11_refused (rcC_11 sC_0) rfl ⟨rfl, rfl⟩ ⟨Nat.le_of_ble_eq_true rfl, Nat.le_of_ble_eq_true rfl⟩ rfl rfl (Nat.le_of_ble_eq_true rfl) dX11_enact_51 (fun H locs hP hS => ?_)
          exact end_i X hr hk hP hS h dX11_enact_54
  have hJ17 : ∀ (M : Mem) (H : Heap) (locs : List Loc) (ls : Array Slot), f_X11_enact_J17 a1 a2 a3 M = some (r0, M0) → va_P D vwCl (wsG 167 (ceC cA q) q M) H → va_S (AqG 167 q) s.heap H locs → lv_has ls 7 [(0, .ref (q 0)), (1, .int a1), (2, .int a2), (3, .int a3)] → W p l e ({ frames := 3, cells := 0, slots := 0, locals := 58 } : Room) s m [.ref (q 0), .int a1, .int a2, .int a3].toArray below meth c H locs 0 0 (MQ below (Qi 167 (ceC cA q) D q r0 M0) [.ref (q 0), .int a1, .int a2, .int a3].toArray s 0 0 (AqG 167 q)) (F0 m 17 ls []) := by
    intro M H locs ls h hP hS hl
    rw [f_X11_enact_J17] at h
    refine lv_iconst (v := 1) hx hb dX11_enact_17 (by decide) ?_
    refine lv_goto (tgt := 22) hx hb dX11_enact_18 (by decide) ?_
    exact hJ22 _ _ _ _ _ h hP hS (lv_sub hl [0, 1, 2, 3] rfl)
  refine lv_iload_n hx hb dX11_enact_0 rfl (lv_at hl 3 rfl) ?_
  refine lv_iconst (v := 5) hx hb dX11_enact_1 (by decide) ?_
  refine lv_icmp_eq (tgt := 17) hx hb dX11_enact_2 (by decide) (fun c1 => ?_) (fun c1 => ?_)
  · rw [if_pos c1] at h
    exact hJ17  _ _ _ _ h hP hS (lv_sub hl [0, 1, 2, 3] rfl)
  · rw [if_neg c1] at h
    refine lv_aload_n hx hb dX11_enact_5 rfl (lv_at hl 0 rfl) ?_
    refine gfC_11_0 X hP sC_0 bw_430 dX11_enact_6 ?_
    obtain ⟨g2, h⟩ := gd_inv h
    have g2 := Decidable.not_not.mp g2
    refine lv_iconst (v := 0) hx hb dX11_enact_9 (by decide) ?_
    refine lv_iload_n hx hb dX11_enact_10 rfl (lv_at hl 3 rfl) ?_
    obtain ⟨r3, M4, hc5, h⟩ := bnd_inv h
    refine gV_i (As := [.int (0 : Int32), .int a3]) X hP hS hl.1 (c_X0_has l D cA q aK aV hq g2 hc5) sf_X0_has bw_830 sv_X0_has (rcC_0 g2) rfl ⟨rfl, rfl⟩ ⟨Nat.le_of_ble_eq_true rfl, Nat.le_of_ble_eq_true rfl⟩ rfl rfl (Nat.le_of_ble_eq_true rfl) dX11_enact_11 (fun H locs hP hS => ?_)
    refine lv_if_eq (tgt := 21) hx hb dX11_enact_14 (by decide) (fun c6 => ?_) (fun c6 => ?_)
    · rw [if_pos c6] at h
      refine lv_iconst (v := 0) hx hb dX11_enact_21 (by decide) ?_
      exact hJ22 _ _ _ _ _ h hP hS (lv_sub hl [0, 1, 2, 3] rfl)
    · rw [if_neg c6] at h
      exact hJ17  _ _ _ _ h hP hS (lv_sub hl [0, 1, 2, 3] rfl)
theorem dX6_copyFrom_0 : decode cX6_copyFrom 0 = .ok (.aload_n 0, 1) := by decide +kernel
theorem dX6_copyFrom_1 : decode cX6_copyFrom 1 = .ok (.aload_n 1, 1) := by decide +kernel
theorem dX6_copyFrom_2 : decode cX6_copyFrom 2 = .ok (.getfield 9, 3) := by decide +kernel
theorem dX6_copyFrom_5 : decode cX6_copyFrom 5 = .ok (.putfield 9, 3) := by decide +kernel
theorem dX6_copyFrom_8 : decode cX6_copyFrom 8 = .ok (.aload_n 0, 1) := by decide +kernel
theorem dX6_copyFrom_9 : decode cX6_copyFrom 9 = .ok (.aload_n 1, 1) := by decide +kernel
theorem dX6_copyFrom_10 : decode cX6_copyFrom 10 = .ok (.getfield 15, 3) := by decide +kernel
theorem dX6_copyFrom_13 : decode cX6_copyFrom 13 = .ok (.putfield 15, 3) := by decide +kernel
theorem dX6_copyFrom_16 : decode cX6_copyFrom 16 = .ok (.aload_n 0, 1) := by decide +kernel
theorem dX6_copyFrom_17 : decode cX6_copyFrom 17 = .ok (.aload_n 1, 1) := by decide +kernel
theorem dX6_copyFrom_18 : decode cX6_copyFrom 18 = .ok (.getfield 18, 3) := by decide +kernel
theorem dX6_copyFrom_21 : decode cX6_copyFrom 21 = .ok (.putfield 18, 3) := by decide +kernel
theorem dX6_copyFrom_24 : decode cX6_copyFrom 24 = .ok (.aload_n 0, 1) := by decide +kernel
theorem dX6_copyFrom_25 : decode cX6_copyFrom 25 = .ok (.aload_n 1, 1) := by decide +kernel
theorem dX6_copyFrom_26 : decode cX6_copyFrom 26 = .ok (.getfield 21, 3) := by decide +kernel
theorem dX6_copyFrom_29 : decode cX6_copyFrom 29 = .ok (.putfield 21, 3) := by decide +kernel
theorem dX6_copyFrom_32 : decode cX6_copyFrom 32 = .ok (.aload_n 0, 1) := by decide +kernel
theorem dX6_copyFrom_33 : decode cX6_copyFrom 33 = .ok (.aload_n 1, 1) := by decide +kernel
theorem dX6_copyFrom_34 : decode cX6_copyFrom 34 = .ok (.getfield 24, 3) := by decide +kernel
theorem dX6_copyFrom_37 : decode cX6_copyFrom 37 = .ok (.putfield 24, 3) := by decide +kernel
theorem dX6_copyFrom_40 : decode cX6_copyFrom 40 = .ok (.aload_n 0, 1) := by decide +kernel
theorem dX6_copyFrom_41 : decode cX6_copyFrom 41 = .ok (.aload_n 1, 1) := by decide +kernel
theorem dX6_copyFrom_42 : decode cX6_copyFrom 42 = .ok (.getfield 27, 3) := by decide +kernel
theorem dX6_copyFrom_45 : decode cX6_copyFrom 45 = .ok (.putfield 27, 3) := by decide +kernel
theorem dX6_copyFrom_48 : decode cX6_copyFrom 48 = .ok (.aload_n 0, 1) := by decide +kernel
theorem dX6_copyFrom_49 : decode cX6_copyFrom 49 = .ok (.aload_n 1, 1) := by decide +kernel
theorem dX6_copyFrom_50 : decode cX6_copyFrom 50 = .ok (.getfield 30, 3) := by decide +kernel
theorem dX6_copyFrom_53 : decode cX6_copyFrom 53 = .ok (.putfield 30, 3) := by decide +kernel
theorem dX6_copyFrom_56 : decode cX6_copyFrom 56 = .ok (.aload_n 0, 1) := by decide +kernel
theorem dX6_copyFrom_57 : decode cX6_copyFrom 57 = .ok (.aload_n 1, 1) := by decide +kernel
theorem dX6_copyFrom_58 : decode cX6_copyFrom 58 = .ok (.getfield 33, 3) := by decide +kernel
theorem dX6_copyFrom_61 : decode cX6_copyFrom 61 = .ok (.putfield 33, 3) := by decide +kernel
theorem dX6_copyFrom_64 : decode cX6_copyFrom 64 = .ok (.aload_n 0, 1) := by decide +kernel
theorem dX6_copyFrom_65 : decode cX6_copyFrom 65 = .ok (.aload_n 1, 1) := by decide +kernel
theorem dX6_copyFrom_66 : decode cX6_copyFrom 66 = .ok (.getfield 36, 3) := by decide +kernel
theorem dX6_copyFrom_69 : decode cX6_copyFrom 69 = .ok (.putfield 36, 3) := by decide +kernel
theorem dX6_copyFrom_72 : decode cX6_copyFrom 72 = .ok (.return_, 1) := by decide +kernel
set_option maxRecDepth 100000 in
set_option maxHeartbeats 8000000 in
theorem c_X6_copyFrom (l : Launch) (D : va_G) (cA : Nat → ClassId) (q aK aV : Nat → Nat) (hq : injG 167 q) {a0 : Nat} {a1 : Nat} {M M0 : Mem} (h0 : shC a0 = 6) (h1 : shC a1 = 6) (h : f_X6_copyFrom a0 a1 M = some ((), M0)) : Met l yX6_copyFrom (.code yX6_copyFrom cX6_copyFrom 2 none :: BW) ({ frames := 1, cells := 0, slots := 0, locals := 13 } : Room) (va_Pc [.ref (q a0), .ref (q a1)] (CB 167 (ceC cA q) D cA q aK aV M)) (Qv 167 (ceC cA q) D q M0) 0 0 (AqG 167 q) := by
  refine gMet RX6 (by decide +kernel) rfl hq (Nat.le_of_ble_eq_true rfl) ?_
  intro p e s m below meth c ls X hr hk hP hS hl
  have hx := X.1
  have hb := X.2.1
  have hl : lv_has ls 2 [(0, .ref (q a0)), (1, .ref (q a1))] := hl
  rw [f_X6_copyFrom] at h
  refine lv_aload_n hx hb dX6_copyFrom_0 rfl (lv_at hl 0 rfl) ?_
  refine lv_aload_n hx hb dX6_copyFrom_1 rfl (lv_at hl 1 rfl) ?_
  refine gfC_6_0 X hP h1 bw_65 dX6_copyFrom_2 ?_
  obtain ⟨M1, eM1, h⟩ := lt_inv h
  refine pfC_6_0 X hP hS h0 bw_65 eM1 dX6_copyFrom_5 (fun H locs hP hS => ?_)
  refine lv_aload_n hx hb dX6_copyFrom_8 rfl (lv_at hl 0 rfl) ?_
  refine lv_aload_n hx hb dX6_copyFrom_9 rfl (lv_at hl 1 rfl) ?_
  refine gfC_6_1 X hP h1 bw_68 dX6_copyFrom_10 ?_
  obtain ⟨M2, eM2, h⟩ := lt_inv h
  refine pfC_6_1 X hP hS h0 bw_68 eM2 dX6_copyFrom_13 (fun H locs hP hS => ?_)
  refine lv_aload_n hx hb dX6_copyFrom_16 rfl (lv_at hl 0 rfl) ?_
  refine lv_aload_n hx hb dX6_copyFrom_17 rfl (lv_at hl 1 rfl) ?_
  refine gfC_6_2 X hP h1 bw_71 dX6_copyFrom_18 ?_
  obtain ⟨M3, eM3, h⟩ := lt_inv h
  refine pfC_6_2 X hP hS h0 bw_71 eM3 dX6_copyFrom_21 (fun H locs hP hS => ?_)
  refine lv_aload_n hx hb dX6_copyFrom_24 rfl (lv_at hl 0 rfl) ?_
  refine lv_aload_n hx hb dX6_copyFrom_25 rfl (lv_at hl 1 rfl) ?_
  refine gfC_6_3 X hP h1 bw_75 dX6_copyFrom_26 ?_
  obtain ⟨M4, eM4, h⟩ := lt_inv h
  refine pfC_6_3 X hP hS h0 bw_75 eM4 dX6_copyFrom_29 (fun H locs hP hS => ?_)
  refine lv_aload_n hx hb dX6_copyFrom_32 rfl (lv_at hl 0 rfl) ?_
  refine lv_aload_n hx hb dX6_copyFrom_33 rfl (lv_at hl 1 rfl) ?_
  refine gfC_6_4 X hP h1 bw_77 dX6_copyFrom_34 ?_
  obtain ⟨M5, eM5, h⟩ := lt_inv h
  refine pfC_6_4 X hP hS h0 bw_77 eM5 dX6_copyFrom_37 (fun H locs hP hS => ?_)
  refine lv_aload_n hx hb dX6_copyFrom_40 rfl (lv_at hl 0 rfl) ?_
  refine lv_aload_n hx hb dX6_copyFrom_41 rfl (lv_at hl 1 rfl) ?_
  refine gfC_6_5 X hP h1 bw_79 dX6_copyFrom_42 ?_
  obtain ⟨M6, eM6, h⟩ := lt_inv h
  refine pfC_6_5 X hP hS h0 bw_79 eM6 dX6_copyFrom_45 (fun H locs hP hS => ?_)
  refine lv_aload_n hx hb dX6_copyFrom_48 rfl (lv_at hl 0 rfl) ?_
  refine lv_aload_n hx hb dX6_copyFrom_49 rfl (lv_at hl 1 rfl) ?_
  refine gfC_6_6 X hP h1 bw_81 dX6_copyFrom_50 ?_
  obtain ⟨M7, eM7, h⟩ := lt_inv h
  refine pfC_6_6 X hP hS h0 bw_81 eM7 dX6_copyFrom_53 (fun H locs hP hS => ?_)
  refine lv_aload_n hx hb dX6_copyFrom_56 rfl (lv_at hl 0 rfl) ?_
  refine lv_aload_n hx hb dX6_copyFrom_57 rfl (lv_at hl 1 rfl) ?_
  refine gfC_6_7 X hP h1 bw_83 dX6_copyFrom_58 ?_
  obtain ⟨M8, eM8, h⟩ := lt_inv h
  refine pfC_6_7 X hP hS h0 bw_83 eM8 dX6_copyFrom_61 (fun H locs hP hS => ?_)
  refine lv_aload_n hx hb dX6_copyFrom_64 rfl (lv_at hl 0 rfl) ?_
  refine lv_aload_n hx hb dX6_copyFrom_65 rfl (lv_at hl 1 rfl) ?_
  refine gfC_6_8 X hP h1 bw_85 dX6_copyFrom_66 ?_
  obtain ⟨M9, eM9, h⟩ := lt_inv h
  refine pfC_6_8 X hP hS h0 bw_85 eM9 dX6_copyFrom_69 (fun H locs hP hS => ?_)
  exact end_v X hr hk hP hS h dX6_copyFrom_72
theorem dX0_dropRule_0 : decode cX0_dropRule 0 = .ok (.iload_n 1, 1) := by decide +kernel
theorem dX0_dropRule_1 : decode cX0_dropRule 1 = .ok (.istore_n 2, 1) := by decide +kernel
theorem dX0_dropRule_2 : decode cX0_dropRule 2 = .ok (.iload_n 2, 1) := by decide +kernel
theorem dX0_dropRule_3 : decode cX0_dropRule 3 = .ok (.iconst 1, 1) := by decide +kernel
theorem dX0_dropRule_4 : decode cX0_dropRule 4 = .ok (.iadd, 1) := by decide +kernel
theorem dX0_dropRule_5 : decode cX0_dropRule 5 = .ok (.aload_n 0, 1) := by decide +kernel
theorem dX0_dropRule_6 : decode cX0_dropRule 6 = .ok (.iconst 2, 1) := by decide +kernel
theorem dX0_dropRule_7 : decode cX0_dropRule 7 = .ok (.invokevirtual 77, 3) := by decide +kernel
theorem dX0_dropRule_10 : decode cX0_dropRule 10 = .ok (.if_icmp .ge 24, 3) := by decide +kernel
theorem dX0_dropRule_13 : decode cX0_dropRule 13 = .ok (.aload_n 0, 1) := by decide +kernel
theorem dX0_dropRule_14 : decode cX0_dropRule 14 = .ok (.iload_n 2, 1) := by decide +kernel
theorem dX0_dropRule_15 : decode cX0_dropRule 15 = .ok (.invokevirtual 81, 3) := by decide +kernel
theorem dX0_dropRule_18 : decode cX0_dropRule 18 = .ok (.aload_n 0, 1) := by decide +kernel
theorem dX0_dropRule_19 : decode cX0_dropRule 19 = .ok (.iload_n 2, 1) := by decide +kernel
theorem dX0_dropRule_20 : decode cX0_dropRule 20 = .ok (.iconst 1, 1) := by decide +kernel
theorem dX0_dropRule_21 : decode cX0_dropRule 21 = .ok (.iadd, 1) := by decide +kernel
theorem dX0_dropRule_22 : decode cX0_dropRule 22 = .ok (.invokevirtual 81, 3) := by decide +kernel
theorem dX0_dropRule_25 : decode cX0_dropRule 25 = .ok (.invokevirtual 85, 3) := by decide +kernel
theorem dX0_dropRule_28 : decode cX0_dropRule 28 = .ok (.iinc 2 1, 3) := by decide +kernel
theorem dX0_dropRule_31 : decode cX0_dropRule 31 = .ok (.goto (-29), 3) := by decide +kernel
theorem dX0_dropRule_34 : decode cX0_dropRule 34 = .ok (.aload_n 0, 1) := by decide +kernel
theorem dX0_dropRule_35 : decode cX0_dropRule 35 = .ok (.getfield 9, 3) := by decide +kernel
theorem dX0_dropRule_38 : decode cX0_dropRule 38 = .ok (.iconst 2, 1) := by decide +kernel
theorem dX0_dropRule_39 : decode cX0_dropRule 39 = .ok (.aload_n 0, 1) := by decide +kernel
theorem dX0_dropRule_40 : decode cX0_dropRule 40 = .ok (.iconst 2, 1) := by decide +kernel
theorem dX0_dropRule_41 : decode cX0_dropRule 41 = .ok (.invokevirtual 77, 3) := by decide +kernel
theorem dX0_dropRule_44 : decode cX0_dropRule 44 = .ok (.iconst 1, 1) := by decide +kernel
theorem dX0_dropRule_45 : decode cX0_dropRule 45 = .ok (.isub, 1) := by decide +kernel
theorem dX0_dropRule_46 : decode cX0_dropRule 46 = .ok (.invokestatic 106, 3) := by decide +kernel
theorem dX0_dropRule_49 : decode cX0_dropRule 49 = .ok (.return_, 1) := by decide +kernel
set_option maxRecDepth 100000 in
set_option maxHeartbeats 8000000 in
theorem c_X0_dropRule (l : Launch) (D : va_G) (cA : Nat → ClassId) (q aK aV : Nat → Nat) (hq : injG 167 q) {a0 : Nat} {a1 : Int32} {M M0 : Mem} (h0 : shC a0 = 0) (h : f_X0_dropRule a0 a1 M = some ((), M0)) : Met l yX0_dropRule (.code yX0_dropRule cX0_dropRule 3 none :: BW) ({ frames := 2, cells := 0, slots := 0, locals := 36 } : Room) (va_Pc [.ref (q a0), .int a1] (CB 167 (ceC cA q) D cA q aK aV M)) (Qv 167 (ceC cA q) D q M0) 0 0 (AqG 167 q) := by
  refine gMet RX0 (by decide +kernel) rfl hq (Nat.le_of_ble_eq_true rfl) ?_
  intro p e s m below meth c ls X hr hk hP hS hl
  have hx := X.1
  have hb := X.2.1
  have hl : lv_has ls 3 [(0, .ref (q a0)), (1, .int a1)] := hl
  rw [f_X0_dropRule] at h
  have hL2 : ∀ (fu : Nat) (b2 : Int32) (M : Mem) (res : (Unit) × Mem) (H : Heap) (locs : List Loc) (ls : Array Slot), f_X0_dropRule_L2 a0 fu b2 M = some res → va_P D vwCl (wsG 167 (ceC cA q) q M) H → va_S (AqG 167 q) s.heap H locs → lv_has ls 3 [(0, .ref (q a0)), (2, .int b2)] → (∀ (H : Heap) (locs : List Loc) (ls : Array Slot), va_P D vwCl (wsG 167 (ceC cA q) q res.2) H → va_S (AqG 167 q) s.heap H locs → lv_has ls 3 [(0, .ref (q a0))] → W p l e ({ frames := 2, cells := 0, slots := 0, locals := 36 } : Room) s m [.ref (q a0), .int a1].toArray below meth c H locs 0 0 (MQ below (Qv 167 (ceC cA q) D q M0) [.ref (q a0), .int a1].toArray s 0 0 (AqG 167 q)) (F0 m 34 ls [])) → W p l e ({ frames := 2, cells := 0, slots := 0, locals := 36 } : Room) s m [.ref (q a0), .int a1].toArray below meth c H locs 0 0 (MQ below (Qv 167 (ceC cA q) D q M0) [.ref (q a0), .int a1].toArray s 0 0 (AqG 167 q)) (F0 m 2 ls []) := by
    intro fu
    induction fu with
    | zero => intro b2 M res H locs ls h; exact absurd h (by simp [f_X0_dropRule_L2])
    | succ fu ih =>
      intro b2 M res H locs ls h hP hS hl K2_0
      rw [f_X0_dropRule_L2] at h
      refine lv_iload_n hx hb dX0_dropRule_2 rfl (lv_at hl 1 rfl) ?_
      refine lv_iconst (v := 1) hx hb dX0_dropRule_3 (by decide) ?_
      refine lv_iadd hx hb dX0_dropRule_4 ?_
      refine lv_aload_n hx hb dX0_dropRule_5 rfl (lv_at hl 0 rfl) ?_
      refine lv_iconst (v := 2) hx hb dX0_dropRule_6 (by decide) ?_
      obtain ⟨r10, M11, hc12, h⟩ := bnd_inv h
      refine gV_i (As := [.int (2 : Int32)]) X hP hS hl.1 (c_X0_countOf l D cA q aK aV hq h0 hc12) sf_X0_countOf bw_645 sv_X0_countOf (rcC_0 h0) rfl ⟨rfl, rfl⟩ ⟨Nat.le_of_ble_eq_true rfl, Nat.le_of_ble_eq_true rfl⟩ rfl rfl (Nat.le_of_ble_eq_true rfl) dX0_dropRule_7 (fun H locs hP hS => ?_)
      refine lv_icmp_ge (tgt := 34) hx hb dX0_dropRule_10 (by decide) (fun c13 => ?_) (fun c13 => ?_)
      · rw [if_pos c13] at h
        cases h
        exact K2_0 _ _ _ hP hS (lv_sub hl [0] rfl)
      · rw [if_neg c13] at h
        refine lv_aload_n hx hb dX0_dropRule_13 rfl (lv_at hl 0 rfl) ?_
        refine lv_iload_n hx hb dX0_dropRule_14 rfl (lv_at hl 1 rfl) ?_
        obtain ⟨r14, M15, hc16, h⟩ := bnd_inv h
        refine gV_r (As := [.int b2]) X hP hS hl.1 (c_X0_ruleAt l D cA q aK aV hq h0 hc16) sf_X0_ruleAt bw_882 sv_X0_ruleAt (rcC_0 h0) rfl ⟨rfl, rfl⟩ ⟨Nat.le_of_ble_eq_true rfl, Nat.le_of_ble_eq_true rfl⟩ rfl rfl (Nat.le_of_ble_eq_true rfl) dX0_dropRule_15 (fun H locs hP hS => ?_)
        obtain ⟨g17, h⟩ := gd_inv h
        have g17 := Decidable.not_not.mp g17
        refine lv_aload_n hx hb dX0_dropRule_18 rfl (lv_at hl 0 rfl) ?_
        refine lv_iload_n hx hb dX0_dropRule_19 rfl (lv_at hl 1 rfl) ?_
        refine lv_iconst (v := 1) hx hb dX0_dropRule_20 (by decide) ?_
        refine lv_iadd hx hb dX0_dropRule_21 ?_
        obtain ⟨r18, M19, hc20, h⟩ := bnd_inv h
        refine gV_r (As := [.int (b2 + (1 : Int32))]) X hP hS hl.1 (c_X0_ruleAt l D cA q aK aV hq h0 hc20) sf_X0_ruleAt bw_882 sv_X0_ruleAt (rcC_0 h0) rfl ⟨rfl, rfl⟩ ⟨Nat.le_of_ble_eq_true rfl, Nat.le_of_ble_eq_true rfl⟩ rfl rfl (Nat.le_of_ble_eq_true rfl) dX0_dropRule_22 (fun H locs hP hS => ?_)
        obtain ⟨g21, h⟩ := gd_inv h
        have g21 := Decidable.not_not.mp g21
        obtain ⟨_, M23, hc24, h⟩ := bnd_inv h
        refine gV_v (As := [.ref (q r18)]) X hP hS hl.1 (c_X6_copyFrom l D cA q aK aV hq g17 g21 hc24) sf_X6_copyFrom bw_958 sv_X6_copyFrom (rcC_6 g17) rfl ⟨rfl, rfl⟩ ⟨Nat.le_of_ble_eq_true rfl, Nat.le_of_ble_eq_true rfl⟩ rfl rfl (Nat.le_of_ble_eq_true rfl) dX0_dropRule_25 (fun H locs hP hS => ?_)
        obtain ⟨y25, ey25, h⟩ := lt_inv h
        refine lv_iinc (v := y25) (lv' := [(2, .int y25), (0, .ref (q a0))]) hx hb dX0_dropRule_28 hl (k := 1) rfl (by rw [ey25]; rfl) (by decide) rfl (fun ls hl => ?_)
        refine lv_goto (tgt := 2) hx hb dX0_dropRule_31 (by decide) ?_
        exact ih _ _ res _ _ _ h hP hS (lv_sub hl [1, 0] rfl) K2_0
  refine lv_iload_n hx hb dX0_dropRule_0 rfl (lv_at hl 1 rfl) ?_
  refine lv_istore_n (lv' := [(2, .int a1), (0, .ref (q a0)), (1, .int a1)]) hx hb dX0_dropRule_1 rfl hl (by decide) rfl (fun ls hl => ?_)
  obtain ⟨s1, M2, hc3, h⟩ := bnd_inv h
  try dsimp only at h
  refine hL2  fz _ _ _ _ _ _ hc3 hP hS (lv_sub hl [1, 0] rfl) (fun H locs ls hP hS hl => ?_)
  have hl : lv_has ls 3 [(0, .ref (q a0))] := hl
  refine lv_aload_n hx hb dX0_dropRule_34 rfl (lv_at hl 0 rfl) ?_
  refine gfC_0_0 X hP h0 bw_143 dX0_dropRule_35 ?_
  refine lv_iconst (v := 2) hx hb dX0_dropRule_38 (by decide) ?_
  refine lv_aload_n hx hb dX0_dropRule_39 rfl (lv_at hl 0 rfl) ?_
  refine lv_iconst (v := 2) hx hb dX0_dropRule_40 (by decide) ?_
  obtain ⟨r4, M5, hc6, h⟩ := bnd_inv h
  refine gV_i (As := [.int (2 : Int32)]) X hP hS hl.1 (c_X0_countOf l D cA q aK aV hq h0 hc6) sf_X0_countOf bw_645 sv_X0_countOf (rcC_0 h0) rfl ⟨rfl, rfl⟩ ⟨Nat.le_of_ble_eq_true rfl, Nat.le_of_ble_eq_true rfl⟩ rfl rfl (Nat.le_of_ble_eq_true rfl) dX0_dropRule_41 (fun H locs hP hS => ?_)
  refine lv_iconst (v := 1) hx hb dX0_dropRule_44 (by decide) ?_
  refine lv_isub hx hb dX0_dropRule_45 ?_
  obtain ⟨_, M8, hc9, h⟩ := bnd_inv h
  refine gSN_v (As := [.ref (q (a0 + 1)), .int (2 : Int32), .int (r4 - (1 : Int32))]) X hP hS hl.1 (c_X11_put l D cA q aK aV hq ((kC_0_0 h0).1) hc9) sf_X11_put nw_13 ss_X11_put ⟨rfl, rfl⟩ ⟨Nat.le_of_ble_eq_true rfl, Nat.le_of_ble_eq_true rfl⟩ rfl rfl (Nat.le_of_ble_eq_true rfl) dX0_dropRule_46 (fun H locs hP hS => ?_)
  exact end_v X hr hk hP hS h dX0_dropRule_49
theorem dX11_repeal_0 : decode cX11_repeal 0 = .ok (.aload_n 0, 1) := by decide +kernel
theorem dX11_repeal_1 : decode cX11_repeal 1 = .ok (.getfield 10, 3) := by decide +kernel
theorem dX11_repeal_4 : decode cX11_repeal 4 = .ok (.iconst 2, 1) := by decide +kernel
theorem dX11_repeal_5 : decode cX11_repeal 5 = .ok (.iload_n 1, 1) := by decide +kernel
theorem dX11_repeal_6 : decode cX11_repeal 6 = .ok (.invokevirtual 213, 3) := by decide +kernel
theorem dX11_repeal_9 : decode cX11_repeal 9 = .ok (.ifCond .ne 9, 3) := by decide +kernel
theorem dX11_repeal_12 : decode cX11_repeal 12 = .ok (.aload_n 0, 1) := by decide +kernel
theorem dX11_repeal_13 : decode cX11_repeal 13 = .ok (.iconst 1, 1) := by decide +kernel
theorem dX11_repeal_14 : decode cX11_repeal 14 = .ok (.invokevirtual 132, 3) := by decide +kernel
theorem dX11_repeal_17 : decode cX11_repeal 17 = .ok (.ireturn, 1) := by decide +kernel
theorem dX11_repeal_18 : decode cX11_repeal 18 = .ok (.aload_n 0, 1) := by decide +kernel
theorem dX11_repeal_19 : decode cX11_repeal 19 = .ok (.getfield 10, 3) := by decide +kernel
theorem dX11_repeal_22 : decode cX11_repeal 22 = .ok (.iload_n 1, 1) := by decide +kernel
theorem dX11_repeal_23 : decode cX11_repeal 23 = .ok (.invokevirtual 307, 3) := by decide +kernel
theorem dX11_repeal_26 : decode cX11_repeal 26 = .ok (.aload_n 0, 1) := by decide +kernel
theorem dX11_repeal_27 : decode cX11_repeal 27 = .ok (.aload_n 0, 1) := by decide +kernel
theorem dX11_repeal_28 : decode cX11_repeal 28 = .ok (.getfield 10, 3) := by decide +kernel
theorem dX11_repeal_31 : decode cX11_repeal 31 = .ok (.iconst 2, 1) := by decide +kernel
theorem dX11_repeal_32 : decode cX11_repeal 32 = .ok (.invokevirtual 167, 3) := by decide +kernel
theorem dX11_repeal_35 : decode cX11_repeal 35 = .ok (.invokevirtual 191, 3) := by decide +kernel
theorem dX11_repeal_38 : decode cX11_repeal 38 = .ok (.ireturn, 1) := by decide +kernel
set_option maxRecDepth 100000 in
set_option maxHeartbeats 8000000 in
theorem c_X11_repeal (l : Launch) (D : va_G) (cA : Nat → ClassId) (q aK aV : Nat → Nat) (hq : injG 167 q) {a1 : Int32} {M M0 : Mem} {r0 : Int32} (h : f_X11_repeal a1 M = some (r0, M0)) : Met l yX11_repeal (.code yX11_repeal cX11_repeal 2 (some .int) :: BW) ({ frames := 3, cells := 0, slots := 0, locals := 58 } : Room) (va_Pc [.ref (q 0), .int a1] (CB 167 (ceC cA q) D cA q aK aV M)) (Qi 167 (ceC cA q) D q r0 M0) 0 0 (AqG 167 q) := by
  refine gMet RX11 (by decide +kernel) rfl hq (Nat.le_of_ble_eq_true rfl) ?_
  intro p e s m below meth c ls X hr hk hP hS hl
  have hx := X.1
  have hb := X.2.1
  have hl : lv_has ls 2 [(0, .ref (q 0)), (1, .int a1)] := hl
  rw [f_X11_repeal] at h
  refine lv_aload_n hx hb dX11_repeal_0 rfl (lv_at hl 0 rfl) ?_
  refine gfC_11_0 X hP sC_0 bw_430 dX11_repeal_1 ?_
  obtain ⟨g1, h⟩ := gd_inv h
  have g1 := Decidable.not_not.mp g1
  refine lv_iconst (v := 2) hx hb dX11_repeal_4 (by decide) ?_
  refine lv_iload_n hx hb dX11_repeal_5 rfl (lv_at hl 1 rfl) ?_
  obtain ⟨r2, M3, hc4, h⟩ := bnd_inv h
  refine gV_i (As := [.int (2 : Int32), .int a1]) X hP hS hl.1 (c_X0_has l D cA q aK aV hq g1 hc4) sf_X0_has bw_830 sv_X0_has (rcC_0 g1) rfl ⟨rfl, rfl⟩ ⟨Nat.le_of_ble_eq_true rfl, Nat.le_of_ble_eq_true rfl⟩ rfl rfl (Nat.le_of_ble_eq_true rfl) dX11_repeal_6 (fun H locs hP hS => ?_)
  refine lv_if_ne (tgt := 18) hx hb dX11_repeal_9 (by decide) (fun c5 => ?_) (fun c5 => ?_)
  · rw [if_neg c5] at h
    refine lv_aload_n hx hb dX11_repeal_18 rfl (lv_at hl 0 rfl) ?_
    refine gfC_11_0 X hP sC_0 bw_430 dX11_repeal_19 ?_
    obtain ⟨g6, h⟩ := gd_inv h
    have g6 := Decidable.not_not.mp g6
    refine lv_iload_n hx hb dX11_repeal_22 rfl (lv_at hl 1 rfl) ?_
    obtain ⟨_, M8, hc9, h⟩ := bnd_inv h
    refine gV_v (As := [.int a1]) X hP hS hl.1 (c_X0_dropRule l D cA q aK aV hq g6 hc9) sf_X0_dropRule bw_954 sv_X0_dropRule (rcC_0 g6) rfl ⟨rfl, rfl⟩ ⟨Nat.le_of_ble_eq_true rfl, Nat.le_of_ble_eq_true rfl⟩ rfl rfl (Nat.le_of_ble_eq_true rfl) dX11_repeal_23 (fun H locs hP hS => ?_)
    refine lv_aload_n hx hb dX11_repeal_26 rfl (lv_at hl 0 rfl) ?_
    refine lv_aload_n hx hb dX11_repeal_27 rfl (lv_at hl 0 rfl) ?_
    refine gfC_11_0 X hP sC_0 bw_430 dX11_repeal_28 ?_
    obtain ⟨g10, h⟩ := gd_inv h
    have g10 := Decidable.not_not.mp g10
    refine lv_iconst (v := 2) hx hb dX11_repeal_31 (by decide) ?_
    obtain ⟨r11, M12, hc13, h⟩ := bnd_inv h
    refine gV_i (As := [.int (2 : Int32)]) X hP hS hl.1 (c_X0_countOf l D cA q aK aV hq g10 hc13) sf_X0_countOf bw_750 sv_X0_countOf (rcC_0 g10) rfl ⟨rfl, rfl⟩ ⟨Nat.le_of_ble_eq_true rfl, Nat.le_of_ble_eq_true rfl⟩ rfl rfl (Nat.le_of_ble_eq_true rfl) dX11_repeal_32 (fun H locs hP hS => ?_)
    obtain ⟨r14, M15, hc16, h⟩ := bnd_inv h
    refine gV_i (As := [.int r11]) X hP hS hl.1 (c_X11_given l D cA q aK aV hq hc16) sf_X11_given bw_755 sv_X11_given (rcC_11 sC_0) rfl ⟨rfl, rfl⟩ ⟨Nat.le_of_ble_eq_true rfl, Nat.le_of_ble_eq_true rfl⟩ rfl rfl (Nat.le_of_ble_eq_true rfl) dX11_repeal_35 (fun H locs hP hS => ?_)
    exact end_i X hr hk hP hS h dX11_repeal_38
  · rw [if_pos c5] at h
    refine lv_aload_n hx hb dX11_repeal_12 rfl (lv_at hl 0 rfl) ?_
    refine lv_iconst (v := 1) hx hb dX11_repeal_13 (by decide) ?_
    obtain ⟨r17, M18, hc19, h⟩ := bnd_inv h
    refine gV_i (As := [.int (1 : Int32)]) X hP hS hl.1 (c_X11_refused l D cA q aK aV hq hc19) sf_X11_refused bw_552 sv_X11_refused (rcC_11 sC_0) rfl ⟨rfl, rfl⟩ ⟨Nat.le_of_ble_eq_true rfl, Nat.le_of_ble_eq_true rfl⟩ rfl rfl (Nat.le_of_ble_eq_true rfl) dX11_repeal_14 (fun H locs hP hS => ?_)
    exact end_i X hr hk hP hS h dX11_repeal_17
theorem dX11_strain_0 : decode cX11_strain 0 = .ok (.aload_n 0, 1) := by decide +kernel
theorem dX11_strain_1 : decode cX11_strain 1 = .ok (.getfield 10, 3) := by decide +kernel
theorem dX11_strain_4 : decode cX11_strain 4 = .ok (.iconst 4, 1) := by decide +kernel
theorem dX11_strain_5 : decode cX11_strain 5 = .ok (.iload_n 1, 1) := by decide +kernel
theorem dX11_strain_6 : decode cX11_strain 6 = .ok (.invokevirtual 213, 3) := by decide +kernel
theorem dX11_strain_9 : decode cX11_strain 9 = .ok (.ifCond .eq 12, 3) := by decide +kernel
theorem dX11_strain_12 : decode cX11_strain 12 = .ok (.iload_n 2, 1) := by decide +kernel
theorem dX11_strain_13 : decode cX11_strain 13 = .ok (.bipush 17, 2) := by decide +kernel
theorem dX11_strain_15 : decode cX11_strain 15 = .ok (.invokestatic 104, 3) := by decide +kernel
theorem dX11_strain_18 : decode cX11_strain 18 = .ok (.ifCond .ne 9, 3) := by decide +kernel
theorem dX11_strain_21 : decode cX11_strain 21 = .ok (.aload_n 0, 1) := by decide +kernel
theorem dX11_strain_22 : decode cX11_strain 22 = .ok (.iconst 1, 1) := by decide +kernel
theorem dX11_strain_23 : decode cX11_strain 23 = .ok (.invokevirtual 108, 3) := by decide +kernel
theorem dX11_strain_26 : decode cX11_strain 26 = .ok (.ireturn, 1) := by decide +kernel
theorem dX11_strain_27 : decode cX11_strain 27 = .ok (.aload_n 0, 1) := by decide +kernel
theorem dX11_strain_28 : decode cX11_strain 28 = .ok (.getfield 10, 3) := by decide +kernel
theorem dX11_strain_31 : decode cX11_strain 31 = .ok (.getfield 247, 3) := by decide +kernel
theorem dX11_strain_34 : decode cX11_strain 34 = .ok (.iload_n 1, 1) := by decide +kernel
theorem dX11_strain_35 : decode cX11_strain 35 = .ok (.iload_n 2, 1) := by decide +kernel
theorem dX11_strain_36 : decode cX11_strain 36 = .ok (.invokestatic 291, 3) := by decide +kernel
theorem dX11_strain_39 : decode cX11_strain 39 = .ok (.aload_n 0, 1) := by decide +kernel
theorem dX11_strain_40 : decode cX11_strain 40 = .ok (.invokevirtual 120, 3) := by decide +kernel
theorem dX11_strain_43 : decode cX11_strain 43 = .ok (.ireturn, 1) := by decide +kernel
set_option maxRecDepth 100000 in
set_option maxHeartbeats 8000000 in
theorem c_X11_strain (l : Launch) (D : va_G) (cA : Nat → ClassId) (q aK aV : Nat → Nat) (hq : injG 167 q) {a1 : Int32} {a2 : Int32} {M M0 : Mem} {r0 : Int32} (h : f_X11_strain a1 a2 M = some (r0, M0)) : Met l yX11_strain (.code yX11_strain cX11_strain 3 (some .boolean) :: BW) ({ frames := 3, cells := 0, slots := 0, locals := 56 } : Room) (va_Pc [.ref (q 0), .int a1, .int a2] (CB 167 (ceC cA q) D cA q aK aV M)) (Qi 167 (ceC cA q) D q r0 M0) 0 0 (AqG 167 q) := by
  refine gMet RX11 (by decide +kernel) rfl hq (Nat.le_of_ble_eq_true rfl) ?_
  intro p e s m below meth c ls X hr hk hP hS hl
  have hx := X.1
  have hb := X.2.1
  have hl : lv_has ls 3 [(0, .ref (q 0)), (1, .int a1), (2, .int a2)] := hl
  rw [f_X11_strain] at h
  refine lv_aload_n hx hb dX11_strain_0 rfl (lv_at hl 0 rfl) ?_
  refine gfC_11_0 X hP sC_0 bw_430 dX11_strain_1 ?_
  obtain ⟨g1, h⟩ := gd_inv h
  have g1 := Decidable.not_not.mp g1
  refine lv_iconst (v := 4) hx hb dX11_strain_4 (by decide) ?_
  refine lv_iload_n hx hb dX11_strain_5 rfl (lv_at hl 1 rfl) ?_
  obtain ⟨r2, M3, hc4, h⟩ := bnd_inv h
  refine gV_i (As := [.int (4 : Int32), .int a1]) X hP hS hl.1 (c_X0_has l D cA q aK aV hq g1 hc4) sf_X0_has bw_830 sv_X0_has (rcC_0 g1) rfl ⟨rfl, rfl⟩ ⟨Nat.le_of_ble_eq_true rfl, Nat.le_of_ble_eq_true rfl⟩ rfl rfl (Nat.le_of_ble_eq_true rfl) dX11_strain_6 (fun H locs hP hS => ?_)
  refine lv_if_eq (tgt := 21) hx hb dX11_strain_9 (by decide) (fun c5 => ?_) (fun c5 => ?_)
  · rw [if_pos c5] at h
    refine lv_aload_n hx hb dX11_strain_21 rfl (lv_at hl 0 rfl) ?_
    refine lv_iconst (v := 1) hx hb dX11_strain_22 (by decide) ?_
    obtain ⟨r6, M7, hc8, h⟩ := bnd_inv h
    refine gV_i (As := [.int (1 : Int32)]) X hP hS hl.1 (c_X11_denied l D cA q aK aV hq hc8) sf_X11_denied bw_507 sv_X11_denied (rcC_11 sC_0) rfl ⟨rfl, rfl⟩ ⟨Nat.le_of_ble_eq_true rfl, Nat.le_of_ble_eq_true rfl⟩ rfl rfl (Nat.le_of_ble_eq_true rfl) dX11_strain_23 (fun H locs hP hS => ?_)
    obtain ⟨g9, h⟩ := gd_inv h
    exact end_z X hr hk hP hS (Decidable.not_not.mp g9) h dX11_strain_26
  · rw [if_neg c5] at h
    refine lv_iload_n hx hb dX11_strain_12 rfl (lv_at hl 2 rfl) ?_
    refine lv_bipush (v := 17) hx hb dX11_strain_13 (by decide) ?_
    obtain ⟨r10, M11, hc12, h⟩ := bnd_inv h
    refine gS_i (As := [.int a2, .int (17 : Int32)]) X hP hS hl.1 (c_X11_within l D cA q aK aV hq hc12) sf_X11_within bw_504 ss_X11_within ⟨rfl, rfl⟩ ⟨Nat.le_of_ble_eq_true rfl, Nat.le_of_ble_eq_true rfl⟩ rfl rfl (Nat.le_of_ble_eq_true rfl) dX11_strain_15 (fun H locs hP hS => ?_)
    refine lv_if_ne (tgt := 27) hx hb dX11_strain_18 (by decide) (fun c13 => ?_) (fun c13 => ?_)
    · rw [if_neg c13] at h
      refine lv_aload_n hx hb dX11_strain_27 rfl (lv_at hl 0 rfl) ?_
      refine gfC_11_0 X hP sC_0 bw_430 dX11_strain_28 ?_
      obtain ⟨g14, h⟩ := gd_inv h
      have g14 := Decidable.not_not.mp g14
      refine gfC_0_5 X hP g14 bw_152 dX11_strain_31 ?_
      refine lv_iload_n hx hb dX11_strain_34 rfl (lv_at hl 1 rfl) ?_
      refine lv_iload_n hx hb dX11_strain_35 rfl (lv_at hl 2 rfl) ?_
      obtain ⟨_, M16, hc17, h⟩ := bnd_inv h
      refine gS_v (As := [.ref (q ((gR M11 0 0) + 20)), .int a1, .int a2]) X hP hS hl.1 (c_X11_put l D cA q aK aV hq ((kC_0_5 g14).1) hc17) sf_X11_put bw_942 ss_X11_put ⟨rfl, rfl⟩ ⟨Nat.le_of_ble_eq_true rfl, Nat.le_of_ble_eq_true rfl⟩ rfl rfl (Nat.le_of_ble_eq_true rfl) dX11_strain_36 (fun H locs hP hS => ?_)
      refine lv_aload_n hx hb dX11_strain_39 rfl (lv_at hl 0 rfl) ?_
      obtain ⟨r18, M19, hc20, h⟩ := bnd_inv h
      refine gV_i (As := []) X hP hS hl.1 (c_X11_done l D cA q aK aV hq hc20) sf_X11_done bw_519 sv_X11_done (rcC_11 sC_0) rfl ⟨rfl, rfl⟩ ⟨Nat.le_of_ble_eq_true rfl, Nat.le_of_ble_eq_true rfl⟩ rfl rfl (Nat.le_of_ble_eq_true rfl) dX11_strain_40 (fun H locs hP hS => ?_)
      obtain ⟨g21, h⟩ := gd_inv h
      exact end_z X hr hk hP hS (Decidable.not_not.mp g21) h dX11_strain_43
    · rw [if_pos c13] at h
      refine lv_aload_n hx hb dX11_strain_21 rfl (lv_at hl 0 rfl) ?_
      refine lv_iconst (v := 1) hx hb dX11_strain_22 (by decide) ?_
      obtain ⟨r22, M23, hc24, h⟩ := bnd_inv h
      refine gV_i (As := [.int (1 : Int32)]) X hP hS hl.1 (c_X11_denied l D cA q aK aV hq hc24) sf_X11_denied bw_507 sv_X11_denied (rcC_11 sC_0) rfl ⟨rfl, rfl⟩ ⟨Nat.le_of_ble_eq_true rfl, Nat.le_of_ble_eq_true rfl⟩ rfl rfl (Nat.le_of_ble_eq_true rfl) dX11_strain_23 (fun H locs hP hS => ?_)
      obtain ⟨g25, h⟩ := gd_inv h
      exact end_z X hr hk hP hS (Decidable.not_not.mp g25) h dX11_strain_26
theorem dX11_cueAt_0 : decode cX11_cueAt 0 = .ok (.aload_n 0, 1) := by decide +kernel
theorem dX11_cueAt_1 : decode cX11_cueAt 1 = .ok (.getfield 10, 3) := by decide +kernel
theorem dX11_cueAt_4 : decode cX11_cueAt 4 = .ok (.iconst 3, 1) := by decide +kernel
theorem dX11_cueAt_5 : decode cX11_cueAt 5 = .ok (.iload_n 1, 1) := by decide +kernel
theorem dX11_cueAt_6 : decode cX11_cueAt 6 = .ok (.invokevirtual 213, 3) := by decide +kernel
theorem dX11_cueAt_9 : decode cX11_cueAt 9 = .ok (.ifCond .eq 12, 3) := by decide +kernel
theorem dX11_cueAt_12 : decode cX11_cueAt 12 = .ok (.iload_n 2, 1) := by decide +kernel
theorem dX11_cueAt_13 : decode cX11_cueAt 13 = .ok (.bipush 10, 2) := by decide +kernel
theorem dX11_cueAt_15 : decode cX11_cueAt 15 = .ok (.invokestatic 104, 3) := by decide +kernel
theorem dX11_cueAt_18 : decode cX11_cueAt 18 = .ok (.ifCond .ne 9, 3) := by decide +kernel
theorem dX11_cueAt_21 : decode cX11_cueAt 21 = .ok (.aload_n 0, 1) := by decide +kernel
theorem dX11_cueAt_22 : decode cX11_cueAt 22 = .ok (.iconst 1, 1) := by decide +kernel
theorem dX11_cueAt_23 : decode cX11_cueAt 23 = .ok (.invokevirtual 132, 3) := by decide +kernel
theorem dX11_cueAt_26 : decode cX11_cueAt 26 = .ok (.ireturn, 1) := by decide +kernel
theorem dX11_cueAt_27 : decode cX11_cueAt 27 = .ok (.aload_n 0, 1) := by decide +kernel
theorem dX11_cueAt_28 : decode cX11_cueAt 28 = .ok (.getfield 10, 3) := by decide +kernel
theorem dX11_cueAt_31 : decode cX11_cueAt 31 = .ok (.iload_n 1, 1) := by decide +kernel
theorem dX11_cueAt_32 : decode cX11_cueAt 32 = .ok (.iload_n 2, 1) := by decide +kernel
theorem dX11_cueAt_33 : decode cX11_cueAt 33 = .ok (.invokevirtual 313, 3) := by decide +kernel
theorem dX11_cueAt_36 : decode cX11_cueAt 36 = .ok (.istore_n 3, 1) := by decide +kernel
theorem dX11_cueAt_37 : decode cX11_cueAt 37 = .ok (.aload_n 0, 1) := by decide +kernel
theorem dX11_cueAt_38 : decode cX11_cueAt 38 = .ok (.getfield 10, 3) := by decide +kernel
theorem dX11_cueAt_41 : decode cX11_cueAt 41 = .ok (.iconst 1, 1) := by decide +kernel
theorem dX11_cueAt_42 : decode cX11_cueAt 42 = .ok (.iload_n 3, 1) := by decide +kernel
theorem dX11_cueAt_43 : decode cX11_cueAt 43 = .ok (.invokevirtual 213, 3) := by decide +kernel
theorem dX11_cueAt_46 : decode cX11_cueAt 46 = .ok (.ifCond .eq 11, 3) := by decide +kernel
theorem dX11_cueAt_49 : decode cX11_cueAt 49 = .ok (.aload_n 0, 1) := by decide +kernel
theorem dX11_cueAt_50 : decode cX11_cueAt 50 = .ok (.iload_n 3, 1) := by decide +kernel
theorem dX11_cueAt_51 : decode cX11_cueAt 51 = .ok (.invokevirtual 191, 3) := by decide +kernel
theorem dX11_cueAt_54 : decode cX11_cueAt 54 = .ok (.goto 9, 3) := by decide +kernel
theorem dX11_cueAt_57 : decode cX11_cueAt 57 = .ok (.aload_n 0, 1) := by decide +kernel
theorem dX11_cueAt_58 : decode cX11_cueAt 58 = .ok (.bipush 6, 2) := by decide +kernel
theorem dX11_cueAt_60 : decode cX11_cueAt 60 = .ok (.invokevirtual 132, 3) := by decide +kernel
theorem dX11_cueAt_63 : decode cX11_cueAt 63 = .ok (.ireturn, 1) := by decide +kernel
set_option maxRecDepth 100000 in
set_option maxHeartbeats 8000000 in
theorem c_X11_cueAt (l : Launch) (D : va_G) (cA : Nat → ClassId) (q aK aV : Nat → Nat) (hq : injG 167 q) {a1 : Int32} {a2 : Int32} {M M0 : Mem} {r0 : Int32} (h : f_X11_cueAt a1 a2 M = some (r0, M0)) : Met l yX11_cueAt (.code yX11_cueAt cX11_cueAt 4 (some .int) :: BW) ({ frames := 4, cells := 0, slots := 0, locals := 89 } : Room) (va_Pc [.ref (q 0), .int a1, .int a2] (CB 167 (ceC cA q) D cA q aK aV M)) (Qi 167 (ceC cA q) D q r0 M0) 0 0 (AqG 167 q) := by
  refine gMet RX11 (by decide +kernel) rfl hq (Nat.le_of_ble_eq_true rfl) ?_
  intro p e s m below meth c ls X hr hk hP hS hl
  have hx := X.1
  have hb := X.2.1
  have hl : lv_has ls 4 [(0, .ref (q 0)), (1, .int a1), (2, .int a2)] := hl
  rw [f_X11_cueAt] at h
  refine lv_aload_n hx hb dX11_cueAt_0 rfl (lv_at hl 0 rfl) ?_
  refine gfC_11_0 X hP sC_0 bw_430 dX11_cueAt_1 ?_
  obtain ⟨g1, h⟩ := gd_inv h
  have g1 := Decidable.not_not.mp g1
  refine lv_iconst (v := 3) hx hb dX11_cueAt_4 (by decide) ?_
  refine lv_iload_n hx hb dX11_cueAt_5 rfl (lv_at hl 1 rfl) ?_
  obtain ⟨r2, M3, hc4, h⟩ := bnd_inv h
  refine gV_i (As := [.int (3 : Int32), .int a1]) X hP hS hl.1 (c_X0_has l D cA q aK aV hq g1 hc4) sf_X0_has bw_830 sv_X0_has (rcC_0 g1) rfl ⟨rfl, rfl⟩ ⟨Nat.le_of_ble_eq_true rfl, Nat.le_of_ble_eq_true rfl⟩ rfl rfl (Nat.le_of_ble_eq_true rfl) dX11_cueAt_6 (fun H locs hP hS => ?_)
  refine lv_if_eq (tgt := 21) hx hb dX11_cueAt_9 (by decide) (fun c5 => ?_) (fun c5 => ?_)
  · rw [if_pos c5] at h
    refine lv_aload_n hx hb dX11_cueAt_21 rfl (lv_at hl 0 rfl) ?_
    refine lv_iconst (v := 1) hx hb dX11_cueAt_22 (by decide) ?_
    obtain ⟨r6, M7, hc8, h⟩ := bnd_inv h
    refine gV_i (As := [.int (1 : Int32)]) X hP hS hl.1 (c_X11_refused l D cA q aK aV hq hc8) sf_X11_refused bw_552 sv_X11_refused (rcC_11 sC_0) rfl ⟨rfl, rfl⟩ ⟨Nat.le_of_ble_eq_true rfl, Nat.le_of_ble_eq_true rfl⟩ rfl rfl (Nat.le_of_ble_eq_true rfl) dX11_cueAt_23 (fun H locs hP hS => ?_)
    exact end_i X hr hk hP hS h dX11_cueAt_26
  · rw [if_neg c5] at h
    refine lv_iload_n hx hb dX11_cueAt_12 rfl (lv_at hl 2 rfl) ?_
    refine lv_bipush (v := 10) hx hb dX11_cueAt_13 (by decide) ?_
    obtain ⟨r9, M10, hc11, h⟩ := bnd_inv h
    refine gS_i (As := [.int a2, .int (10 : Int32)]) X hP hS hl.1 (c_X11_within l D cA q aK aV hq hc11) sf_X11_within bw_504 ss_X11_within ⟨rfl, rfl⟩ ⟨Nat.le_of_ble_eq_true rfl, Nat.le_of_ble_eq_true rfl⟩ rfl rfl (Nat.le_of_ble_eq_true rfl) dX11_cueAt_15 (fun H locs hP hS => ?_)
    refine lv_if_ne (tgt := 27) hx hb dX11_cueAt_18 (by decide) (fun c12 => ?_) (fun c12 => ?_)
    · rw [if_neg c12] at h
      refine lv_aload_n hx hb dX11_cueAt_27 rfl (lv_at hl 0 rfl) ?_
      refine gfC_11_0 X hP sC_0 bw_430 dX11_cueAt_28 ?_
      obtain ⟨g13, h⟩ := gd_inv h
      have g13 := Decidable.not_not.mp g13
      refine lv_iload_n hx hb dX11_cueAt_31 rfl (lv_at hl 1 rfl) ?_
      refine lv_iload_n hx hb dX11_cueAt_32 rfl (lv_at hl 2 rfl) ?_
      obtain ⟨r14, M15, hc16, h⟩ := bnd_inv h
      refine gV_i (As := [.int a1, .int a2]) X hP hS hl.1 (c_X0_cueBefore l D cA q aK aV hq g13 hc16) sf_X0_cueBefore bw_974 sv_X0_cueBefore (rcC_0 g13) rfl ⟨rfl, rfl⟩ ⟨Nat.le_of_ble_eq_true rfl, Nat.le_of_ble_eq_true rfl⟩ rfl rfl (Nat.le_of_ble_eq_true rfl) dX11_cueAt_33 (fun H locs hP hS => ?_)
      refine lv_istore_n (lv' := [(3, .int r14), (0, .ref (q 0)), (1, .int a1), (2, .int a2)]) hx hb dX11_cueAt_36 rfl hl (by decide) rfl (fun ls hl => ?_)
      refine lv_aload_n hx hb dX11_cueAt_37 rfl (lv_at hl 1 rfl) ?_
      refine gfC_11_0 X hP sC_0 bw_430 dX11_cueAt_38 ?_
      obtain ⟨g17, h⟩ := gd_inv h
      have g17 := Decidable.not_not.mp g17
      refine lv_iconst (v := 1) hx hb dX11_cueAt_41 (by decide) ?_
      refine lv_iload_n hx hb dX11_cueAt_42 rfl (lv_at hl 0 rfl) ?_
      obtain ⟨r18, M19, hc20, h⟩ := bnd_inv h
      refine gV_i (As := [.int (1 : Int32), .int r14]) X hP hS hl.1 (c_X0_has l D cA q aK aV hq g17 hc20) sf_X0_has bw_830 sv_X0_has (rcC_0 g17) rfl ⟨rfl, rfl⟩ ⟨Nat.le_of_ble_eq_true rfl, Nat.le_of_ble_eq_true rfl⟩ rfl rfl (Nat.le_of_ble_eq_true rfl) dX11_cueAt_43 (fun H locs hP hS => ?_)
      refine lv_if_eq (tgt := 57) hx hb dX11_cueAt_46 (by decide) (fun c21 => ?_) (fun c21 => ?_)
      · rw [if_pos c21] at h
        refine lv_aload_n hx hb dX11_cueAt_57 rfl (lv_at hl 1 rfl) ?_
        refine lv_bipush (v := 6) hx hb dX11_cueAt_58 (by decide) ?_
        obtain ⟨r22, M23, hc24, h⟩ := bnd_inv h
        refine gV_i (As := [.int (6 : Int32)]) X hP hS hl.1 (c_X11_refused l D cA q aK aV hq hc24) sf_X11_refused bw_552 sv_X11_refused (rcC_11 sC_0) rfl ⟨rfl, rfl⟩ ⟨Nat.le_of_ble_eq_true rfl, Nat.le_of_ble_eq_true rfl⟩ rfl rfl (Nat.le_of_ble_eq_true rfl) dX11_cueAt_60 (fun H locs hP hS => ?_)
        exact end_i X hr hk hP hS h dX11_cueAt_63
      · rw [if_neg c21] at h
        refine lv_aload_n hx hb dX11_cueAt_49 rfl (lv_at hl 1 rfl) ?_
        refine lv_iload_n hx hb dX11_cueAt_50 rfl (lv_at hl 0 rfl) ?_
        obtain ⟨r25, M26, hc27, h⟩ := bnd_inv h
        refine gV_i (As := [.int r14]) X hP hS hl.1 (c_X11_given l D cA q aK aV hq hc27) sf_X11_given bw_755 sv_X11_given (rcC_11 sC_0) rfl ⟨rfl, rfl⟩ ⟨Nat.le_of_ble_eq_true rfl, Nat.le_of_ble_eq_true rfl⟩ rfl rfl (Nat.le_of_ble_eq_true rfl) dX11_cueAt_51 (fun H locs hP hS => ?_)
        refine lv_goto (tgt := 63) hx hb dX11_cueAt_54 (by decide) ?_
        exact end_i X hr hk hP hS h dX11_cueAt_63
    · rw [if_pos c12] at h
      refine lv_aload_n hx hb dX11_cueAt_21 rfl (lv_at hl 0 rfl) ?_
      refine lv_iconst (v := 1) hx hb dX11_cueAt_22 (by decide) ?_
      obtain ⟨r28, M29, hc30, h⟩ := bnd_inv h
      refine gV_i (As := [.int (1 : Int32)]) X hP hS hl.1 (c_X11_refused l D cA q aK aV hq hc30) sf_X11_refused bw_552 sv_X11_refused (rcC_11 sC_0) rfl ⟨rfl, rfl⟩ ⟨Nat.le_of_ble_eq_true rfl, Nat.le_of_ble_eq_true rfl⟩ rfl rfl (Nat.le_of_ble_eq_true rfl) dX11_cueAt_23 (fun H locs hP hS => ?_)
      exact end_i X hr hk hP hS h dX11_cueAt_26
theorem dX11_cue_0 : decode cX11_cue 0 = .ok (.aload_n 0, 1) := by decide +kernel
theorem dX11_cue_1 : decode cX11_cue 1 = .ok (.iload_n 1, 1) := by decide +kernel
theorem dX11_cue_2 : decode cX11_cue 2 = .ok (.aload_n 0, 1) := by decide +kernel
theorem dX11_cue_3 : decode cX11_cue 3 = .ok (.getfield 10, 3) := by decide +kernel
theorem dX11_cue_6 : decode cX11_cue 6 = .ok (.getfield 194, 3) := by decide +kernel
theorem dX11_cue_9 : decode cX11_cue 9 = .ok (.invokevirtual 310, 3) := by decide +kernel
theorem dX11_cue_12 : decode cX11_cue 12 = .ok (.ireturn, 1) := by decide +kernel
set_option maxRecDepth 100000 in
set_option maxHeartbeats 8000000 in
theorem c_X11_cue (l : Launch) (D : va_G) (cA : Nat → ClassId) (q aK aV : Nat → Nat) (hq : injG 167 q) {a1 : Int32} {M M0 : Mem} {r0 : Int32} (h : f_X11_cue a1 M = some (r0, M0)) : Met l yX11_cue (.code yX11_cue cX11_cue 2 (some .int) :: BW) ({ frames := 5, cells := 0, slots := 0, locals := 112 } : Room) (va_Pc [.ref (q 0), .int a1] (CB 167 (ceC cA q) D cA q aK aV M)) (Qi 167 (ceC cA q) D q r0 M0) 0 0 (AqG 167 q) := by
  refine gMet RX11 (by decide +kernel) rfl hq (Nat.le_of_ble_eq_true rfl) ?_
  intro p e s m below meth c ls X hr hk hP hS hl
  have hx := X.1
  have hb := X.2.1
  have hl : lv_has ls 2 [(0, .ref (q 0)), (1, .int a1)] := hl
  rw [f_X11_cue] at h
  refine lv_aload_n hx hb dX11_cue_0 rfl (lv_at hl 0 rfl) ?_
  refine lv_iload_n hx hb dX11_cue_1 rfl (lv_at hl 1 rfl) ?_
  refine lv_aload_n hx hb dX11_cue_2 rfl (lv_at hl 0 rfl) ?_
  refine gfC_11_0 X hP sC_0 bw_430 dX11_cue_3 ?_
  obtain ⟨g1, h⟩ := gd_inv h
  have g1 := Decidable.not_not.mp g1
  refine gfC_0_12 X hP g1 bw_171 dX11_cue_6 ?_
  obtain ⟨r2, M3, hc4, h⟩ := bnd_inv h
  refine gV_i (As := [.int a1, .int (gI M (gR M 0 0) 12)]) X hP hS hl.1 (c_X11_cueAt l D cA q aK aV hq hc4) sf_X11_cueAt bw_970 sv_X11_cueAt (rcC_11 sC_0) rfl ⟨rfl, rfl⟩ ⟨Nat.le_of_ble_eq_true rfl, Nat.le_of_ble_eq_true rfl⟩ rfl rfl (Nat.le_of_ble_eq_true rfl) dX11_cue_9 (fun H locs hP hS => ?_)
  exact end_i X hr hk hP hS h dX11_cue_12
theorem dX11_bears_0 : decode cX11_bears 0 = .ok (.aload_n 0, 1) := by decide +kernel
theorem dX11_bears_1 : decode cX11_bears 1 = .ok (.getfield 10, 3) := by decide +kernel
theorem dX11_bears_4 : decode cX11_bears 4 = .ok (.iconst 3, 1) := by decide +kernel
theorem dX11_bears_5 : decode cX11_bears 5 = .ok (.iload_n 1, 1) := by decide +kernel
theorem dX11_bears_6 : decode cX11_bears 6 = .ok (.invokevirtual 213, 3) := by decide +kernel
theorem dX11_bears_9 : decode cX11_bears 9 = .ok (.ifCond .ne 9, 3) := by decide +kernel
theorem dX11_bears_12 : decode cX11_bears 12 = .ok (.aload_n 0, 1) := by decide +kernel
theorem dX11_bears_13 : decode cX11_bears 13 = .ok (.iconst 1, 1) := by decide +kernel
theorem dX11_bears_14 : decode cX11_bears 14 = .ok (.invokevirtual 132, 3) := by decide +kernel
theorem dX11_bears_17 : decode cX11_bears 17 = .ok (.ireturn, 1) := by decide +kernel
theorem dX11_bears_18 : decode cX11_bears 18 = .ok (.aload_n 0, 1) := by decide +kernel
theorem dX11_bears_19 : decode cX11_bears 19 = .ok (.getfield 10, 3) := by decide +kernel
theorem dX11_bears_22 : decode cX11_bears 22 = .ok (.iload_n 1, 1) := by decide +kernel
theorem dX11_bears_23 : decode cX11_bears 23 = .ok (.invokevirtual 228, 3) := by decide +kernel
theorem dX11_bears_26 : decode cX11_bears 26 = .ok (.astore_n 2, 1) := by decide +kernel
theorem dX11_bears_27 : decode cX11_bears 27 = .ok (.aload_n 0, 1) := by decide +kernel
theorem dX11_bears_28 : decode cX11_bears 28 = .ok (.getfield 10, 3) := by decide +kernel
theorem dX11_bears_31 : decode cX11_bears 31 = .ok (.aload_n 2, 1) := by decide +kernel
theorem dX11_bears_32 : decode cX11_bears 32 = .ok (.getfield 243, 3) := by decide +kernel
theorem dX11_bears_35 : decode cX11_bears 35 = .ok (.aload_n 2, 1) := by decide +kernel
theorem dX11_bears_36 : decode cX11_bears 36 = .ok (.getfield 232, 3) := by decide +kernel
theorem dX11_bears_39 : decode cX11_bears 39 = .ok (.aload_n 0, 1) := by decide +kernel
theorem dX11_bears_40 : decode cX11_bears 40 = .ok (.getfield 10, 3) := by decide +kernel
theorem dX11_bears_43 : decode cX11_bears 43 = .ok (.getfield 194, 3) := by decide +kernel
theorem dX11_bears_46 : decode cX11_bears 46 = .ok (.aload_n 2, 1) := by decide +kernel
theorem dX11_bears_47 : decode cX11_bears 47 = .ok (.getfield 237, 3) := by decide +kernel
theorem dX11_bears_50 : decode cX11_bears 50 = .ok (.invokevirtual 316, 3) := by decide +kernel
theorem dX11_bears_53 : decode cX11_bears 53 = .ok (.istore_n 3, 1) := by decide +kernel
theorem dX11_bears_54 : decode cX11_bears 54 = .ok (.iload_n 3, 1) := by decide +kernel
theorem dX11_bears_55 : decode cX11_bears 55 = .ok (.iconst (-1), 1) := by decide +kernel
theorem dX11_bears_56 : decode cX11_bears 56 = .ok (.if_icmp .ne 12, 3) := by decide +kernel
theorem dX11_bears_59 : decode cX11_bears 59 = .ok (.aload_n 0, 1) := by decide +kernel
theorem dX11_bears_60 : decode cX11_bears 60 = .ok (.bipush 6, 2) := by decide +kernel
theorem dX11_bears_62 : decode cX11_bears 62 = .ok (.invokevirtual 132, 3) := by decide +kernel
theorem dX11_bears_65 : decode cX11_bears 65 = .ok (.goto 8, 3) := by decide +kernel
theorem dX11_bears_68 : decode cX11_bears 68 = .ok (.aload_n 0, 1) := by decide +kernel
theorem dX11_bears_69 : decode cX11_bears 69 = .ok (.iload_n 3, 1) := by decide +kernel
theorem dX11_bears_70 : decode cX11_bears 70 = .ok (.invokevirtual 191, 3) := by decide +kernel
theorem dX11_bears_73 : decode cX11_bears 73 = .ok (.ireturn, 1) := by decide +kernel
set_option maxRecDepth 100000 in
set_option maxHeartbeats 8000000 in
theorem c_X11_bears (l : Launch) (D : va_G) (cA : Nat → ClassId) (q aK aV : Nat → Nat) (hq : injG 167 q) {a1 : Int32} {M M0 : Mem} {r0 : Int32} (h : f_X11_bears a1 M = some (r0, M0)) : Met l yX11_bears (.code yX11_bears cX11_bears 4 (some .int) :: BW) ({ frames := 3, cells := 0, slots := 0, locals := 65 } : Room) (va_Pc [.ref (q 0), .int a1] (CB 167 (ceC cA q) D cA q aK aV M)) (Qi 167 (ceC cA q) D q r0 M0) 0 0 (AqG 167 q) := by
  refine gMet RX11 (by decide +kernel) rfl hq (Nat.le_of_ble_eq_true rfl) ?_
  intro p e s m below meth c ls X hr hk hP hS hl
  have hx := X.1
  have hb := X.2.1
  have hl : lv_has ls 4 [(0, .ref (q 0)), (1, .int a1)] := hl
  rw [f_X11_bears] at h
  refine lv_aload_n hx hb dX11_bears_0 rfl (lv_at hl 0 rfl) ?_
  refine gfC_11_0 X hP sC_0 bw_430 dX11_bears_1 ?_
  obtain ⟨g1, h⟩ := gd_inv h
  have g1 := Decidable.not_not.mp g1
  refine lv_iconst (v := 3) hx hb dX11_bears_4 (by decide) ?_
  refine lv_iload_n hx hb dX11_bears_5 rfl (lv_at hl 1 rfl) ?_
  obtain ⟨r2, M3, hc4, h⟩ := bnd_inv h
  refine gV_i (As := [.int (3 : Int32), .int a1]) X hP hS hl.1 (c_X0_has l D cA q aK aV hq g1 hc4) sf_X0_has bw_830 sv_X0_has (rcC_0 g1) rfl ⟨rfl, rfl⟩ ⟨Nat.le_of_ble_eq_true rfl, Nat.le_of_ble_eq_true rfl⟩ rfl rfl (Nat.le_of_ble_eq_true rfl) dX11_bears_6 (fun H locs hP hS => ?_)
  refine lv_if_ne (tgt := 18) hx hb dX11_bears_9 (by decide) (fun c5 => ?_) (fun c5 => ?_)
  · rw [if_neg c5] at h
    refine lv_aload_n hx hb dX11_bears_18 rfl (lv_at hl 0 rfl) ?_
    refine gfC_11_0 X hP sC_0 bw_430 dX11_bears_19 ?_
    obtain ⟨g6, h⟩ := gd_inv h
    have g6 := Decidable.not_not.mp g6
    refine lv_iload_n hx hb dX11_bears_22 rfl (lv_at hl 1 rfl) ?_
    obtain ⟨r7, M8, hc9, h⟩ := bnd_inv h
    refine gV_r (As := [.int a1]) X hP hS hl.1 (c_X0_personAt l D cA q aK aV hq g6 hc9) sf_X0_personAt bw_852 sv_X0_personAt (rcC_0 g6) rfl ⟨rfl, rfl⟩ ⟨Nat.le_of_ble_eq_true rfl, Nat.le_of_ble_eq_true rfl⟩ rfl rfl (Nat.le_of_ble_eq_true rfl) dX11_bears_23 (fun H locs hP hS => ?_)
    obtain ⟨g10, h⟩ := gd_inv h
    have g10 := Decidable.not_not.mp g10
    refine lv_astore_n (lv' := [(2, .ref (q r7)), (0, .ref (q 0)), (1, .int a1)]) hx hb dX11_bears_26 rfl hl (by decide) rfl (fun ls hl => ?_)
    refine lv_aload_n hx hb dX11_bears_27 rfl (lv_at hl 1 rfl) ?_
    refine gfC_11_0 X hP sC_0 bw_430 dX11_bears_28 ?_
    obtain ⟨g11, h⟩ := gd_inv h
    have g11 := Decidable.not_not.mp g11
    refine lv_aload_n hx hb dX11_bears_31 rfl (lv_at hl 0 rfl) ?_
    refine gfC_5_0 X hP g10 bw_114 dX11_bears_32 ?_
    refine lv_aload_n hx hb dX11_bears_35 rfl (lv_at hl 0 rfl) ?_
    refine gfC_5_1 X hP g10 bw_119 dX11_bears_36 ?_
    refine lv_aload_n hx hb dX11_bears_39 rfl (lv_at hl 1 rfl) ?_
    refine gfC_11_0 X hP sC_0 bw_430 dX11_bears_40 ?_
    obtain ⟨g12, h⟩ := gd_inv h
    have g12 := Decidable.not_not.mp g12
    refine gfC_0_12 X hP g12 bw_171 dX11_bears_43 ?_
    refine lv_aload_n hx hb dX11_bears_46 rfl (lv_at hl 0 rfl) ?_
    refine gfC_5_2 X hP g10 bw_123 dX11_bears_47 ?_
    obtain ⟨r13, M14, hc15, h⟩ := bnd_inv h
    refine gV_i (As := [.int (gI M8 r7 0), .int (gI M8 r7 1), .int (gI M8 (gR M8 0 0) 12), .int (gI M8 r7 2)]) X hP hS hl.1 (c_X0_ruleFor l D cA q aK aV hq g11 hc15) sf_X0_ruleFor bw_980 sv_X0_ruleFor (rcC_0 g11) rfl ⟨rfl, rfl⟩ ⟨Nat.le_of_ble_eq_true rfl, Nat.le_of_ble_eq_true rfl⟩ rfl rfl (Nat.le_of_ble_eq_true rfl) dX11_bears_50 (fun H locs hP hS => ?_)
    refine lv_istore_n (lv' := [(3, .int r13), (2, .ref (q r7)), (0, .ref (q 0)), (1, .int a1)]) hx hb dX11_bears_53 rfl hl (by decide) rfl (fun ls hl => ?_)
    refine lv_iload_n hx hb dX11_bears_54 rfl (lv_at hl 0 rfl) ?_
    refine lv_iconst (v := -1) hx hb dX11_bears_55 (by decide) ?_
    refine lv_icmp_ne (tgt := 68) hx hb dX11_bears_56 (by decide) (fun c16 => ?_) (fun c16 => ?_)
    · rw [if_neg c16] at h
      refine lv_aload_n hx hb dX11_bears_68 rfl (lv_at hl 2 rfl) ?_
      refine lv_iload_n hx hb dX11_bears_69 rfl (lv_at hl 0 rfl) ?_
      obtain ⟨r17, M18, hc19, h⟩ := bnd_inv h
      refine gV_i (As := [.int r13]) X hP hS hl.1 (c_X11_given l D cA q aK aV hq hc19) sf_X11_given bw_755 sv_X11_given (rcC_11 sC_0) rfl ⟨rfl, rfl⟩ ⟨Nat.le_of_ble_eq_true rfl, Nat.le_of_ble_eq_true rfl⟩ rfl rfl (Nat.le_of_ble_eq_true rfl) dX11_bears_70 (fun H locs hP hS => ?_)
      exact end_i X hr hk hP hS h dX11_bears_73
    · rw [if_pos c16] at h
      refine lv_aload_n hx hb dX11_bears_59 rfl (lv_at hl 2 rfl) ?_
      refine lv_bipush (v := 6) hx hb dX11_bears_60 (by decide) ?_
      obtain ⟨r20, M21, hc22, h⟩ := bnd_inv h
      refine gV_i (As := [.int (6 : Int32)]) X hP hS hl.1 (c_X11_refused l D cA q aK aV hq hc22) sf_X11_refused bw_552 sv_X11_refused (rcC_11 sC_0) rfl ⟨rfl, rfl⟩ ⟨Nat.le_of_ble_eq_true rfl, Nat.le_of_ble_eq_true rfl⟩ rfl rfl (Nat.le_of_ble_eq_true rfl) dX11_bears_62 (fun H locs hP hS => ?_)
      refine lv_goto (tgt := 73) hx hb dX11_bears_65 (by decide) ?_
      exact end_i X hr hk hP hS h dX11_bears_73
  · rw [if_pos c5] at h
    refine lv_aload_n hx hb dX11_bears_12 rfl (lv_at hl 0 rfl) ?_
    refine lv_iconst (v := 1) hx hb dX11_bears_13 (by decide) ?_
    obtain ⟨r23, M24, hc25, h⟩ := bnd_inv h
    refine gV_i (As := [.int (1 : Int32)]) X hP hS hl.1 (c_X11_refused l D cA q aK aV hq hc25) sf_X11_refused bw_552 sv_X11_refused (rcC_11 sC_0) rfl ⟨rfl, rfl⟩ ⟨Nat.le_of_ble_eq_true rfl, Nat.le_of_ble_eq_true rfl⟩ rfl rfl (Nat.le_of_ble_eq_true rfl) dX11_bears_14 (fun H locs hP hS => ?_)
    exact end_i X hr hk hP hS h dX11_bears_17
theorem dX11_bearing_0 : decode cX11_bearing 0 = .ok (.aload_n 0, 1) := by decide +kernel
theorem dX11_bearing_1 : decode cX11_bearing 1 = .ok (.getfield 10, 3) := by decide +kernel
theorem dX11_bearing_4 : decode cX11_bearing 4 = .ok (.iconst 3, 1) := by decide +kernel
theorem dX11_bearing_5 : decode cX11_bearing 5 = .ok (.iload_n 1, 1) := by decide +kernel
theorem dX11_bearing_6 : decode cX11_bearing 6 = .ok (.invokevirtual 213, 3) := by decide +kernel
theorem dX11_bearing_9 : decode cX11_bearing 9 = .ok (.ifCond .ne 9, 3) := by decide +kernel
theorem dX11_bearing_12 : decode cX11_bearing 12 = .ok (.aload_n 0, 1) := by decide +kernel
theorem dX11_bearing_13 : decode cX11_bearing 13 = .ok (.iconst 1, 1) := by decide +kernel
theorem dX11_bearing_14 : decode cX11_bearing 14 = .ok (.invokevirtual 132, 3) := by decide +kernel
theorem dX11_bearing_17 : decode cX11_bearing 17 = .ok (.ireturn, 1) := by decide +kernel
theorem dX11_bearing_18 : decode cX11_bearing 18 = .ok (.aload_n 0, 1) := by decide +kernel
theorem dX11_bearing_19 : decode cX11_bearing 19 = .ok (.getfield 10, 3) := by decide +kernel
theorem dX11_bearing_22 : decode cX11_bearing 22 = .ok (.iload_n 1, 1) := by decide +kernel
theorem dX11_bearing_23 : decode cX11_bearing 23 = .ok (.invokevirtual 228, 3) := by decide +kernel
theorem dX11_bearing_26 : decode cX11_bearing 26 = .ok (.astore_n 2, 1) := by decide +kernel
theorem dX11_bearing_27 : decode cX11_bearing 27 = .ok (.iconst 0, 1) := by decide +kernel
theorem dX11_bearing_28 : decode cX11_bearing 28 = .ok (.istore_n 3, 1) := by decide +kernel
theorem dX11_bearing_29 : decode cX11_bearing 29 = .ok (.iconst 0, 1) := by decide +kernel
theorem dX11_bearing_30 : decode cX11_bearing 30 = .ok (.istore 4, 2) := by decide +kernel
theorem dX11_bearing_32 : decode cX11_bearing 32 = .ok (.iload 4, 2) := by decide +kernel
theorem dX11_bearing_34 : decode cX11_bearing 34 = .ok (.aload_n 0, 1) := by decide +kernel
theorem dX11_bearing_35 : decode cX11_bearing 35 = .ok (.getfield 10, 3) := by decide +kernel
theorem dX11_bearing_38 : decode cX11_bearing 38 = .ok (.iconst 2, 1) := by decide +kernel
theorem dX11_bearing_39 : decode cX11_bearing 39 = .ok (.invokevirtual 167, 3) := by decide +kernel
theorem dX11_bearing_42 : decode cX11_bearing 42 = .ok (.if_icmp .ge 50, 3) := by decide +kernel
theorem dX11_bearing_45 : decode cX11_bearing 45 = .ok (.aload_n 0, 1) := by decide +kernel
theorem dX11_bearing_46 : decode cX11_bearing 46 = .ok (.getfield 10, 3) := by decide +kernel
theorem dX11_bearing_49 : decode cX11_bearing 49 = .ok (.iload 4, 2) := by decide +kernel
theorem dX11_bearing_51 : decode cX11_bearing 51 = .ok (.invokevirtual 219, 3) := by decide +kernel
theorem dX11_bearing_54 : decode cX11_bearing 54 = .ok (.aload_n 2, 1) := by decide +kernel
theorem dX11_bearing_55 : decode cX11_bearing 55 = .ok (.getfield 243, 3) := by decide +kernel
theorem dX11_bearing_58 : decode cX11_bearing 58 = .ok (.aload_n 2, 1) := by decide +kernel
theorem dX11_bearing_59 : decode cX11_bearing 59 = .ok (.getfield 232, 3) := by decide +kernel
theorem dX11_bearing_62 : decode cX11_bearing 62 = .ok (.aload_n 0, 1) := by decide +kernel
theorem dX11_bearing_63 : decode cX11_bearing 63 = .ok (.getfield 10, 3) := by decide +kernel
theorem dX11_bearing_66 : decode cX11_bearing 66 = .ok (.getfield 194, 3) := by decide +kernel
theorem dX11_bearing_69 : decode cX11_bearing 69 = .ok (.aload_n 2, 1) := by decide +kernel
theorem dX11_bearing_70 : decode cX11_bearing 70 = .ok (.getfield 237, 3) := by decide +kernel
theorem dX11_bearing_73 : decode cX11_bearing 73 = .ok (.invokevirtual 320, 3) := by decide +kernel
theorem dX11_bearing_76 : decode cX11_bearing 76 = .ok (.ifCond .eq 10, 3) := by decide +kernel
theorem dX11_bearing_79 : decode cX11_bearing 79 = .ok (.iload_n 3, 1) := by decide +kernel
theorem dX11_bearing_80 : decode cX11_bearing 80 = .ok (.iconst 1, 1) := by decide +kernel
theorem dX11_bearing_81 : decode cX11_bearing 81 = .ok (.iload 4, 2) := by decide +kernel
theorem dX11_bearing_83 : decode cX11_bearing 83 = .ok (.ishl, 1) := by decide +kernel
theorem dX11_bearing_84 : decode cX11_bearing 84 = .ok (.ior, 1) := by decide +kernel
theorem dX11_bearing_85 : decode cX11_bearing 85 = .ok (.istore_n 3, 1) := by decide +kernel
theorem dX11_bearing_86 : decode cX11_bearing 86 = .ok (.iinc 4 1, 3) := by decide +kernel
theorem dX11_bearing_89 : decode cX11_bearing 89 = .ok (.goto (-57), 3) := by decide +kernel
theorem dX11_bearing_92 : decode cX11_bearing 92 = .ok (.aload_n 0, 1) := by decide +kernel
theorem dX11_bearing_93 : decode cX11_bearing 93 = .ok (.iload_n 3, 1) := by decide +kernel
theorem dX11_bearing_94 : decode cX11_bearing 94 = .ok (.invokevirtual 191, 3) := by decide +kernel
theorem dX11_bearing_97 : decode cX11_bearing 97 = .ok (.ireturn, 1) := by decide +kernel
set_option maxRecDepth 100000 in
set_option maxHeartbeats 8000000 in
theorem c_X11_bearing (l : Launch) (D : va_G) (cA : Nat → ClassId) (q aK aV : Nat → Nat) (hq : injG 167 q) {a1 : Int32} {M M0 : Mem} {r0 : Int32} (h : f_X11_bearing a1 M = some (r0, M0)) : Met l yX11_bearing (.code yX11_bearing cX11_bearing 5 (some .int) :: BW) ({ frames := 3, cells := 0, slots := 0, locals := 56 } : Room) (va_Pc [.ref (q 0), .int a1] (CB 167 (ceC cA q) D cA q aK aV M)) (Qi 167 (ceC cA q) D q r0 M0) 0 0 (AqG 167 q) := by
  refine gMet RX11 (by decide +kernel) rfl hq (Nat.le_of_ble_eq_true rfl) ?_
  intro p e s m below meth c ls X hr hk hP hS hl
  have hx := X.1
  have hb := X.2.1
  have hl : lv_has ls 5 [(0, .ref (q 0)), (1, .int a1)] := hl
  rw [f_X11_bearing] at h
  have hL32 : ∀ (b2 : Nat) (hb2 : shC b2 = 5) (fu : Nat) (b3 : Int32) (b4 : Int32) (M : Mem) (res : (Int32) × Mem) (H : Heap) (locs : List Loc) (ls : Array Slot), f_X11_bearing_L32 b2 fu b3 b4 M = some res → va_P D vwCl (wsG 167 (ceC cA q) q M) H → va_S (AqG 167 q) s.heap H locs → lv_has ls 5 [(0, .ref (q 0)), (2, .ref (q b2)), (3, .int b3), (4, .int b4)] → (∀ (H : Heap) (locs : List Loc) (ls : Array Slot), va_P D vwCl (wsG 167 (ceC cA q) q res.2) H → va_S (AqG 167 q) s.heap H locs → lv_has ls 5 [(0, .ref (q 0)), (3, .int (res.1))] → W p l e ({ frames := 3, cells := 0, slots := 0, locals := 56 } : Room) s m [.ref (q 0), .int a1].toArray below meth c H locs 0 0 (MQ below (Qi 167 (ceC cA q) D q r0 M0) [.ref (q 0), .int a1].toArray s 0 0 (AqG 167 q)) (F0 m 92 ls [])) → W p l e ({ frames := 3, cells := 0, slots := 0, locals := 56 } : Room) s m [.ref (q 0), .int a1].toArray below meth c H locs 0 0 (MQ below (Qi 167 (ceC cA q) D q r0 M0) [.ref (q 0), .int a1].toArray s 0 0 (AqG 167 q)) (F0 m 32 ls []) := by
    intro b2 hb2 fu
    induction fu with
    | zero => intro b3 b4 M res H locs ls h; exact absurd h (by simp [f_X11_bearing_L32])
    | succ fu ih =>
      intro b3 b4 M res H locs ls h hP hS hl K32_0
      rw [f_X11_bearing_L32] at h
      refine lv_iload hx hb dX11_bearing_32 (lv_at hl 3 rfl) ?_
      refine lv_aload_n hx hb dX11_bearing_34 rfl (lv_at hl 0 rfl) ?_
      refine gfC_11_0 X hP sC_0 bw_430 dX11_bearing_35 ?_
      obtain ⟨g21, h⟩ := gd_inv h
      have g21 := Decidable.not_not.mp g21
      refine lv_iconst (v := 2) hx hb dX11_bearing_38 (by decide) ?_
      obtain ⟨r22, M23, hc24, h⟩ := bnd_inv h
      refine gV_i (As := [.int (2 : Int32)]) X hP hS hl.1 (c_X0_countOf l D cA q aK aV hq g21 hc24) sf_X0_countOf bw_750 sv_X0_countOf (rcC_0 g21) rfl ⟨rfl, rfl⟩ ⟨Nat.le_of_ble_eq_true rfl, Nat.le_of_ble_eq_true rfl⟩ rfl rfl (Nat.le_of_ble_eq_true rfl) dX11_bearing_39 (fun H locs hP hS => ?_)
      refine lv_icmp_ge (tgt := 92) hx hb dX11_bearing_42 (by decide) (fun c25 => ?_) (fun c25 => ?_)
      · rw [if_pos c25] at h
        cases h
        exact K32_0 _ _ _ hP hS (lv_sub hl [0, 2] rfl)
      · rw [if_neg c25] at h
        refine lv_aload_n hx hb dX11_bearing_45 rfl (lv_at hl 0 rfl) ?_
        refine gfC_11_0 X hP sC_0 bw_430 dX11_bearing_46 ?_
        obtain ⟨g26, h⟩ := gd_inv h
        have g26 := Decidable.not_not.mp g26
        refine lv_iload hx hb dX11_bearing_49 (lv_at hl 3 rfl) ?_
        obtain ⟨r27, M28, hc29, h⟩ := bnd_inv h
        refine gV_r (As := [.int b4]) X hP hS hl.1 (c_X0_ruleAt l D cA q aK aV hq g26 hc29) sf_X0_ruleAt bw_843 sv_X0_ruleAt (rcC_0 g26) rfl ⟨rfl, rfl⟩ ⟨Nat.le_of_ble_eq_true rfl, Nat.le_of_ble_eq_true rfl⟩ rfl rfl (Nat.le_of_ble_eq_true rfl) dX11_bearing_51 (fun H locs hP hS => ?_)
        obtain ⟨g30, h⟩ := gd_inv h
        have g30 := Decidable.not_not.mp g30
        refine lv_aload_n hx hb dX11_bearing_54 rfl (lv_at hl 1 rfl) ?_
        refine gfC_5_0 X hP hb2 bw_114 dX11_bearing_55 ?_
        refine lv_aload_n hx hb dX11_bearing_58 rfl (lv_at hl 1 rfl) ?_
        refine gfC_5_1 X hP hb2 bw_119 dX11_bearing_59 ?_
        refine lv_aload_n hx hb dX11_bearing_62 rfl (lv_at hl 0 rfl) ?_
        refine gfC_11_0 X hP sC_0 bw_430 dX11_bearing_63 ?_
        obtain ⟨g31, h⟩ := gd_inv h
        have g31 := Decidable.not_not.mp g31
        refine gfC_0_12 X hP g31 bw_171 dX11_bearing_66 ?_
        refine lv_aload_n hx hb dX11_bearing_69 rfl (lv_at hl 1 rfl) ?_
        refine gfC_5_2 X hP hb2 bw_123 dX11_bearing_70 ?_
        obtain ⟨r32, M33, hc34, h⟩ := bnd_inv h
        refine gV_i (As := [.int (gI M28 b2 0), .int (gI M28 b2 1), .int (gI M28 (gR M28 0 0) 12), .int (gI M28 b2 2)]) X hP hS hl.1 (c_X6_bearsOn l D cA q aK aV hq g30 hc34) sf_X6_bearsOn bw_985 sv_X6_bearsOn (rcC_6 g30) rfl ⟨rfl, rfl⟩ ⟨Nat.le_of_ble_eq_true rfl, Nat.le_of_ble_eq_true rfl⟩ rfl rfl (Nat.le_of_ble_eq_true rfl) dX11_bearing_73 (fun H locs hP hS => ?_)
        refine lv_if_eq (tgt := 86) hx hb dX11_bearing_76 (by decide) (fun c35 => ?_) (fun c35 => ?_)
        · rw [if_pos c35] at h
          obtain ⟨y36, ey36, h⟩ := lt_inv h
          refine lv_iinc (v := y36) (lv' := [(4, .int y36), (0, .ref (q 0)), (2, .ref (q b2)), (3, .int b3)]) hx hb dX11_bearing_86 hl (k := 3) rfl (by rw [ey36]; rfl) (by decide) rfl (fun ls hl => ?_)
          refine lv_goto (tgt := 32) hx hb dX11_bearing_89 (by decide) ?_
          exact ih _ _ _ res _ _ _ h hP hS (lv_sub hl [1, 2, 3, 0] rfl) K32_0
        · rw [if_neg c35] at h
          refine lv_iload_n hx hb dX11_bearing_79 rfl (lv_at hl 2 rfl) ?_
          refine lv_iconst (v := 1) hx hb dX11_bearing_80 (by decide) ?_
          refine lv_iload hx hb dX11_bearing_81 (lv_at hl 3 rfl) ?_
          refine lv_ishl hx hb dX11_bearing_83 ?_
          refine lv_ior hx hb dX11_bearing_84 ?_
          obtain ⟨y37, ey37, h⟩ := lt_inv h
          refine topE ey37 ?_
          refine lv_istore_n (lv' := [(3, .int y37), (0, .ref (q 0)), (2, .ref (q b2)), (4, .int b4)]) hx hb dX11_bearing_85 rfl hl (by decide) rfl (fun ls hl => ?_)
          obtain ⟨y38, ey38, h⟩ := lt_inv h
          refine lv_iinc (v := y38) (lv' := [(4, .int y38), (3, .int y37), (0, .ref (q 0)), (2, .ref (q b2))]) hx hb dX11_bearing_86 hl (k := 3) rfl (by rw [ey38]; rfl) (by decide) rfl (fun ls hl => ?_)
          refine lv_goto (tgt := 32) hx hb dX11_bearing_89 (by decide) ?_
          exact ih _ _ _ res _ _ _ h hP hS (lv_sub hl [2, 3, 1, 0] rfl) K32_0
  refine lv_aload_n hx hb dX11_bearing_0 rfl (lv_at hl 0 rfl) ?_
  refine gfC_11_0 X hP sC_0 bw_430 dX11_bearing_1 ?_
  obtain ⟨g1, h⟩ := gd_inv h
  have g1 := Decidable.not_not.mp g1
  refine lv_iconst (v := 3) hx hb dX11_bearing_4 (by decide) ?_
  refine lv_iload_n hx hb dX11_bearing_5 rfl (lv_at hl 1 rfl) ?_
  obtain ⟨r2, M3, hc4, h⟩ := bnd_inv h
  refine gV_i (As := [.int (3 : Int32), .int a1]) X hP hS hl.1 (c_X0_has l D cA q aK aV hq g1 hc4) sf_X0_has bw_830 sv_X0_has (rcC_0 g1) rfl ⟨rfl, rfl⟩ ⟨Nat.le_of_ble_eq_true rfl, Nat.le_of_ble_eq_true rfl⟩ rfl rfl (Nat.le_of_ble_eq_true rfl) dX11_bearing_6 (fun H locs hP hS => ?_)
  refine lv_if_ne (tgt := 18) hx hb dX11_bearing_9 (by decide) (fun c5 => ?_) (fun c5 => ?_)
  · rw [if_neg c5] at h
    refine lv_aload_n hx hb dX11_bearing_18 rfl (lv_at hl 0 rfl) ?_
    refine gfC_11_0 X hP sC_0 bw_430 dX11_bearing_19 ?_
    obtain ⟨g6, h⟩ := gd_inv h
    have g6 := Decidable.not_not.mp g6
    refine lv_iload_n hx hb dX11_bearing_22 rfl (lv_at hl 1 rfl) ?_
    obtain ⟨r7, M8, hc9, h⟩ := bnd_inv h
    refine gV_r (As := [.int a1]) X hP hS hl.1 (c_X0_personAt l D cA q aK aV hq g6 hc9) sf_X0_personAt bw_852 sv_X0_personAt (rcC_0 g6) rfl ⟨rfl, rfl⟩ ⟨Nat.le_of_ble_eq_true rfl, Nat.le_of_ble_eq_true rfl⟩ rfl rfl (Nat.le_of_ble_eq_true rfl) dX11_bearing_23 (fun H locs hP hS => ?_)
    obtain ⟨g10, h⟩ := gd_inv h
    have g10 := Decidable.not_not.mp g10
    refine lv_astore_n (lv' := [(2, .ref (q r7)), (0, .ref (q 0)), (1, .int a1)]) hx hb dX11_bearing_26 rfl hl (by decide) rfl (fun ls hl => ?_)
    refine lv_iconst (v := 0) hx hb dX11_bearing_27 (by decide) ?_
    refine lv_istore_n (lv' := [(3, .int (0 : Int32)), (2, .ref (q r7)), (0, .ref (q 0)), (1, .int a1)]) hx hb dX11_bearing_28 rfl hl (by decide) rfl (fun ls hl => ?_)
    refine lv_iconst (v := 0) hx hb dX11_bearing_29 (by decide) ?_
    refine lv_istore (lv' := [(4, .int (0 : Int32)), (3, .int (0 : Int32)), (2, .ref (q r7)), (0, .ref (q 0)), (1, .int a1)]) hx hb dX11_bearing_30 hl (by decide) rfl (fun ls hl => ?_)
    obtain ⟨s11, M12, hc13, h⟩ := bnd_inv h
    obtain ⟨x14, rfl⟩ : ∃ z, z = s11 := ⟨_, rfl⟩
    try dsimp only at h
    refine hL32 _ g10 fz _ _ _ _ _ _ _ hc13 hP hS (lv_sub hl [3, 2, 1, 0] rfl) (fun H locs ls hP hS hl => ?_)
    have hl : lv_has ls 5 [(0, .ref (q 0)), (3, .int x14)] := hl
    refine lv_aload_n hx hb dX11_bearing_92 rfl (lv_at hl 0 rfl) ?_
    refine lv_iload_n hx hb dX11_bearing_93 rfl (lv_at hl 1 rfl) ?_
    obtain ⟨r15, M16, hc17, h⟩ := bnd_inv h
    refine gV_i (As := [.int x14]) X hP hS hl.1 (c_X11_given l D cA q aK aV hq hc17) sf_X11_given bw_755 sv_X11_given (rcC_11 sC_0) rfl ⟨rfl, rfl⟩ ⟨Nat.le_of_ble_eq_true rfl, Nat.le_of_ble_eq_true rfl⟩ rfl rfl (Nat.le_of_ble_eq_true rfl) dX11_bearing_94 (fun H locs hP hS => ?_)
    exact end_i X hr hk hP hS h dX11_bearing_97
  · rw [if_pos c5] at h
    refine lv_aload_n hx hb dX11_bearing_12 rfl (lv_at hl 0 rfl) ?_
    refine lv_iconst (v := 1) hx hb dX11_bearing_13 (by decide) ?_
    obtain ⟨r18, M19, hc20, h⟩ := bnd_inv h
    refine gV_i (As := [.int (1 : Int32)]) X hP hS hl.1 (c_X11_refused l D cA q aK aV hq hc20) sf_X11_refused bw_552 sv_X11_refused (rcC_11 sC_0) rfl ⟨rfl, rfl⟩ ⟨Nat.le_of_ble_eq_true rfl, Nat.le_of_ble_eq_true rfl⟩ rfl rfl (Nat.le_of_ble_eq_true rfl) dX11_bearing_14 (fun H locs hP hS => ?_)
    exact end_i X hr hk hP hS h dX11_bearing_17
theorem dX11_shown_0 : decode cX11_shown 0 = .ok (.aload_n 0, 1) := by decide +kernel
theorem dX11_shown_1 : decode cX11_shown 1 = .ok (.getfield 10, 3) := by decide +kernel
theorem dX11_shown_4 : decode cX11_shown 4 = .ok (.iconst 1, 1) := by decide +kernel
theorem dX11_shown_5 : decode cX11_shown 5 = .ok (.iload_n 1, 1) := by decide +kernel
theorem dX11_shown_6 : decode cX11_shown 6 = .ok (.invokevirtual 213, 3) := by decide +kernel
theorem dX11_shown_9 : decode cX11_shown 9 = .ok (.ifCond .ne 9, 3) := by decide +kernel
theorem dX11_shown_12 : decode cX11_shown 12 = .ok (.aload_n 0, 1) := by decide +kernel
theorem dX11_shown_13 : decode cX11_shown 13 = .ok (.iconst 1, 1) := by decide +kernel
theorem dX11_shown_14 : decode cX11_shown 14 = .ok (.invokevirtual 132, 3) := by decide +kernel
theorem dX11_shown_17 : decode cX11_shown 17 = .ok (.ireturn, 1) := by decide +kernel
theorem dX11_shown_18 : decode cX11_shown 18 = .ok (.iconst 0, 1) := by decide +kernel
theorem dX11_shown_19 : decode cX11_shown 19 = .ok (.istore_n 2, 1) := by decide +kernel
theorem dX11_shown_20 : decode cX11_shown 20 = .ok (.iconst 0, 1) := by decide +kernel
theorem dX11_shown_21 : decode cX11_shown 21 = .ok (.istore_n 3, 1) := by decide +kernel
theorem dX11_shown_22 : decode cX11_shown 22 = .ok (.iload_n 3, 1) := by decide +kernel
theorem dX11_shown_23 : decode cX11_shown 23 = .ok (.aload_n 0, 1) := by decide +kernel
theorem dX11_shown_24 : decode cX11_shown 24 = .ok (.getfield 10, 3) := by decide +kernel
theorem dX11_shown_27 : decode cX11_shown 27 = .ok (.iconst 3, 1) := by decide +kernel
theorem dX11_shown_28 : decode cX11_shown 28 = .ok (.invokevirtual 167, 3) := by decide +kernel
theorem dX11_shown_31 : decode cX11_shown 31 = .ok (.if_icmp .ge 34, 3) := by decide +kernel
theorem dX11_shown_34 : decode cX11_shown 34 = .ok (.aload_n 0, 1) := by decide +kernel
theorem dX11_shown_35 : decode cX11_shown 35 = .ok (.getfield 10, 3) := by decide +kernel
theorem dX11_shown_38 : decode cX11_shown 38 = .ok (.iload_n 3, 1) := by decide +kernel
theorem dX11_shown_39 : decode cX11_shown 39 = .ok (.aload_n 0, 1) := by decide +kernel
theorem dX11_shown_40 : decode cX11_shown 40 = .ok (.getfield 10, 3) := by decide +kernel
theorem dX11_shown_43 : decode cX11_shown 43 = .ok (.getfield 194, 3) := by decide +kernel
theorem dX11_shown_46 : decode cX11_shown 46 = .ok (.invokevirtual 313, 3) := by decide +kernel
theorem dX11_shown_49 : decode cX11_shown 49 = .ok (.iload_n 1, 1) := by decide +kernel
theorem dX11_shown_50 : decode cX11_shown 50 = .ok (.if_icmp .ne 9, 3) := by decide +kernel
theorem dX11_shown_53 : decode cX11_shown 53 = .ok (.iload_n 2, 1) := by decide +kernel
theorem dX11_shown_54 : decode cX11_shown 54 = .ok (.iconst 1, 1) := by decide +kernel
theorem dX11_shown_55 : decode cX11_shown 55 = .ok (.iload_n 3, 1) := by decide +kernel
theorem dX11_shown_56 : decode cX11_shown 56 = .ok (.ishl, 1) := by decide +kernel
theorem dX11_shown_57 : decode cX11_shown 57 = .ok (.ior, 1) := by decide +kernel
theorem dX11_shown_58 : decode cX11_shown 58 = .ok (.istore_n 2, 1) := by decide +kernel
theorem dX11_shown_59 : decode cX11_shown 59 = .ok (.iinc 3 1, 3) := by decide +kernel
theorem dX11_shown_62 : decode cX11_shown 62 = .ok (.goto (-40), 3) := by decide +kernel
theorem dX11_shown_65 : decode cX11_shown 65 = .ok (.aload_n 0, 1) := by decide +kernel
theorem dX11_shown_66 : decode cX11_shown 66 = .ok (.iload_n 2, 1) := by decide +kernel
theorem dX11_shown_67 : decode cX11_shown 67 = .ok (.invokevirtual 191, 3) := by decide +kernel
theorem dX11_shown_70 : decode cX11_shown 70 = .ok (.ireturn, 1) := by decide +kernel
set_option maxRecDepth 100000 in
set_option maxHeartbeats 8000000 in
theorem c_X11_shown (l : Launch) (D : va_G) (cA : Nat → ClassId) (q aK aV : Nat → Nat) (hq : injG 167 q) {a1 : Int32} {M M0 : Mem} {r0 : Int32} (h : f_X11_shown a1 M = some (r0, M0)) : Met l yX11_shown (.code yX11_shown cX11_shown 4 (some .int) :: BW) ({ frames := 4, cells := 0, slots := 0, locals := 89 } : Room) (va_Pc [.ref (q 0), .int a1] (CB 167 (ceC cA q) D cA q aK aV M)) (Qi 167 (ceC cA q) D q r0 M0) 0 0 (AqG 167 q) := by
  refine gMet RX11 (by decide +kernel) rfl hq (Nat.le_of_ble_eq_true rfl) ?_
  intro p e s m below meth c ls X hr hk hP hS hl
  have hx := X.1
  have hb := X.2.1
  have hl : lv_has ls 4 [(0, .ref (q 0)), (1, .int a1)] := hl
  rw [f_X11_shown] at h
  have hL22 : ∀ (fu : Nat) (b2 : Int32) (b3 : Int32) (M : Mem) (res : (Int32) × Mem) (H : Heap) (locs : List Loc) (ls : Array Slot), f_X11_shown_L22 a1 fu b2 b3 M = some res → va_P D vwCl (wsG 167 (ceC cA q) q M) H → va_S (AqG 167 q) s.heap H locs → lv_has ls 4 [(0, .ref (q 0)), (1, .int a1), (2, .int b2), (3, .int b3)] → (∀ (H : Heap) (locs : List Loc) (ls : Array Slot), va_P D vwCl (wsG 167 (ceC cA q) q res.2) H → va_S (AqG 167 q) s.heap H locs → lv_has ls 4 [(0, .ref (q 0)), (2, .int (res.1))] → W p l e ({ frames := 4, cells := 0, slots := 0, locals := 89 } : Room) s m [.ref (q 0), .int a1].toArray below meth c H locs 0 0 (MQ below (Qi 167 (ceC cA q) D q r0 M0) [.ref (q 0), .int a1].toArray s 0 0 (AqG 167 q)) (F0 m 65 ls [])) → W p l e ({ frames := 4, cells := 0, slots := 0, locals := 89 } : Room) s m [.ref (q 0), .int a1].toArray below meth c H locs 0 0 (MQ below (Qi 167 (ceC cA q) D q r0 M0) [.ref (q 0), .int a1].toArray s 0 0 (AqG 167 q)) (F0 m 22 ls []) := by
    intro fu
    induction fu with
    | zero => intro b2 b3 M res H locs ls h; exact absurd h (by simp [f_X11_shown_L22])
    | succ fu ih =>
      intro b2 b3 M res H locs ls h hP hS hl K22_0
      rw [f_X11_shown_L22] at h
      refine lv_iload_n hx hb dX11_shown_22 rfl (lv_at hl 3 rfl) ?_
      refine lv_aload_n hx hb dX11_shown_23 rfl (lv_at hl 0 rfl) ?_
      refine gfC_11_0 X hP sC_0 bw_430 dX11_shown_24 ?_
      obtain ⟨g16, h⟩ := gd_inv h
      have g16 := Decidable.not_not.mp g16
      refine lv_iconst (v := 3) hx hb dX11_shown_27 (by decide) ?_
      obtain ⟨r17, M18, hc19, h⟩ := bnd_inv h
      refine gV_i (As := [.int (3 : Int32)]) X hP hS hl.1 (c_X0_countOf l D cA q aK aV hq g16 hc19) sf_X0_countOf bw_750 sv_X0_countOf (rcC_0 g16) rfl ⟨rfl, rfl⟩ ⟨Nat.le_of_ble_eq_true rfl, Nat.le_of_ble_eq_true rfl⟩ rfl rfl (Nat.le_of_ble_eq_true rfl) dX11_shown_28 (fun H locs hP hS => ?_)
      refine lv_icmp_ge (tgt := 65) hx hb dX11_shown_31 (by decide) (fun c20 => ?_) (fun c20 => ?_)
      · rw [if_pos c20] at h
        cases h
        exact K22_0 _ _ _ hP hS (lv_sub hl [0, 2] rfl)
      · rw [if_neg c20] at h
        refine lv_aload_n hx hb dX11_shown_34 rfl (lv_at hl 0 rfl) ?_
        refine gfC_11_0 X hP sC_0 bw_430 dX11_shown_35 ?_
        obtain ⟨g21, h⟩ := gd_inv h
        have g21 := Decidable.not_not.mp g21
        refine lv_iload_n hx hb dX11_shown_38 rfl (lv_at hl 3 rfl) ?_
        refine lv_aload_n hx hb dX11_shown_39 rfl (lv_at hl 0 rfl) ?_
        refine gfC_11_0 X hP sC_0 bw_430 dX11_shown_40 ?_
        obtain ⟨g22, h⟩ := gd_inv h
        have g22 := Decidable.not_not.mp g22
        refine gfC_0_12 X hP g22 bw_171 dX11_shown_43 ?_
        obtain ⟨r23, M24, hc25, h⟩ := bnd_inv h
        refine gV_i (As := [.int b3, .int (gI M18 (gR M18 0 0) 12)]) X hP hS hl.1 (c_X0_cueBefore l D cA q aK aV hq g21 hc25) sf_X0_cueBefore bw_974 sv_X0_cueBefore (rcC_0 g21) rfl ⟨rfl, rfl⟩ ⟨Nat.le_of_ble_eq_true rfl, Nat.le_of_ble_eq_true rfl⟩ rfl rfl (Nat.le_of_ble_eq_true rfl) dX11_shown_46 (fun H locs hP hS => ?_)
        refine lv_iload_n hx hb dX11_shown_49 rfl (lv_at hl 1 rfl) ?_
        refine lv_icmp_ne (tgt := 59) hx hb dX11_shown_50 (by decide) (fun c26 => ?_) (fun c26 => ?_)
        · rw [if_neg c26] at h
          obtain ⟨y27, ey27, h⟩ := lt_inv h
          refine lv_iinc (v := y27) (lv' := [(3, .int y27), (0, .ref (q 0)), (1, .int a1), (2, .int b2)]) hx hb dX11_shown_59 hl (k := 3) rfl (by rw [ey27]; rfl) (by decide) rfl (fun ls hl => ?_)
          refine lv_goto (tgt := 22) hx hb dX11_shown_62 (by decide) ?_
          exact ih _ _ _ res _ _ _ h hP hS (lv_sub hl [1, 2, 3, 0] rfl) K22_0
        · rw [if_pos c26] at h
          refine lv_iload_n hx hb dX11_shown_53 rfl (lv_at hl 2 rfl) ?_
          refine lv_iconst (v := 1) hx hb dX11_shown_54 (by decide) ?_
          refine lv_iload_n hx hb dX11_shown_55 rfl (lv_at hl 3 rfl) ?_
          refine lv_ishl hx hb dX11_shown_56 ?_
          refine lv_ior hx hb dX11_shown_57 ?_
          obtain ⟨y28, ey28, h⟩ := lt_inv h
          refine topE ey28 ?_
          refine lv_istore_n (lv' := [(2, .int y28), (0, .ref (q 0)), (1, .int a1), (3, .int b3)]) hx hb dX11_shown_58 rfl hl (by decide) rfl (fun ls hl => ?_)
          obtain ⟨y29, ey29, h⟩ := lt_inv h
          refine lv_iinc (v := y29) (lv' := [(3, .int y29), (2, .int y28), (0, .ref (q 0)), (1, .int a1)]) hx hb dX11_shown_59 hl (k := 3) rfl (by rw [ey29]; rfl) (by decide) rfl (fun ls hl => ?_)
          refine lv_goto (tgt := 22) hx hb dX11_shown_62 (by decide) ?_
          exact ih _ _ _ res _ _ _ h hP hS (lv_sub hl [2, 3, 1, 0] rfl) K22_0
  refine lv_aload_n hx hb dX11_shown_0 rfl (lv_at hl 0 rfl) ?_
  refine gfC_11_0 X hP sC_0 bw_430 dX11_shown_1 ?_
  obtain ⟨g1, h⟩ := gd_inv h
  have g1 := Decidable.not_not.mp g1
  refine lv_iconst (v := 1) hx hb dX11_shown_4 (by decide) ?_
  refine lv_iload_n hx hb dX11_shown_5 rfl (lv_at hl 1 rfl) ?_
  obtain ⟨r2, M3, hc4, h⟩ := bnd_inv h
  refine gV_i (As := [.int (1 : Int32), .int a1]) X hP hS hl.1 (c_X0_has l D cA q aK aV hq g1 hc4) sf_X0_has bw_830 sv_X0_has (rcC_0 g1) rfl ⟨rfl, rfl⟩ ⟨Nat.le_of_ble_eq_true rfl, Nat.le_of_ble_eq_true rfl⟩ rfl rfl (Nat.le_of_ble_eq_true rfl) dX11_shown_6 (fun H locs hP hS => ?_)
  refine lv_if_ne (tgt := 18) hx hb dX11_shown_9 (by decide) (fun c5 => ?_) (fun c5 => ?_)
  · rw [if_neg c5] at h
    refine lv_iconst (v := 0) hx hb dX11_shown_18 (by decide) ?_
    refine lv_istore_n (lv' := [(2, .int (0 : Int32)), (0, .ref (q 0)), (1, .int a1)]) hx hb dX11_shown_19 rfl hl (by decide) rfl (fun ls hl => ?_)
    refine lv_iconst (v := 0) hx hb dX11_shown_20 (by decide) ?_
    refine lv_istore_n (lv' := [(3, .int (0 : Int32)), (2, .int (0 : Int32)), (0, .ref (q 0)), (1, .int a1)]) hx hb dX11_shown_21 rfl hl (by decide) rfl (fun ls hl => ?_)
    obtain ⟨s6, M7, hc8, h⟩ := bnd_inv h
    obtain ⟨x9, rfl⟩ : ∃ z, z = s6 := ⟨_, rfl⟩
    try dsimp only at h
    refine hL22  fz _ _ _ _ _ _ _ hc8 hP hS (lv_sub hl [2, 3, 1, 0] rfl) (fun H locs ls hP hS hl => ?_)
    have hl : lv_has ls 4 [(0, .ref (q 0)), (2, .int x9)] := hl
    refine lv_aload_n hx hb dX11_shown_65 rfl (lv_at hl 0 rfl) ?_
    refine lv_iload_n hx hb dX11_shown_66 rfl (lv_at hl 1 rfl) ?_
    obtain ⟨r10, M11, hc12, h⟩ := bnd_inv h
    refine gV_i (As := [.int x9]) X hP hS hl.1 (c_X11_given l D cA q aK aV hq hc12) sf_X11_given bw_755 sv_X11_given (rcC_11 sC_0) rfl ⟨rfl, rfl⟩ ⟨Nat.le_of_ble_eq_true rfl, Nat.le_of_ble_eq_true rfl⟩ rfl rfl (Nat.le_of_ble_eq_true rfl) dX11_shown_67 (fun H locs hP hS => ?_)
    exact end_i X hr hk hP hS h dX11_shown_70
  · rw [if_pos c5] at h
    refine lv_aload_n hx hb dX11_shown_12 rfl (lv_at hl 0 rfl) ?_
    refine lv_iconst (v := 1) hx hb dX11_shown_13 (by decide) ?_
    obtain ⟨r13, M14, hc15, h⟩ := bnd_inv h
    refine gV_i (As := [.int (1 : Int32)]) X hP hS hl.1 (c_X11_refused l D cA q aK aV hq hc15) sf_X11_refused bw_552 sv_X11_refused (rcC_11 sC_0) rfl ⟨rfl, rfl⟩ ⟨Nat.le_of_ble_eq_true rfl, Nat.le_of_ble_eq_true rfl⟩ rfl rfl (Nat.le_of_ble_eq_true rfl) dX11_shown_14 (fun H locs hP hS => ?_)
    exact end_i X hr hk hP hS h dX11_shown_17
theorem dX5_copyFrom_0 : decode cX5_copyFrom 0 = .ok (.aload_n 0, 1) := by decide +kernel
theorem dX5_copyFrom_1 : decode cX5_copyFrom 1 = .ok (.aload_n 1, 1) := by decide +kernel
theorem dX5_copyFrom_2 : decode cX5_copyFrom 2 = .ok (.getfield 9, 3) := by decide +kernel
theorem dX5_copyFrom_5 : decode cX5_copyFrom 5 = .ok (.putfield 9, 3) := by decide +kernel
theorem dX5_copyFrom_8 : decode cX5_copyFrom 8 = .ok (.aload_n 0, 1) := by decide +kernel
theorem dX5_copyFrom_9 : decode cX5_copyFrom 9 = .ok (.aload_n 1, 1) := by decide +kernel
theorem dX5_copyFrom_10 : decode cX5_copyFrom 10 = .ok (.getfield 15, 3) := by decide +kernel
theorem dX5_copyFrom_13 : decode cX5_copyFrom 13 = .ok (.putfield 15, 3) := by decide +kernel
theorem dX5_copyFrom_16 : decode cX5_copyFrom 16 = .ok (.aload_n 0, 1) := by decide +kernel
theorem dX5_copyFrom_17 : decode cX5_copyFrom 17 = .ok (.aload_n 1, 1) := by decide +kernel
theorem dX5_copyFrom_18 : decode cX5_copyFrom 18 = .ok (.getfield 18, 3) := by decide +kernel
theorem dX5_copyFrom_21 : decode cX5_copyFrom 21 = .ok (.putfield 18, 3) := by decide +kernel
theorem dX5_copyFrom_24 : decode cX5_copyFrom 24 = .ok (.aload_n 0, 1) := by decide +kernel
theorem dX5_copyFrom_25 : decode cX5_copyFrom 25 = .ok (.aload_n 1, 1) := by decide +kernel
theorem dX5_copyFrom_26 : decode cX5_copyFrom 26 = .ok (.getfield 21, 3) := by decide +kernel
theorem dX5_copyFrom_29 : decode cX5_copyFrom 29 = .ok (.putfield 21, 3) := by decide +kernel
theorem dX5_copyFrom_32 : decode cX5_copyFrom 32 = .ok (.aload_n 0, 1) := by decide +kernel
theorem dX5_copyFrom_33 : decode cX5_copyFrom 33 = .ok (.aload_n 1, 1) := by decide +kernel
theorem dX5_copyFrom_34 : decode cX5_copyFrom 34 = .ok (.getfield 24, 3) := by decide +kernel
theorem dX5_copyFrom_37 : decode cX5_copyFrom 37 = .ok (.putfield 24, 3) := by decide +kernel
theorem dX5_copyFrom_40 : decode cX5_copyFrom 40 = .ok (.return_, 1) := by decide +kernel
set_option maxRecDepth 100000 in
set_option maxHeartbeats 8000000 in
theorem c_X5_copyFrom (l : Launch) (D : va_G) (cA : Nat → ClassId) (q aK aV : Nat → Nat) (hq : injG 167 q) {a0 : Nat} {a1 : Nat} {M M0 : Mem} (h0 : shC a0 = 5) (h1 : shC a1 = 5) (h : f_X5_copyFrom a0 a1 M = some ((), M0)) : Met l yX5_copyFrom (.code yX5_copyFrom cX5_copyFrom 2 none :: BW) ({ frames := 1, cells := 0, slots := 0, locals := 13 } : Room) (va_Pc [.ref (q a0), .ref (q a1)] (CB 167 (ceC cA q) D cA q aK aV M)) (Qv 167 (ceC cA q) D q M0) 0 0 (AqG 167 q) := by
  refine gMet RX5 (by decide +kernel) rfl hq (Nat.le_of_ble_eq_true rfl) ?_
  intro p e s m below meth c ls X hr hk hP hS hl
  have hx := X.1
  have hb := X.2.1
  have hl : lv_has ls 2 [(0, .ref (q a0)), (1, .ref (q a1))] := hl
  rw [f_X5_copyFrom] at h
  refine lv_aload_n hx hb dX5_copyFrom_0 rfl (lv_at hl 0 rfl) ?_
  refine lv_aload_n hx hb dX5_copyFrom_1 rfl (lv_at hl 1 rfl) ?_
  refine gfC_5_0 X hP h1 bw_111 dX5_copyFrom_2 ?_
  obtain ⟨M1, eM1, h⟩ := lt_inv h
  refine pfC_5_0 X hP hS h0 bw_111 eM1 dX5_copyFrom_5 (fun H locs hP hS => ?_)
  refine lv_aload_n hx hb dX5_copyFrom_8 rfl (lv_at hl 0 rfl) ?_
  refine lv_aload_n hx hb dX5_copyFrom_9 rfl (lv_at hl 1 rfl) ?_
  refine gfC_5_1 X hP h1 bw_115 dX5_copyFrom_10 ?_
  obtain ⟨M2, eM2, h⟩ := lt_inv h
  refine pfC_5_1 X hP hS h0 bw_115 eM2 dX5_copyFrom_13 (fun H locs hP hS => ?_)
  refine lv_aload_n hx hb dX5_copyFrom_16 rfl (lv_at hl 0 rfl) ?_
  refine lv_aload_n hx hb dX5_copyFrom_17 rfl (lv_at hl 1 rfl) ?_
  refine gfC_5_2 X hP h1 bw_120 dX5_copyFrom_18 ?_
  obtain ⟨M3, eM3, h⟩ := lt_inv h
  refine pfC_5_2 X hP hS h0 bw_120 eM3 dX5_copyFrom_21 (fun H locs hP hS => ?_)
  refine lv_aload_n hx hb dX5_copyFrom_24 rfl (lv_at hl 0 rfl) ?_
  refine lv_aload_n hx hb dX5_copyFrom_25 rfl (lv_at hl 1 rfl) ?_
  refine gfC_5_3 X hP h1 bw_125 dX5_copyFrom_26 ?_
  obtain ⟨M4, eM4, h⟩ := lt_inv h
  refine pfC_5_3 X hP hS h0 bw_125 eM4 dX5_copyFrom_29 (fun H locs hP hS => ?_)
  refine lv_aload_n hx hb dX5_copyFrom_32 rfl (lv_at hl 0 rfl) ?_
  refine lv_aload_n hx hb dX5_copyFrom_33 rfl (lv_at hl 1 rfl) ?_
  refine gfC_5_4 X hP h1 bw_129 dX5_copyFrom_34 ?_
  obtain ⟨M5, eM5, h⟩ := lt_inv h
  refine pfC_5_4 X hP hS h0 bw_129 eM5 dX5_copyFrom_37 (fun H locs hP hS => ?_)
  exact end_v X hr hk hP hS h dX5_copyFrom_40
theorem dX0_copyFrom_0 : decode cX0_copyFrom 0 = .ok (.aload_n 1, 1) := by decide +kernel
theorem dX0_copyFrom_1 : decode cX0_copyFrom 1 = .ok (.getfield 9, 3) := by decide +kernel
theorem dX0_copyFrom_4 : decode cX0_copyFrom 4 = .ok (.aload_n 0, 1) := by decide +kernel
theorem dX0_copyFrom_5 : decode cX0_copyFrom 5 = .ok (.getfield 9, 3) := by decide +kernel
theorem dX0_copyFrom_8 : decode cX0_copyFrom 8 = .ok (.invokestatic 73, 3) := by decide +kernel
theorem dX0_copyFrom_11 : decode cX0_copyFrom 11 = .ok (.iconst 0, 1) := by decide +kernel
theorem dX0_copyFrom_12 : decode cX0_copyFrom 12 = .ok (.istore_n 2, 1) := by decide +kernel
theorem dX0_copyFrom_13 : decode cX0_copyFrom 13 = .ok (.iload_n 2, 1) := by decide +kernel
theorem dX0_copyFrom_14 : decode cX0_copyFrom 14 = .ok (.aload_n 0, 1) := by decide +kernel
theorem dX0_copyFrom_15 : decode cX0_copyFrom 15 = .ok (.getfield 15, 3) := by decide +kernel
theorem dX0_copyFrom_18 : decode cX0_copyFrom 18 = .ok (.arraylength, 1) := by decide +kernel
theorem dX0_copyFrom_19 : decode cX0_copyFrom 19 = .ok (.if_icmp .ge 30, 3) := by decide +kernel
theorem dX0_copyFrom_22 : decode cX0_copyFrom 22 = .ok (.iload_n 2, 1) := by decide +kernel
theorem dX0_copyFrom_23 : decode cX0_copyFrom 23 = .ok (.aload_n 1, 1) := by decide +kernel
theorem dX0_copyFrom_24 : decode cX0_copyFrom 24 = .ok (.getfield 15, 3) := by decide +kernel
theorem dX0_copyFrom_27 : decode cX0_copyFrom 27 = .ok (.arraylength, 1) := by decide +kernel
theorem dX0_copyFrom_28 : decode cX0_copyFrom 28 = .ok (.if_icmp .ge 21, 3) := by decide +kernel
theorem dX0_copyFrom_31 : decode cX0_copyFrom 31 = .ok (.aload_n 0, 1) := by decide +kernel
theorem dX0_copyFrom_32 : decode cX0_copyFrom 32 = .ok (.getfield 15, 3) := by decide +kernel
theorem dX0_copyFrom_35 : decode cX0_copyFrom 35 = .ok (.iload_n 2, 1) := by decide +kernel
theorem dX0_copyFrom_36 : decode cX0_copyFrom 36 = .ok (.aload_n 1, 1) := by decide +kernel
theorem dX0_copyFrom_37 : decode cX0_copyFrom 37 = .ok (.getfield 15, 3) := by decide +kernel
theorem dX0_copyFrom_40 : decode cX0_copyFrom 40 = .ok (.iload_n 2, 1) := by decide +kernel
theorem dX0_copyFrom_41 : decode cX0_copyFrom 41 = .ok (.laload, 1) := by decide +kernel
theorem dX0_copyFrom_42 : decode cX0_copyFrom 42 = .ok (.lastore, 1) := by decide +kernel
theorem dX0_copyFrom_43 : decode cX0_copyFrom 43 = .ok (.iinc 2 1, 3) := by decide +kernel
theorem dX0_copyFrom_46 : decode cX0_copyFrom 46 = .ok (.goto (-33), 3) := by decide +kernel
theorem dX0_copyFrom_49 : decode cX0_copyFrom 49 = .ok (.aload_n 1, 1) := by decide +kernel
theorem dX0_copyFrom_50 : decode cX0_copyFrom 50 = .ok (.getfield 19, 3) := by decide +kernel
theorem dX0_copyFrom_53 : decode cX0_copyFrom 53 = .ok (.aload_n 0, 1) := by decide +kernel
theorem dX0_copyFrom_54 : decode cX0_copyFrom 54 = .ok (.getfield 19, 3) := by decide +kernel
theorem dX0_copyFrom_57 : decode cX0_copyFrom 57 = .ok (.invokestatic 73, 3) := by decide +kernel
theorem dX0_copyFrom_60 : decode cX0_copyFrom 60 = .ok (.iconst 0, 1) := by decide +kernel
theorem dX0_copyFrom_61 : decode cX0_copyFrom 61 = .ok (.istore_n 2, 1) := by decide +kernel
theorem dX0_copyFrom_62 : decode cX0_copyFrom 62 = .ok (.iload_n 2, 1) := by decide +kernel
theorem dX0_copyFrom_63 : decode cX0_copyFrom 63 = .ok (.aload_n 0, 1) := by decide +kernel
theorem dX0_copyFrom_64 : decode cX0_copyFrom 64 = .ok (.iconst 2, 1) := by decide +kernel
theorem dX0_copyFrom_65 : decode cX0_copyFrom 65 = .ok (.invokevirtual 77, 3) := by decide +kernel
theorem dX0_copyFrom_68 : decode cX0_copyFrom 68 = .ok (.if_icmp .ge 22, 3) := by decide +kernel
theorem dX0_copyFrom_71 : decode cX0_copyFrom 71 = .ok (.aload_n 0, 1) := by decide +kernel
theorem dX0_copyFrom_72 : decode cX0_copyFrom 72 = .ok (.iload_n 2, 1) := by decide +kernel
theorem dX0_copyFrom_73 : decode cX0_copyFrom 73 = .ok (.invokevirtual 81, 3) := by decide +kernel
theorem dX0_copyFrom_76 : decode cX0_copyFrom 76 = .ok (.aload_n 1, 1) := by decide +kernel
theorem dX0_copyFrom_77 : decode cX0_copyFrom 77 = .ok (.iload_n 2, 1) := by decide +kernel
theorem dX0_copyFrom_78 : decode cX0_copyFrom 78 = .ok (.invokevirtual 81, 3) := by decide +kernel
theorem dX0_copyFrom_81 : decode cX0_copyFrom 81 = .ok (.invokevirtual 85, 3) := by decide +kernel
theorem dX0_copyFrom_84 : decode cX0_copyFrom 84 = .ok (.iinc 2 1, 3) := by decide +kernel
theorem dX0_copyFrom_87 : decode cX0_copyFrom 87 = .ok (.goto (-25), 3) := by decide +kernel
theorem dX0_copyFrom_90 : decode cX0_copyFrom 90 = .ok (.iconst 0, 1) := by decide +kernel
theorem dX0_copyFrom_91 : decode cX0_copyFrom 91 = .ok (.istore_n 2, 1) := by decide +kernel
theorem dX0_copyFrom_92 : decode cX0_copyFrom 92 = .ok (.iload_n 2, 1) := by decide +kernel
theorem dX0_copyFrom_93 : decode cX0_copyFrom 93 = .ok (.aload_n 0, 1) := by decide +kernel
theorem dX0_copyFrom_94 : decode cX0_copyFrom 94 = .ok (.iconst 3, 1) := by decide +kernel
theorem dX0_copyFrom_95 : decode cX0_copyFrom 95 = .ok (.invokevirtual 77, 3) := by decide +kernel
theorem dX0_copyFrom_98 : decode cX0_copyFrom 98 = .ok (.if_icmp .ge 22, 3) := by decide +kernel
theorem dX0_copyFrom_101 : decode cX0_copyFrom 101 = .ok (.aload_n 0, 1) := by decide +kernel
theorem dX0_copyFrom_102 : decode cX0_copyFrom 102 = .ok (.iload_n 2, 1) := by decide +kernel
theorem dX0_copyFrom_103 : decode cX0_copyFrom 103 = .ok (.invokevirtual 89, 3) := by decide +kernel
theorem dX0_copyFrom_106 : decode cX0_copyFrom 106 = .ok (.aload_n 1, 1) := by decide +kernel
theorem dX0_copyFrom_107 : decode cX0_copyFrom 107 = .ok (.iload_n 2, 1) := by decide +kernel
theorem dX0_copyFrom_108 : decode cX0_copyFrom 108 = .ok (.invokevirtual 89, 3) := by decide +kernel
theorem dX0_copyFrom_111 : decode cX0_copyFrom 111 = .ok (.invokevirtual 93, 3) := by decide +kernel
theorem dX0_copyFrom_114 : decode cX0_copyFrom 114 = .ok (.iinc 2 1, 3) := by decide +kernel
theorem dX0_copyFrom_117 : decode cX0_copyFrom 117 = .ok (.goto (-25), 3) := by decide +kernel
theorem dX0_copyFrom_120 : decode cX0_copyFrom 120 = .ok (.aload_n 1, 1) := by decide +kernel
theorem dX0_copyFrom_121 : decode cX0_copyFrom 121 = .ok (.getfield 34, 3) := by decide +kernel
theorem dX0_copyFrom_124 : decode cX0_copyFrom 124 = .ok (.aload_n 0, 1) := by decide +kernel
theorem dX0_copyFrom_125 : decode cX0_copyFrom 125 = .ok (.getfield 34, 3) := by decide +kernel
theorem dX0_copyFrom_128 : decode cX0_copyFrom 128 = .ok (.invokestatic 73, 3) := by decide +kernel
theorem dX0_copyFrom_131 : decode cX0_copyFrom 131 = .ok (.aload_n 1, 1) := by decide +kernel
theorem dX0_copyFrom_132 : decode cX0_copyFrom 132 = .ok (.getfield 37, 3) := by decide +kernel
theorem dX0_copyFrom_135 : decode cX0_copyFrom 135 = .ok (.aload_n 0, 1) := by decide +kernel
theorem dX0_copyFrom_136 : decode cX0_copyFrom 136 = .ok (.getfield 37, 3) := by decide +kernel
theorem dX0_copyFrom_139 : decode cX0_copyFrom 139 = .ok (.invokestatic 73, 3) := by decide +kernel
theorem dX0_copyFrom_142 : decode cX0_copyFrom 142 = .ok (.aload_n 1, 1) := by decide +kernel
theorem dX0_copyFrom_143 : decode cX0_copyFrom 143 = .ok (.getfield 40, 3) := by decide +kernel
theorem dX0_copyFrom_146 : decode cX0_copyFrom 146 = .ok (.aload_n 0, 1) := by decide +kernel
theorem dX0_copyFrom_147 : decode cX0_copyFrom 147 = .ok (.getfield 40, 3) := by decide +kernel
theorem dX0_copyFrom_150 : decode cX0_copyFrom 150 = .ok (.invokestatic 73, 3) := by decide +kernel
theorem dX0_copyFrom_153 : decode cX0_copyFrom 153 = .ok (.aload_n 1, 1) := by decide +kernel
theorem dX0_copyFrom_154 : decode cX0_copyFrom 154 = .ok (.getfield 43, 3) := by decide +kernel
theorem dX0_copyFrom_157 : decode cX0_copyFrom 157 = .ok (.aload_n 0, 1) := by decide +kernel
theorem dX0_copyFrom_158 : decode cX0_copyFrom 158 = .ok (.getfield 43, 3) := by decide +kernel
theorem dX0_copyFrom_161 : decode cX0_copyFrom 161 = .ok (.invokestatic 73, 3) := by decide +kernel
theorem dX0_copyFrom_164 : decode cX0_copyFrom 164 = .ok (.aload_n 0, 1) := by decide +kernel
theorem dX0_copyFrom_165 : decode cX0_copyFrom 165 = .ok (.getfield 49, 3) := by decide +kernel
theorem dX0_copyFrom_168 : decode cX0_copyFrom 168 = .ok (.aload_n 1, 1) := by decide +kernel
theorem dX0_copyFrom_169 : decode cX0_copyFrom 169 = .ok (.getfield 49, 3) := by decide +kernel
theorem dX0_copyFrom_172 : decode cX0_copyFrom 172 = .ok (.invokevirtual 96, 3) := by decide +kernel
theorem dX0_copyFrom_175 : decode cX0_copyFrom 175 = .ok (.aload_n 0, 1) := by decide +kernel
theorem dX0_copyFrom_176 : decode cX0_copyFrom 176 = .ok (.aload_n 1, 1) := by decide +kernel
theorem dX0_copyFrom_177 : decode cX0_copyFrom 177 = .ok (.getfield 63, 3) := by decide +kernel
theorem dX0_copyFrom_180 : decode cX0_copyFrom 180 = .ok (.putfield 63, 3) := by decide +kernel
theorem dX0_copyFrom_183 : decode cX0_copyFrom 183 = .ok (.aload_n 0, 1) := by decide +kernel
theorem dX0_copyFrom_184 : decode cX0_copyFrom 184 = .ok (.aload_n 1, 1) := by decide +kernel
theorem dX0_copyFrom_185 : decode cX0_copyFrom 185 = .ok (.getfield 67, 3) := by decide +kernel
theorem dX0_copyFrom_188 : decode cX0_copyFrom 188 = .ok (.putfield 67, 3) := by decide +kernel
theorem dX0_copyFrom_191 : decode cX0_copyFrom 191 = .ok (.return_, 1) := by decide +kernel
set_option maxRecDepth 100000 in
set_option maxHeartbeats 8000000 in
theorem c_X0_copyFrom (l : Launch) (D : va_G) (cA : Nat → ClassId) (q aK aV : Nat → Nat) (hq : injG 167 q) {a0 : Nat} {a1 : Nat} {M M0 : Mem} (h0 : shC a0 = 0) (h1 : shC a1 = 0) (h : f_X0_copyFrom a0 a1 M = some ((), M0)) : Met l yX0_copyFrom (.code yX0_copyFrom cX0_copyFrom 3 none :: BW) ({ frames := 3, cells := 0, slots := 0, locals := 57 } : Room) (va_Pc [.ref (q a0), .ref (q a1)] (CB 167 (ceC cA q) D cA q aK aV M)) (Qv 167 (ceC cA q) D q M0) 0 0 (AqG 167 q) := by
  refine gMet RX0 (by decide +kernel) rfl hq (Nat.le_of_ble_eq_true rfl) ?_
  intro p e s m below meth c ls X hr hk hP hS hl
  have hx := X.1
  have hb := X.2.1
  have hl : lv_has ls 3 [(0, .ref (q a0)), (1, .ref (q a1))] := hl
  rw [f_X0_copyFrom] at h
  have hL92 : ∀ (fu : Nat) (b2 : Int32) (M : Mem) (res : (Unit) × Mem) (H : Heap) (locs : List Loc) (ls : Array Slot), f_X0_copyFrom_L92 a0 a1 fu b2 M = some res → va_P D vwCl (wsG 167 (ceC cA q) q M) H → va_S (AqG 167 q) s.heap H locs → lv_has ls 3 [(0, .ref (q a0)), (1, .ref (q a1)), (2, .int b2)] → (∀ (H : Heap) (locs : List Loc) (ls : Array Slot), va_P D vwCl (wsG 167 (ceC cA q) q res.2) H → va_S (AqG 167 q) s.heap H locs → lv_has ls 3 [(0, .ref (q a0)), (1, .ref (q a1))] → W p l e ({ frames := 3, cells := 0, slots := 0, locals := 57 } : Room) s m [.ref (q a0), .ref (q a1)].toArray below meth c H locs 0 0 (MQ below (Qv 167 (ceC cA q) D q M0) [.ref (q a0), .ref (q a1)].toArray s 0 0 (AqG 167 q)) (F0 m 120 ls [])) → W p l e ({ frames := 3, cells := 0, slots := 0, locals := 57 } : Room) s m [.ref (q a0), .ref (q a1)].toArray below meth c H locs 0 0 (MQ below (Qv 167 (ceC cA q) D q M0) [.ref (q a0), .ref (q a1)].toArray s 0 0 (AqG 167 q)) (F0 m 92 ls []) := by
    intro fu
    induction fu with
    | zero => intro b2 M res H locs ls h; exact absurd h (by simp [f_X0_copyFrom_L92])
    | succ fu ih =>
      intro b2 M res H locs ls h hP hS hl K92_0
      rw [f_X0_copyFrom_L92] at h
      refine lv_iload_n hx hb dX0_copyFrom_92 rfl (lv_at hl 2 rfl) ?_
      refine lv_aload_n hx hb dX0_copyFrom_93 rfl (lv_at hl 0 rfl) ?_
      refine lv_iconst (v := 3) hx hb dX0_copyFrom_94 (by decide) ?_
      obtain ⟨r55, M56, hc57, h⟩ := bnd_inv h
      refine gV_i (As := [.int (3 : Int32)]) X hP hS hl.1 (c_X0_countOf l D cA q aK aV hq h0 hc57) sf_X0_countOf bw_645 sv_X0_countOf (rcC_0 h0) rfl ⟨rfl, rfl⟩ ⟨Nat.le_of_ble_eq_true rfl, Nat.le_of_ble_eq_true rfl⟩ rfl rfl (Nat.le_of_ble_eq_true rfl) dX0_copyFrom_95 (fun H locs hP hS => ?_)
      refine lv_icmp_ge (tgt := 120) hx hb dX0_copyFrom_98 (by decide) (fun c58 => ?_) (fun c58 => ?_)
      · rw [if_pos c58] at h
        cases h
        exact K92_0 _ _ _ hP hS (lv_sub hl [0, 1] rfl)
      · rw [if_neg c58] at h
        refine lv_aload_n hx hb dX0_copyFrom_101 rfl (lv_at hl 0 rfl) ?_
        refine lv_iload_n hx hb dX0_copyFrom_102 rfl (lv_at hl 2 rfl) ?_
        obtain ⟨r59, M60, hc61, h⟩ := bnd_inv h
        refine gV_r (As := [.int b2]) X hP hS hl.1 (c_X0_personAt l D cA q aK aV hq h0 hc61) sf_X0_personAt bw_813 sv_X0_personAt (rcC_0 h0) rfl ⟨rfl, rfl⟩ ⟨Nat.le_of_ble_eq_true rfl, Nat.le_of_ble_eq_true rfl⟩ rfl rfl (Nat.le_of_ble_eq_true rfl) dX0_copyFrom_103 (fun H locs hP hS => ?_)
        obtain ⟨g62, h⟩ := gd_inv h
        have g62 := Decidable.not_not.mp g62
        refine lv_aload_n hx hb dX0_copyFrom_106 rfl (lv_at hl 1 rfl) ?_
        refine lv_iload_n hx hb dX0_copyFrom_107 rfl (lv_at hl 2 rfl) ?_
        obtain ⟨r63, M64, hc65, h⟩ := bnd_inv h
        refine gV_r (As := [.int b2]) X hP hS hl.1 (c_X0_personAt l D cA q aK aV hq h1 hc65) sf_X0_personAt bw_813 sv_X0_personAt (rcC_0 h1) rfl ⟨rfl, rfl⟩ ⟨Nat.le_of_ble_eq_true rfl, Nat.le_of_ble_eq_true rfl⟩ rfl rfl (Nat.le_of_ble_eq_true rfl) dX0_copyFrom_108 (fun H locs hP hS => ?_)
        obtain ⟨g66, h⟩ := gd_inv h
        have g66 := Decidable.not_not.mp g66
        obtain ⟨_, M68, hc69, h⟩ := bnd_inv h
        refine gV_v (As := [.ref (q r63)]) X hP hS hl.1 (c_X5_copyFrom l D cA q aK aV hq g62 g66 hc69) sf_X5_copyFrom bw_999 sv_X5_copyFrom (rcC_5 g62) rfl ⟨rfl, rfl⟩ ⟨Nat.le_of_ble_eq_true rfl, Nat.le_of_ble_eq_true rfl⟩ rfl rfl (Nat.le_of_ble_eq_true rfl) dX0_copyFrom_111 (fun H locs hP hS => ?_)
        obtain ⟨y70, ey70, h⟩ := lt_inv h
        refine lv_iinc (v := y70) (lv' := [(2, .int y70), (0, .ref (q a0)), (1, .ref (q a1))]) hx hb dX0_copyFrom_114 hl (k := 2) rfl (by rw [ey70]; rfl) (by decide) rfl (fun ls hl => ?_)
        refine lv_goto (tgt := 92) hx hb dX0_copyFrom_117 (by decide) ?_
        exact ih _ _ res _ _ _ h hP hS (lv_sub hl [1, 2, 0] rfl) K92_0
  have hL62 : ∀ (fu : Nat) (b2 : Int32) (M : Mem) (res : (Unit) × Mem) (H : Heap) (locs : List Loc) (ls : Array Slot), f_X0_copyFrom_L62 a0 a1 fu b2 M = some res → va_P D vwCl (wsG 167 (ceC cA q) q M) H → va_S (AqG 167 q) s.heap H locs → lv_has ls 3 [(0, .ref (q a0)), (1, .ref (q a1)), (2, .int b2)] → (∀ (H : Heap) (locs : List Loc) (ls : Array Slot), va_P D vwCl (wsG 167 (ceC cA q) q res.2) H → va_S (AqG 167 q) s.heap H locs → lv_has ls 3 [(0, .ref (q a0)), (1, .ref (q a1))] → W p l e ({ frames := 3, cells := 0, slots := 0, locals := 57 } : Room) s m [.ref (q a0), .ref (q a1)].toArray below meth c H locs 0 0 (MQ below (Qv 167 (ceC cA q) D q M0) [.ref (q a0), .ref (q a1)].toArray s 0 0 (AqG 167 q)) (F0 m 90 ls [])) → W p l e ({ frames := 3, cells := 0, slots := 0, locals := 57 } : Room) s m [.ref (q a0), .ref (q a1)].toArray below meth c H locs 0 0 (MQ below (Qv 167 (ceC cA q) D q M0) [.ref (q a0), .ref (q a1)].toArray s 0 0 (AqG 167 q)) (F0 m 62 ls []) := by
    intro fu
    induction fu with
    | zero => intro b2 M res H locs ls h; exact absurd h (by simp [f_X0_copyFrom_L62])
    | succ fu ih =>
      intro b2 M res H locs ls h hP hS hl K62_0
      rw [f_X0_copyFrom_L62] at h
      refine lv_iload_n hx hb dX0_copyFrom_62 rfl (lv_at hl 2 rfl) ?_
      refine lv_aload_n hx hb dX0_copyFrom_63 rfl (lv_at hl 0 rfl) ?_
      refine lv_iconst (v := 2) hx hb dX0_copyFrom_64 (by decide) ?_
      obtain ⟨r39, M40, hc41, h⟩ := bnd_inv h
      refine gV_i (As := [.int (2 : Int32)]) X hP hS hl.1 (c_X0_countOf l D cA q aK aV hq h0 hc41) sf_X0_countOf bw_645 sv_X0_countOf (rcC_0 h0) rfl ⟨rfl, rfl⟩ ⟨Nat.le_of_ble_eq_true rfl, Nat.le_of_ble_eq_true rfl⟩ rfl rfl (Nat.le_of_ble_eq_true rfl) dX0_copyFrom_65 (fun H locs hP hS => ?_)
      refine lv_icmp_ge (tgt := 90) hx hb dX0_copyFrom_68 (by decide) (fun c42 => ?_) (fun c42 => ?_)
      · rw [if_pos c42] at h
        cases h
        exact K62_0 _ _ _ hP hS (lv_sub hl [0, 1] rfl)
      · rw [if_neg c42] at h
        refine lv_aload_n hx hb dX0_copyFrom_71 rfl (lv_at hl 0 rfl) ?_
        refine lv_iload_n hx hb dX0_copyFrom_72 rfl (lv_at hl 2 rfl) ?_
        obtain ⟨r43, M44, hc45, h⟩ := bnd_inv h
        refine gV_r (As := [.int b2]) X hP hS hl.1 (c_X0_ruleAt l D cA q aK aV hq h0 hc45) sf_X0_ruleAt bw_882 sv_X0_ruleAt (rcC_0 h0) rfl ⟨rfl, rfl⟩ ⟨Nat.le_of_ble_eq_true rfl, Nat.le_of_ble_eq_true rfl⟩ rfl rfl (Nat.le_of_ble_eq_true rfl) dX0_copyFrom_73 (fun H locs hP hS => ?_)
        obtain ⟨g46, h⟩ := gd_inv h
        have g46 := Decidable.not_not.mp g46
        refine lv_aload_n hx hb dX0_copyFrom_76 rfl (lv_at hl 1 rfl) ?_
        refine lv_iload_n hx hb dX0_copyFrom_77 rfl (lv_at hl 2 rfl) ?_
        obtain ⟨r47, M48, hc49, h⟩ := bnd_inv h
        refine gV_r (As := [.int b2]) X hP hS hl.1 (c_X0_ruleAt l D cA q aK aV hq h1 hc49) sf_X0_ruleAt bw_882 sv_X0_ruleAt (rcC_0 h1) rfl ⟨rfl, rfl⟩ ⟨Nat.le_of_ble_eq_true rfl, Nat.le_of_ble_eq_true rfl⟩ rfl rfl (Nat.le_of_ble_eq_true rfl) dX0_copyFrom_78 (fun H locs hP hS => ?_)
        obtain ⟨g50, h⟩ := gd_inv h
        have g50 := Decidable.not_not.mp g50
        obtain ⟨_, M52, hc53, h⟩ := bnd_inv h
        refine gV_v (As := [.ref (q r47)]) X hP hS hl.1 (c_X6_copyFrom l D cA q aK aV hq g46 g50 hc53) sf_X6_copyFrom bw_958 sv_X6_copyFrom (rcC_6 g46) rfl ⟨rfl, rfl⟩ ⟨Nat.le_of_ble_eq_true rfl, Nat.le_of_ble_eq_true rfl⟩ rfl rfl (Nat.le_of_ble_eq_true rfl) dX0_copyFrom_81 (fun H locs hP hS => ?_)
        obtain ⟨y54, ey54, h⟩ := lt_inv h
        refine lv_iinc (v := y54) (lv' := [(2, .int y54), (0, .ref (q a0)), (1, .ref (q a1))]) hx hb dX0_copyFrom_84 hl (k := 2) rfl (by rw [ey54]; rfl) (by decide) rfl (fun ls hl => ?_)
        refine lv_goto (tgt := 62) hx hb dX0_copyFrom_87 (by decide) ?_
        exact ih _ _ res _ _ _ h hP hS (lv_sub hl [1, 2, 0] rfl) K62_0
  have hL13 : ∀ (fu : Nat) (b2 : Int32) (M : Mem) (res : (Unit) × Mem) (H : Heap) (locs : List Loc) (ls : Array Slot), f_X0_copyFrom_L13 a0 a1 fu b2 M = some res → va_P D vwCl (wsG 167 (ceC cA q) q M) H → va_S (AqG 167 q) s.heap H locs → lv_has ls 3 [(0, .ref (q a0)), (1, .ref (q a1)), (2, .int b2)] → (∀ (H : Heap) (locs : List Loc) (ls : Array Slot), va_P D vwCl (wsG 167 (ceC cA q) q res.2) H → va_S (AqG 167 q) s.heap H locs → lv_has ls 3 [(0, .ref (q a0)), (1, .ref (q a1))] → W p l e ({ frames := 3, cells := 0, slots := 0, locals := 57 } : Room) s m [.ref (q a0), .ref (q a1)].toArray below meth c H locs 0 0 (MQ below (Qv 167 (ceC cA q) D q M0) [.ref (q a0), .ref (q a1)].toArray s 0 0 (AqG 167 q)) (F0 m 49 ls [])) → W p l e ({ frames := 3, cells := 0, slots := 0, locals := 57 } : Room) s m [.ref (q a0), .ref (q a1)].toArray below meth c H locs 0 0 (MQ below (Qv 167 (ceC cA q) D q M0) [.ref (q a0), .ref (q a1)].toArray s 0 0 (AqG 167 q)) (F0 m 13 ls []) := by
    intro fu
    induction fu with
    | zero => intro b2 M res H locs ls h; exact absurd h (by simp [f_X0_copyFrom_L13])
    | succ fu ih =>
      intro b2 M res H locs ls h hP hS hl K13_0
      rw [f_X0_copyFrom_L13] at h
      refine lv_iload_n hx hb dX0_copyFrom_13 rfl (lv_at hl 2 rfl) ?_
      refine lv_aload_n hx hb dX0_copyFrom_14 rfl (lv_at hl 0 rfl) ?_
      refine gfC_0_1 X hP h0 bw_144 dX0_copyFrom_15 ?_
      refine alC_21 X hP ((kC_0_1 h0).1) ((kC_0_1 h0).2) (v := 36) rfl dX0_copyFrom_18 ?_
      refine lv_icmp_ge (tgt := 49) hx hb dX0_copyFrom_19 (by decide) (fun c33 => ?_) (fun c33 => ?_)
      · rw [if_pos c33] at h
        cases h
        exact K13_0 _ _ _ hP hS (lv_sub hl [0, 1] rfl)
      · rw [if_neg c33] at h
        refine lv_iload_n hx hb dX0_copyFrom_22 rfl (lv_at hl 2 rfl) ?_
        refine lv_aload_n hx hb dX0_copyFrom_23 rfl (lv_at hl 1 rfl) ?_
        refine gfC_0_1 X hP h1 bw_144 dX0_copyFrom_24 ?_
        refine alC_21 X hP ((kC_0_1 h1).1) ((kC_0_1 h1).2) (v := 36) rfl dX0_copyFrom_27 ?_
        refine lv_icmp_ge (tgt := 49) hx hb dX0_copyFrom_28 (by decide) (fun c34 => ?_) (fun c34 => ?_)
        · rw [if_pos c34] at h
          cases h
          exact K13_0 _ _ _ hP hS (lv_sub hl [0, 1] rfl)
        · rw [if_neg c34] at h
          refine lv_aload_n hx hb dX0_copyFrom_31 rfl (lv_at hl 0 rfl) ?_
          refine gfC_0_1 X hP h0 bw_144 dX0_copyFrom_32 ?_
          refine lv_iload_n hx hb dX0_copyFrom_35 rfl (lv_at hl 2 rfl) ?_
          refine lv_aload_n hx hb dX0_copyFrom_36 rfl (lv_at hl 1 rfl) ?_
          refine gfC_0_1 X hP h1 bw_144 dX0_copyFrom_37 ?_
          refine lv_iload_n hx hb dX0_copyFrom_40 rfl (lv_at hl 2 rfl) ?_
          obtain ⟨g35, h⟩ := gd_inv h
          refine ldC_la X hP ((kC_0_1 h1).1) ((kC_0_1 h1).2) g35 dX0_copyFrom_41 ?_
          obtain ⟨g36, h⟩ := gd_inv h
          obtain ⟨M37, eM37, h⟩ := lt_inv h
          refine stC_la X hP hS ((kC_0_1 h0).1) ((kC_0_1 h0).2) g36 eM37 dX0_copyFrom_42 (fun H locs hP hS => ?_)
          obtain ⟨y38, ey38, h⟩ := lt_inv h
          refine lv_iinc (v := y38) (lv' := [(2, .int y38), (0, .ref (q a0)), (1, .ref (q a1))]) hx hb dX0_copyFrom_43 hl (k := 2) rfl (by rw [ey38]; rfl) (by decide) rfl (fun ls hl => ?_)
          refine lv_goto (tgt := 13) hx hb dX0_copyFrom_46 (by decide) ?_
          exact ih _ _ res _ _ _ h hP hS (lv_sub hl [1, 2, 0] rfl) K13_0
  refine lv_aload_n hx hb dX0_copyFrom_0 rfl (lv_at hl 1 rfl) ?_
  refine gfC_0_0 X hP h1 bw_143 dX0_copyFrom_1 ?_
  refine lv_aload_n hx hb dX0_copyFrom_4 rfl (lv_at hl 0 rfl) ?_
  refine gfC_0_0 X hP h0 bw_143 dX0_copyFrom_5 ?_
  obtain ⟨_, M2, hc3, h⟩ := bnd_inv h
  refine gSN_v (As := [.ref (q (a1 + 1)), .ref (q (a0 + 1))]) X hP hS hl.1 (c_X11_copyRow l D cA q aK aV hq ((kC_0_0 h1).1) ((kC_0_0 h0).1) hc3) sf_X11_copyRow nw_20 ss_X11_copyRow ⟨rfl, rfl⟩ ⟨Nat.le_of_ble_eq_true rfl, Nat.le_of_ble_eq_true rfl⟩ rfl rfl (Nat.le_of_ble_eq_true rfl) dX0_copyFrom_8 (fun H locs hP hS => ?_)
  refine lv_iconst (v := 0) hx hb dX0_copyFrom_11 (by decide) ?_
  refine lv_istore_n (lv' := [(2, .int (0 : Int32)), (0, .ref (q a0)), (1, .ref (q a1))]) hx hb dX0_copyFrom_12 rfl hl (by decide) rfl (fun ls hl => ?_)
  obtain ⟨s4, M5, hc6, h⟩ := bnd_inv h
  try dsimp only at h
  refine hL13  fz _ _ _ _ _ _ hc6 hP hS (lv_sub hl [1, 2, 0] rfl) (fun H locs ls hP hS hl => ?_)
  have hl : lv_has ls 3 [(0, .ref (q a0)), (1, .ref (q a1))] := hl
  refine lv_aload_n hx hb dX0_copyFrom_49 rfl (lv_at hl 1 rfl) ?_
  refine gfC_0_2 X hP h1 bw_145 dX0_copyFrom_50 ?_
  refine lv_aload_n hx hb dX0_copyFrom_53 rfl (lv_at hl 0 rfl) ?_
  refine gfC_0_2 X hP h0 bw_145 dX0_copyFrom_54 ?_
  obtain ⟨_, M8, hc9, h⟩ := bnd_inv h
  refine gSN_v (As := [.ref (q (a1 + 3)), .ref (q (a0 + 3))]) X hP hS hl.1 (c_X11_copyRow l D cA q aK aV hq ((kC_0_2 h1).1) ((kC_0_2 h0).1) hc9) sf_X11_copyRow nw_20 ss_X11_copyRow ⟨rfl, rfl⟩ ⟨Nat.le_of_ble_eq_true rfl, Nat.le_of_ble_eq_true rfl⟩ rfl rfl (Nat.le_of_ble_eq_true rfl) dX0_copyFrom_57 (fun H locs hP hS => ?_)
  refine lv_iconst (v := 0) hx hb dX0_copyFrom_60 (by decide) ?_
  refine lv_istore_n (lv' := [(2, .int (0 : Int32)), (0, .ref (q a0)), (1, .ref (q a1))]) hx hb dX0_copyFrom_61 rfl hl (by decide) rfl (fun ls hl => ?_)
  obtain ⟨s10, M11, hc12, h⟩ := bnd_inv h
  try dsimp only at h
  refine hL62  fz _ _ _ _ _ _ hc12 hP hS (lv_sub hl [1, 2, 0] rfl) (fun H locs ls hP hS hl => ?_)
  have hl : lv_has ls 3 [(0, .ref (q a0)), (1, .ref (q a1))] := hl
  refine lv_iconst (v := 0) hx hb dX0_copyFrom_90 (by decide) ?_
  refine lv_istore_n (lv' := [(2, .int (0 : Int32)), (0, .ref (q a0)), (1, .ref (q a1))]) hx hb dX0_copyFrom_91 rfl hl (by decide) rfl (fun ls hl => ?_)
  obtain ⟨s13, M14, hc15, h⟩ := bnd_inv h
  try dsimp only at h
  refine hL92  fz _ _ _ _ _ _ hc15 hP hS (lv_sub hl [1, 2, 0] rfl) (fun H locs ls hP hS hl => ?_)
  have hl : lv_has ls 3 [(0, .ref (q a0)), (1, .ref (q a1))] := hl
  refine lv_aload_n hx hb dX0_copyFrom_120 rfl (lv_at hl 1 rfl) ?_
  refine gfC_0_5 X hP h1 bw_150 dX0_copyFrom_121 ?_
  refine lv_aload_n hx hb dX0_copyFrom_124 rfl (lv_at hl 0 rfl) ?_
  refine gfC_0_5 X hP h0 bw_150 dX0_copyFrom_125 ?_
  obtain ⟨_, M17, hc18, h⟩ := bnd_inv h
  refine gSN_v (As := [.ref (q (a1 + 20)), .ref (q (a0 + 20))]) X hP hS hl.1 (c_X11_copyRow l D cA q aK aV hq ((kC_0_5 h1).1) ((kC_0_5 h0).1) hc18) sf_X11_copyRow nw_20 ss_X11_copyRow ⟨rfl, rfl⟩ ⟨Nat.le_of_ble_eq_true rfl, Nat.le_of_ble_eq_true rfl⟩ rfl rfl (Nat.le_of_ble_eq_true rfl) dX0_copyFrom_128 (fun H locs hP hS => ?_)
  refine lv_aload_n hx hb dX0_copyFrom_131 rfl (lv_at hl 1 rfl) ?_
  refine gfC_0_6 X hP h1 bw_153 dX0_copyFrom_132 ?_
  refine lv_aload_n hx hb dX0_copyFrom_135 rfl (lv_at hl 0 rfl) ?_
  refine gfC_0_6 X hP h0 bw_153 dX0_copyFrom_136 ?_
  obtain ⟨_, M20, hc21, h⟩ := bnd_inv h
  refine gSN_v (As := [.ref (q (a1 + 21)), .ref (q (a0 + 21))]) X hP hS hl.1 (c_X11_copyRow l D cA q aK aV hq ((kC_0_6 h1).1) ((kC_0_6 h0).1) hc21) sf_X11_copyRow nw_20 ss_X11_copyRow ⟨rfl, rfl⟩ ⟨Nat.le_of_ble_eq_true rfl, Nat.le_of_ble_eq_true rfl⟩ rfl rfl (Nat.le_of_ble_eq_true rfl) dX0_copyFrom_139 (fun H locs hP hS => ?_)
  refine lv_aload_n hx hb dX0_copyFrom_142 rfl (lv_at hl 1 rfl) ?_
  refine gfC_0_7 X hP h1 bw_156 dX0_copyFrom_143 ?_
  refine lv_aload_n hx hb dX0_copyFrom_146 rfl (lv_at hl 0 rfl) ?_
  refine gfC_0_7 X hP h0 bw_156 dX0_copyFrom_147 ?_
  obtain ⟨_, M23, hc24, h⟩ := bnd_inv h
  refine gSN_v (As := [.ref (q (a1 + 22)), .ref (q (a0 + 22))]) X hP hS hl.1 (c_X11_copyRow l D cA q aK aV hq ((kC_0_7 h1).1) ((kC_0_7 h0).1) hc24) sf_X11_copyRow nw_20 ss_X11_copyRow ⟨rfl, rfl⟩ ⟨Nat.le_of_ble_eq_true rfl, Nat.le_of_ble_eq_true rfl⟩ rfl rfl (Nat.le_of_ble_eq_true rfl) dX0_copyFrom_150 (fun H locs hP hS => ?_)
  refine lv_aload_n hx hb dX0_copyFrom_153 rfl (lv_at hl 1 rfl) ?_
  refine gfC_0_8 X hP h1 bw_159 dX0_copyFrom_154 ?_
  refine lv_aload_n hx hb dX0_copyFrom_157 rfl (lv_at hl 0 rfl) ?_
  refine gfC_0_8 X hP h0 bw_159 dX0_copyFrom_158 ?_
  obtain ⟨_, M26, hc27, h⟩ := bnd_inv h
  refine gSN_v (As := [.ref (q (a1 + 23)), .ref (q (a0 + 23))]) X hP hS hl.1 (c_X11_copyRow l D cA q aK aV hq ((kC_0_8 h1).1) ((kC_0_8 h0).1) hc27) sf_X11_copyRow nw_20 ss_X11_copyRow ⟨rfl, rfl⟩ ⟨Nat.le_of_ble_eq_true rfl, Nat.le_of_ble_eq_true rfl⟩ rfl rfl (Nat.le_of_ble_eq_true rfl) dX0_copyFrom_161 (fun H locs hP hS => ?_)
  refine lv_aload_n hx hb dX0_copyFrom_164 rfl (lv_at hl 0 rfl) ?_
  refine gfC_0_9 X hP h0 bw_162 dX0_copyFrom_165 ?_
  refine lv_aload_n hx hb dX0_copyFrom_168 rfl (lv_at hl 1 rfl) ?_
  refine gfC_0_9 X hP h1 bw_162 dX0_copyFrom_169 ?_
  obtain ⟨_, M29, hc30, h⟩ := bnd_inv h
  refine gV_v (As := [.ref (q (a1 + 24))]) X hP hS hl.1 (c_X9_copyFrom l D cA q aK aV hq (kC_0_9 h0) (kC_0_9 h1) hc30) sf_X9_copyFrom bw_1003 sv_X9_copyFrom (rcC_9 (kC_0_9 h0)) rfl ⟨rfl, rfl⟩ ⟨Nat.le_of_ble_eq_true rfl, Nat.le_of_ble_eq_true rfl⟩ rfl rfl (Nat.le_of_ble_eq_true rfl) dX0_copyFrom_172 (fun H locs hP hS => ?_)
  refine lv_aload_n hx hb dX0_copyFrom_175 rfl (lv_at hl 0 rfl) ?_
  refine lv_aload_n hx hb dX0_copyFrom_176 rfl (lv_at hl 1 rfl) ?_
  refine gfC_0_12 X hP h1 bw_167 dX0_copyFrom_177 ?_
  obtain ⟨M31, eM31, h⟩ := lt_inv h
  refine pfC_0_12 X hP hS h0 bw_167 eM31 dX0_copyFrom_180 (fun H locs hP hS => ?_)
  refine lv_aload_n hx hb dX0_copyFrom_183 rfl (lv_at hl 0 rfl) ?_
  refine lv_aload_n hx hb dX0_copyFrom_184 rfl (lv_at hl 1 rfl) ?_
  refine gfC_0_13 X hP h1 bw_172 dX0_copyFrom_185 ?_
  obtain ⟨M32, eM32, h⟩ := lt_inv h
  refine pfC_0_13 X hP hS h0 bw_172 eM32 dX0_copyFrom_188 (fun H locs hP hS => ?_)
  exact end_v X hr hk hP hS h dX0_copyFrom_191
theorem dX11_freeIn_0 : decode cX11_freeIn 0 = .ok (.iload_n 1, 1) := by decide +kernel
theorem dX11_freeIn_1 : decode cX11_freeIn 1 = .ok (.bipush 41, 2) := by decide +kernel
theorem dX11_freeIn_3 : decode cX11_freeIn 3 = .ok (.invokestatic 104, 3) := by decide +kernel
theorem dX11_freeIn_6 : decode cX11_freeIn 6 = .ok (.ifCond .ne 9, 3) := by decide +kernel
theorem dX11_freeIn_9 : decode cX11_freeIn 9 = .ok (.aload_n 0, 1) := by decide +kernel
theorem dX11_freeIn_10 : decode cX11_freeIn 10 = .ok (.iconst 1, 1) := by decide +kernel
theorem dX11_freeIn_11 : decode cX11_freeIn 11 = .ok (.invokevirtual 132, 3) := by decide +kernel
theorem dX11_freeIn_14 : decode cX11_freeIn 14 = .ok (.ireturn, 1) := by decide +kernel
theorem dX11_freeIn_15 : decode cX11_freeIn 15 = .ok (.aload_n 0, 1) := by decide +kernel
theorem dX11_freeIn_16 : decode cX11_freeIn 16 = .ok (.getfield 16, 3) := by decide +kernel
theorem dX11_freeIn_19 : decode cX11_freeIn 19 = .ok (.aload_n 0, 1) := by decide +kernel
theorem dX11_freeIn_20 : decode cX11_freeIn 20 = .ok (.getfield 10, 3) := by decide +kernel
theorem dX11_freeIn_23 : decode cX11_freeIn 23 = .ok (.invokevirtual 324, 3) := by decide +kernel
theorem dX11_freeIn_26 : decode cX11_freeIn 26 = .ok (.iconst 0, 1) := by decide +kernel
theorem dX11_freeIn_27 : decode cX11_freeIn 27 = .ok (.istore_n 2, 1) := by decide +kernel
theorem dX11_freeIn_28 : decode cX11_freeIn 28 = .ok (.iload_n 2, 1) := by decide +kernel
theorem dX11_freeIn_29 : decode cX11_freeIn 29 = .ok (.iload_n 1, 1) := by decide +kernel
theorem dX11_freeIn_30 : decode cX11_freeIn 30 = .ok (.if_icmp .ge 17, 3) := by decide +kernel
theorem dX11_freeIn_33 : decode cX11_freeIn 33 = .ok (.aload_n 0, 1) := by decide +kernel
theorem dX11_freeIn_34 : decode cX11_freeIn 34 = .ok (.getfield 16, 3) := by decide +kernel
theorem dX11_freeIn_37 : decode cX11_freeIn 37 = .ok (.invokevirtual 275, 3) := by decide +kernel
theorem dX11_freeIn_40 : decode cX11_freeIn 40 = .ok (.pop, 1) := by decide +kernel
theorem dX11_freeIn_41 : decode cX11_freeIn 41 = .ok (.iinc 2 1, 3) := by decide +kernel
theorem dX11_freeIn_44 : decode cX11_freeIn 44 = .ok (.goto (-16), 3) := by decide +kernel
theorem dX11_freeIn_47 : decode cX11_freeIn 47 = .ok (.aload_n 0, 1) := by decide +kernel
theorem dX11_freeIn_48 : decode cX11_freeIn 48 = .ok (.aload_n 0, 1) := by decide +kernel
theorem dX11_freeIn_49 : decode cX11_freeIn 49 = .ok (.getfield 16, 3) := by decide +kernel
theorem dX11_freeIn_52 : decode cX11_freeIn 52 = .ok (.iconst 1, 1) := by decide +kernel
theorem dX11_freeIn_53 : decode cX11_freeIn 53 = .ok (.invokevirtual 200, 3) := by decide +kernel
theorem dX11_freeIn_56 : decode cX11_freeIn 56 = .ok (.invokevirtual 191, 3) := by decide +kernel
theorem dX11_freeIn_59 : decode cX11_freeIn 59 = .ok (.ireturn, 1) := by decide +kernel
set_option maxRecDepth 100000 in
set_option maxHeartbeats 8000000 in
theorem c_X11_freeIn (l : Launch) (D : va_G) (cA : Nat → ClassId) (q aK aV : Nat → Nat) (hq : injG 167 q) {a1 : Int32} {M M0 : Mem} {r0 : Int32} (h : f_X11_freeIn a1 M = some (r0, M0)) : Met l yX11_freeIn (.code yX11_freeIn cX11_freeIn 3 (some .int) :: BW) ({ frames := 6, cells := 0, slots := 0, locals := 135 } : Room) (va_Pc [.ref (q 0), .int a1] (CB 167 (ceC cA q) D cA q aK aV M)) (Qi 167 (ceC cA q) D q r0 M0) 0 0 (AqG 167 q) := by
  refine gMet RX11 (by decide +kernel) rfl hq (Nat.le_of_ble_eq_true rfl) ?_
  intro p e s m below meth c ls X hr hk hP hS hl
  have hx := X.1
  have hb := X.2.1
  have hl : lv_has ls 3 [(0, .ref (q 0)), (1, .int a1)] := hl
  rw [f_X11_freeIn] at h
  have hL28 : ∀ (fu : Nat) (b2 : Int32) (M : Mem) (res : (Unit) × Mem) (H : Heap) (locs : List Loc) (ls : Array Slot), f_X11_freeIn_L28 a1 fu b2 M = some res → va_P D vwCl (wsG 167 (ceC cA q) q M) H → va_S (AqG 167 q) s.heap H locs → lv_has ls 3 [(0, .ref (q 0)), (1, .int a1), (2, .int b2)] → (∀ (H : Heap) (locs : List Loc) (ls : Array Slot), va_P D vwCl (wsG 167 (ceC cA q) q res.2) H → va_S (AqG 167 q) s.heap H locs → lv_has ls 3 [(0, .ref (q 0))] → W p l e ({ frames := 6, cells := 0, slots := 0, locals := 135 } : Room) s m [.ref (q 0), .int a1].toArray below meth c H locs 0 0 (MQ below (Qi 167 (ceC cA q) D q r0 M0) [.ref (q 0), .int a1].toArray s 0 0 (AqG 167 q)) (F0 m 47 ls [])) → W p l e ({ frames := 6, cells := 0, slots := 0, locals := 135 } : Room) s m [.ref (q 0), .int a1].toArray below meth c H locs 0 0 (MQ below (Qi 167 (ceC cA q) D q r0 M0) [.ref (q 0), .int a1].toArray s 0 0 (AqG 167 q)) (F0 m 28 ls []) := by
    intro fu
    induction fu with
    | zero => intro b2 M res H locs ls h; exact absurd h (by simp [f_X11_freeIn_L28])
    | succ fu ih =>
      intro b2 M res H locs ls h hP hS hl K28_0
      rw [f_X11_freeIn_L28] at h
      refine lv_iload_n hx hb dX11_freeIn_28 rfl (lv_at hl 2 rfl) ?_
      refine lv_iload_n hx hb dX11_freeIn_29 rfl (lv_at hl 1 rfl) ?_
      refine lv_icmp_ge (tgt := 47) hx hb dX11_freeIn_30 (by decide) (fun c23 => ?_) (fun c23 => ?_)
      · rw [if_pos c23] at h
        cases h
        exact K28_0 _ _ _ hP hS (lv_sub hl [0] rfl)
      · rw [if_neg c23] at h
        refine lv_aload_n hx hb dX11_freeIn_33 rfl (lv_at hl 0 rfl) ?_
        refine gfC_11_1 X hP sC_0 bw_431 dX11_freeIn_34 ?_
        obtain ⟨g24, h⟩ := gd_inv h
        have g24 := Decidable.not_not.mp g24
        obtain ⟨r25, M26, hc27, h⟩ := bnd_inv h
        refine gV_i (As := []) X hP hS hl.1 (c_X0_holdTerm l D cA q aK aV hq g24 hc27) sf_X0_holdTerm bw_900 sv_X0_holdTerm (rcC_0 g24) rfl ⟨rfl, rfl⟩ ⟨Nat.le_of_ble_eq_true rfl, Nat.le_of_ble_eq_true rfl⟩ rfl rfl (Nat.le_of_ble_eq_true rfl) dX11_freeIn_37 (fun H locs hP hS => ?_)
        refine lv_pop hx hb dX11_freeIn_40 rfl ?_
        obtain ⟨y28, ey28, h⟩ := lt_inv h
        refine lv_iinc (v := y28) (lv' := [(2, .int y28), (0, .ref (q 0)), (1, .int a1)]) hx hb dX11_freeIn_41 hl (k := 2) rfl (by rw [ey28]; rfl) (by decide) rfl (fun ls hl => ?_)
        refine lv_goto (tgt := 28) hx hb dX11_freeIn_44 (by decide) ?_
        exact ih _ _ res _ _ _ h hP hS (lv_sub hl [1, 2, 0] rfl) K28_0
  refine lv_iload_n hx hb dX11_freeIn_0 rfl (lv_at hl 1 rfl) ?_
  refine lv_bipush (v := 41) hx hb dX11_freeIn_1 (by decide) ?_
  obtain ⟨r1, M2, hc3, h⟩ := bnd_inv h
  refine gS_i (As := [.int a1, .int (41 : Int32)]) X hP hS hl.1 (c_X11_within l D cA q aK aV hq hc3) sf_X11_within bw_504 ss_X11_within ⟨rfl, rfl⟩ ⟨Nat.le_of_ble_eq_true rfl, Nat.le_of_ble_eq_true rfl⟩ rfl rfl (Nat.le_of_ble_eq_true rfl) dX11_freeIn_3 (fun H locs hP hS => ?_)
  refine lv_if_ne (tgt := 15) hx hb dX11_freeIn_6 (by decide) (fun c4 => ?_) (fun c4 => ?_)
  · rw [if_neg c4] at h
    refine lv_aload_n hx hb dX11_freeIn_15 rfl (lv_at hl 0 rfl) ?_
    refine gfC_11_1 X hP sC_0 bw_431 dX11_freeIn_16 ?_
    obtain ⟨g5, h⟩ := gd_inv h
    have g5 := Decidable.not_not.mp g5
    refine lv_aload_n hx hb dX11_freeIn_19 rfl (lv_at hl 0 rfl) ?_
    refine gfC_11_0 X hP sC_0 bw_430 dX11_freeIn_20 ?_
    obtain ⟨g6, h⟩ := gd_inv h
    have g6 := Decidable.not_not.mp g6
    obtain ⟨_, M8, hc9, h⟩ := bnd_inv h
    refine gV_v (As := [.ref (q (gR M2 0 0))]) X hP hS hl.1 (c_X0_copyFrom l D cA q aK aV hq g5 g6 hc9) sf_X0_copyFrom bw_994 sv_X0_copyFrom (rcC_0 g5) rfl ⟨rfl, rfl⟩ ⟨Nat.le_of_ble_eq_true rfl, Nat.le_of_ble_eq_true rfl⟩ rfl rfl (Nat.le_of_ble_eq_true rfl) dX11_freeIn_23 (fun H locs hP hS => ?_)
    refine lv_iconst (v := 0) hx hb dX11_freeIn_26 (by decide) ?_
    refine lv_istore_n (lv' := [(2, .int (0 : Int32)), (0, .ref (q 0)), (1, .int a1)]) hx hb dX11_freeIn_27 rfl hl (by decide) rfl (fun ls hl => ?_)
    obtain ⟨s10, M11, hc12, h⟩ := bnd_inv h
    try dsimp only at h
    refine hL28  fz _ _ _ _ _ _ hc12 hP hS (lv_sub hl [1, 2, 0] rfl) (fun H locs ls hP hS hl => ?_)
    have hl : lv_has ls 3 [(0, .ref (q 0))] := hl
    refine lv_aload_n hx hb dX11_freeIn_47 rfl (lv_at hl 0 rfl) ?_
    refine lv_aload_n hx hb dX11_freeIn_48 rfl (lv_at hl 0 rfl) ?_
    refine gfC_11_1 X hP sC_0 bw_431 dX11_freeIn_49 ?_
    obtain ⟨g13, h⟩ := gd_inv h
    have g13 := Decidable.not_not.mp g13
    refine lv_iconst (v := 1) hx hb dX11_freeIn_52 (by decide) ?_
    obtain ⟨r14, M15, hc16, h⟩ := bnd_inv h
    refine gV_i (As := [.int (1 : Int32)]) X hP hS hl.1 (c_X0_setOfFate l D cA q aK aV hq g13 hc16) sf_X0_setOfFate bw_809 sv_X0_setOfFate (rcC_0 g13) rfl ⟨rfl, rfl⟩ ⟨Nat.le_of_ble_eq_true rfl, Nat.le_of_ble_eq_true rfl⟩ rfl rfl (Nat.le_of_ble_eq_true rfl) dX11_freeIn_53 (fun H locs hP hS => ?_)
    obtain ⟨r17, M18, hc19, h⟩ := bnd_inv h
    refine gV_i (As := [.int r14]) X hP hS hl.1 (c_X11_given l D cA q aK aV hq hc19) sf_X11_given bw_755 sv_X11_given (rcC_11 sC_0) rfl ⟨rfl, rfl⟩ ⟨Nat.le_of_ble_eq_true rfl, Nat.le_of_ble_eq_true rfl⟩ rfl rfl (Nat.le_of_ble_eq_true rfl) dX11_freeIn_56 (fun H locs hP hS => ?_)
    exact end_i X hr hk hP hS h dX11_freeIn_59
  · rw [if_pos c4] at h
    refine lv_aload_n hx hb dX11_freeIn_9 rfl (lv_at hl 0 rfl) ?_
    refine lv_iconst (v := 1) hx hb dX11_freeIn_10 (by decide) ?_
    obtain ⟨r20, M21, hc22, h⟩ := bnd_inv h
    refine gV_i (As := [.int (1 : Int32)]) X hP hS hl.1 (c_X11_refused l D cA q aK aV hq hc22) sf_X11_refused bw_552 sv_X11_refused (rcC_11 sC_0) rfl ⟨rfl, rfl⟩ ⟨Nat.le_of_ble_eq_true rfl, Nat.le_of_ble_eq_true rfl⟩ rfl rfl (Nat.le_of_ble_eq_true rfl) dX11_freeIn_11 (fun H locs hP hS => ?_)
    exact end_i X hr hk hP hS h dX11_freeIn_14
theorem dX11_judgedIn_0 : decode cX11_judgedIn 0 = .ok (.aload_n 0, 1) := by decide +kernel
theorem dX11_judgedIn_1 : decode cX11_judgedIn 1 = .ok (.getfield 10, 3) := by decide +kernel
theorem dX11_judgedIn_4 : decode cX11_judgedIn 4 = .ok (.iconst 3, 1) := by decide +kernel
theorem dX11_judgedIn_5 : decode cX11_judgedIn 5 = .ok (.iload_n 1, 1) := by decide +kernel
theorem dX11_judgedIn_6 : decode cX11_judgedIn 6 = .ok (.invokevirtual 213, 3) := by decide +kernel
theorem dX11_judgedIn_9 : decode cX11_judgedIn 9 = .ok (.ifCond .ne 9, 3) := by decide +kernel
theorem dX11_judgedIn_12 : decode cX11_judgedIn 12 = .ok (.aload_n 0, 1) := by decide +kernel
theorem dX11_judgedIn_13 : decode cX11_judgedIn 13 = .ok (.iconst 1, 1) := by decide +kernel
theorem dX11_judgedIn_14 : decode cX11_judgedIn 14 = .ok (.invokevirtual 132, 3) := by decide +kernel
theorem dX11_judgedIn_17 : decode cX11_judgedIn 17 = .ok (.ireturn, 1) := by decide +kernel
theorem dX11_judgedIn_18 : decode cX11_judgedIn 18 = .ok (.aload_n 0, 1) := by decide +kernel
theorem dX11_judgedIn_19 : decode cX11_judgedIn 19 = .ok (.getfield 10, 3) := by decide +kernel
theorem dX11_judgedIn_22 : decode cX11_judgedIn 22 = .ok (.iload_n 1, 1) := by decide +kernel
theorem dX11_judgedIn_23 : decode cX11_judgedIn 23 = .ok (.invokevirtual 228, 3) := by decide +kernel
theorem dX11_judgedIn_26 : decode cX11_judgedIn 26 = .ok (.getfield 240, 3) := by decide +kernel
theorem dX11_judgedIn_29 : decode cX11_judgedIn 29 = .ok (.ifCond .eq 10, 3) := by decide +kernel
theorem dX11_judgedIn_32 : decode cX11_judgedIn 32 = .ok (.aload_n 0, 1) := by decide +kernel
theorem dX11_judgedIn_33 : decode cX11_judgedIn 33 = .ok (.bipush 7, 2) := by decide +kernel
theorem dX11_judgedIn_35 : decode cX11_judgedIn 35 = .ok (.invokevirtual 132, 3) := by decide +kernel
theorem dX11_judgedIn_38 : decode cX11_judgedIn 38 = .ok (.ireturn, 1) := by decide +kernel
theorem dX11_judgedIn_39 : decode cX11_judgedIn 39 = .ok (.aload_n 0, 1) := by decide +kernel
theorem dX11_judgedIn_40 : decode cX11_judgedIn 40 = .ok (.getfield 16, 3) := by decide +kernel
theorem dX11_judgedIn_43 : decode cX11_judgedIn 43 = .ok (.aload_n 0, 1) := by decide +kernel
theorem dX11_judgedIn_44 : decode cX11_judgedIn 44 = .ok (.getfield 10, 3) := by decide +kernel
theorem dX11_judgedIn_47 : decode cX11_judgedIn 47 = .ok (.invokevirtual 324, 3) := by decide +kernel
theorem dX11_judgedIn_50 : decode cX11_judgedIn 50 = .ok (.iconst 1, 1) := by decide +kernel
theorem dX11_judgedIn_51 : decode cX11_judgedIn 51 = .ok (.istore_n 2, 1) := by decide +kernel
theorem dX11_judgedIn_52 : decode cX11_judgedIn 52 = .ok (.iload_n 2, 1) := by decide +kernel
theorem dX11_judgedIn_53 : decode cX11_judgedIn 53 = .ok (.bipush 40, 2) := by decide +kernel
theorem dX11_judgedIn_55 : decode cX11_judgedIn 55 = .ok (.if_icmp .gt 37, 3) := by decide +kernel
theorem dX11_judgedIn_58 : decode cX11_judgedIn 58 = .ok (.aload_n 0, 1) := by decide +kernel
theorem dX11_judgedIn_59 : decode cX11_judgedIn 59 = .ok (.getfield 16, 3) := by decide +kernel
theorem dX11_judgedIn_62 : decode cX11_judgedIn 62 = .ok (.invokevirtual 275, 3) := by decide +kernel
theorem dX11_judgedIn_65 : decode cX11_judgedIn 65 = .ok (.pop, 1) := by decide +kernel
theorem dX11_judgedIn_66 : decode cX11_judgedIn 66 = .ok (.aload_n 0, 1) := by decide +kernel
theorem dX11_judgedIn_67 : decode cX11_judgedIn 67 = .ok (.getfield 16, 3) := by decide +kernel
theorem dX11_judgedIn_70 : decode cX11_judgedIn 70 = .ok (.iload_n 1, 1) := by decide +kernel
theorem dX11_judgedIn_71 : decode cX11_judgedIn 71 = .ok (.invokevirtual 228, 3) := by decide +kernel
theorem dX11_judgedIn_74 : decode cX11_judgedIn 74 = .ok (.getfield 240, 3) := by decide +kernel
theorem dX11_judgedIn_77 : decode cX11_judgedIn 77 = .ok (.ifCond .eq 9, 3) := by decide +kernel
theorem dX11_judgedIn_80 : decode cX11_judgedIn 80 = .ok (.aload_n 0, 1) := by decide +kernel
theorem dX11_judgedIn_81 : decode cX11_judgedIn 81 = .ok (.iload_n 2, 1) := by decide +kernel
theorem dX11_judgedIn_82 : decode cX11_judgedIn 82 = .ok (.invokevirtual 191, 3) := by decide +kernel
theorem dX11_judgedIn_85 : decode cX11_judgedIn 85 = .ok (.ireturn, 1) := by decide +kernel
theorem dX11_judgedIn_86 : decode cX11_judgedIn 86 = .ok (.iinc 2 1, 3) := by decide +kernel
theorem dX11_judgedIn_89 : decode cX11_judgedIn 89 = .ok (.goto (-37), 3) := by decide +kernel
theorem dX11_judgedIn_92 : decode cX11_judgedIn 92 = .ok (.aload_n 0, 1) := by decide +kernel
theorem dX11_judgedIn_93 : decode cX11_judgedIn 93 = .ok (.bipush 6, 2) := by decide +kernel
theorem dX11_judgedIn_95 : decode cX11_judgedIn 95 = .ok (.invokevirtual 132, 3) := by decide +kernel
theorem dX11_judgedIn_98 : decode cX11_judgedIn 98 = .ok (.ireturn, 1) := by decide +kernel
set_option maxRecDepth 100000 in
set_option maxHeartbeats 8000000 in
theorem c_X11_judgedIn (l : Launch) (D : va_G) (cA : Nat → ClassId) (q aK aV : Nat → Nat) (hq : injG 167 q) {a1 : Int32} {M M0 : Mem} {r0 : Int32} (h : f_X11_judgedIn a1 M = some (r0, M0)) : Met l yX11_judgedIn (.code yX11_judgedIn cX11_judgedIn 3 (some .int) :: BW) ({ frames := 6, cells := 0, slots := 0, locals := 135 } : Room) (va_Pc [.ref (q 0), .int a1] (CB 167 (ceC cA q) D cA q aK aV M)) (Qi 167 (ceC cA q) D q r0 M0) 0 0 (AqG 167 q) := by
  refine gMet RX11 (by decide +kernel) rfl hq (Nat.le_of_ble_eq_true rfl) ?_
  intro p e s m below meth c ls X hr hk hP hS hl
  have hx := X.1
  have hb := X.2.1
  have hl : lv_has ls 3 [(0, .ref (q 0)), (1, .int a1)] := hl
  rw [f_X11_judgedIn] at h
  have hL52 : ∀ (fu : Nat) (b2 : Int32) (M : Mem) (res : (Nat × Int32) × Mem) (H : Heap) (locs : List Loc) (ls : Array Slot), f_X11_judgedIn_L52 a1 fu b2 M = some res → va_P D vwCl (wsG 167 (ceC cA q) q M) H → va_S (AqG 167 q) s.heap H locs → lv_has ls 3 [(0, .ref (q 0)), (1, .int a1), (2, .int b2)] → (res.1.1 = 0 → ∀ (H : Heap) (locs : List Loc) (ls : Array Slot), va_P D vwCl (wsG 167 (ceC cA q) q res.2) H → va_S (AqG 167 q) s.heap H locs → lv_has ls 3 [(0, .ref (q 0)), (2, .int (res.1.2))] → W p l e ({ frames := 6, cells := 0, slots := 0, locals := 135 } : Room) s m [.ref (q 0), .int a1].toArray below meth c H locs 0 0 (MQ below (Qi 167 (ceC cA q) D q r0 M0) [.ref (q 0), .int a1].toArray s 0 0 (AqG 167 q)) (F0 m 80 ls [])) → (res.1.1 = 1 → ∀ (H : Heap) (locs : List Loc) (ls : Array Slot), va_P D vwCl (wsG 167 (ceC cA q) q res.2) H → va_S (AqG 167 q) s.heap H locs → lv_has ls 3 [(0, .ref (q 0))] → W p l e ({ frames := 6, cells := 0, slots := 0, locals := 135 } : Room) s m [.ref (q 0), .int a1].toArray below meth c H locs 0 0 (MQ below (Qi 167 (ceC cA q) D q r0 M0) [.ref (q 0), .int a1].toArray s 0 0 (AqG 167 q)) (F0 m 92 ls [])) → W p l e ({ frames := 6, cells := 0, slots := 0, locals := 135 } : Room) s m [.ref (q 0), .int a1].toArray below meth c H locs 0 0 (MQ below (Qi 167 (ceC cA q) D q r0 M0) [.ref (q 0), .int a1].toArray s 0 0 (AqG 167 q)) (F0 m 52 ls []) := by
    intro fu
    induction fu with
    | zero => intro b2 M res H locs ls h; exact absurd h (by simp [f_X11_judgedIn_L52])
    | succ fu ih =>
      intro b2 M res H locs ls h hP hS hl K52_0 K52_1
      rw [f_X11_judgedIn_L52] at h
      refine lv_iload_n hx hb dX11_judgedIn_52 rfl (lv_at hl 2 rfl) ?_
      refine lv_bipush (v := 40) hx hb dX11_judgedIn_53 (by decide) ?_
      refine lv_icmp_gt (tgt := 92) hx hb dX11_judgedIn_55 (by decide) (fun c34 => ?_) (fun c34 => ?_)
      · rw [if_pos c34] at h
        cases h
        exact K52_1 rfl _ _ _ hP hS (lv_sub hl [0] rfl)
      · rw [if_neg c34] at h
        refine lv_aload_n hx hb dX11_judgedIn_58 rfl (lv_at hl 0 rfl) ?_
        refine gfC_11_1 X hP sC_0 bw_431 dX11_judgedIn_59 ?_
        obtain ⟨g35, h⟩ := gd_inv h
        have g35 := Decidable.not_not.mp g35
        obtain ⟨r36, M37, hc38, h⟩ := bnd_inv h
        refine gV_i (As := []) X hP hS hl.1 (c_X0_holdTerm l D cA q aK aV hq g35 hc38) sf_X0_holdTerm bw_900 sv_X0_holdTerm (rcC_0 g35) rfl ⟨rfl, rfl⟩ ⟨Nat.le_of_ble_eq_true rfl, Nat.le_of_ble_eq_true rfl⟩ rfl rfl (Nat.le_of_ble_eq_true rfl) dX11_judgedIn_62 (fun H locs hP hS => ?_)
        refine lv_pop hx hb dX11_judgedIn_65 rfl ?_
        refine lv_aload_n hx hb dX11_judgedIn_66 rfl (lv_at hl 0 rfl) ?_
        refine gfC_11_1 X hP sC_0 bw_431 dX11_judgedIn_67 ?_
        obtain ⟨g39, h⟩ := gd_inv h
        have g39 := Decidable.not_not.mp g39
        refine lv_iload_n hx hb dX11_judgedIn_70 rfl (lv_at hl 1 rfl) ?_
        obtain ⟨r40, M41, hc42, h⟩ := bnd_inv h
        refine gV_r (As := [.int a1]) X hP hS hl.1 (c_X0_personAt l D cA q aK aV hq g39 hc42) sf_X0_personAt bw_852 sv_X0_personAt (rcC_0 g39) rfl ⟨rfl, rfl⟩ ⟨Nat.le_of_ble_eq_true rfl, Nat.le_of_ble_eq_true rfl⟩ rfl rfl (Nat.le_of_ble_eq_true rfl) dX11_judgedIn_71 (fun H locs hP hS => ?_)
        obtain ⟨g43, h⟩ := gd_inv h
        have g43 := Decidable.not_not.mp g43
        refine gfC_5_3 X hP g43 bw_128 dX11_judgedIn_74 ?_
        refine lv_if_eq (tgt := 86) hx hb dX11_judgedIn_77 (by decide) (fun c44 => ?_) (fun c44 => ?_)
        · rw [if_pos c44] at h
          obtain ⟨y45, ey45, h⟩ := lt_inv h
          refine lv_iinc (v := y45) (lv' := [(2, .int y45), (0, .ref (q 0)), (1, .int a1)]) hx hb dX11_judgedIn_86 hl (k := 2) rfl (by rw [ey45]; rfl) (by decide) rfl (fun ls hl => ?_)
          refine lv_goto (tgt := 52) hx hb dX11_judgedIn_89 (by decide) ?_
          exact ih _ _ res _ _ _ h hP hS (lv_sub hl [1, 2, 0] rfl) K52_0 K52_1
        · rw [if_neg c44] at h
          cases h
          exact K52_0 rfl _ _ _ hP hS (lv_sub hl [0, 2] rfl)
  refine lv_aload_n hx hb dX11_judgedIn_0 rfl (lv_at hl 0 rfl) ?_
  refine gfC_11_0 X hP sC_0 bw_430 dX11_judgedIn_1 ?_
  obtain ⟨g1, h⟩ := gd_inv h
  have g1 := Decidable.not_not.mp g1
  refine lv_iconst (v := 3) hx hb dX11_judgedIn_4 (by decide) ?_
  refine lv_iload_n hx hb dX11_judgedIn_5 rfl (lv_at hl 1 rfl) ?_
  obtain ⟨r2, M3, hc4, h⟩ := bnd_inv h
  refine gV_i (As := [.int (3 : Int32), .int a1]) X hP hS hl.1 (c_X0_has l D cA q aK aV hq g1 hc4) sf_X0_has bw_830 sv_X0_has (rcC_0 g1) rfl ⟨rfl, rfl⟩ ⟨Nat.le_of_ble_eq_true rfl, Nat.le_of_ble_eq_true rfl⟩ rfl rfl (Nat.le_of_ble_eq_true rfl) dX11_judgedIn_6 (fun H locs hP hS => ?_)
  refine lv_if_ne (tgt := 18) hx hb dX11_judgedIn_9 (by decide) (fun c5 => ?_) (fun c5 => ?_)
  · rw [if_neg c5] at h
    refine lv_aload_n hx hb dX11_judgedIn_18 rfl (lv_at hl 0 rfl) ?_
    refine gfC_11_0 X hP sC_0 bw_430 dX11_judgedIn_19 ?_
    obtain ⟨g6, h⟩ := gd_inv h
    have g6 := Decidable.not_not.mp g6
    refine lv_iload_n hx hb dX11_judgedIn_22 rfl (lv_at hl 1 rfl) ?_
    obtain ⟨r7, M8, hc9, h⟩ := bnd_inv h
    refine gV_r (As := [.int a1]) X hP hS hl.1 (c_X0_personAt l D cA q aK aV hq g6 hc9) sf_X0_personAt bw_852 sv_X0_personAt (rcC_0 g6) rfl ⟨rfl, rfl⟩ ⟨Nat.le_of_ble_eq_true rfl, Nat.le_of_ble_eq_true rfl⟩ rfl rfl (Nat.le_of_ble_eq_true rfl) dX11_judgedIn_23 (fun H locs hP hS => ?_)
    obtain ⟨g10, h⟩ := gd_inv h
    have g10 := Decidable.not_not.mp g10
    refine gfC_5_3 X hP g10 bw_128 dX11_judgedIn_26 ?_
    refine lv_if_eq (tgt := 39) hx hb dX11_judgedIn_29 (by decide) (fun c11 => ?_) (fun c11 => ?_)
    · rw [if_pos c11] at h
      refine lv_aload_n hx hb dX11_judgedIn_39 rfl (lv_at hl 0 rfl) ?_
      refine gfC_11_1 X hP sC_0 bw_431 dX11_judgedIn_40 ?_
      obtain ⟨g12, h⟩ := gd_inv h
      have g12 := Decidable.not_not.mp g12
      refine lv_aload_n hx hb dX11_judgedIn_43 rfl (lv_at hl 0 rfl) ?_
      refine gfC_11_0 X hP sC_0 bw_430 dX11_judgedIn_44 ?_
      obtain ⟨g13, h⟩ := gd_inv h
      have g13 := Decidable.not_not.mp g13
      obtain ⟨_, M15, hc16, h⟩ := bnd_inv h
      refine gV_v (As := [.ref (q (gR M8 0 0))]) X hP hS hl.1 (c_X0_copyFrom l D cA q aK aV hq g12 g13 hc16) sf_X0_copyFrom bw_994 sv_X0_copyFrom (rcC_0 g12) rfl ⟨rfl, rfl⟩ ⟨Nat.le_of_ble_eq_true rfl, Nat.le_of_ble_eq_true rfl⟩ rfl rfl (Nat.le_of_ble_eq_true rfl) dX11_judgedIn_47 (fun H locs hP hS => ?_)
      refine lv_iconst (v := 1) hx hb dX11_judgedIn_50 (by decide) ?_
      refine lv_istore_n (lv' := [(2, .int (1 : Int32)), (0, .ref (q 0)), (1, .int a1)]) hx hb dX11_judgedIn_51 rfl hl (by decide) rfl (fun ls hl => ?_)
      obtain ⟨s17, M18, hc19, h⟩ := bnd_inv h
      obtain ⟨k20, x21⟩ := s17
      try dsimp only at h
      refine hL52  fz _ _ _ _ _ _ hc19 hP hS (lv_sub hl [1, 2, 0] rfl) (fun hke H locs ls hP hS hl => ?_) (fun hke H locs ls hP hS hl => ?_)
      · have hke : k20 = 0 := hke
        have hl : lv_has ls 3 [(0, .ref (q 0)), (2, .int x21)] := hl
        subst hke
        rw [if_pos rfl] at h
        refine lv_aload_n hx hb dX11_judgedIn_80 rfl (lv_at hl 0 rfl) ?_
        refine lv_iload_n hx hb dX11_judgedIn_81 rfl (lv_at hl 1 rfl) ?_
        obtain ⟨r22, M23, hc24, h⟩ := bnd_inv h
        refine gV_i (As := [.int x21]) X hP hS hl.1 (c_X11_given l D cA q aK aV hq hc24) sf_X11_given bw_755 sv_X11_given (rcC_11 sC_0) rfl ⟨rfl, rfl⟩ ⟨Nat.le_of_ble_eq_true rfl, Nat.le_of_ble_eq_true rfl⟩ rfl rfl (Nat.le_of_ble_eq_true rfl) dX11_judgedIn_82 (fun H locs hP hS => ?_)
        exact end_i X hr hk hP hS h dX11_judgedIn_85
      · have hke : k20 = 1 := hke
        have hl : lv_has ls 3 [(0, .ref (q 0))] := hl
        subst hke
        rw [if_neg (by decide)] at h
        refine lv_aload_n hx hb dX11_judgedIn_92 rfl (lv_at hl 0 rfl) ?_
        refine lv_bipush (v := 6) hx hb dX11_judgedIn_93 (by decide) ?_
        obtain ⟨r25, M26, hc27, h⟩ := bnd_inv h
        refine gV_i (As := [.int (6 : Int32)]) X hP hS hl.1 (c_X11_refused l D cA q aK aV hq hc27) sf_X11_refused bw_552 sv_X11_refused (rcC_11 sC_0) rfl ⟨rfl, rfl⟩ ⟨Nat.le_of_ble_eq_true rfl, Nat.le_of_ble_eq_true rfl⟩ rfl rfl (Nat.le_of_ble_eq_true rfl) dX11_judgedIn_95 (fun H locs hP hS => ?_)
        exact end_i X hr hk hP hS h dX11_judgedIn_98
    · rw [if_neg c11] at h
      refine lv_aload_n hx hb dX11_judgedIn_32 rfl (lv_at hl 0 rfl) ?_
      refine lv_bipush (v := 7) hx hb dX11_judgedIn_33 (by decide) ?_
      obtain ⟨r28, M29, hc30, h⟩ := bnd_inv h
      refine gV_i (As := [.int (7 : Int32)]) X hP hS hl.1 (c_X11_refused l D cA q aK aV hq hc30) sf_X11_refused bw_552 sv_X11_refused (rcC_11 sC_0) rfl ⟨rfl, rfl⟩ ⟨Nat.le_of_ble_eq_true rfl, Nat.le_of_ble_eq_true rfl⟩ rfl rfl (Nat.le_of_ble_eq_true rfl) dX11_judgedIn_35 (fun H locs hP hS => ?_)
      exact end_i X hr hk hP hS h dX11_judgedIn_38
  · rw [if_pos c5] at h
    refine lv_aload_n hx hb dX11_judgedIn_12 rfl (lv_at hl 0 rfl) ?_
    refine lv_iconst (v := 1) hx hb dX11_judgedIn_13 (by decide) ?_
    obtain ⟨r31, M32, hc33, h⟩ := bnd_inv h
    refine gV_i (As := [.int (1 : Int32)]) X hP hS hl.1 (c_X11_refused l D cA q aK aV hq hc33) sf_X11_refused bw_552 sv_X11_refused (rcC_11 sC_0) rfl ⟨rfl, rfl⟩ ⟨Nat.le_of_ble_eq_true rfl, Nat.le_of_ble_eq_true rfl⟩ rfl rfl (Nat.le_of_ble_eq_true rfl) dX11_judgedIn_14 (fun H locs hP hS => ?_)
    exact end_i X hr hk hP hS h dX11_judgedIn_17
theorem dX0_cueFor_0 : decode cX0_cueFor 0 = .ok (.aload_n 0, 1) := by decide +kernel
theorem dX0_cueFor_1 : decode cX0_cueFor 1 = .ok (.iload_n 1, 1) := by decide +kernel
theorem dX0_cueFor_2 : decode cX0_cueFor 2 = .ok (.iload_n 2, 1) := by decide +kernel
theorem dX0_cueFor_3 : decode cX0_cueFor 3 = .ok (.iload_n 3, 1) := by decide +kernel
theorem dX0_cueFor_4 : decode cX0_cueFor 4 = .ok (.iload 4, 2) := by decide +kernel
theorem dX0_cueFor_6 : decode cX0_cueFor 6 = .ok (.invokevirtual 144, 3) := by decide +kernel
theorem dX0_cueFor_9 : decode cX0_cueFor 9 = .ok (.istore 5, 2) := by decide +kernel
theorem dX0_cueFor_11 : decode cX0_cueFor 11 = .ok (.iload 5, 2) := by decide +kernel
theorem dX0_cueFor_13 : decode cX0_cueFor 13 = .ok (.iconst (-1), 1) := by decide +kernel
theorem dX0_cueFor_14 : decode cX0_cueFor 14 = .ok (.if_icmp .ne 11, 3) := by decide +kernel
theorem dX0_cueFor_17 : decode cX0_cueFor 17 = .ok (.aload_n 0, 1) := by decide +kernel
theorem dX0_cueFor_18 : decode cX0_cueFor 18 = .ok (.iconst 1, 1) := by decide +kernel
theorem dX0_cueFor_19 : decode cX0_cueFor 19 = .ok (.invokevirtual 77, 3) := by decide +kernel
theorem dX0_cueFor_22 : decode cX0_cueFor 22 = .ok (.goto 12, 3) := by decide +kernel
theorem dX0_cueFor_25 : decode cX0_cueFor 25 = .ok (.aload_n 0, 1) := by decide +kernel
theorem dX0_cueFor_26 : decode cX0_cueFor 26 = .ok (.iload 5, 2) := by decide +kernel
theorem dX0_cueFor_28 : decode cX0_cueFor 28 = .ok (.invokevirtual 81, 3) := by decide +kernel
theorem dX0_cueFor_31 : decode cX0_cueFor 31 = .ok (.getfield 148, 3) := by decide +kernel
theorem dX0_cueFor_34 : decode cX0_cueFor 34 = .ok (.ireturn, 1) := by decide +kernel
set_option maxRecDepth 100000 in
set_option maxHeartbeats 8000000 in
theorem c_X0_cueFor (l : Launch) (D : va_G) (cA : Nat → ClassId) (q aK aV : Nat → Nat) (hq : injG 167 q) {a0 : Nat} {a1 : Int32} {a2 : Int32} {a3 : Int32} {a4 : Int32} {M M0 : Mem} {r0 : Int32} (h0 : shC a0 = 0) (h : f_X0_cueFor a0 a1 a2 a3 a4 M = some (r0, M0)) : Met l yX0_cueFor (.code yX0_cueFor cX0_cueFor 6 (some .int) :: BW) ({ frames := 3, cells := 0, slots := 0, locals := 65 } : Room) (va_Pc [.ref (q a0), .int a1, .int a2, .int a3, .int a4] (CB 167 (ceC cA q) D cA q aK aV M)) (Qi 167 (ceC cA q) D q r0 M0) 0 0 (AqG 167 q) := by
  refine gMet RX0 (by decide +kernel) rfl hq (Nat.le_of_ble_eq_true rfl) ?_
  intro p e s m below meth c ls X hr hk hP hS hl
  have hx := X.1
  have hb := X.2.1
  have hl : lv_has ls 6 [(0, .ref (q a0)), (1, .int a1), (2, .int a2), (3, .int a3), (4, .int a4)] := hl
  rw [f_X0_cueFor] at h
  refine lv_aload_n hx hb dX0_cueFor_0 rfl (lv_at hl 0 rfl) ?_
  refine lv_iload_n hx hb dX0_cueFor_1 rfl (lv_at hl 1 rfl) ?_
  refine lv_iload_n hx hb dX0_cueFor_2 rfl (lv_at hl 2 rfl) ?_
  refine lv_iload_n hx hb dX0_cueFor_3 rfl (lv_at hl 3 rfl) ?_
  refine lv_iload hx hb dX0_cueFor_4 (lv_at hl 4 rfl) ?_
  obtain ⟨r1, M2, hc3, h⟩ := bnd_inv h
  refine gV_i (As := [.int a1, .int a2, .int a3, .int a4]) X hP hS hl.1 (c_X0_ruleFor l D cA q aK aV hq h0 hc3) sf_X0_ruleFor bw_878 sv_X0_ruleFor (rcC_0 h0) rfl ⟨rfl, rfl⟩ ⟨Nat.le_of_ble_eq_true rfl, Nat.le_of_ble_eq_true rfl⟩ rfl rfl (Nat.le_of_ble_eq_true rfl) dX0_cueFor_6 (fun H locs hP hS => ?_)
  refine lv_istore (lv' := [(5, .int r1), (0, .ref (q a0)), (1, .int a1), (2, .int a2), (3, .int a3), (4, .int a4)]) hx hb dX0_cueFor_9 hl (by decide) rfl (fun ls hl => ?_)
  refine lv_iload hx hb dX0_cueFor_11 (lv_at hl 0 rfl) ?_
  refine lv_iconst (v := -1) hx hb dX0_cueFor_13 (by decide) ?_
  refine lv_icmp_ne (tgt := 25) hx hb dX0_cueFor_14 (by decide) (fun c4 => ?_) (fun c4 => ?_)
  · rw [if_neg c4] at h
    refine lv_aload_n hx hb dX0_cueFor_25 rfl (lv_at hl 1 rfl) ?_
    refine lv_iload hx hb dX0_cueFor_26 (lv_at hl 0 rfl) ?_
    obtain ⟨r5, M6, hc7, h⟩ := bnd_inv h
    refine gV_r (As := [.int r1]) X hP hS hl.1 (c_X0_ruleAt l D cA q aK aV hq h0 hc7) sf_X0_ruleAt bw_882 sv_X0_ruleAt (rcC_0 h0) rfl ⟨rfl, rfl⟩ ⟨Nat.le_of_ble_eq_true rfl, Nat.le_of_ble_eq_true rfl⟩ rfl rfl (Nat.le_of_ble_eq_true rfl) dX0_cueFor_28 (fun H locs hP hS => ?_)
    obtain ⟨g8, h⟩ := gd_inv h
    have g8 := Decidable.not_not.mp g8
    refine gfC_6_0 X hP g8 bw_66 dX0_cueFor_31 ?_
    exact end_i X hr hk hP hS h dX0_cueFor_34
  · rw [if_pos c4] at h
    refine lv_aload_n hx hb dX0_cueFor_17 rfl (lv_at hl 1 rfl) ?_
    refine lv_iconst (v := 1) hx hb dX0_cueFor_18 (by decide) ?_
    obtain ⟨r9, M10, hc11, h⟩ := bnd_inv h
    refine gV_i (As := [.int (1 : Int32)]) X hP hS hl.1 (c_X0_countOf l D cA q aK aV hq h0 hc11) sf_X0_countOf bw_645 sv_X0_countOf (rcC_0 h0) rfl ⟨rfl, rfl⟩ ⟨Nat.le_of_ble_eq_true rfl, Nat.le_of_ble_eq_true rfl⟩ rfl rfl (Nat.le_of_ble_eq_true rfl) dX0_cueFor_19 (fun H locs hP hS => ?_)
    refine lv_goto (tgt := 34) hx hb dX0_cueFor_22 (by decide) ?_
    exact end_i X hr hk hP hS h dX0_cueFor_34
theorem dX11_takeThree_0 : decode cX11_takeThree 0 = .ok (.aload_n 0, 1) := by decide +kernel
theorem dX11_takeThree_1 : decode cX11_takeThree 1 = .ok (.getfield 10, 3) := by decide +kernel
theorem dX11_takeThree_4 : decode cX11_takeThree 4 = .ok (.iload_n 1, 1) := by decide +kernel
theorem dX11_takeThree_5 : decode cX11_takeThree 5 = .ok (.invokevirtual 228, 3) := by decide +kernel
theorem dX11_takeThree_8 : decode cX11_takeThree 8 = .ok (.astore 4, 2) := by decide +kernel
theorem dX11_takeThree_10 : decode cX11_takeThree 10 = .ok (.aload_n 0, 1) := by decide +kernel
theorem dX11_takeThree_11 : decode cX11_takeThree 11 = .ok (.getfield 10, 3) := by decide +kernel
theorem dX11_takeThree_14 : decode cX11_takeThree 14 = .ok (.iconst 1, 1) := by decide +kernel
theorem dX11_takeThree_15 : decode cX11_takeThree 15 = .ok (.aload 4, 2) := by decide +kernel
theorem dX11_takeThree_17 : decode cX11_takeThree 17 = .ok (.getfield 232, 3) := by decide +kernel
theorem dX11_takeThree_20 : decode cX11_takeThree 20 = .ok (.iload_n 2, 1) := by decide +kernel
theorem dX11_takeThree_21 : decode cX11_takeThree 21 = .ok (.aload 4, 2) := by decide +kernel
theorem dX11_takeThree_23 : decode cX11_takeThree 23 = .ok (.getfield 237, 3) := by decide +kernel
theorem dX11_takeThree_26 : decode cX11_takeThree 26 = .ok (.invokevirtual 446, 3) := by decide +kernel
theorem dX11_takeThree_29 : decode cX11_takeThree 29 = .ok (.iload_n 3, 1) := by decide +kernel
theorem dX11_takeThree_30 : decode cX11_takeThree 30 = .ok (.if_icmp .eq 15, 3) := by decide +kernel
theorem dX11_takeThree_33 : decode cX11_takeThree 33 = .ok (.aload_n 0, 1) := by decide +kernel
theorem dX11_takeThree_34 : decode cX11_takeThree 34 = .ok (.dup, 1) := by decide +kernel
theorem dX11_takeThree_35 : decode cX11_takeThree 35 = .ok (.getfield 98, 3) := by decide +kernel
theorem dX11_takeThree_38 : decode cX11_takeThree 38 = .ok (.iconst 1, 1) := by decide +kernel
theorem dX11_takeThree_39 : decode cX11_takeThree 39 = .ok (.iload_n 1, 1) := by decide +kernel
theorem dX11_takeThree_40 : decode cX11_takeThree 40 = .ok (.ishl, 1) := by decide +kernel
theorem dX11_takeThree_41 : decode cX11_takeThree 41 = .ok (.ior, 1) := by decide +kernel
theorem dX11_takeThree_42 : decode cX11_takeThree 42 = .ok (.putfield 98, 3) := by decide +kernel
theorem dX11_takeThree_45 : decode cX11_takeThree 45 = .ok (.aload_n 0, 1) := by decide +kernel
theorem dX11_takeThree_46 : decode cX11_takeThree 46 = .ok (.getfield 10, 3) := by decide +kernel
theorem dX11_takeThree_49 : decode cX11_takeThree 49 = .ok (.iconst 2, 1) := by decide +kernel
theorem dX11_takeThree_50 : decode cX11_takeThree 50 = .ok (.aload 4, 2) := by decide +kernel
theorem dX11_takeThree_52 : decode cX11_takeThree 52 = .ok (.getfield 232, 3) := by decide +kernel
theorem dX11_takeThree_55 : decode cX11_takeThree 55 = .ok (.iload_n 2, 1) := by decide +kernel
theorem dX11_takeThree_56 : decode cX11_takeThree 56 = .ok (.aload 4, 2) := by decide +kernel
theorem dX11_takeThree_58 : decode cX11_takeThree 58 = .ok (.getfield 237, 3) := by decide +kernel
theorem dX11_takeThree_61 : decode cX11_takeThree 61 = .ok (.invokevirtual 446, 3) := by decide +kernel
theorem dX11_takeThree_64 : decode cX11_takeThree 64 = .ok (.iload_n 3, 1) := by decide +kernel
theorem dX11_takeThree_65 : decode cX11_takeThree 65 = .ok (.if_icmp .eq 15, 3) := by decide +kernel
theorem dX11_takeThree_68 : decode cX11_takeThree 68 = .ok (.aload_n 0, 1) := by decide +kernel
theorem dX11_takeThree_69 : decode cX11_takeThree 69 = .ok (.dup, 1) := by decide +kernel
theorem dX11_takeThree_70 : decode cX11_takeThree 70 = .ok (.getfield 101, 3) := by decide +kernel
theorem dX11_takeThree_73 : decode cX11_takeThree 73 = .ok (.iconst 1, 1) := by decide +kernel
theorem dX11_takeThree_74 : decode cX11_takeThree 74 = .ok (.iload_n 1, 1) := by decide +kernel
theorem dX11_takeThree_75 : decode cX11_takeThree 75 = .ok (.ishl, 1) := by decide +kernel
theorem dX11_takeThree_76 : decode cX11_takeThree 76 = .ok (.ior, 1) := by decide +kernel
theorem dX11_takeThree_77 : decode cX11_takeThree 77 = .ok (.putfield 101, 3) := by decide +kernel
theorem dX11_takeThree_80 : decode cX11_takeThree 80 = .ok (.return_, 1) := by decide +kernel
set_option maxRecDepth 100000 in
set_option maxHeartbeats 8000000 in
theorem c_X11_takeThree (l : Launch) (D : va_G) (cA : Nat → ClassId) (q aK aV : Nat → Nat) (hq : injG 167 q) {a1 : Int32} {a2 : Int32} {a3 : Int32} {M M0 : Mem} (h : f_X11_takeThree a1 a2 a3 M = some ((), M0)) : Met l yX11_takeThree (.code yX11_takeThree cX11_takeThree 5 none :: BW) ({ frames := 4, cells := 0, slots := 0, locals := 90 } : Room) (va_Pc [.ref (q 0), .int a1, .int a2, .int a3] (CB 167 (ceC cA q) D cA q aK aV M)) (Qv 167 (ceC cA q) D q M0) 0 0 (AqG 167 q) := by
  refine gMet RX11 (by decide +kernel) rfl hq (Nat.le_of_ble_eq_true rfl) ?_
  intro p e s m below meth c ls X hr hk hP hS hl
  have hx := X.1
  have hb := X.2.1
  have hl : lv_has ls 5 [(0, .ref (q 0)), (1, .int a1), (2, .int a2), (3, .int a3)] := hl
  rw [f_X11_takeThree] at h
  have hJ45 : ∀ (b4 : Nat) (hb4 : shC b4 = 5) (M : Mem) (H : Heap) (locs : List Loc) (ls : Array Slot), f_X11_takeThree_J45 a1 a2 a3 b4 M = some ((), M0) → va_P D vwCl (wsG 167 (ceC cA q) q M) H → va_S (AqG 167 q) s.heap H locs → lv_has ls 5 [(0, .ref (q 0)), (1, .int a1), (2, .int a2), (3, .int a3), (4, .ref (q b4))] → W p l e ({ frames := 4, cells := 0, slots := 0, locals := 90 } : Room) s m [.ref (q 0), .int a1, .int a2, .int a3].toArray below meth c H locs 0 0 (MQ below (Qv 167 (ceC cA q) D q M0) [.ref (q 0), .int a1, .int a2, .int a3].toArray s 0 0 (AqG 167 q)) (F0 m 45 ls []) := by
    intro b4 hb4 M H locs ls h hP hS hl
    rw [f_X11_takeThree_J45] at h
    refine lv_aload_n hx hb dX11_takeThree_45 rfl (lv_at hl 0 rfl) ?_
    refine gfC_11_0 X hP sC_0 bw_430 dX11_takeThree_46 ?_
    obtain ⟨g12, h⟩ := gd_inv h
    have g12 := Decidable.not_not.mp g12
    refine lv_iconst (v := 2) hx hb dX11_takeThree_49 (by decide) ?_
    refine lv_aload hx hb dX11_takeThree_50 (lv_at hl 4 rfl) ?_
    refine gfC_5_1 X hP hb4 bw_119 dX11_takeThree_52 ?_
    refine lv_iload_n hx hb dX11_takeThree_55 rfl (lv_at hl 2 rfl) ?_
    refine lv_aload hx hb dX11_takeThree_56 (lv_at hl 4 rfl) ?_
    refine gfC_5_2 X hP hb4 bw_123 dX11_takeThree_58 ?_
    obtain ⟨r13, M14, hc15, h⟩ := bnd_inv h
    refine gV_i (As := [.int (2 : Int32), .int (gI M b4 1), .int a2, .int (gI M b4 2)]) X hP hS hl.1 (c_X0_cueFor l D cA q aK aV hq g12 hc15) sf_X0_cueFor bw_1021 sv_X0_cueFor (rcC_0 g12) rfl ⟨rfl, rfl⟩ ⟨Nat.le_of_ble_eq_true rfl, Nat.le_of_ble_eq_true rfl⟩ rfl rfl (Nat.le_of_ble_eq_true rfl) dX11_takeThree_61 (fun H locs hP hS => ?_)
    refine lv_iload_n hx hb dX11_takeThree_64 rfl (lv_at hl 3 rfl) ?_
    refine lv_icmp_eq (tgt := 80) hx hb dX11_takeThree_65 (by decide) (fun c16 => ?_) (fun c16 => ?_)
    · rw [if_pos c16] at h
      exact end_v X hr hk hP hS h dX11_takeThree_80
    · rw [if_neg c16] at h
      refine lv_aload_n hx hb dX11_takeThree_68 rfl (lv_at hl 0 rfl) ?_
      refine lv_dup hx hb dX11_takeThree_69 rfl ?_
      refine gfC_11_18 X hP sC_0 bw_448 dX11_takeThree_70 ?_
      refine lv_iconst (v := 1) hx hb dX11_takeThree_73 (by decide) ?_
      refine lv_iload_n hx hb dX11_takeThree_74 rfl (lv_at hl 1 rfl) ?_
      refine lv_ishl hx hb dX11_takeThree_75 ?_
      refine lv_ior hx hb dX11_takeThree_76 ?_
      obtain ⟨M17, eM17, h⟩ := lt_inv h
      refine pfC_11_18 X hP hS sC_0 bw_448 eM17 dX11_takeThree_77 (fun H locs hP hS => ?_)
      exact end_v X hr hk hP hS h dX11_takeThree_80
  refine lv_aload_n hx hb dX11_takeThree_0 rfl (lv_at hl 0 rfl) ?_
  refine gfC_11_0 X hP sC_0 bw_430 dX11_takeThree_1 ?_
  obtain ⟨g1, h⟩ := gd_inv h
  have g1 := Decidable.not_not.mp g1
  refine lv_iload_n hx hb dX11_takeThree_4 rfl (lv_at hl 1 rfl) ?_
  obtain ⟨r2, M3, hc4, h⟩ := bnd_inv h
  refine gV_r (As := [.int a1]) X hP hS hl.1 (c_X0_personAt l D cA q aK aV hq g1 hc4) sf_X0_personAt bw_852 sv_X0_personAt (rcC_0 g1) rfl ⟨rfl, rfl⟩ ⟨Nat.le_of_ble_eq_true rfl, Nat.le_of_ble_eq_true rfl⟩ rfl rfl (Nat.le_of_ble_eq_true rfl) dX11_takeThree_5 (fun H locs hP hS => ?_)
  obtain ⟨g5, h⟩ := gd_inv h
  have g5 := Decidable.not_not.mp g5
  refine lv_astore (lv' := [(4, .ref (q r2)), (0, .ref (q 0)), (1, .int a1), (2, .int a2), (3, .int a3)]) hx hb dX11_takeThree_8 hl (by decide) rfl (fun ls hl => ?_)
  refine lv_aload_n hx hb dX11_takeThree_10 rfl (lv_at hl 1 rfl) ?_
  refine gfC_11_0 X hP sC_0 bw_430 dX11_takeThree_11 ?_
  obtain ⟨g6, h⟩ := gd_inv h
  have g6 := Decidable.not_not.mp g6
  refine lv_iconst (v := 1) hx hb dX11_takeThree_14 (by decide) ?_
  refine lv_aload hx hb dX11_takeThree_15 (lv_at hl 0 rfl) ?_
  refine gfC_5_1 X hP g5 bw_119 dX11_takeThree_17 ?_
  refine lv_iload_n hx hb dX11_takeThree_20 rfl (lv_at hl 3 rfl) ?_
  refine lv_aload hx hb dX11_takeThree_21 (lv_at hl 0 rfl) ?_
  refine gfC_5_2 X hP g5 bw_123 dX11_takeThree_23 ?_
  obtain ⟨r7, M8, hc9, h⟩ := bnd_inv h
  refine gV_i (As := [.int (1 : Int32), .int (gI M3 r2 1), .int a2, .int (gI M3 r2 2)]) X hP hS hl.1 (c_X0_cueFor l D cA q aK aV hq g6 hc9) sf_X0_cueFor bw_1021 sv_X0_cueFor (rcC_0 g6) rfl ⟨rfl, rfl⟩ ⟨Nat.le_of_ble_eq_true rfl, Nat.le_of_ble_eq_true rfl⟩ rfl rfl (Nat.le_of_ble_eq_true rfl) dX11_takeThree_26 (fun H locs hP hS => ?_)
  refine lv_iload_n hx hb dX11_takeThree_29 rfl (lv_at hl 4 rfl) ?_
  refine lv_icmp_eq (tgt := 45) hx hb dX11_takeThree_30 (by decide) (fun c10 => ?_) (fun c10 => ?_)
  · rw [if_pos c10] at h
    exact hJ45 _ g5 _ _ _ _ h hP hS (lv_sub hl [1, 2, 3, 4, 0] rfl)
  · rw [if_neg c10] at h
    refine lv_aload_n hx hb dX11_takeThree_33 rfl (lv_at hl 1 rfl) ?_
    refine lv_dup hx hb dX11_takeThree_34 rfl ?_
    refine gfC_11_17 X hP sC_0 bw_447 dX11_takeThree_35 ?_
    refine lv_iconst (v := 1) hx hb dX11_takeThree_38 (by decide) ?_
    refine lv_iload_n hx hb dX11_takeThree_39 rfl (lv_at hl 2 rfl) ?_
    refine lv_ishl hx hb dX11_takeThree_40 ?_
    refine lv_ior hx hb dX11_takeThree_41 ?_
    obtain ⟨M11, eM11, h⟩ := lt_inv h
    refine pfC_11_17 X hP hS sC_0 bw_447 eM11 dX11_takeThree_42 (fun H locs hP hS => ?_)
    exact hJ45 _ g5 _ _ _ _ h hP hS (lv_sub hl [1, 2, 3, 4, 0] rfl)
