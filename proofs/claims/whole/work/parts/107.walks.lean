theorem dX3_mostFree_0 : decode cX3_mostFree 0 = .ok (.aload_n 0, 1) := by decide +kernel
theorem dX3_mostFree_1 : decode cX3_mostFree 1 = .ok (.getfield 9, 3) := by decide +kernel
theorem dX3_mostFree_4 : decode cX3_mostFree 4 = .ok (.iconst 0, 1) := by decide +kernel
theorem dX3_mostFree_5 : decode cX3_mostFree 5 = .ok (.invokestatic 44, 3) := by decide +kernel
theorem dX3_mostFree_8 : decode cX3_mostFree 8 = .ok (.ireturn, 1) := by decide +kernel
set_option maxRecDepth 100000 in
set_option maxHeartbeats 8000000 in
theorem c_X3_mostFree (l : Launch) (D : va_G) (cA : Nat → ClassId) (q aK aV : Nat → Nat) (hq : injG 167 q) {M M0 : Mem} {r0 : Int32} (h : f_X3_mostFree M = some (r0, M0)) : Met l yX3_mostFree (.code yX3_mostFree cX3_mostFree 1 (some .int) :: BW) ({ frames := 2, cells := 0, slots := 0, locals := 34 } : Room) (va_Pc [.ref (q 21)] (CB 167 (ceC cA q) D cA q aK aV M)) (Qi 167 (ceC cA q) D q r0 M0) 0 0 (AqG 167 q) := by
  refine gMet RX3 (by decide +kernel) rfl hq (Nat.le_of_ble_eq_true rfl) ?_
  intro p e s m below meth c ls X hr hk hP hS hl
  have hx := X.1
  have hb := X.2.1
  have hl : lv_has ls 1 [(0, .ref (q 21))] := hl
  rw [f_X3_mostFree] at h
  refine lv_aload_n hx hb dX3_mostFree_0 rfl (lv_at hl 0 rfl) ?_
  refine gfC_3_0 X hP sC_21 bw_373 dX3_mostFree_1 ?_
  refine lv_iconst (v := 0) hx hb dX3_mostFree_4 (by decide) ?_
  obtain ⟨r1, M2, hc3, h⟩ := bnd_inv h
  refine gSN_i (As := [.ref (q 22), .int (0 : Int32)]) X hP hS hl.1 (c_X11_cell l D cA q aK aV hq sC_22 hc3) sf_X11_cell nw_25 ss_X11_cell ⟨rfl, rfl⟩ ⟨Nat.le_of_ble_eq_true rfl, Nat.le_of_ble_eq_true rfl⟩ rfl rfl (Nat.le_of_ble_eq_true rfl) dX3_mostFree_5 (fun H locs hP hS => ?_)
  exact end_i X hr hk hP hS h dX3_mostFree_8
theorem dX11_best_0 : decode cX11_best 0 = .ok (.aload_n 0, 1) := by decide +kernel
theorem dX11_best_1 : decode cX11_best 1 = .ok (.getfield 64, 3) := by decide +kernel
theorem dX11_best_4 : decode cX11_best 4 = .ok (.aload_n 0, 1) := by decide +kernel
theorem dX11_best_5 : decode cX11_best 5 = .ok (.getfield 10, 3) := by decide +kernel
theorem dX11_best_8 : decode cX11_best 8 = .ok (.invokevirtual 380, 3) := by decide +kernel
theorem dX11_best_11 : decode cX11_best 11 = .ok (.aload_n 0, 1) := by decide +kernel
theorem dX11_best_12 : decode cX11_best 12 = .ok (.aload_n 0, 1) := by decide +kernel
theorem dX11_best_13 : decode cX11_best 13 = .ok (.getfield 64, 3) := by decide +kernel
theorem dX11_best_16 : decode cX11_best 16 = .ok (.invokevirtual 383, 3) := by decide +kernel
theorem dX11_best_19 : decode cX11_best 19 = .ok (.invokevirtual 191, 3) := by decide +kernel
theorem dX11_best_22 : decode cX11_best 22 = .ok (.ireturn, 1) := by decide +kernel
set_option maxRecDepth 100000 in
set_option maxHeartbeats 8000000 in
theorem c_X11_best (l : Launch) (D : va_G) (cA : Nat → ClassId) (q aK aV : Nat → Nat) (hq : injG 167 q) {M M0 : Mem} {r0 : Int32} (h : f_X11_best M = some (r0, M0)) : Met l yX11_best (.code yX11_best cX11_best 1 (some .int) :: BW) ({ frames := 8, cells := 0, slots := 0, locals := 186 } : Room) (va_Pc [.ref (q 0)] (CB 167 (ceC cA q) D cA q aK aV M)) (Qi 167 (ceC cA q) D q r0 M0) 0 0 (AqG 167 q) := by
  refine gMet RX11 (by decide +kernel) rfl hq (Nat.le_of_ble_eq_true rfl) ?_
  intro p e s m below meth c ls X hr hk hP hS hl
  have hx := X.1
  have hb := X.2.1
  have hl : lv_has ls 1 [(0, .ref (q 0))] := hl
  rw [f_X11_best] at h
  refine lv_aload_n hx hb dX11_best_0 rfl (lv_at hl 0 rfl) ?_
  refine gfC_11_9 X hP sC_0 bw_439 dX11_best_1 ?_
  refine lv_aload_n hx hb dX11_best_4 rfl (lv_at hl 0 rfl) ?_
  refine gfC_11_0 X hP sC_0 bw_430 dX11_best_5 ?_
  obtain ⟨g1, h⟩ := gd_inv h
  have g1 := Decidable.not_not.mp g1
  obtain ⟨_, M3, hc4, h⟩ := bnd_inv h
  refine gV_v (As := [.ref (q (gR M 0 0))]) X hP hS hl.1 (c_X3_settle l D cA q aK aV hq g1 hc4) sf_X3_settle bw_1157 sv_X3_settle (rcC_3 sC_21) rfl ⟨rfl, rfl⟩ ⟨Nat.le_of_ble_eq_true rfl, Nat.le_of_ble_eq_true rfl⟩ rfl rfl (Nat.le_of_ble_eq_true rfl) dX11_best_8 (fun H locs hP hS => ?_)
  refine lv_aload_n hx hb dX11_best_11 rfl (lv_at hl 0 rfl) ?_
  refine lv_aload_n hx hb dX11_best_12 rfl (lv_at hl 0 rfl) ?_
  refine gfC_11_9 X hP sC_0 bw_439 dX11_best_13 ?_
  obtain ⟨r5, M6, hc7, h⟩ := bnd_inv h
  refine gV_i (As := []) X hP hS hl.1 (c_X3_mostFree l D cA q aK aV hq hc7) sf_X3_mostFree bw_1184 sv_X3_mostFree (rcC_3 sC_21) rfl ⟨rfl, rfl⟩ ⟨Nat.le_of_ble_eq_true rfl, Nat.le_of_ble_eq_true rfl⟩ rfl rfl (Nat.le_of_ble_eq_true rfl) dX11_best_16 (fun H locs hP hS => ?_)
  obtain ⟨r8, M9, hc10, h⟩ := bnd_inv h
  refine gV_i (As := [.int r5]) X hP hS hl.1 (c_X11_given l D cA q aK aV hq hc10) sf_X11_given bw_755 sv_X11_given (rcC_11 sC_0) rfl ⟨rfl, rfl⟩ ⟨Nat.le_of_ble_eq_true rfl, Nat.le_of_ble_eq_true rfl⟩ rfl rfl (Nat.le_of_ble_eq_true rfl) dX11_best_19 (fun H locs hP hS => ?_)
  exact end_i X hr hk hP hS h dX11_best_22
theorem dX11_bestAt_0 : decode cX11_bestAt 0 = .ok (.iload_n 1, 1) := by decide +kernel
theorem dX11_bestAt_1 : decode cX11_bestAt 1 = .ok (.ifCond .ge 9, 3) := by decide +kernel
theorem dX11_bestAt_4 : decode cX11_bestAt 4 = .ok (.aload_n 0, 1) := by decide +kernel
theorem dX11_bestAt_5 : decode cX11_bestAt 5 = .ok (.iconst 1, 1) := by decide +kernel
theorem dX11_bestAt_6 : decode cX11_bestAt 6 = .ok (.invokevirtual 132, 3) := by decide +kernel
theorem dX11_bestAt_9 : decode cX11_bestAt 9 = .ok (.ireturn, 1) := by decide +kernel
theorem dX11_bestAt_10 : decode cX11_bestAt 10 = .ok (.aload_n 0, 1) := by decide +kernel
theorem dX11_bestAt_11 : decode cX11_bestAt 11 = .ok (.getfield 64, 3) := by decide +kernel
theorem dX11_bestAt_14 : decode cX11_bestAt 14 = .ok (.aload_n 0, 1) := by decide +kernel
theorem dX11_bestAt_15 : decode cX11_bestAt 15 = .ok (.getfield 10, 3) := by decide +kernel
theorem dX11_bestAt_18 : decode cX11_bestAt 18 = .ok (.invokevirtual 380, 3) := by decide +kernel
theorem dX11_bestAt_21 : decode cX11_bestAt 21 = .ok (.iload_n 1, 1) := by decide +kernel
theorem dX11_bestAt_22 : decode cX11_bestAt 22 = .ok (.aload_n 0, 1) := by decide +kernel
theorem dX11_bestAt_23 : decode cX11_bestAt 23 = .ok (.getfield 64, 3) := by decide +kernel
theorem dX11_bestAt_26 : decode cX11_bestAt 26 = .ok (.getfield 386, 3) := by decide +kernel
theorem dX11_bestAt_29 : decode cX11_bestAt 29 = .ok (.invokestatic 104, 3) := by decide +kernel
theorem dX11_bestAt_32 : decode cX11_bestAt 32 = .ok (.ifCond .eq 21, 3) := by decide +kernel
theorem dX11_bestAt_35 : decode cX11_bestAt 35 = .ok (.aload_n 0, 1) := by decide +kernel
theorem dX11_bestAt_36 : decode cX11_bestAt 36 = .ok (.aload_n 0, 1) := by decide +kernel
theorem dX11_bestAt_37 : decode cX11_bestAt 37 = .ok (.getfield 64, 3) := by decide +kernel
theorem dX11_bestAt_40 : decode cX11_bestAt 40 = .ok (.getfield 387, 3) := by decide +kernel
theorem dX11_bestAt_43 : decode cX11_bestAt 43 = .ok (.iload_n 1, 1) := by decide +kernel
theorem dX11_bestAt_44 : decode cX11_bestAt 44 = .ok (.invokestatic 254, 3) := by decide +kernel
theorem dX11_bestAt_47 : decode cX11_bestAt 47 = .ok (.invokevirtual 191, 3) := by decide +kernel
theorem dX11_bestAt_50 : decode cX11_bestAt 50 = .ok (.goto 9, 3) := by decide +kernel
theorem dX11_bestAt_53 : decode cX11_bestAt 53 = .ok (.aload_n 0, 1) := by decide +kernel
theorem dX11_bestAt_54 : decode cX11_bestAt 54 = .ok (.bipush 6, 2) := by decide +kernel
theorem dX11_bestAt_56 : decode cX11_bestAt 56 = .ok (.invokevirtual 132, 3) := by decide +kernel
theorem dX11_bestAt_59 : decode cX11_bestAt 59 = .ok (.ireturn, 1) := by decide +kernel
set_option maxRecDepth 100000 in
set_option maxHeartbeats 8000000 in
theorem c_X11_bestAt (l : Launch) (D : va_G) (cA : Nat → ClassId) (q aK aV : Nat → Nat) (hq : injG 167 q) {a1 : Int32} {M M0 : Mem} {r0 : Int32} (h : f_X11_bestAt a1 M = some (r0, M0)) : Met l yX11_bestAt (.code yX11_bestAt cX11_bestAt 2 (some .int) :: BW) ({ frames := 8, cells := 0, slots := 0, locals := 186 } : Room) (va_Pc [.ref (q 0), .int a1] (CB 167 (ceC cA q) D cA q aK aV M)) (Qi 167 (ceC cA q) D q r0 M0) 0 0 (AqG 167 q) := by
  refine gMet RX11 (by decide +kernel) rfl hq (Nat.le_of_ble_eq_true rfl) ?_
  intro p e s m below meth c ls X hr hk hP hS hl
  have hx := X.1
  have hb := X.2.1
  have hl : lv_has ls 2 [(0, .ref (q 0)), (1, .int a1)] := hl
  rw [f_X11_bestAt] at h
  refine lv_iload_n hx hb dX11_bestAt_0 rfl (lv_at hl 1 rfl) ?_
  refine lv_if_ge (tgt := 10) hx hb dX11_bestAt_1 (by decide) (fun c1 => ?_) (fun c1 => ?_)
  · rw [if_pos c1] at h
    refine lv_aload_n hx hb dX11_bestAt_10 rfl (lv_at hl 0 rfl) ?_
    refine gfC_11_9 X hP sC_0 bw_439 dX11_bestAt_11 ?_
    refine lv_aload_n hx hb dX11_bestAt_14 rfl (lv_at hl 0 rfl) ?_
    refine gfC_11_0 X hP sC_0 bw_430 dX11_bestAt_15 ?_
    obtain ⟨g2, h⟩ := gd_inv h
    have g2 := Decidable.not_not.mp g2
    obtain ⟨_, M4, hc5, h⟩ := bnd_inv h
    refine gV_v (As := [.ref (q (gR M 0 0))]) X hP hS hl.1 (c_X3_settle l D cA q aK aV hq g2 hc5) sf_X3_settle bw_1157 sv_X3_settle (rcC_3 sC_21) rfl ⟨rfl, rfl⟩ ⟨Nat.le_of_ble_eq_true rfl, Nat.le_of_ble_eq_true rfl⟩ rfl rfl (Nat.le_of_ble_eq_true rfl) dX11_bestAt_18 (fun H locs hP hS => ?_)
    refine lv_iload_n hx hb dX11_bestAt_21 rfl (lv_at hl 1 rfl) ?_
    refine lv_aload_n hx hb dX11_bestAt_22 rfl (lv_at hl 0 rfl) ?_
    refine gfC_11_9 X hP sC_0 bw_439 dX11_bestAt_23 ?_
    refine gfC_3_2 X hP sC_21 bw_377 dX11_bestAt_26 ?_
    obtain ⟨r6, M7, hc8, h⟩ := bnd_inv h
    refine gS_i (As := [.int a1, .int (gI M4 21 2)]) X hP hS hl.1 (c_X11_within l D cA q aK aV hq hc8) sf_X11_within bw_504 ss_X11_within ⟨rfl, rfl⟩ ⟨Nat.le_of_ble_eq_true rfl, Nat.le_of_ble_eq_true rfl⟩ rfl rfl (Nat.le_of_ble_eq_true rfl) dX11_bestAt_29 (fun H locs hP hS => ?_)
    refine lv_if_eq (tgt := 53) hx hb dX11_bestAt_32 (by decide) (fun c9 => ?_) (fun c9 => ?_)
    · rw [if_pos c9] at h
      refine lv_aload_n hx hb dX11_bestAt_53 rfl (lv_at hl 0 rfl) ?_
      refine lv_bipush (v := 6) hx hb dX11_bestAt_54 (by decide) ?_
      obtain ⟨r10, M11, hc12, h⟩ := bnd_inv h
      refine gV_i (As := [.int (6 : Int32)]) X hP hS hl.1 (c_X11_refused l D cA q aK aV hq hc12) sf_X11_refused bw_552 sv_X11_refused (rcC_11 sC_0) rfl ⟨rfl, rfl⟩ ⟨Nat.le_of_ble_eq_true rfl, Nat.le_of_ble_eq_true rfl⟩ rfl rfl (Nat.le_of_ble_eq_true rfl) dX11_bestAt_56 (fun H locs hP hS => ?_)
      exact end_i X hr hk hP hS h dX11_bestAt_59
    · rw [if_neg c9] at h
      refine lv_aload_n hx hb dX11_bestAt_35 rfl (lv_at hl 0 rfl) ?_
      refine lv_aload_n hx hb dX11_bestAt_36 rfl (lv_at hl 0 rfl) ?_
      refine gfC_11_9 X hP sC_0 bw_439 dX11_bestAt_37 ?_
      refine gfC_3_1 X hP sC_21 bw_375 dX11_bestAt_40 ?_
      refine lv_iload_n hx hb dX11_bestAt_43 rfl (lv_at hl 1 rfl) ?_
      obtain ⟨r13, M14, hc15, h⟩ := bnd_inv h
      refine gS_i (As := [.ref (q 23), .int a1]) X hP hS hl.1 (c_X11_cell l D cA q aK aV hq sC_23 hc15) sf_X11_cell bw_857 ss_X11_cell ⟨rfl, rfl⟩ ⟨Nat.le_of_ble_eq_true rfl, Nat.le_of_ble_eq_true rfl⟩ rfl rfl (Nat.le_of_ble_eq_true rfl) dX11_bestAt_44 (fun H locs hP hS => ?_)
      obtain ⟨r16, M17, hc18, h⟩ := bnd_inv h
      refine gV_i (As := [.int r13]) X hP hS hl.1 (c_X11_given l D cA q aK aV hq hc18) sf_X11_given bw_755 sv_X11_given (rcC_11 sC_0) rfl ⟨rfl, rfl⟩ ⟨Nat.le_of_ble_eq_true rfl, Nat.le_of_ble_eq_true rfl⟩ rfl rfl (Nat.le_of_ble_eq_true rfl) dX11_bestAt_47 (fun H locs hP hS => ?_)
      refine lv_goto (tgt := 59) hx hb dX11_bestAt_50 (by decide) ?_
      exact end_i X hr hk hP hS h dX11_bestAt_59
  · rw [if_neg c1] at h
    refine lv_aload_n hx hb dX11_bestAt_4 rfl (lv_at hl 0 rfl) ?_
    refine lv_iconst (v := 1) hx hb dX11_bestAt_5 (by decide) ?_
    obtain ⟨r19, M20, hc21, h⟩ := bnd_inv h
    refine gV_i (As := [.int (1 : Int32)]) X hP hS hl.1 (c_X11_refused l D cA q aK aV hq hc21) sf_X11_refused bw_552 sv_X11_refused (rcC_11 sC_0) rfl ⟨rfl, rfl⟩ ⟨Nat.le_of_ble_eq_true rfl, Nat.le_of_ble_eq_true rfl⟩ rfl rfl (Nat.le_of_ble_eq_true rfl) dX11_bestAt_6 (fun H locs hP hS => ?_)
    exact end_i X hr hk hP hS h dX11_bestAt_9
theorem dX1_worth_0 : decode cX1_worth 0 = .ok (.aload_n 0, 1) := by decide +kernel
theorem dX1_worth_1 : decode cX1_worth 1 = .ok (.iconst 3, 1) := by decide +kernel
theorem dX1_worth_2 : decode cX1_worth 2 = .ok (.iload_n 1, 1) := by decide +kernel
theorem dX1_worth_3 : decode cX1_worth 3 = .ok (.invokevirtual 49, 3) := by decide +kernel
theorem dX1_worth_6 : decode cX1_worth 6 = .ok (.ifCond .eq 15, 3) := by decide +kernel
theorem dX1_worth_9 : decode cX1_worth 9 = .ok (.aload_n 0, 1) := by decide +kernel
theorem dX1_worth_10 : decode cX1_worth 10 = .ok (.iload_n 1, 1) := by decide +kernel
theorem dX1_worth_11 : decode cX1_worth 11 = .ok (.aload_n 0, 1) := by decide +kernel
theorem dX1_worth_12 : decode cX1_worth 12 = .ok (.getfield 65, 3) := by decide +kernel
theorem dX1_worth_15 : decode cX1_worth 15 = .ok (.invokevirtual 68, 3) := by decide +kernel
theorem dX1_worth_18 : decode cX1_worth 18 = .ok (.goto 4, 3) := by decide +kernel
theorem dX1_worth_21 : decode cX1_worth 21 = .ok (.iconst 0, 1) := by decide +kernel
theorem dX1_worth_22 : decode cX1_worth 22 = .ok (.istore_n 2, 1) := by decide +kernel
theorem dX1_worth_23 : decode cX1_worth 23 = .ok (.iload_n 2, 1) := by decide +kernel
theorem dX1_worth_24 : decode cX1_worth 24 = .ok (.iconst 2, 1) := by decide +kernel
theorem dX1_worth_25 : decode cX1_worth 25 = .ok (.if_icmp .ne 7, 3) := by decide +kernel
theorem dX1_worth_28 : decode cX1_worth 28 = .ok (.iconst 1, 1) := by decide +kernel
theorem dX1_worth_29 : decode cX1_worth 29 = .ok (.goto 13, 3) := by decide +kernel
theorem dX1_worth_32 : decode cX1_worth 32 = .ok (.iload_n 2, 1) := by decide +kernel
theorem dX1_worth_33 : decode cX1_worth 33 = .ok (.iconst 1, 1) := by decide +kernel
theorem dX1_worth_34 : decode cX1_worth 34 = .ok (.if_icmp .ne 7, 3) := by decide +kernel
theorem dX1_worth_37 : decode cX1_worth 37 = .ok (.iconst (-1), 1) := by decide +kernel
theorem dX1_worth_38 : decode cX1_worth 38 = .ok (.goto 4, 3) := by decide +kernel
theorem dX1_worth_41 : decode cX1_worth 41 = .ok (.iconst 0, 1) := by decide +kernel
theorem dX1_worth_42 : decode cX1_worth 42 = .ok (.ireturn, 1) := by decide +kernel
set_option maxRecDepth 100000 in
set_option maxHeartbeats 8000000 in
theorem c_X1_worth (l : Launch) (D : va_G) (cA : Nat → ClassId) (q aK aV : Nat → Nat) (hq : injG 167 q) {a0 : Nat} {a1 : Int32} {M M0 : Mem} {r0 : Int32} (h0 : shC a0 = 0) (h : f_X1_worth a0 a1 M = some (r0, M0)) : Met l yX1_worth (.code yX1_worth cX1_worth 3 (some .int) :: BW) ({ frames := 5, cells := 0, slots := 0, locals := 111 } : Room) (va_Pc [.ref (q a0), .int a1] (CB 167 (ceC cA q) D cA q aK aV M)) (Qi 167 (ceC cA q) D q r0 M0) 0 0 (AqG 167 q) := by
  refine gMet RX1 (by decide +kernel) rfl hq (Nat.le_of_ble_eq_true rfl) ?_
  intro p e s m below meth c ls X hr hk hP hS hl
  have hx := X.1
  have hb := X.2.1
  have hl : lv_has ls 3 [(0, .ref (q a0)), (1, .int a1)] := hl
  rw [f_X1_worth] at h
  have hJ22 : ∀ (s0 : Int32) (M : Mem) (H : Heap) (locs : List Loc) (ls : Array Slot), f_X1_worth_J22 s0 M = some (r0, M0) → va_P D vwCl (wsG 167 (ceC cA q) q M) H → va_S (AqG 167 q) s.heap H locs → lv_has ls 3 [] → W p l e ({ frames := 5, cells := 0, slots := 0, locals := 111 } : Room) s m [.ref (q a0), .int a1].toArray below meth c H locs 0 0 (MQ below (Qi 167 (ceC cA q) D q r0 M0) [.ref (q a0), .int a1].toArray s 0 0 (AqG 167 q)) (F0 m 22 ls [.int s0]) := by
    intro s0 M H locs ls h hP hS hl
    rw [f_X1_worth_J22] at h
    refine lv_istore_n (lv' := [(2, .int s0)]) hx hb dX1_worth_22 rfl hl (by decide) rfl (fun ls hl => ?_)
    refine lv_iload_n hx hb dX1_worth_23 rfl (lv_at hl 0 rfl) ?_
    refine lv_iconst (v := 2) hx hb dX1_worth_24 (by decide) ?_
    refine lv_icmp_ne (tgt := 32) hx hb dX1_worth_25 (by decide) (fun c8 => ?_) (fun c8 => ?_)
    · rw [if_neg c8] at h
      refine lv_iload_n hx hb dX1_worth_32 rfl (lv_at hl 0 rfl) ?_
      refine lv_iconst (v := 1) hx hb dX1_worth_33 (by decide) ?_
      refine lv_icmp_ne (tgt := 41) hx hb dX1_worth_34 (by decide) (fun c9 => ?_) (fun c9 => ?_)
      · rw [if_neg c9] at h
        refine lv_iconst (v := 0) hx hb dX1_worth_41 (by decide) ?_
        exact end_i X hr hk hP hS h dX1_worth_42
      · rw [if_pos c9] at h
        refine lv_iconst (v := -1) hx hb dX1_worth_37 (by decide) ?_
        refine lv_goto (tgt := 42) hx hb dX1_worth_38 (by decide) ?_
        exact end_i X hr hk hP hS h dX1_worth_42
    · rw [if_pos c8] at h
      refine lv_iconst (v := 1) hx hb dX1_worth_28 (by decide) ?_
      refine lv_goto (tgt := 42) hx hb dX1_worth_29 (by decide) ?_
      exact end_i X hr hk hP hS h dX1_worth_42
  refine lv_aload_n hx hb dX1_worth_0 rfl (lv_at hl 0 rfl) ?_
  refine lv_iconst (v := 3) hx hb dX1_worth_1 (by decide) ?_
  refine lv_iload_n hx hb dX1_worth_2 rfl (lv_at hl 1 rfl) ?_
  obtain ⟨r1, M2, hc3, h⟩ := bnd_inv h
  refine gV_i (As := [.int (3 : Int32), .int a1]) X hP hS hl.1 (c_X0_has l D cA q aK aV hq h0 hc3) sf_X0_has bw_1204 sv_X0_has (rcC_0 h0) rfl ⟨rfl, rfl⟩ ⟨Nat.le_of_ble_eq_true rfl, Nat.le_of_ble_eq_true rfl⟩ rfl rfl (Nat.le_of_ble_eq_true rfl) dX1_worth_3 (fun H locs hP hS => ?_)
  refine lv_if_eq (tgt := 21) hx hb dX1_worth_6 (by decide) (fun c4 => ?_) (fun c4 => ?_)
  · rw [if_pos c4] at h
    refine lv_iconst (v := 0) hx hb dX1_worth_21 (by decide) ?_
    exact hJ22 _ _ _ _ _ h hP hS (lv_sub hl [] rfl)
  · rw [if_neg c4] at h
    refine lv_aload_n hx hb dX1_worth_9 rfl (lv_at hl 0 rfl) ?_
    refine lv_iload_n hx hb dX1_worth_10 rfl (lv_at hl 1 rfl) ?_
    refine lv_aload_n hx hb dX1_worth_11 rfl (lv_at hl 0 rfl) ?_
    refine gfC_0_12 X hP h0 bw_169 dX1_worth_12 ?_
    obtain ⟨r5, M6, hc7, h⟩ := bnd_inv h
    refine gV_i (As := [.int a1, .int (gI M2 a0 12)]) X hP hS hl.1 (c_X0_senseBefore l D cA q aK aV hq h0 hc7) sf_X0_senseBefore bw_1205 sv_X0_senseBefore (rcC_0 h0) rfl ⟨rfl, rfl⟩ ⟨Nat.le_of_ble_eq_true rfl, Nat.le_of_ble_eq_true rfl⟩ rfl rfl (Nat.le_of_ble_eq_true rfl) dX1_worth_15 (fun H locs hP hS => ?_)
    refine lv_goto (tgt := 22) hx hb dX1_worth_18 (by decide) ?_
    exact hJ22 _ _ _ _ _ h hP hS (lv_sub hl [] rfl)
theorem dX1_canBe_0 : decode cX1_canBe 0 = .ok (.iload_n 1, 1) := by decide +kernel
theorem dX1_canBe_1 : decode cX1_canBe 1 = .ok (.bipush 6, 2) := by decide +kernel
theorem dX1_canBe_3 : decode cX1_canBe 3 = .ok (.idiv, 1) := by decide +kernel
theorem dX1_canBe_4 : decode cX1_canBe 4 = .ok (.istore_n 2, 1) := by decide +kernel
theorem dX1_canBe_5 : decode cX1_canBe 5 = .ok (.iload_n 1, 1) := by decide +kernel
theorem dX1_canBe_6 : decode cX1_canBe 6 = .ok (.bipush 6, 2) := by decide +kernel
theorem dX1_canBe_8 : decode cX1_canBe 8 = .ok (.irem, 1) := by decide +kernel
theorem dX1_canBe_9 : decode cX1_canBe 9 = .ok (.istore_n 3, 1) := by decide +kernel
theorem dX1_canBe_10 : decode cX1_canBe 10 = .ok (.iload_n 1, 1) := by decide +kernel
theorem dX1_canBe_11 : decode cX1_canBe 11 = .ok (.bipush 36, 2) := by decide +kernel
theorem dX1_canBe_13 : decode cX1_canBe 13 = .ok (.if_icmp .lt 5, 3) := by decide +kernel
theorem dX1_canBe_16 : decode cX1_canBe 16 = .ok (.iconst 1, 1) := by decide +kernel
theorem dX1_canBe_17 : decode cX1_canBe 17 = .ok (.ireturn, 1) := by decide +kernel
theorem dX1_canBe_18 : decode cX1_canBe 18 = .ok (.aload_n 0, 1) := by decide +kernel
theorem dX1_canBe_19 : decode cX1_canBe 19 = .ok (.iconst 3, 1) := by decide +kernel
theorem dX1_canBe_20 : decode cX1_canBe 20 = .ok (.iload_n 2, 1) := by decide +kernel
theorem dX1_canBe_21 : decode cX1_canBe 21 = .ok (.invokevirtual 49, 3) := by decide +kernel
theorem dX1_canBe_24 : decode cX1_canBe 24 = .ok (.ifCond .ne 5, 3) := by decide +kernel
theorem dX1_canBe_27 : decode cX1_canBe 27 = .ok (.iconst 0, 1) := by decide +kernel
theorem dX1_canBe_28 : decode cX1_canBe 28 = .ok (.ireturn, 1) := by decide +kernel
theorem dX1_canBe_29 : decode cX1_canBe 29 = .ok (.iload_n 3, 1) := by decide +kernel
theorem dX1_canBe_30 : decode cX1_canBe 30 = .ok (.ifCond .ne 24, 3) := by decide +kernel
theorem dX1_canBe_33 : decode cX1_canBe 33 = .ok (.aload_n 0, 1) := by decide +kernel
theorem dX1_canBe_34 : decode cX1_canBe 34 = .ok (.iload_n 2, 1) := by decide +kernel
theorem dX1_canBe_35 : decode cX1_canBe 35 = .ok (.invokevirtual 53, 3) := by decide +kernel
theorem dX1_canBe_38 : decode cX1_canBe 38 = .ok (.getfield 57, 3) := by decide +kernel
theorem dX1_canBe_41 : decode cX1_canBe 41 = .ok (.bipush 99, 2) := by decide +kernel
theorem dX1_canBe_43 : decode cX1_canBe 43 = .ok (.if_icmp .ge 7, 3) := by decide +kernel
theorem dX1_canBe_46 : decode cX1_canBe 46 = .ok (.iconst 1, 1) := by decide +kernel
theorem dX1_canBe_47 : decode cX1_canBe 47 = .ok (.goto 15, 3) := by decide +kernel
theorem dX1_canBe_50 : decode cX1_canBe 50 = .ok (.iconst 0, 1) := by decide +kernel
theorem dX1_canBe_51 : decode cX1_canBe 51 = .ok (.goto 11, 3) := by decide +kernel
theorem dX1_canBe_54 : decode cX1_canBe 54 = .ok (.aload_n 0, 1) := by decide +kernel
theorem dX1_canBe_55 : decode cX1_canBe 55 = .ok (.iconst 0, 1) := by decide +kernel
theorem dX1_canBe_56 : decode cX1_canBe 56 = .ok (.iload_n 3, 1) := by decide +kernel
theorem dX1_canBe_57 : decode cX1_canBe 57 = .ok (.iconst 1, 1) := by decide +kernel
theorem dX1_canBe_58 : decode cX1_canBe 58 = .ok (.isub, 1) := by decide +kernel
theorem dX1_canBe_59 : decode cX1_canBe 59 = .ok (.invokevirtual 49, 3) := by decide +kernel
theorem dX1_canBe_62 : decode cX1_canBe 62 = .ok (.ireturn, 1) := by decide +kernel
set_option maxRecDepth 100000 in
set_option maxHeartbeats 8000000 in
theorem c_X1_canBe (l : Launch) (D : va_G) (cA : Nat → ClassId) (q aK aV : Nat → Nat) (hq : injG 167 q) {a0 : Nat} {a1 : Int32} {M M0 : Mem} {r0 : Int32} (h0 : shC a0 = 0) (h : f_X1_canBe a0 a1 M = some (r0, M0)) : Met l yX1_canBe (.code yX1_canBe cX1_canBe 4 (some .boolean) :: BW) ({ frames := 3, cells := 0, slots := 0, locals := 56 } : Room) (va_Pc [.ref (q a0), .int a1] (CB 167 (ceC cA q) D cA q aK aV M)) (Qi 167 (ceC cA q) D q r0 M0) 0 0 (AqG 167 q) := by
  refine gMet RX1 (by decide +kernel) rfl hq (Nat.le_of_ble_eq_true rfl) ?_
  intro p e s m below meth c ls X hr hk hP hS hl
  have hx := X.1
  have hb := X.2.1
  have hl : lv_has ls 4 [(0, .ref (q a0)), (1, .int a1)] := hl
  rw [f_X1_canBe] at h
  refine lv_iload_n hx hb dX1_canBe_0 rfl (lv_at hl 1 rfl) ?_
  refine lv_bipush (v := 6) hx hb dX1_canBe_1 (by decide) ?_
  refine lv_idiv hx hb dX1_canBe_3 (by decide) ?_
  obtain ⟨y1, ey1, h⟩ := lt_inv h
  refine topE ey1 ?_
  refine lv_istore_n (lv' := [(2, .int y1), (0, .ref (q a0)), (1, .int a1)]) hx hb dX1_canBe_4 rfl hl (by decide) rfl (fun ls hl => ?_)
  refine lv_iload_n hx hb dX1_canBe_5 rfl (lv_at hl 2 rfl) ?_
  refine lv_bipush (v := 6) hx hb dX1_canBe_6 (by decide) ?_
  refine lv_irem hx hb dX1_canBe_8 (by decide) ?_
  obtain ⟨y2, ey2, h⟩ := lt_inv h
  refine topE ey2 ?_
  refine lv_istore_n (lv' := [(3, .int y2), (2, .int y1), (0, .ref (q a0)), (1, .int a1)]) hx hb dX1_canBe_9 rfl hl (by decide) rfl (fun ls hl => ?_)
  refine lv_iload_n hx hb dX1_canBe_10 rfl (lv_at hl 3 rfl) ?_
  refine lv_bipush (v := 36) hx hb dX1_canBe_11 (by decide) ?_
  refine lv_icmp_lt (tgt := 18) hx hb dX1_canBe_13 (by decide) (fun c3 => ?_) (fun c3 => ?_)
  · rw [if_pos c3] at h
    refine lv_aload_n hx hb dX1_canBe_18 rfl (lv_at hl 2 rfl) ?_
    refine lv_iconst (v := 3) hx hb dX1_canBe_19 (by decide) ?_
    refine lv_iload_n hx hb dX1_canBe_20 rfl (lv_at hl 1 rfl) ?_
    obtain ⟨r4, M5, hc6, h⟩ := bnd_inv h
    refine gV_i (As := [.int (3 : Int32), .int y1]) X hP hS hl.1 (c_X0_has l D cA q aK aV hq h0 hc6) sf_X0_has bw_1204 sv_X0_has (rcC_0 h0) rfl ⟨rfl, rfl⟩ ⟨Nat.le_of_ble_eq_true rfl, Nat.le_of_ble_eq_true rfl⟩ rfl rfl (Nat.le_of_ble_eq_true rfl) dX1_canBe_21 (fun H locs hP hS => ?_)
    refine lv_if_ne (tgt := 29) hx hb dX1_canBe_24 (by decide) (fun c7 => ?_) (fun c7 => ?_)
    · rw [if_neg c7] at h
      refine lv_iload_n hx hb dX1_canBe_29 rfl (lv_at hl 0 rfl) ?_
      refine lv_if_ne (tgt := 54) hx hb dX1_canBe_30 (by decide) (fun c8 => ?_) (fun c8 => ?_)
      · rw [if_neg c8] at h
        refine lv_aload_n hx hb dX1_canBe_54 rfl (lv_at hl 2 rfl) ?_
        refine lv_iconst (v := 0) hx hb dX1_canBe_55 (by decide) ?_
        refine lv_iload_n hx hb dX1_canBe_56 rfl (lv_at hl 0 rfl) ?_
        refine lv_iconst (v := 1) hx hb dX1_canBe_57 (by decide) ?_
        refine lv_isub hx hb dX1_canBe_58 ?_
        obtain ⟨r9, M10, hc11, h⟩ := bnd_inv h
        refine gV_i (As := [.int (0 : Int32), .int (y2 - (1 : Int32))]) X hP hS hl.1 (c_X0_has l D cA q aK aV hq h0 hc11) sf_X0_has bw_1204 sv_X0_has (rcC_0 h0) rfl ⟨rfl, rfl⟩ ⟨Nat.le_of_ble_eq_true rfl, Nat.le_of_ble_eq_true rfl⟩ rfl rfl (Nat.le_of_ble_eq_true rfl) dX1_canBe_59 (fun H locs hP hS => ?_)
        obtain ⟨g12, h⟩ := gd_inv h
        exact end_z X hr hk hP hS (Decidable.not_not.mp g12) h dX1_canBe_62
      · rw [if_pos c8] at h
        refine lv_aload_n hx hb dX1_canBe_33 rfl (lv_at hl 2 rfl) ?_
        refine lv_iload_n hx hb dX1_canBe_34 rfl (lv_at hl 1 rfl) ?_
        obtain ⟨r13, M14, hc15, h⟩ := bnd_inv h
        refine gV_r (As := [.int y1]) X hP hS hl.1 (c_X0_personAt l D cA q aK aV hq h0 hc15) sf_X0_personAt bw_1212 sv_X0_personAt (rcC_0 h0) rfl ⟨rfl, rfl⟩ ⟨Nat.le_of_ble_eq_true rfl, Nat.le_of_ble_eq_true rfl⟩ rfl rfl (Nat.le_of_ble_eq_true rfl) dX1_canBe_35 (fun H locs hP hS => ?_)
        obtain ⟨g16, h⟩ := gd_inv h
        have g16 := Decidable.not_not.mp g16
        refine gfC_5_1 X hP g16 bw_116 dX1_canBe_38 ?_
        refine lv_bipush (v := 99) hx hb dX1_canBe_41 (by decide) ?_
        refine lv_icmp_ge (tgt := 50) hx hb dX1_canBe_43 (by decide) (fun c17 => ?_) (fun c17 => ?_)
        · rw [if_pos c17] at h
          refine lv_iconst (v := 0) hx hb dX1_canBe_50 (by decide) ?_
          refine lv_goto (tgt := 62) hx hb dX1_canBe_51 (by decide) ?_
          exact end_z X hr hk hP hS (Or.inl rfl) h dX1_canBe_62
        · rw [if_neg c17] at h
          refine lv_iconst (v := 1) hx hb dX1_canBe_46 (by decide) ?_
          refine lv_goto (tgt := 62) hx hb dX1_canBe_47 (by decide) ?_
          exact end_z X hr hk hP hS (Or.inr rfl) h dX1_canBe_62
    · rw [if_pos c7] at h
      refine lv_iconst (v := 0) hx hb dX1_canBe_27 (by decide) ?_
      exact end_z X hr hk hP hS (Or.inl rfl) h dX1_canBe_28
  · rw [if_neg c3] at h
    refine lv_iconst (v := 1) hx hb dX1_canBe_16 (by decide) ?_
    exact end_z X hr hk hP hS (Or.inr rfl) h dX1_canBe_17
theorem dX1_change_0 : decode cX1_change 0 = .ok (.aload_n 0, 1) := by decide +kernel
theorem dX1_change_1 : decode cX1_change 1 = .ok (.iload_n 1, 1) := by decide +kernel
theorem dX1_change_2 : decode cX1_change 2 = .ok (.bipush 6, 2) := by decide +kernel
theorem dX1_change_4 : decode cX1_change 4 = .ok (.idiv, 1) := by decide +kernel
theorem dX1_change_5 : decode cX1_change 5 = .ok (.invokevirtual 53, 3) := by decide +kernel
theorem dX1_change_8 : decode cX1_change 8 = .ok (.astore_n 3, 1) := by decide +kernel
theorem dX1_change_9 : decode cX1_change 9 = .ok (.iload_n 1, 1) := by decide +kernel
theorem dX1_change_10 : decode cX1_change 10 = .ok (.bipush 6, 2) := by decide +kernel
theorem dX1_change_12 : decode cX1_change 12 = .ok (.irem, 1) := by decide +kernel
theorem dX1_change_13 : decode cX1_change 13 = .ok (.istore 4, 2) := by decide +kernel
theorem dX1_change_15 : decode cX1_change 15 = .ok (.iload_n 1, 1) := by decide +kernel
theorem dX1_change_16 : decode cX1_change 16 = .ok (.bipush 36, 2) := by decide +kernel
theorem dX1_change_18 : decode cX1_change 18 = .ok (.if_icmp .ge 21, 3) := by decide +kernel
theorem dX1_change_21 : decode cX1_change 21 = .ok (.iload 4, 2) := by decide +kernel
theorem dX1_change_23 : decode cX1_change 23 = .ok (.ifCond .ne 16, 3) := by decide +kernel
theorem dX1_change_26 : decode cX1_change 26 = .ok (.aload_n 3, 1) := by decide +kernel
theorem dX1_change_27 : decode cX1_change 27 = .ok (.dup, 1) := by decide +kernel
theorem dX1_change_28 : decode cX1_change 28 = .ok (.getfield 57, 3) := by decide +kernel
theorem dX1_change_31 : decode cX1_change 31 = .ok (.iload_n 2, 1) := by decide +kernel
theorem dX1_change_32 : decode cX1_change 32 = .ok (.iadd, 1) := by decide +kernel
theorem dX1_change_33 : decode cX1_change 33 = .ok (.putfield 57, 3) := by decide +kernel
theorem dX1_change_36 : decode cX1_change 36 = .ok (.goto 24, 3) := by decide +kernel
theorem dX1_change_39 : decode cX1_change 39 = .ok (.iload_n 1, 1) := by decide +kernel
theorem dX1_change_40 : decode cX1_change 40 = .ok (.bipush 36, 2) := by decide +kernel
theorem dX1_change_42 : decode cX1_change 42 = .ok (.if_icmp .ge 18, 3) := by decide +kernel
theorem dX1_change_45 : decode cX1_change 45 = .ok (.aload_n 3, 1) := by decide +kernel
theorem dX1_change_46 : decode cX1_change 46 = .ok (.dup, 1) := by decide +kernel
theorem dX1_change_47 : decode cX1_change 47 = .ok (.getfield 62, 3) := by decide +kernel
theorem dX1_change_50 : decode cX1_change 50 = .ok (.iconst 1, 1) := by decide +kernel
theorem dX1_change_51 : decode cX1_change 51 = .ok (.iload 4, 2) := by decide +kernel
theorem dX1_change_53 : decode cX1_change 53 = .ok (.iconst 1, 1) := by decide +kernel
theorem dX1_change_54 : decode cX1_change 54 = .ok (.isub, 1) := by decide +kernel
theorem dX1_change_55 : decode cX1_change 55 = .ok (.ishl, 1) := by decide +kernel
theorem dX1_change_56 : decode cX1_change 56 = .ok (.ixor, 1) := by decide +kernel
theorem dX1_change_57 : decode cX1_change 57 = .ok (.putfield 62, 3) := by decide +kernel
theorem dX1_change_60 : decode cX1_change 60 = .ok (.return_, 1) := by decide +kernel
set_option maxRecDepth 100000 in
set_option maxHeartbeats 8000000 in
theorem c_X1_change (l : Launch) (D : va_G) (cA : Nat → ClassId) (q aK aV : Nat → Nat) (hq : injG 167 q) {a0 : Nat} {a1 : Int32} {a2 : Int32} {M M0 : Mem} (h0 : shC a0 = 0) (h : f_X1_change a0 a1 a2 M = some ((), M0)) : Met l yX1_change (.code yX1_change cX1_change 5 none :: BW) ({ frames := 2, cells := 0, slots := 0, locals := 36 } : Room) (va_Pc [.ref (q a0), .int a1, .int a2] (CB 167 (ceC cA q) D cA q aK aV M)) (Qv 167 (ceC cA q) D q M0) 0 0 (AqG 167 q) := by
  refine gMet RX1 (by decide +kernel) rfl hq (Nat.le_of_ble_eq_true rfl) ?_
  intro p e s m below meth c ls X hr hk hP hS hl
  have hx := X.1
  have hb := X.2.1
  have hl : lv_has ls 5 [(0, .ref (q a0)), (1, .int a1), (2, .int a2)] := hl
  rw [f_X1_change] at h
  have hJ39 : ∀ (b3 : Nat) (hb3 : shC b3 = 5) (b4 : Int32) (M : Mem) (H : Heap) (locs : List Loc) (ls : Array Slot), f_X1_change_J39 a1 b3 b4 M = some ((), M0) → va_P D vwCl (wsG 167 (ceC cA q) q M) H → va_S (AqG 167 q) s.heap H locs → lv_has ls 5 [(1, .int a1), (3, .ref (q b3)), (4, .int b4)] → W p l e ({ frames := 2, cells := 0, slots := 0, locals := 36 } : Room) s m [.ref (q a0), .int a1, .int a2].toArray below meth c H locs 0 0 (MQ below (Qv 167 (ceC cA q) D q M0) [.ref (q a0), .int a1, .int a2].toArray s 0 0 (AqG 167 q)) (F0 m 39 ls []) := by
    intro b3 hb3 b4 M H locs ls h hP hS hl
    rw [f_X1_change_J39] at h
    refine lv_iload_n hx hb dX1_change_39 rfl (lv_at hl 0 rfl) ?_
    refine lv_bipush (v := 36) hx hb dX1_change_40 (by decide) ?_
    refine lv_icmp_ge (tgt := 60) hx hb dX1_change_42 (by decide) (fun c9 => ?_) (fun c9 => ?_)
    · rw [if_pos c9] at h
      exact end_v X hr hk hP hS h dX1_change_60
    · rw [if_neg c9] at h
      refine lv_aload_n hx hb dX1_change_45 rfl (lv_at hl 1 rfl) ?_
      refine lv_dup hx hb dX1_change_46 rfl ?_
      refine gfC_5_2 X hP hb3 bw_121 dX1_change_47 ?_
      refine lv_iconst (v := 1) hx hb dX1_change_50 (by decide) ?_
      refine lv_iload hx hb dX1_change_51 (lv_at hl 2 rfl) ?_
      refine lv_iconst (v := 1) hx hb dX1_change_53 (by decide) ?_
      refine lv_isub hx hb dX1_change_54 ?_
      refine lv_ishl hx hb dX1_change_55 ?_
      refine lv_ixor hx hb dX1_change_56 ?_
      obtain ⟨M10, eM10, h⟩ := lt_inv h
      refine pfC_5_2 X hP hS hb3 bw_121 eM10 dX1_change_57 (fun H locs hP hS => ?_)
      exact end_v X hr hk hP hS h dX1_change_60
  refine lv_aload_n hx hb dX1_change_0 rfl (lv_at hl 0 rfl) ?_
  refine lv_iload_n hx hb dX1_change_1 rfl (lv_at hl 1 rfl) ?_
  refine lv_bipush (v := 6) hx hb dX1_change_2 (by decide) ?_
  refine lv_idiv hx hb dX1_change_4 (by decide) ?_
  obtain ⟨r1, M2, hc3, h⟩ := bnd_inv h
  refine gV_r (As := [.int (a1 / (6 : Int32))]) X hP hS hl.1 (c_X0_personAt l D cA q aK aV hq h0 hc3) sf_X0_personAt bw_1212 sv_X0_personAt (rcC_0 h0) rfl ⟨rfl, rfl⟩ ⟨Nat.le_of_ble_eq_true rfl, Nat.le_of_ble_eq_true rfl⟩ rfl rfl (Nat.le_of_ble_eq_true rfl) dX1_change_5 (fun H locs hP hS => ?_)
  obtain ⟨g4, h⟩ := gd_inv h
  have g4 := Decidable.not_not.mp g4
  refine lv_astore_n (lv' := [(3, .ref (q r1)), (0, .ref (q a0)), (1, .int a1), (2, .int a2)]) hx hb dX1_change_8 rfl hl (by decide) rfl (fun ls hl => ?_)
  refine lv_iload_n hx hb dX1_change_9 rfl (lv_at hl 2 rfl) ?_
  refine lv_bipush (v := 6) hx hb dX1_change_10 (by decide) ?_
  refine lv_irem hx hb dX1_change_12 (by decide) ?_
  obtain ⟨y5, ey5, h⟩ := lt_inv h
  refine topE ey5 ?_
  refine lv_istore (lv' := [(4, .int y5), (3, .ref (q r1)), (0, .ref (q a0)), (1, .int a1), (2, .int a2)]) hx hb dX1_change_13 hl (by decide) rfl (fun ls hl => ?_)
  refine lv_iload_n hx hb dX1_change_15 rfl (lv_at hl 3 rfl) ?_
  refine lv_bipush (v := 36) hx hb dX1_change_16 (by decide) ?_
  refine lv_icmp_ge (tgt := 39) hx hb dX1_change_18 (by decide) (fun c6 => ?_) (fun c6 => ?_)
  · rw [if_pos c6] at h
    exact hJ39 _ g4 _ _ _ _ _ h hP hS (lv_sub hl [3, 1, 0] rfl)
  · rw [if_neg c6] at h
    refine lv_iload hx hb dX1_change_21 (lv_at hl 0 rfl) ?_
    refine lv_if_ne (tgt := 39) hx hb dX1_change_23 (by decide) (fun c7 => ?_) (fun c7 => ?_)
    · rw [if_neg c7] at h
      exact hJ39 _ g4 _ _ _ _ _ h hP hS (lv_sub hl [3, 1, 0] rfl)
    · rw [if_pos c7] at h
      refine lv_aload_n hx hb dX1_change_26 rfl (lv_at hl 1 rfl) ?_
      refine lv_dup hx hb dX1_change_27 rfl ?_
      refine gfC_5_1 X hP g4 bw_116 dX1_change_28 ?_
      refine lv_iload_n hx hb dX1_change_31 rfl (lv_at hl 4 rfl) ?_
      refine lv_iadd hx hb dX1_change_32 ?_
      obtain ⟨M8, eM8, h⟩ := lt_inv h
      refine pfC_5_1 X hP hS g4 bw_116 eM8 dX1_change_33 (fun H locs hP hS => ?_)
      refine lv_goto (tgt := 60) hx hb dX1_change_36 (by decide) ?_
      exact end_v X hr hk hP hS h dX1_change_60
theorem dX1_play_0 : decode cX1_play 0 = .ok (.iload_n 2, 1) := by decide +kernel
theorem dX1_play_1 : decode cX1_play 1 = .ok (.iload_n 3, 1) := by decide +kernel
theorem dX1_play_2 : decode cX1_play 2 = .ok (.if_icmp .ge 8, 3) := by decide +kernel
theorem dX1_play_5 : decode cX1_play 5 = .ok (.iload_n 2, 1) := by decide +kernel
theorem dX1_play_6 : decode cX1_play 6 = .ok (.iconst 3, 1) := by decide +kernel
theorem dX1_play_7 : decode cX1_play 7 = .ok (.if_icmp .lt 8, 3) := by decide +kernel
theorem dX1_play_10 : decode cX1_play 10 = .ok (.aload_n 0, 1) := by decide +kernel
theorem dX1_play_11 : decode cX1_play 11 = .ok (.getfield 15, 3) := by decide +kernel
theorem dX1_play_14 : decode cX1_play 14 = .ok (.ireturn, 1) := by decide +kernel
theorem dX1_play_15 : decode cX1_play 15 = .ok (.iload_n 2, 1) := by decide +kernel
theorem dX1_play_16 : decode cX1_play 16 = .ok (.iconst 2, 1) := by decide +kernel
theorem dX1_play_17 : decode cX1_play 17 = .ok (.irem, 1) := by decide +kernel
theorem dX1_play_18 : decode cX1_play 18 = .ok (.ifCond .ne 7, 3) := by decide +kernel
theorem dX1_play_21 : decode cX1_play 21 = .ok (.iconst 1, 1) := by decide +kernel
theorem dX1_play_22 : decode cX1_play 22 = .ok (.goto 4, 3) := by decide +kernel
theorem dX1_play_25 : decode cX1_play 25 = .ok (.iconst 0, 1) := by decide +kernel
theorem dX1_play_26 : decode cX1_play 26 = .ok (.istore 6, 2) := by decide +kernel
theorem dX1_play_28 : decode cX1_play 28 = .ok (.iload 6, 2) := by decide +kernel
theorem dX1_play_30 : decode cX1_play 30 = .ok (.ifCond .eq 8, 3) := by decide +kernel
theorem dX1_play_33 : decode cX1_play 33 = .ok (.bipush (-7), 2) := by decide +kernel
theorem dX1_play_35 : decode cX1_play 35 = .ok (.goto 5, 3) := by decide +kernel
theorem dX1_play_38 : decode cX1_play 38 = .ok (.bipush 7, 2) := by decide +kernel
theorem dX1_play_40 : decode cX1_play 40 = .ok (.istore 7, 2) := by decide +kernel
theorem dX1_play_42 : decode cX1_play 42 = .ok (.iload 4, 2) := by decide +kernel
theorem dX1_play_44 : decode cX1_play 44 = .ok (.istore 8, 2) := by decide +kernel
theorem dX1_play_46 : decode cX1_play 46 = .ok (.iload 5, 2) := by decide +kernel
theorem dX1_play_48 : decode cX1_play 48 = .ok (.istore 9, 2) := by decide +kernel
theorem dX1_play_50 : decode cX1_play 50 = .ok (.iconst 0, 1) := by decide +kernel
theorem dX1_play_51 : decode cX1_play 51 = .ok (.istore 10, 2) := by decide +kernel
theorem dX1_play_53 : decode cX1_play 53 = .ok (.iload 10, 2) := by decide +kernel
theorem dX1_play_55 : decode cX1_play 55 = .ok (.bipush 36, 2) := by decide +kernel
theorem dX1_play_57 : decode cX1_play 57 = .ok (.if_icmp .gt 186, 3) := by decide +kernel
theorem dX1_play_60 : decode cX1_play 60 = .ok (.iload 8, 2) := by decide +kernel
theorem dX1_play_62 : decode cX1_play 62 = .ok (.iload 9, 2) := by decide +kernel
theorem dX1_play_64 : decode cX1_play 64 = .ok (.if_icmp .ge 179, 3) := by decide +kernel
theorem dX1_play_67 : decode cX1_play 67 = .ok (.aload_n 1, 1) := by decide +kernel
theorem dX1_play_68 : decode cX1_play 68 = .ok (.iload 10, 2) := by decide +kernel
theorem dX1_play_70 : decode cX1_play 70 = .ok (.invokestatic 32, 3) := by decide +kernel
theorem dX1_play_73 : decode cX1_play 73 = .ok (.ifCond .ne 6, 3) := by decide +kernel
theorem dX1_play_76 : decode cX1_play 76 = .ok (.goto 161, 3) := by decide +kernel
theorem dX1_play_79 : decode cX1_play 79 = .ok (.aload_n 0, 1) := by decide +kernel
theorem dX1_play_80 : decode cX1_play 80 = .ok (.getfield 15, 3) := by decide +kernel
theorem dX1_play_83 : decode cX1_play 83 = .ok (.istore 11, 2) := by decide +kernel
theorem dX1_play_85 : decode cX1_play 85 = .ok (.aload_n 0, 1) := by decide +kernel
theorem dX1_play_86 : decode cX1_play 86 = .ok (.dup, 1) := by decide +kernel
theorem dX1_play_87 : decode cX1_play 87 = .ok (.getfield 15, 3) := by decide +kernel
theorem dX1_play_90 : decode cX1_play 90 = .ok (.aload_n 1, 1) := by decide +kernel
theorem dX1_play_91 : decode cX1_play 91 = .ok (.iload 10, 2) := by decide +kernel
theorem dX1_play_93 : decode cX1_play 93 = .ok (.bipush 6, 2) := by decide +kernel
theorem dX1_play_95 : decode cX1_play 95 = .ok (.idiv, 1) := by decide +kernel
theorem dX1_play_96 : decode cX1_play 96 = .ok (.invokestatic 24, 3) := by decide +kernel
theorem dX1_play_99 : decode cX1_play 99 = .ok (.isub, 1) := by decide +kernel
theorem dX1_play_100 : decode cX1_play 100 = .ok (.putfield 15, 3) := by decide +kernel
theorem dX1_play_103 : decode cX1_play 103 = .ok (.aload_n 1, 1) := by decide +kernel
theorem dX1_play_104 : decode cX1_play 104 = .ok (.iload 10, 2) := by decide +kernel
theorem dX1_play_106 : decode cX1_play 106 = .ok (.iconst 1, 1) := by decide +kernel
theorem dX1_play_107 : decode cX1_play 107 = .ok (.invokestatic 36, 3) := by decide +kernel
theorem dX1_play_110 : decode cX1_play 110 = .ok (.aload_n 0, 1) := by decide +kernel
theorem dX1_play_111 : decode cX1_play 111 = .ok (.dup, 1) := by decide +kernel
theorem dX1_play_112 : decode cX1_play 112 = .ok (.getfield 15, 3) := by decide +kernel
theorem dX1_play_115 : decode cX1_play 115 = .ok (.aload_n 1, 1) := by decide +kernel
theorem dX1_play_116 : decode cX1_play 116 = .ok (.iload 10, 2) := by decide +kernel
theorem dX1_play_118 : decode cX1_play 118 = .ok (.bipush 6, 2) := by decide +kernel
theorem dX1_play_120 : decode cX1_play 120 = .ok (.idiv, 1) := by decide +kernel
theorem dX1_play_121 : decode cX1_play 121 = .ok (.invokestatic 24, 3) := by decide +kernel
theorem dX1_play_124 : decode cX1_play 124 = .ok (.iadd, 1) := by decide +kernel
theorem dX1_play_125 : decode cX1_play 125 = .ok (.putfield 15, 3) := by decide +kernel
theorem dX1_play_128 : decode cX1_play 128 = .ok (.aload_n 0, 1) := by decide +kernel
theorem dX1_play_129 : decode cX1_play 129 = .ok (.aload_n 1, 1) := by decide +kernel
theorem dX1_play_130 : decode cX1_play 130 = .ok (.iload_n 2, 1) := by decide +kernel
theorem dX1_play_131 : decode cX1_play 131 = .ok (.iconst 1, 1) := by decide +kernel
theorem dX1_play_132 : decode cX1_play 132 = .ok (.iadd, 1) := by decide +kernel
theorem dX1_play_133 : decode cX1_play 133 = .ok (.iload_n 3, 1) := by decide +kernel
theorem dX1_play_134 : decode cX1_play 134 = .ok (.iload 8, 2) := by decide +kernel
theorem dX1_play_136 : decode cX1_play 136 = .ok (.iload 9, 2) := by decide +kernel
theorem dX1_play_138 : decode cX1_play 138 = .ok (.invokestatic 28, 3) := by decide +kernel
theorem dX1_play_141 : decode cX1_play 141 = .ok (.istore 12, 2) := by decide +kernel
theorem dX1_play_143 : decode cX1_play 143 = .ok (.aload_n 1, 1) := by decide +kernel
theorem dX1_play_144 : decode cX1_play 144 = .ok (.iload 10, 2) := by decide +kernel
theorem dX1_play_146 : decode cX1_play 146 = .ok (.iconst (-1), 1) := by decide +kernel
theorem dX1_play_147 : decode cX1_play 147 = .ok (.invokestatic 36, 3) := by decide +kernel
theorem dX1_play_150 : decode cX1_play 150 = .ok (.aload_n 0, 1) := by decide +kernel
theorem dX1_play_151 : decode cX1_play 151 = .ok (.iload 11, 2) := by decide +kernel
theorem dX1_play_153 : decode cX1_play 153 = .ok (.putfield 15, 3) := by decide +kernel
theorem dX1_play_156 : decode cX1_play 156 = .ok (.iload 6, 2) := by decide +kernel
theorem dX1_play_158 : decode cX1_play 158 = .ok (.ifCond .eq 13, 3) := by decide +kernel
theorem dX1_play_161 : decode cX1_play 161 = .ok (.iload 12, 2) := by decide +kernel
theorem dX1_play_163 : decode cX1_play 163 = .ok (.iload 7, 2) := by decide +kernel
theorem dX1_play_165 : decode cX1_play 165 = .ok (.if_icmp .le 34, 3) := by decide +kernel
theorem dX1_play_168 : decode cX1_play 168 = .ok (.goto 10, 3) := by decide +kernel
theorem dX1_play_171 : decode cX1_play 171 = .ok (.iload 12, 2) := by decide +kernel
theorem dX1_play_173 : decode cX1_play 173 = .ok (.iload 7, 2) := by decide +kernel
theorem dX1_play_175 : decode cX1_play 175 = .ok (.if_icmp .ge 24, 3) := by decide +kernel
theorem dX1_play_178 : decode cX1_play 178 = .ok (.iload 12, 2) := by decide +kernel
theorem dX1_play_180 : decode cX1_play 180 = .ok (.istore 7, 2) := by decide +kernel
theorem dX1_play_182 : decode cX1_play 182 = .ok (.aload_n 0, 1) := by decide +kernel
theorem dX1_play_183 : decode cX1_play 183 = .ok (.iload_n 2, 1) := by decide +kernel
theorem dX1_play_184 : decode cX1_play 184 = .ok (.ifCond .ne 8, 3) := by decide +kernel
theorem dX1_play_187 : decode cX1_play 187 = .ok (.iload 10, 2) := by decide +kernel
theorem dX1_play_189 : decode cX1_play 189 = .ok (.goto 7, 3) := by decide +kernel
theorem dX1_play_192 : decode cX1_play 192 = .ok (.aload_n 0, 1) := by decide +kernel
theorem dX1_play_193 : decode cX1_play 193 = .ok (.getfield 11, 3) := by decide +kernel
theorem dX1_play_196 : decode cX1_play 196 = .ok (.putfield 11, 3) := by decide +kernel
theorem dX1_play_199 : decode cX1_play 199 = .ok (.iload 6, 2) := by decide +kernel
theorem dX1_play_201 : decode cX1_play 201 = .ok (.ifCond .eq 13, 3) := by decide +kernel
theorem dX1_play_204 : decode cX1_play 204 = .ok (.iload 8, 2) := by decide +kernel
theorem dX1_play_206 : decode cX1_play 206 = .ok (.iload 12, 2) := by decide +kernel
theorem dX1_play_208 : decode cX1_play 208 = .ok (.invokestatic 40, 3) := by decide +kernel
theorem dX1_play_211 : decode cX1_play 211 = .ok (.goto 5, 3) := by decide +kernel
theorem dX1_play_214 : decode cX1_play 214 = .ok (.iload 8, 2) := by decide +kernel
theorem dX1_play_216 : decode cX1_play 216 = .ok (.istore 8, 2) := by decide +kernel
theorem dX1_play_218 : decode cX1_play 218 = .ok (.iload 6, 2) := by decide +kernel
theorem dX1_play_220 : decode cX1_play 220 = .ok (.ifCond .eq 8, 3) := by decide +kernel
theorem dX1_play_223 : decode cX1_play 223 = .ok (.iload 9, 2) := by decide +kernel
theorem dX1_play_225 : decode cX1_play 225 = .ok (.goto 10, 3) := by decide +kernel
theorem dX1_play_228 : decode cX1_play 228 = .ok (.iload 9, 2) := by decide +kernel
theorem dX1_play_230 : decode cX1_play 230 = .ok (.iload 12, 2) := by decide +kernel
theorem dX1_play_232 : decode cX1_play 232 = .ok (.invokestatic 46, 3) := by decide +kernel
theorem dX1_play_235 : decode cX1_play 235 = .ok (.istore 9, 2) := by decide +kernel
theorem dX1_play_237 : decode cX1_play 237 = .ok (.iinc 10 1, 3) := by decide +kernel
theorem dX1_play_240 : decode cX1_play 240 = .ok (.goto (-187), 3) := by decide +kernel
theorem dX1_play_243 : decode cX1_play 243 = .ok (.iload 7, 2) := by decide +kernel
theorem dX1_play_245 : decode cX1_play 245 = .ok (.ireturn, 1) := by decide +kernel
set_option maxRecDepth 100000 in
set_option maxHeartbeats 8000000 in
theorem c_X1_play (d : Nat) (l : Launch) (D : va_G) (cA : Nat → ClassId) (q aK aV : Nat → Nat) (hq : injG 167 q) : ∀ (a1 : Nat) (a2 : Int32) (a3 : Int32) (a4 : Int32) (a5 : Int32) (M M0 : Mem) (r0 : Int32) (h1 : shC a1 = 0) (_ : f_X1_play d a1 a2 a3 a4 a5 M = some (r0, M0)), Met l yX1_play (.code yX1_play cX1_play 13 (some .int) :: BW) ({ frames := 6 + d, cells := 0, slots := 0, locals := 133 + 32 * d } : Room) (va_Pc [.ref (q 24), .ref (q a1), .int a2, .int a3, .int a4, .int a5] (CB 167 (ceC cA q) D cA q aK aV M)) (Qi 167 (ceC cA q) D q r0 M0) 0 0 (AqG 167 q) := by
  induction d with
  | zero => intro a1 a2 a3 a4 a5 M M0 r0 h1 h; exact absurd h (by simp [f_X1_play])
  | succ d ihd =>
    intro a1 a2 a3 a4 a5 M M0 r0 h1 h
    refine gMet RX1 (by decide +kernel) rfl hq (Nat.le_of_ble_eq_true rfl) ?_
    intro p e s m below meth c ls X hr hk hP hS hl
    have hx := X.1
    have hb := X.2.1
    have hl : lv_has ls 13 [(0, .ref (q 24)), (1, .ref (q a1)), (2, .int a2), (3, .int a3), (4, .int a4), (5, .int a5)] := hl
    rw [f_X1_play] at h
    have hL53 : ∀ (b6 : Int32) (fu : Nat) (b7 : Int32) (b8 : Int32) (b9 : Int32) (b10 : Int32) (M : Mem) (res : (Int32) × Mem) (H : Heap) (locs : List Loc) (ls : Array Slot), f_X1_play_L53 (f_X1_play d) a1 a2 a3 b6 fu b7 b8 b9 b10 M = some res → va_P D vwCl (wsG 167 (ceC cA q) q M) H → va_S (AqG 167 q) s.heap H locs → lv_has ls 13 [(0, .ref (q 24)), (1, .ref (q a1)), (2, .int a2), (3, .int a3), (6, .int b6), (7, .int b7), (8, .int b8), (9, .int b9), (10, .int b10)] → (∀ (H : Heap) (locs : List Loc) (ls : Array Slot), va_P D vwCl (wsG 167 (ceC cA q) q res.2) H → va_S (AqG 167 q) s.heap H locs → lv_has ls 13 [(7, .int (res.1))] → W p l e ({ frames := 6 + (d + 1), cells := 0, slots := 0, locals := 133 + 32 * (d + 1) } : Room) s m [.ref (q 24), .ref (q a1), .int a2, .int a3, .int a4, .int a5].toArray below meth c H locs 0 0 (MQ below (Qi 167 (ceC cA q) D q r0 M0) [.ref (q 24), .ref (q a1), .int a2, .int a3, .int a4, .int a5].toArray s 0 0 (AqG 167 q)) (F0 m 243 ls [])) → W p l e ({ frames := 6 + (d + 1), cells := 0, slots := 0, locals := 133 + 32 * (d + 1) } : Room) s m [.ref (q 24), .ref (q a1), .int a2, .int a3, .int a4, .int a5].toArray below meth c H locs 0 0 (MQ below (Qi 167 (ceC cA q) D q r0 M0) [.ref (q 24), .ref (q a1), .int a2, .int a3, .int a4, .int a5].toArray s 0 0 (AqG 167 q)) (F0 m 53 ls []) := by
      intro b6 fu
      induction fu with
      | zero => intro b7 b8 b9 b10 M res H locs ls h; exact absurd h (by simp [f_X1_play_L53])
      | succ fu ih =>
        intro b7 b8 b9 b10 M res H locs ls h hP hS hl K53_0
        rw [f_X1_play_L53] at h
        have hJ216 : ∀ (b7 : Int32) (b9 : Int32) (b10 : Int32) (b12 : Int32) (s0 : Int32) (M : Mem) (H : Heap) (locs : List Loc) (ls : Array Slot), f_X1_play_J216 (f_X1_play d) (f_X1_play_L53 (f_X1_play d) a1 a2 a3 b6 fu) a1 a2 a3 b6 b7 b9 b10 b12 s0 M = some res → va_P D vwCl (wsG 167 (ceC cA q) q M) H → va_S (AqG 167 q) s.heap H locs → lv_has ls 13 [(0, .ref (q 24)), (1, .ref (q a1)), (2, .int a2), (3, .int a3), (6, .int b6), (7, .int b7), (9, .int b9), (10, .int b10), (12, .int b12)] → W p l e ({ frames := 6 + (d + 1), cells := 0, slots := 0, locals := 133 + 32 * (d + 1) } : Room) s m [.ref (q 24), .ref (q a1), .int a2, .int a3, .int a4, .int a5].toArray below meth c H locs 0 0 (MQ below (Qi 167 (ceC cA q) D q r0 M0) [.ref (q 24), .ref (q a1), .int a2, .int a3, .int a4, .int a5].toArray s 0 0 (AqG 167 q)) (F0 m 216 ls [.int s0]) := by
          intro b7 b9 b10 b12 s0 M H locs ls h hP hS hl
          rw [f_X1_play_J216] at h
          refine lv_istore (lv' := [(8, .int s0), (0, .ref (q 24)), (1, .ref (q a1)), (2, .int a2), (3, .int a3), (6, .int b6), (7, .int b7), (9, .int b9), (10, .int b10), (12, .int b12)]) hx hb dX1_play_216 hl (by decide) rfl (fun ls hl => ?_)
          refine lv_iload hx hb dX1_play_218 (lv_at hl 5 rfl) ?_
          refine lv_if_eq (tgt := 228) hx hb dX1_play_220 (by decide) (fun c42 => ?_) (fun c42 => ?_)
          · rw [if_pos c42] at h
            refine lv_iload hx hb dX1_play_228 (lv_at hl 7 rfl) ?_
            refine lv_iload hx hb dX1_play_230 (lv_at hl 9 rfl) ?_
            obtain ⟨y43, ey43, h⟩ := lt_inv h
            refine va_mmin hx hb (by rw [X.2.2.1]; exact hl.1.symm) X.2.2.2.1 (X.2.2.2.2.1 _ bw_1217) (X.2.2.2.2.1 _ bw_888) (X.2.2.2.2.1 _ bw_18) (X.2.2.2.2.1 _ bw_889) (Nat.le_of_ble_eq_true rfl) (Nat.le_of_ble_eq_true rfl) (Nat.zero_le _) (Nat.zero_le _) dX1_play_232 ?_
            refine topE ey43 ?_
            refine lv_istore (lv' := [(9, .int y43), (8, .int s0), (0, .ref (q 24)), (1, .ref (q a1)), (2, .int a2), (3, .int a3), (6, .int b6), (7, .int b7), (10, .int b10), (12, .int b12)]) hx hb dX1_play_235 hl (by decide) rfl (fun ls hl => ?_)
            obtain ⟨y44, ey44, h⟩ := lt_inv h
            refine lv_iinc (v := y44) (lv' := [(10, .int y44), (9, .int y43), (8, .int s0), (0, .ref (q 24)), (1, .ref (q a1)), (2, .int a2), (3, .int a3), (6, .int b6), (7, .int b7), (12, .int b12)]) hx hb dX1_play_237 hl (k := 8) rfl (by rw [ey44]; rfl) (by decide) rfl (fun ls hl => ?_)
            refine lv_goto (tgt := 53) hx hb dX1_play_240 (by decide) ?_
            exact ih _ _ _ _ _ res _ _ _ h hP hS (lv_sub hl [3, 4, 5, 6, 7, 8, 2, 1, 0] rfl) K53_0
          · rw [if_neg c42] at h
            refine lv_iload hx hb dX1_play_223 (lv_at hl 7 rfl) ?_
            refine lv_goto (tgt := 235) hx hb dX1_play_225 (by decide) ?_
            refine lv_istore (lv' := [(9, .int b9), (8, .int s0), (0, .ref (q 24)), (1, .ref (q a1)), (2, .int a2), (3, .int a3), (6, .int b6), (7, .int b7), (10, .int b10), (12, .int b12)]) hx hb dX1_play_235 hl (by decide) rfl (fun ls hl => ?_)
            obtain ⟨y45, ey45, h⟩ := lt_inv h
            refine lv_iinc (v := y45) (lv' := [(10, .int y45), (9, .int b9), (8, .int s0), (0, .ref (q 24)), (1, .ref (q a1)), (2, .int a2), (3, .int a3), (6, .int b6), (7, .int b7), (12, .int b12)]) hx hb dX1_play_237 hl (k := 8) rfl (by rw [ey45]; rfl) (by decide) rfl (fun ls hl => ?_)
            refine lv_goto (tgt := 53) hx hb dX1_play_240 (by decide) ?_
            exact ih _ _ _ _ _ res _ _ _ h hP hS (lv_sub hl [3, 4, 5, 6, 7, 8, 2, 1, 0] rfl) K53_0
        have hJ199 : ∀ (b7 : Int32) (b8 : Int32) (b9 : Int32) (b10 : Int32) (b12 : Int32) (M : Mem) (H : Heap) (locs : List Loc) (ls : Array Slot), f_X1_play_J199 (f_X1_play d) (f_X1_play_L53 (f_X1_play d) a1 a2 a3 b6 fu) a1 a2 a3 b6 b7 b8 b9 b10 b12 M = some res → va_P D vwCl (wsG 167 (ceC cA q) q M) H → va_S (AqG 167 q) s.heap H locs → lv_has ls 13 [(0, .ref (q 24)), (1, .ref (q a1)), (2, .int a2), (3, .int a3), (6, .int b6), (7, .int b7), (8, .int b8), (9, .int b9), (10, .int b10), (12, .int b12)] → W p l e ({ frames := 6 + (d + 1), cells := 0, slots := 0, locals := 133 + 32 * (d + 1) } : Room) s m [.ref (q 24), .ref (q a1), .int a2, .int a3, .int a4, .int a5].toArray below meth c H locs 0 0 (MQ below (Qi 167 (ceC cA q) D q r0 M0) [.ref (q 24), .ref (q a1), .int a2, .int a3, .int a4, .int a5].toArray s 0 0 (AqG 167 q)) (F0 m 199 ls []) := by
          intro b7 b8 b9 b10 b12 M H locs ls h hP hS hl
          rw [f_X1_play_J199] at h
          refine lv_iload hx hb dX1_play_199 (lv_at hl 4 rfl) ?_
          refine lv_if_eq (tgt := 214) hx hb dX1_play_201 (by decide) (fun c40 => ?_) (fun c40 => ?_)
          · rw [if_pos c40] at h
            refine lv_iload hx hb dX1_play_214 (lv_at hl 6 rfl) ?_
            exact hJ216 _ _ _ _ _ _ _ _ _ h hP hS (lv_sub hl [0, 1, 2, 3, 4, 5, 7, 8, 9] rfl)
          · rw [if_neg c40] at h
            refine lv_iload hx hb dX1_play_204 (lv_at hl 6 rfl) ?_
            refine lv_iload hx hb dX1_play_206 (lv_at hl 9 rfl) ?_
            obtain ⟨y41, ey41, h⟩ := lt_inv h
            refine va_mmax hx hb (by rw [X.2.2.1]; exact hl.1.symm) X.2.2.2.1 (X.2.2.2.2.1 _ bw_1216) (X.2.2.2.2.1 _ bw_1177) (X.2.2.2.2.1 _ bw_18) (X.2.2.2.2.1 _ bw_1178) (Nat.le_of_ble_eq_true rfl) (Nat.le_of_ble_eq_true rfl) (Nat.zero_le _) (Nat.zero_le _) dX1_play_208 ?_
            refine topE ey41 ?_
            refine lv_goto (tgt := 216) hx hb dX1_play_211 (by decide) ?_
            exact hJ216 _ _ _ _ _ _ _ _ _ h hP hS (lv_sub hl [0, 1, 2, 3, 4, 5, 7, 8, 9] rfl)
        have hJ196 : ∀ (b7 : Int32) (b8 : Int32) (b9 : Int32) (b10 : Int32) (b12 : Int32) (s1 : Int32) (M : Mem) (H : Heap) (locs : List Loc) (ls : Array Slot), f_X1_play_J196 (f_X1_play d) (f_X1_play_L53 (f_X1_play d) a1 a2 a3 b6 fu) a1 a2 a3 b6 b7 b8 b9 b10 b12 s1 M = some res → va_P D vwCl (wsG 167 (ceC cA q) q M) H → va_S (AqG 167 q) s.heap H locs → lv_has ls 13 [(0, .ref (q 24)), (1, .ref (q a1)), (2, .int a2), (3, .int a3), (6, .int b6), (7, .int b7), (8, .int b8), (9, .int b9), (10, .int b10), (12, .int b12)] → W p l e ({ frames := 6 + (d + 1), cells := 0, slots := 0, locals := 133 + 32 * (d + 1) } : Room) s m [.ref (q 24), .ref (q a1), .int a2, .int a3, .int a4, .int a5].toArray below meth c H locs 0 0 (MQ below (Qi 167 (ceC cA q) D q r0 M0) [.ref (q 24), .ref (q a1), .int a2, .int a3, .int a4, .int a5].toArray s 0 0 (AqG 167 q)) (F0 m 196 ls [.int s1, .ref (q 24)]) := by
          intro b7 b8 b9 b10 b12 s1 M H locs ls h hP hS hl
          rw [f_X1_play_J196] at h
          obtain ⟨M39, eM39, h⟩ := lt_inv h
          refine pfC_1_0 X hP hS sC_24 bw_391 eM39 dX1_play_196 (fun H locs hP hS => ?_)
          exact hJ199 _ _ _ _ _ _ _ _ _ h hP hS (lv_sub hl [0, 1, 2, 3, 4, 5, 6, 7, 8, 9] rfl)
        have hJ178 : ∀ (b8 : Int32) (b9 : Int32) (b10 : Int32) (b12 : Int32) (M : Mem) (H : Heap) (locs : List Loc) (ls : Array Slot), f_X1_play_J178 (f_X1_play d) (f_X1_play_L53 (f_X1_play d) a1 a2 a3 b6 fu) a1 a2 a3 b6 b8 b9 b10 b12 M = some res → va_P D vwCl (wsG 167 (ceC cA q) q M) H → va_S (AqG 167 q) s.heap H locs → lv_has ls 13 [(0, .ref (q 24)), (1, .ref (q a1)), (2, .int a2), (3, .int a3), (6, .int b6), (8, .int b8), (9, .int b9), (10, .int b10), (12, .int b12)] → W p l e ({ frames := 6 + (d + 1), cells := 0, slots := 0, locals := 133 + 32 * (d + 1) } : Room) s m [.ref (q 24), .ref (q a1), .int a2, .int a3, .int a4, .int a5].toArray below meth c H locs 0 0 (MQ below (Qi 167 (ceC cA q) D q r0 M0) [.ref (q 24), .ref (q a1), .int a2, .int a3, .int a4, .int a5].toArray s 0 0 (AqG 167 q)) (F0 m 178 ls []) := by
          intro b8 b9 b10 b12 M H locs ls h hP hS hl
          rw [f_X1_play_J178] at h
          refine lv_iload hx hb dX1_play_178 (lv_at hl 8 rfl) ?_
          refine lv_istore (lv' := [(7, .int b12), (0, .ref (q 24)), (1, .ref (q a1)), (2, .int a2), (3, .int a3), (6, .int b6), (8, .int b8), (9, .int b9), (10, .int b10), (12, .int b12)]) hx hb dX1_play_180 hl (by decide) rfl (fun ls hl => ?_)
          refine lv_aload_n hx hb dX1_play_182 rfl (lv_at hl 1 rfl) ?_
          refine lv_iload_n hx hb dX1_play_183 rfl (lv_at hl 3 rfl) ?_
          refine lv_if_ne (tgt := 192) hx hb dX1_play_184 (by decide) (fun c38 => ?_) (fun c38 => ?_)
          · rw [if_neg c38] at h
            refine lv_aload_n hx hb dX1_play_192 rfl (lv_at hl 1 rfl) ?_
            refine gfC_1_0 X hP sC_24 bw_391 dX1_play_193 ?_
            exact hJ196 _ _ _ _ _ _ _ _ _ _ h hP hS (lv_sub hl [1, 2, 3, 4, 5, 0, 6, 7, 8, 9] rfl)
          · rw [if_pos c38] at h
            refine lv_iload hx hb dX1_play_187 (lv_at hl 8 rfl) ?_
            refine lv_goto (tgt := 196) hx hb dX1_play_189 (by decide) ?_
            exact hJ196 _ _ _ _ _ _ _ _ _ _ h hP hS (lv_sub hl [1, 2, 3, 4, 5, 0, 6, 7, 8, 9] rfl)
        refine lv_iload hx hb dX1_play_53 (lv_at hl 8 rfl) ?_
        refine lv_bipush (v := 36) hx hb dX1_play_55 (by decide) ?_
        refine lv_icmp_gt (tgt := 243) hx hb dX1_play_57 (by decide) (fun c9 => ?_) (fun c9 => ?_)
        · rw [if_pos c9] at h
          cases h
          exact K53_0 _ _ _ hP hS (lv_sub hl [5] rfl)
        · rw [if_neg c9] at h
          refine lv_iload hx hb dX1_play_60 (lv_at hl 6 rfl) ?_
          refine lv_iload hx hb dX1_play_62 (lv_at hl 7 rfl) ?_
          refine lv_icmp_ge (tgt := 243) hx hb dX1_play_64 (by decide) (fun c10 => ?_) (fun c10 => ?_)
          · rw [if_pos c10] at h
            cases h
            exact K53_0 _ _ _ hP hS (lv_sub hl [5] rfl)
          · rw [if_neg c10] at h
            refine lv_aload_n hx hb dX1_play_67 rfl (lv_at hl 1 rfl) ?_
            refine lv_iload hx hb dX1_play_68 (lv_at hl 8 rfl) ?_
            obtain ⟨r11, M12, hc13, h⟩ := bnd_inv h
            refine gS_i (As := [.ref (q a1), .int b10]) X hP hS hl.1 (c_X1_canBe l D cA q aK aV hq h1 hc13) sf_X1_canBe bw_1209 ss_X1_canBe ⟨rfl, rfl⟩ ⟨by dsimp only; omega, by dsimp only; omega⟩ rfl rfl (Nat.le_of_ble_eq_true rfl) dX1_play_70 (fun H locs hP hS => ?_)
            refine lv_if_ne (tgt := 79) hx hb dX1_play_73 (by decide) (fun c14 => ?_) (fun c14 => ?_)
            · rw [if_neg c14] at h
              refine lv_aload_n hx hb dX1_play_79 rfl (lv_at hl 0 rfl) ?_
              refine gfC_1_1 X hP sC_24 bw_393 dX1_play_80 ?_
              obtain ⟨y15, ey15, h⟩ := lt_inv h
              refine topE ey15 ?_
              refine lv_istore (lv' := [(11, .int y15), (0, .ref (q 24)), (1, .ref (q a1)), (2, .int a2), (3, .int a3), (6, .int b6), (7, .int b7), (8, .int b8), (9, .int b9), (10, .int b10)]) hx hb dX1_play_83 hl (by decide) rfl (fun ls hl => ?_)
              refine lv_aload_n hx hb dX1_play_85 rfl (lv_at hl 1 rfl) ?_
              refine lv_dup hx hb dX1_play_86 rfl ?_
              refine gfC_1_1 X hP sC_24 bw_393 dX1_play_87 ?_
              refine lv_aload_n hx hb dX1_play_90 rfl (lv_at hl 2 rfl) ?_
              refine lv_iload hx hb dX1_play_91 (lv_at hl 9 rfl) ?_
              refine lv_bipush (v := 6) hx hb dX1_play_93 (by decide) ?_
              refine lv_idiv hx hb dX1_play_95 (by decide) ?_
              obtain ⟨r16, M17, hc18, h⟩ := bnd_inv h
              refine gS_i (As := [.ref (q a1), .int (b10 / (6 : Int32))]) X hP hS hl.1 (c_X1_worth l D cA q aK aV hq h1 hc18) sf_X1_worth bw_1201 ss_X1_worth ⟨rfl, rfl⟩ ⟨by dsimp only; omega, by dsimp only; omega⟩ rfl rfl (Nat.le_of_ble_eq_true rfl) dX1_play_96 (fun H locs hP hS => ?_)
              refine lv_isub hx hb dX1_play_99 ?_
              obtain ⟨M19, eM19, h⟩ := lt_inv h
              refine pfC_1_1 X hP hS sC_24 bw_393 eM19 dX1_play_100 (fun H locs hP hS => ?_)
              refine lv_aload_n hx hb dX1_play_103 rfl (lv_at hl 2 rfl) ?_
              refine lv_iload hx hb dX1_play_104 (lv_at hl 9 rfl) ?_
              refine lv_iconst (v := 1) hx hb dX1_play_106 (by decide) ?_
              obtain ⟨_, M21, hc22, h⟩ := bnd_inv h
              refine gS_v (As := [.ref (q a1), .int b10, .int (1 : Int32)]) X hP hS hl.1 (c_X1_change l D cA q aK aV hq h1 hc22) sf_X1_change bw_1213 ss_X1_change ⟨rfl, rfl⟩ ⟨by dsimp only; omega, by dsimp only; omega⟩ rfl rfl (Nat.le_of_ble_eq_true rfl) dX1_play_107 (fun H locs hP hS => ?_)
              refine lv_aload_n hx hb dX1_play_110 rfl (lv_at hl 1 rfl) ?_
              refine lv_dup hx hb dX1_play_111 rfl ?_
              refine gfC_1_1 X hP sC_24 bw_393 dX1_play_112 ?_
              refine lv_aload_n hx hb dX1_play_115 rfl (lv_at hl 2 rfl) ?_
              refine lv_iload hx hb dX1_play_116 (lv_at hl 9 rfl) ?_
              refine lv_bipush (v := 6) hx hb dX1_play_118 (by decide) ?_
              refine lv_idiv hx hb dX1_play_120 (by decide) ?_
              obtain ⟨r23, M24, hc25, h⟩ := bnd_inv h
              refine gS_i (As := [.ref (q a1), .int (b10 / (6 : Int32))]) X hP hS hl.1 (c_X1_worth l D cA q aK aV hq h1 hc25) sf_X1_worth bw_1201 ss_X1_worth ⟨rfl, rfl⟩ ⟨by dsimp only; omega, by dsimp only; omega⟩ rfl rfl (Nat.le_of_ble_eq_true rfl) dX1_play_121 (fun H locs hP hS => ?_)
              refine lv_iadd hx hb dX1_play_124 ?_
              obtain ⟨M26, eM26, h⟩ := lt_inv h
              refine pfC_1_1 X hP hS sC_24 bw_393 eM26 dX1_play_125 (fun H locs hP hS => ?_)
              refine lv_aload_n hx hb dX1_play_128 rfl (lv_at hl 1 rfl) ?_
              refine lv_aload_n hx hb dX1_play_129 rfl (lv_at hl 2 rfl) ?_
              refine lv_iload_n hx hb dX1_play_130 rfl (lv_at hl 3 rfl) ?_
              refine lv_iconst (v := 1) hx hb dX1_play_131 (by decide) ?_
              refine lv_iadd hx hb dX1_play_132 ?_
              refine lv_iload_n hx hb dX1_play_133 rfl (lv_at hl 4 rfl) ?_
              refine lv_iload hx hb dX1_play_134 (lv_at hl 7 rfl) ?_
              refine lv_iload hx hb dX1_play_136 (lv_at hl 8 rfl) ?_
              obtain ⟨r27, M28, hc29, h⟩ := bnd_inv h
              refine gS_i (As := [.ref (q 24), .ref (q a1), .int (a2 + (1 : Int32)), .int a3, .int b8, .int b9]) X hP hS hl.1 (ihd _ _ _ _ _ _ _ _  h1 hc29) sf_X1_play bw_1206 ss_X1_play ⟨rfl, rfl⟩ ⟨by dsimp only; omega, by dsimp only; omega⟩ rfl rfl (Nat.le_of_ble_eq_true rfl) dX1_play_138 (fun H locs hP hS => ?_)
              refine lv_istore (lv' := [(12, .int r27), (11, .int y15), (0, .ref (q 24)), (1, .ref (q a1)), (2, .int a2), (3, .int a3), (6, .int b6), (7, .int b7), (8, .int b8), (9, .int b9), (10, .int b10)]) hx hb dX1_play_141 hl (by decide) rfl (fun ls hl => ?_)
              refine lv_aload_n hx hb dX1_play_143 rfl (lv_at hl 3 rfl) ?_
              refine lv_iload hx hb dX1_play_144 (lv_at hl 10 rfl) ?_
              refine lv_iconst (v := -1) hx hb dX1_play_146 (by decide) ?_
              obtain ⟨_, M31, hc32, h⟩ := bnd_inv h
              refine gS_v (As := [.ref (q a1), .int b10, .int (-1 : Int32)]) X hP hS hl.1 (c_X1_change l D cA q aK aV hq h1 hc32) sf_X1_change bw_1213 ss_X1_change ⟨rfl, rfl⟩ ⟨by dsimp only; omega, by dsimp only; omega⟩ rfl rfl (Nat.le_of_ble_eq_true rfl) dX1_play_147 (fun H locs hP hS => ?_)
              refine lv_aload_n hx hb dX1_play_150 rfl (lv_at hl 2 rfl) ?_
              refine lv_iload hx hb dX1_play_151 (lv_at hl 1 rfl) ?_
              obtain ⟨M33, eM33, h⟩ := lt_inv h
              refine pfC_1_1 X hP hS sC_24 bw_393 eM33 dX1_play_153 (fun H locs hP hS => ?_)
              refine lv_iload hx hb dX1_play_156 (lv_at hl 6 rfl) ?_
              refine lv_if_eq (tgt := 171) hx hb dX1_play_158 (by decide) (fun c34 => ?_) (fun c34 => ?_)
              · rw [if_pos c34] at h
                refine lv_iload hx hb dX1_play_171 (lv_at hl 0 rfl) ?_
                refine lv_iload hx hb dX1_play_173 (lv_at hl 7 rfl) ?_
                refine lv_icmp_ge (tgt := 199) hx hb dX1_play_175 (by decide) (fun c35 => ?_) (fun c35 => ?_)
                · rw [if_pos c35] at h
                  exact hJ199 _ _ _ _ _ _ _ _ _ h hP hS (lv_sub hl [2, 3, 4, 5, 6, 7, 8, 9, 10, 0] rfl)
                · rw [if_neg c35] at h
                  exact hJ178 _ _ _ _ _ _ _ _ h hP hS (lv_sub hl [2, 3, 4, 5, 6, 8, 9, 10, 0] rfl)
              · rw [if_neg c34] at h
                refine lv_iload hx hb dX1_play_161 (lv_at hl 0 rfl) ?_
                refine lv_iload hx hb dX1_play_163 (lv_at hl 7 rfl) ?_
                refine lv_icmp_le (tgt := 199) hx hb dX1_play_165 (by decide) (fun c36 => ?_) (fun c36 => ?_)
                · rw [if_pos c36] at h
                  exact hJ199 _ _ _ _ _ _ _ _ _ h hP hS (lv_sub hl [2, 3, 4, 5, 6, 7, 8, 9, 10, 0] rfl)
                · rw [if_neg c36] at h
                  refine lv_goto (tgt := 178) hx hb dX1_play_168 (by decide) ?_
                  exact hJ178 _ _ _ _ _ _ _ _ h hP hS (lv_sub hl [2, 3, 4, 5, 6, 8, 9, 10, 0] rfl)
            · rw [if_pos c14] at h
              refine lv_goto (tgt := 237) hx hb dX1_play_76 (by decide) ?_
              obtain ⟨y37, ey37, h⟩ := lt_inv h
              refine lv_iinc (v := y37) (lv' := [(10, .int y37), (0, .ref (q 24)), (1, .ref (q a1)), (2, .int a2), (3, .int a3), (6, .int b6), (7, .int b7), (8, .int b8), (9, .int b9)]) hx hb dX1_play_237 hl (k := 8) rfl (by rw [ey37]; rfl) (by decide) rfl (fun ls hl => ?_)
              refine lv_goto (tgt := 53) hx hb dX1_play_240 (by decide) ?_
              exact ih _ _ _ _ _ res _ _ _ h hP hS (lv_sub hl [1, 2, 3, 4, 5, 6, 7, 8, 0] rfl) K53_0
    have hJ40 : ∀ (b6 : Int32) (s0 : Int32) (M : Mem) (H : Heap) (locs : List Loc) (ls : Array Slot), f_X1_play_J40 (f_X1_play d) a1 a2 a3 a4 a5 b6 s0 M = some (r0, M0) → va_P D vwCl (wsG 167 (ceC cA q) q M) H → va_S (AqG 167 q) s.heap H locs → lv_has ls 13 [(0, .ref (q 24)), (1, .ref (q a1)), (2, .int a2), (3, .int a3), (4, .int a4), (5, .int a5), (6, .int b6)] → W p l e ({ frames := 6 + (d + 1), cells := 0, slots := 0, locals := 133 + 32 * (d + 1) } : Room) s m [.ref (q 24), .ref (q a1), .int a2, .int a3, .int a4, .int a5].toArray below meth c H locs 0 0 (MQ below (Qi 167 (ceC cA q) D q r0 M0) [.ref (q 24), .ref (q a1), .int a2, .int a3, .int a4, .int a5].toArray s 0 0 (AqG 167 q)) (F0 m 40 ls [.int s0]) := by
      intro b6 s0 M H locs ls h hP hS hl
      rw [f_X1_play_J40] at h
      refine lv_istore (lv' := [(7, .int s0), (0, .ref (q 24)), (1, .ref (q a1)), (2, .int a2), (3, .int a3), (4, .int a4), (5, .int a5), (6, .int b6)]) hx hb dX1_play_40 hl (by decide) rfl (fun ls hl => ?_)
      refine lv_iload hx hb dX1_play_42 (lv_at hl 5 rfl) ?_
      refine lv_istore (lv' := [(8, .int a4), (7, .int s0), (0, .ref (q 24)), (1, .ref (q a1)), (2, .int a2), (3, .int a3), (4, .int a4), (5, .int a5), (6, .int b6)]) hx hb dX1_play_44 hl (by decide) rfl (fun ls hl => ?_)
      refine lv_iload hx hb dX1_play_46 (lv_at hl 7 rfl) ?_
      refine lv_istore (lv' := [(9, .int a5), (8, .int a4), (7, .int s0), (0, .ref (q 24)), (1, .ref (q a1)), (2, .int a2), (3, .int a3), (4, .int a4), (5, .int a5), (6, .int b6)]) hx hb dX1_play_48 hl (by decide) rfl (fun ls hl => ?_)
      refine lv_iconst (v := 0) hx hb dX1_play_50 (by decide) ?_
      refine lv_istore (lv' := [(10, .int (0 : Int32)), (9, .int a5), (8, .int a4), (7, .int s0), (0, .ref (q 24)), (1, .ref (q a1)), (2, .int a2), (3, .int a3), (4, .int a4), (5, .int a5), (6, .int b6)]) hx hb dX1_play_51 hl (by decide) rfl (fun ls hl => ?_)
      obtain ⟨s5, M6, hc7, h⟩ := bnd_inv h
      obtain ⟨x8, rfl⟩ : ∃ z, z = s5 := ⟨_, rfl⟩
      try dsimp only at h
      refine hL53 _ fz _ _ _ _ _ _ _ _ _ hc7 hP hS (lv_sub hl [4, 5, 6, 7, 10, 3, 2, 1, 0] rfl) (fun H locs ls hP hS hl => ?_)
      have hl : lv_has ls 13 [(7, .int x8)] := hl
      refine lv_iload hx hb dX1_play_243 (lv_at hl 0 rfl) ?_
      exact end_i X hr hk hP hS h dX1_play_245
    have hJ26 : ∀ (s0 : Int32) (M : Mem) (H : Heap) (locs : List Loc) (ls : Array Slot), f_X1_play_J26 (f_X1_play d) a1 a2 a3 a4 a5 s0 M = some (r0, M0) → va_P D vwCl (wsG 167 (ceC cA q) q M) H → va_S (AqG 167 q) s.heap H locs → lv_has ls 13 [(0, .ref (q 24)), (1, .ref (q a1)), (2, .int a2), (3, .int a3), (4, .int a4), (5, .int a5)] → W p l e ({ frames := 6 + (d + 1), cells := 0, slots := 0, locals := 133 + 32 * (d + 1) } : Room) s m [.ref (q 24), .ref (q a1), .int a2, .int a3, .int a4, .int a5].toArray below meth c H locs 0 0 (MQ below (Qi 167 (ceC cA q) D q r0 M0) [.ref (q 24), .ref (q a1), .int a2, .int a3, .int a4, .int a5].toArray s 0 0 (AqG 167 q)) (F0 m 26 ls [.int s0]) := by
      intro s0 M H locs ls h hP hS hl
      rw [f_X1_play_J26] at h
      refine lv_istore (lv' := [(6, .int s0), (0, .ref (q 24)), (1, .ref (q a1)), (2, .int a2), (3, .int a3), (4, .int a4), (5, .int a5)]) hx hb dX1_play_26 hl (by decide) rfl (fun ls hl => ?_)
      refine lv_iload hx hb dX1_play_28 (lv_at hl 0 rfl) ?_
      refine lv_if_eq (tgt := 38) hx hb dX1_play_30 (by decide) (fun c4 => ?_) (fun c4 => ?_)
      · rw [if_pos c4] at h
        refine lv_bipush (v := 7) hx hb dX1_play_38 (by decide) ?_
        exact hJ40 _ _ _ _ _ _ h hP hS (lv_sub hl [1, 2, 3, 4, 5, 6, 0] rfl)
      · rw [if_neg c4] at h
        refine lv_bipush (v := -7) hx hb dX1_play_33 (by decide) ?_
        refine lv_goto (tgt := 40) hx hb dX1_play_35 (by decide) ?_
        exact hJ40 _ _ _ _ _ _ h hP hS (lv_sub hl [1, 2, 3, 4, 5, 6, 0] rfl)
    refine lv_iload_n hx hb dX1_play_0 rfl (lv_at hl 2 rfl) ?_
    refine lv_iload_n hx hb dX1_play_1 rfl (lv_at hl 3 rfl) ?_
    refine lv_icmp_ge (tgt := 10) hx hb dX1_play_2 (by decide) (fun c1 => ?_) (fun c1 => ?_)
    · rw [if_pos c1] at h
      refine lv_aload_n hx hb dX1_play_10 rfl (lv_at hl 0 rfl) ?_
      refine gfC_1_1 X hP sC_24 bw_393 dX1_play_11 ?_
      exact end_i X hr hk hP hS h dX1_play_14
    · rw [if_neg c1] at h
      refine lv_iload_n hx hb dX1_play_5 rfl (lv_at hl 2 rfl) ?_
      refine lv_iconst (v := 3) hx hb dX1_play_6 (by decide) ?_
      refine lv_icmp_lt (tgt := 15) hx hb dX1_play_7 (by decide) (fun c2 => ?_) (fun c2 => ?_)
      · rw [if_pos c2] at h
        refine lv_iload_n hx hb dX1_play_15 rfl (lv_at hl 2 rfl) ?_
        refine lv_iconst (v := 2) hx hb dX1_play_16 (by decide) ?_
        refine lv_irem hx hb dX1_play_17 (by decide) ?_
        refine lv_if_ne (tgt := 25) hx hb dX1_play_18 (by decide) (fun c3 => ?_) (fun c3 => ?_)
        · rw [if_neg c3] at h
          refine lv_iconst (v := 0) hx hb dX1_play_25 (by decide) ?_
          exact hJ26 _ _ _ _ _ h hP hS (lv_sub hl [0, 1, 2, 3, 4, 5] rfl)
        · rw [if_pos c3] at h
          refine lv_iconst (v := 1) hx hb dX1_play_21 (by decide) ?_
          refine lv_goto (tgt := 26) hx hb dX1_play_22 (by decide) ?_
          exact hJ26 _ _ _ _ _ h hP hS (lv_sub hl [0, 1, 2, 3, 4, 5] rfl)
      · rw [if_neg c2] at h
        refine lv_aload_n hx hb dX1_play_10 rfl (lv_at hl 0 rfl) ?_
        refine gfC_1_1 X hP sC_24 bw_393 dX1_play_11 ?_
        exact end_i X hr hk hP hS h dX1_play_14
theorem dX1_begin_0 : decode cX1_begin 0 = .ok (.aload_n 0, 1) := by decide +kernel
theorem dX1_begin_1 : decode cX1_begin 1 = .ok (.bipush 36, 2) := by decide +kernel
theorem dX1_begin_3 : decode cX1_begin 3 = .ok (.putfield 11, 3) := by decide +kernel
theorem dX1_begin_6 : decode cX1_begin 6 = .ok (.iconst 0, 1) := by decide +kernel
theorem dX1_begin_7 : decode cX1_begin 7 = .ok (.istore_n 3, 1) := by decide +kernel
theorem dX1_begin_8 : decode cX1_begin 8 = .ok (.iconst 0, 1) := by decide +kernel
theorem dX1_begin_9 : decode cX1_begin 9 = .ok (.istore 4, 2) := by decide +kernel
theorem dX1_begin_11 : decode cX1_begin 11 = .ok (.iload 4, 2) := by decide +kernel
theorem dX1_begin_13 : decode cX1_begin 13 = .ok (.aload_n 1, 1) := by decide +kernel
theorem dX1_begin_14 : decode cX1_begin 14 = .ok (.iconst 3, 1) := by decide +kernel
theorem dX1_begin_15 : decode cX1_begin 15 = .ok (.invokevirtual 18, 3) := by decide +kernel
theorem dX1_begin_18 : decode cX1_begin 18 = .ok (.if_icmp .ge 18, 3) := by decide +kernel
theorem dX1_begin_21 : decode cX1_begin 21 = .ok (.iload_n 3, 1) := by decide +kernel
theorem dX1_begin_22 : decode cX1_begin 22 = .ok (.aload_n 1, 1) := by decide +kernel
theorem dX1_begin_23 : decode cX1_begin 23 = .ok (.iload 4, 2) := by decide +kernel
theorem dX1_begin_25 : decode cX1_begin 25 = .ok (.invokestatic 24, 3) := by decide +kernel
theorem dX1_begin_28 : decode cX1_begin 28 = .ok (.iadd, 1) := by decide +kernel
theorem dX1_begin_29 : decode cX1_begin 29 = .ok (.istore_n 3, 1) := by decide +kernel
theorem dX1_begin_30 : decode cX1_begin 30 = .ok (.iinc 4 1, 3) := by decide +kernel
theorem dX1_begin_33 : decode cX1_begin 33 = .ok (.goto (-22), 3) := by decide +kernel
theorem dX1_begin_36 : decode cX1_begin 36 = .ok (.aload_n 0, 1) := by decide +kernel
theorem dX1_begin_37 : decode cX1_begin 37 = .ok (.iload_n 3, 1) := by decide +kernel
theorem dX1_begin_38 : decode cX1_begin 38 = .ok (.putfield 15, 3) := by decide +kernel
theorem dX1_begin_41 : decode cX1_begin 41 = .ok (.aload_n 0, 1) := by decide +kernel
theorem dX1_begin_42 : decode cX1_begin 42 = .ok (.aload_n 1, 1) := by decide +kernel
theorem dX1_begin_43 : decode cX1_begin 43 = .ok (.iconst 0, 1) := by decide +kernel
theorem dX1_begin_44 : decode cX1_begin 44 = .ok (.iload_n 2, 1) := by decide +kernel
theorem dX1_begin_45 : decode cX1_begin 45 = .ok (.bipush (-7), 2) := by decide +kernel
theorem dX1_begin_47 : decode cX1_begin 47 = .ok (.bipush 7, 2) := by decide +kernel
theorem dX1_begin_49 : decode cX1_begin 49 = .ok (.invokestatic 28, 3) := by decide +kernel
theorem dX1_begin_52 : decode cX1_begin 52 = .ok (.ireturn, 1) := by decide +kernel
set_option maxRecDepth 100000 in
set_option maxHeartbeats 8000000 in
theorem c_X1_begin (l : Launch) (D : va_G) (cA : Nat → ClassId) (q aK aV : Nat → Nat) (hq : injG 167 q) {a1 : Nat} {a2 : Int32} {M M0 : Mem} {r0 : Int32} (h1 : shC a1 = 0) (h : f_X1_begin a1 a2 M = some (r0, M0)) : Met l yX1_begin (.code yX1_begin cX1_begin 5 (some .int) :: BW) ({ frames := 12, cells := 0, slots := 0, locals := 325 } : Room) (va_Pc [.ref (q 24), .ref (q a1), .int a2] (CB 167 (ceC cA q) D cA q aK aV M)) (Qi 167 (ceC cA q) D q r0 M0) 0 0 (AqG 167 q) := by
  refine gMet RX1 (by decide +kernel) rfl hq (Nat.le_of_ble_eq_true rfl) ?_
  intro p e s m below meth c ls X hr hk hP hS hl
  have hx := X.1
  have hb := X.2.1
  have hl : lv_has ls 5 [(0, .ref (q 24)), (1, .ref (q a1)), (2, .int a2)] := hl
  rw [f_X1_begin] at h
  have hL11 : ∀ (fu : Nat) (b3 : Int32) (b4 : Int32) (M : Mem) (res : (Int32) × Mem) (H : Heap) (locs : List Loc) (ls : Array Slot), f_X1_begin_L11 a1 a2 fu b3 b4 M = some res → va_P D vwCl (wsG 167 (ceC cA q) q M) H → va_S (AqG 167 q) s.heap H locs → lv_has ls 5 [(0, .ref (q 24)), (1, .ref (q a1)), (2, .int a2), (3, .int b3), (4, .int b4)] → (∀ (H : Heap) (locs : List Loc) (ls : Array Slot), va_P D vwCl (wsG 167 (ceC cA q) q res.2) H → va_S (AqG 167 q) s.heap H locs → lv_has ls 5 [(0, .ref (q 24)), (1, .ref (q a1)), (2, .int a2), (3, .int (res.1))] → W p l e ({ frames := 12, cells := 0, slots := 0, locals := 325 } : Room) s m [.ref (q 24), .ref (q a1), .int a2].toArray below meth c H locs 0 0 (MQ below (Qi 167 (ceC cA q) D q r0 M0) [.ref (q 24), .ref (q a1), .int a2].toArray s 0 0 (AqG 167 q)) (F0 m 36 ls [])) → W p l e ({ frames := 12, cells := 0, slots := 0, locals := 325 } : Room) s m [.ref (q 24), .ref (q a1), .int a2].toArray below meth c H locs 0 0 (MQ below (Qi 167 (ceC cA q) D q r0 M0) [.ref (q 24), .ref (q a1), .int a2].toArray s 0 0 (AqG 167 q)) (F0 m 11 ls []) := by
    intro fu
    induction fu with
    | zero => intro b3 b4 M res H locs ls h; exact absurd h (by simp [f_X1_begin_L11])
    | succ fu ih =>
      intro b3 b4 M res H locs ls h hP hS hl K11_0
      rw [f_X1_begin_L11] at h
      refine lv_iload hx hb dX1_begin_11 (lv_at hl 4 rfl) ?_
      refine lv_aload_n hx hb dX1_begin_13 rfl (lv_at hl 1 rfl) ?_
      refine lv_iconst (v := 3) hx hb dX1_begin_14 (by decide) ?_
      obtain ⟨r10, M11, hc12, h⟩ := bnd_inv h
      refine gV_i (As := [.int (3 : Int32)]) X hP hS hl.1 (c_X0_countOf l D cA q aK aV hq h1 hc12) sf_X0_countOf bw_1200 sv_X0_countOf (rcC_0 h1) rfl ⟨rfl, rfl⟩ ⟨Nat.le_of_ble_eq_true rfl, Nat.le_of_ble_eq_true rfl⟩ rfl rfl (Nat.le_of_ble_eq_true rfl) dX1_begin_15 (fun H locs hP hS => ?_)
      refine lv_icmp_ge (tgt := 36) hx hb dX1_begin_18 (by decide) (fun c13 => ?_) (fun c13 => ?_)
      · rw [if_pos c13] at h
        cases h
        exact K11_0 _ _ _ hP hS (lv_sub hl [0, 1, 2, 3] rfl)
      · rw [if_neg c13] at h
        refine lv_iload_n hx hb dX1_begin_21 rfl (lv_at hl 3 rfl) ?_
        refine lv_aload_n hx hb dX1_begin_22 rfl (lv_at hl 1 rfl) ?_
        refine lv_iload hx hb dX1_begin_23 (lv_at hl 4 rfl) ?_
        obtain ⟨r14, M15, hc16, h⟩ := bnd_inv h
        refine gS_i (As := [.ref (q a1), .int b4]) X hP hS hl.1 (c_X1_worth l D cA q aK aV hq h1 hc16) sf_X1_worth bw_1201 ss_X1_worth ⟨rfl, rfl⟩ ⟨Nat.le_of_ble_eq_true rfl, Nat.le_of_ble_eq_true rfl⟩ rfl rfl (Nat.le_of_ble_eq_true rfl) dX1_begin_25 (fun H locs hP hS => ?_)
        refine lv_iadd hx hb dX1_begin_28 ?_
        obtain ⟨y17, ey17, h⟩ := lt_inv h
        refine topE ey17 ?_
        refine lv_istore_n (lv' := [(3, .int y17), (0, .ref (q 24)), (1, .ref (q a1)), (2, .int a2), (4, .int b4)]) hx hb dX1_begin_29 rfl hl (by decide) rfl (fun ls hl => ?_)
        obtain ⟨y18, ey18, h⟩ := lt_inv h
        refine lv_iinc (v := y18) (lv' := [(4, .int y18), (3, .int y17), (0, .ref (q 24)), (1, .ref (q a1)), (2, .int a2)]) hx hb dX1_begin_30 hl (k := 4) rfl (by rw [ey18]; rfl) (by decide) rfl (fun ls hl => ?_)
        refine lv_goto (tgt := 11) hx hb dX1_begin_33 (by decide) ?_
        exact ih _ _ _ res _ _ _ h hP hS (lv_sub hl [2, 3, 4, 1, 0] rfl) K11_0
  refine lv_aload_n hx hb dX1_begin_0 rfl (lv_at hl 0 rfl) ?_
  refine lv_bipush (v := 36) hx hb dX1_begin_1 (by decide) ?_
  obtain ⟨M1, eM1, h⟩ := lt_inv h
  refine pfC_1_0 X hP hS sC_24 bw_391 eM1 dX1_begin_3 (fun H locs hP hS => ?_)
  refine lv_iconst (v := 0) hx hb dX1_begin_6 (by decide) ?_
  refine lv_istore_n (lv' := [(3, .int (0 : Int32)), (0, .ref (q 24)), (1, .ref (q a1)), (2, .int a2)]) hx hb dX1_begin_7 rfl hl (by decide) rfl (fun ls hl => ?_)
  refine lv_iconst (v := 0) hx hb dX1_begin_8 (by decide) ?_
  refine lv_istore (lv' := [(4, .int (0 : Int32)), (3, .int (0 : Int32)), (0, .ref (q 24)), (1, .ref (q a1)), (2, .int a2)]) hx hb dX1_begin_9 hl (by decide) rfl (fun ls hl => ?_)
  obtain ⟨s2, M3, hc4, h⟩ := bnd_inv h
  obtain ⟨x5, rfl⟩ : ∃ z, z = s2 := ⟨_, rfl⟩
  try dsimp only at h
  refine hL11  fz _ _ _ _ _ _ _ hc4 hP hS (lv_sub hl [2, 3, 4, 1, 0] rfl) (fun H locs ls hP hS hl => ?_)
  have hl : lv_has ls 5 [(0, .ref (q 24)), (1, .ref (q a1)), (2, .int a2), (3, .int x5)] := hl
  refine lv_aload_n hx hb dX1_begin_36 rfl (lv_at hl 0 rfl) ?_
  refine lv_iload_n hx hb dX1_begin_37 rfl (lv_at hl 3 rfl) ?_
  obtain ⟨M6, eM6, h⟩ := lt_inv h
  refine pfC_1_1 X hP hS sC_24 bw_393 eM6 dX1_begin_38 (fun H locs hP hS => ?_)
  refine lv_aload_n hx hb dX1_begin_41 rfl (lv_at hl 0 rfl) ?_
  refine lv_aload_n hx hb dX1_begin_42 rfl (lv_at hl 1 rfl) ?_
  refine lv_iconst (v := 0) hx hb dX1_begin_43 (by decide) ?_
  refine lv_iload_n hx hb dX1_begin_44 rfl (lv_at hl 2 rfl) ?_
  refine lv_bipush (v := -7) hx hb dX1_begin_45 (by decide) ?_
  refine lv_bipush (v := 7) hx hb dX1_begin_47 (by decide) ?_
  obtain ⟨r7, M8, hc9, h⟩ := bnd_inv h
  refine gS_i (As := [.ref (q 24), .ref (q a1), .int (0 : Int32), .int a2, .int (-7 : Int32), .int (7 : Int32)]) X hP hS hl.1 (c_X1_play 5 l D cA q aK aV hq _ _ _ _ _ _ _ _  h1 hc9) sf_X1_play bw_1206 ss_X1_play ⟨rfl, rfl⟩ ⟨Nat.le_of_ble_eq_true rfl, Nat.le_of_ble_eq_true rfl⟩ rfl rfl (Nat.le_of_ble_eq_true rfl) dX1_begin_49 (fun H locs hP hS => ?_)
  exact end_i X hr hk hP hS h dX1_begin_52
theorem dX11_game_0 : decode cX11_game 0 = .ok (.iload_n 1, 1) := by decide +kernel
theorem dX11_game_1 : decode cX11_game 1 = .ok (.iconst 4, 1) := by decide +kernel
theorem dX11_game_2 : decode cX11_game 2 = .ok (.invokestatic 104, 3) := by decide +kernel
theorem dX11_game_5 : decode cX11_game 5 = .ok (.ifCond .ne 9, 3) := by decide +kernel
theorem dX11_game_8 : decode cX11_game 8 = .ok (.aload_n 0, 1) := by decide +kernel
theorem dX11_game_9 : decode cX11_game 9 = .ok (.iconst 1, 1) := by decide +kernel
theorem dX11_game_10 : decode cX11_game 10 = .ok (.invokevirtual 132, 3) := by decide +kernel
theorem dX11_game_13 : decode cX11_game 13 = .ok (.ireturn, 1) := by decide +kernel
theorem dX11_game_14 : decode cX11_game 14 = .ok (.aload_n 0, 1) := by decide +kernel
theorem dX11_game_15 : decode cX11_game 15 = .ok (.getfield 16, 3) := by decide +kernel
theorem dX11_game_18 : decode cX11_game 18 = .ok (.aload_n 0, 1) := by decide +kernel
theorem dX11_game_19 : decode cX11_game 19 = .ok (.getfield 10, 3) := by decide +kernel
theorem dX11_game_22 : decode cX11_game 22 = .ok (.invokevirtual 324, 3) := by decide +kernel
theorem dX11_game_25 : decode cX11_game 25 = .ok (.aload_n 0, 1) := by decide +kernel
theorem dX11_game_26 : decode cX11_game 26 = .ok (.aload_n 0, 1) := by decide +kernel
theorem dX11_game_27 : decode cX11_game 27 = .ok (.getfield 71, 3) := by decide +kernel
theorem dX11_game_30 : decode cX11_game 30 = .ok (.aload_n 0, 1) := by decide +kernel
theorem dX11_game_31 : decode cX11_game 31 = .ok (.getfield 16, 3) := by decide +kernel
theorem dX11_game_34 : decode cX11_game 34 = .ok (.iload_n 1, 1) := by decide +kernel
theorem dX11_game_35 : decode cX11_game 35 = .ok (.invokevirtual 390, 3) := by decide +kernel
theorem dX11_game_38 : decode cX11_game 38 = .ok (.invokevirtual 191, 3) := by decide +kernel
theorem dX11_game_41 : decode cX11_game 41 = .ok (.ireturn, 1) := by decide +kernel
set_option maxRecDepth 100000 in
set_option maxHeartbeats 8000000 in
theorem c_X11_game (l : Launch) (D : va_G) (cA : Nat → ClassId) (q aK aV : Nat → Nat) (hq : injG 167 q) {a1 : Int32} {M M0 : Mem} {r0 : Int32} (h : f_X11_game a1 M = some (r0, M0)) : Met l yX11_game (.code yX11_game cX11_game 2 (some .int) :: BW) ({ frames := 13, cells := 0, slots := 0, locals := 349 } : Room) (va_Pc [.ref (q 0), .int a1] (CB 167 (ceC cA q) D cA q aK aV M)) (Qi 167 (ceC cA q) D q r0 M0) 0 0 (AqG 167 q) := by
  refine gMet RX11 (by decide +kernel) rfl hq (Nat.le_of_ble_eq_true rfl) ?_
  intro p e s m below meth c ls X hr hk hP hS hl
  have hx := X.1
  have hb := X.2.1
  have hl : lv_has ls 2 [(0, .ref (q 0)), (1, .int a1)] := hl
  rw [f_X11_game] at h
  refine lv_iload_n hx hb dX11_game_0 rfl (lv_at hl 1 rfl) ?_
  refine lv_iconst (v := 4) hx hb dX11_game_1 (by decide) ?_
  obtain ⟨r1, M2, hc3, h⟩ := bnd_inv h
  refine gS_i (As := [.int a1, .int (4 : Int32)]) X hP hS hl.1 (c_X11_within l D cA q aK aV hq hc3) sf_X11_within bw_504 ss_X11_within ⟨rfl, rfl⟩ ⟨Nat.le_of_ble_eq_true rfl, Nat.le_of_ble_eq_true rfl⟩ rfl rfl (Nat.le_of_ble_eq_true rfl) dX11_game_2 (fun H locs hP hS => ?_)
  refine lv_if_ne (tgt := 14) hx hb dX11_game_5 (by decide) (fun c4 => ?_) (fun c4 => ?_)
  · rw [if_neg c4] at h
    refine lv_aload_n hx hb dX11_game_14 rfl (lv_at hl 0 rfl) ?_
    refine gfC_11_1 X hP sC_0 bw_431 dX11_game_15 ?_
    obtain ⟨g5, h⟩ := gd_inv h
    have g5 := Decidable.not_not.mp g5
    refine lv_aload_n hx hb dX11_game_18 rfl (lv_at hl 0 rfl) ?_
    refine gfC_11_0 X hP sC_0 bw_430 dX11_game_19 ?_
    obtain ⟨g6, h⟩ := gd_inv h
    have g6 := Decidable.not_not.mp g6
    obtain ⟨_, M8, hc9, h⟩ := bnd_inv h
    refine gV_v (As := [.ref (q (gR M2 0 0))]) X hP hS hl.1 (c_X0_copyFrom l D cA q aK aV hq g5 g6 hc9) sf_X0_copyFrom bw_994 sv_X0_copyFrom (rcC_0 g5) rfl ⟨rfl, rfl⟩ ⟨Nat.le_of_ble_eq_true rfl, Nat.le_of_ble_eq_true rfl⟩ rfl rfl (Nat.le_of_ble_eq_true rfl) dX11_game_22 (fun H locs hP hS => ?_)
    refine lv_aload_n hx hb dX11_game_25 rfl (lv_at hl 0 rfl) ?_
    refine lv_aload_n hx hb dX11_game_26 rfl (lv_at hl 0 rfl) ?_
    refine gfC_11_10 X hP sC_0 bw_440 dX11_game_27 ?_
    refine lv_aload_n hx hb dX11_game_30 rfl (lv_at hl 0 rfl) ?_
    refine gfC_11_1 X hP sC_0 bw_431 dX11_game_31 ?_
    obtain ⟨g10, h⟩ := gd_inv h
    have g10 := Decidable.not_not.mp g10
    refine lv_iload_n hx hb dX11_game_34 rfl (lv_at hl 1 rfl) ?_
    obtain ⟨r11, M12, hc13, h⟩ := bnd_inv h
    refine gV_i (As := [.ref (q (gR M8 0 1)), .int a1]) X hP hS hl.1 (c_X1_begin l D cA q aK aV hq g10 hc13) sf_X1_begin bw_1196 sv_X1_begin (rcC_1 sC_24) rfl ⟨rfl, rfl⟩ ⟨Nat.le_of_ble_eq_true rfl, Nat.le_of_ble_eq_true rfl⟩ rfl rfl (Nat.le_of_ble_eq_true rfl) dX11_game_35 (fun H locs hP hS => ?_)
    obtain ⟨r14, M15, hc16, h⟩ := bnd_inv h
    refine gV_i (As := [.int r11]) X hP hS hl.1 (c_X11_given l D cA q aK aV hq hc16) sf_X11_given bw_755 sv_X11_given (rcC_11 sC_0) rfl ⟨rfl, rfl⟩ ⟨Nat.le_of_ble_eq_true rfl, Nat.le_of_ble_eq_true rfl⟩ rfl rfl (Nat.le_of_ble_eq_true rfl) dX11_game_38 (fun H locs hP hS => ?_)
    exact end_i X hr hk hP hS h dX11_game_41
  · rw [if_pos c4] at h
    refine lv_aload_n hx hb dX11_game_8 rfl (lv_at hl 0 rfl) ?_
    refine lv_iconst (v := 1) hx hb dX11_game_9 (by decide) ?_
    obtain ⟨r17, M18, hc19, h⟩ := bnd_inv h
    refine gV_i (As := [.int (1 : Int32)]) X hP hS hl.1 (c_X11_refused l D cA q aK aV hq hc19) sf_X11_refused bw_552 sv_X11_refused (rcC_11 sC_0) rfl ⟨rfl, rfl⟩ ⟨Nat.le_of_ble_eq_true rfl, Nat.le_of_ble_eq_true rfl⟩ rfl rfl (Nat.le_of_ble_eq_true rfl) dX11_game_10 (fun H locs hP hS => ?_)
    exact end_i X hr hk hP hS h dX11_game_13
theorem dX11_moveOf_0 : decode cX11_moveOf 0 = .ok (.iload_n 1, 1) := by decide +kernel
theorem dX11_moveOf_1 : decode cX11_moveOf 1 = .ok (.iconst 1, 1) := by decide +kernel
theorem dX11_moveOf_2 : decode cX11_moveOf 2 = .ok (.if_icmp .lt 16, 3) := by decide +kernel
theorem dX11_moveOf_5 : decode cX11_moveOf 5 = .ok (.iload_n 1, 1) := by decide +kernel
theorem dX11_moveOf_6 : decode cX11_moveOf 6 = .ok (.iconst 3, 1) := by decide +kernel
theorem dX11_moveOf_7 : decode cX11_moveOf 7 = .ok (.if_icmp .gt 11, 3) := by decide +kernel
theorem dX11_moveOf_10 : decode cX11_moveOf 10 = .ok (.iload_n 2, 1) := by decide +kernel
theorem dX11_moveOf_11 : decode cX11_moveOf 11 = .ok (.iconst 2, 1) := by decide +kernel
theorem dX11_moveOf_12 : decode cX11_moveOf 12 = .ok (.invokestatic 104, 3) := by decide +kernel
theorem dX11_moveOf_15 : decode cX11_moveOf 15 = .ok (.ifCond .ne 9, 3) := by decide +kernel
theorem dX11_moveOf_18 : decode cX11_moveOf 18 = .ok (.aload_n 0, 1) := by decide +kernel
theorem dX11_moveOf_19 : decode cX11_moveOf 19 = .ok (.iconst 1, 1) := by decide +kernel
theorem dX11_moveOf_20 : decode cX11_moveOf 20 = .ok (.invokevirtual 132, 3) := by decide +kernel
theorem dX11_moveOf_23 : decode cX11_moveOf 23 = .ok (.ireturn, 1) := by decide +kernel
theorem dX11_moveOf_24 : decode cX11_moveOf 24 = .ok (.aload_n 0, 1) := by decide +kernel
theorem dX11_moveOf_25 : decode cX11_moveOf 25 = .ok (.getfield 16, 3) := by decide +kernel
theorem dX11_moveOf_28 : decode cX11_moveOf 28 = .ok (.aload_n 0, 1) := by decide +kernel
theorem dX11_moveOf_29 : decode cX11_moveOf 29 = .ok (.getfield 10, 3) := by decide +kernel
theorem dX11_moveOf_32 : decode cX11_moveOf 32 = .ok (.invokevirtual 324, 3) := by decide +kernel
theorem dX11_moveOf_35 : decode cX11_moveOf 35 = .ok (.aload_n 0, 1) := by decide +kernel
theorem dX11_moveOf_36 : decode cX11_moveOf 36 = .ok (.getfield 71, 3) := by decide +kernel
theorem dX11_moveOf_39 : decode cX11_moveOf 39 = .ok (.aload_n 0, 1) := by decide +kernel
theorem dX11_moveOf_40 : decode cX11_moveOf 40 = .ok (.getfield 16, 3) := by decide +kernel
theorem dX11_moveOf_43 : decode cX11_moveOf 43 = .ok (.iload_n 1, 1) := by decide +kernel
theorem dX11_moveOf_44 : decode cX11_moveOf 44 = .ok (.invokevirtual 390, 3) := by decide +kernel
theorem dX11_moveOf_47 : decode cX11_moveOf 47 = .ok (.pop, 1) := by decide +kernel
theorem dX11_moveOf_48 : decode cX11_moveOf 48 = .ok (.aload_n 0, 1) := by decide +kernel
theorem dX11_moveOf_49 : decode cX11_moveOf 49 = .ok (.getfield 71, 3) := by decide +kernel
theorem dX11_moveOf_52 : decode cX11_moveOf 52 = .ok (.getfield 394, 3) := by decide +kernel
theorem dX11_moveOf_55 : decode cX11_moveOf 55 = .ok (.bipush 36, 2) := by decide +kernel
theorem dX11_moveOf_57 : decode cX11_moveOf 57 = .ok (.if_icmp .lt 10, 3) := by decide +kernel
theorem dX11_moveOf_60 : decode cX11_moveOf 60 = .ok (.aload_n 0, 1) := by decide +kernel
theorem dX11_moveOf_61 : decode cX11_moveOf 61 = .ok (.bipush 6, 2) := by decide +kernel
theorem dX11_moveOf_63 : decode cX11_moveOf 63 = .ok (.invokevirtual 132, 3) := by decide +kernel
theorem dX11_moveOf_66 : decode cX11_moveOf 66 = .ok (.ireturn, 1) := by decide +kernel
theorem dX11_moveOf_67 : decode cX11_moveOf 67 = .ok (.aload_n 0, 1) := by decide +kernel
theorem dX11_moveOf_68 : decode cX11_moveOf 68 = .ok (.iload_n 2, 1) := by decide +kernel
theorem dX11_moveOf_69 : decode cX11_moveOf 69 = .ok (.ifCond .ne 16, 3) := by decide +kernel
theorem dX11_moveOf_72 : decode cX11_moveOf 72 = .ok (.aload_n 0, 1) := by decide +kernel
theorem dX11_moveOf_73 : decode cX11_moveOf 73 = .ok (.getfield 71, 3) := by decide +kernel
theorem dX11_moveOf_76 : decode cX11_moveOf 76 = .ok (.getfield 394, 3) := by decide +kernel
theorem dX11_moveOf_79 : decode cX11_moveOf 79 = .ok (.bipush 6, 2) := by decide +kernel
theorem dX11_moveOf_81 : decode cX11_moveOf 81 = .ok (.idiv, 1) := by decide +kernel
theorem dX11_moveOf_82 : decode cX11_moveOf 82 = .ok (.goto 13, 3) := by decide +kernel
theorem dX11_moveOf_85 : decode cX11_moveOf 85 = .ok (.aload_n 0, 1) := by decide +kernel
theorem dX11_moveOf_86 : decode cX11_moveOf 86 = .ok (.getfield 71, 3) := by decide +kernel
theorem dX11_moveOf_89 : decode cX11_moveOf 89 = .ok (.getfield 394, 3) := by decide +kernel
theorem dX11_moveOf_92 : decode cX11_moveOf 92 = .ok (.bipush 6, 2) := by decide +kernel
theorem dX11_moveOf_94 : decode cX11_moveOf 94 = .ok (.irem, 1) := by decide +kernel
theorem dX11_moveOf_95 : decode cX11_moveOf 95 = .ok (.invokevirtual 191, 3) := by decide +kernel
theorem dX11_moveOf_98 : decode cX11_moveOf 98 = .ok (.ireturn, 1) := by decide +kernel
set_option maxRecDepth 100000 in
set_option maxHeartbeats 8000000 in
theorem c_X11_moveOf (l : Launch) (D : va_G) (cA : Nat → ClassId) (q aK aV : Nat → Nat) (hq : injG 167 q) {a1 : Int32} {a2 : Int32} {M M0 : Mem} {r0 : Int32} (h : f_X11_moveOf a1 a2 M = some (r0, M0)) : Met l yX11_moveOf (.code yX11_moveOf cX11_moveOf 3 (some .int) :: BW) ({ frames := 13, cells := 0, slots := 0, locals := 349 } : Room) (va_Pc [.ref (q 0), .int a1, .int a2] (CB 167 (ceC cA q) D cA q aK aV M)) (Qi 167 (ceC cA q) D q r0 M0) 0 0 (AqG 167 q) := by
  refine gMet RX11 (by decide +kernel) rfl hq (Nat.le_of_ble_eq_true rfl) ?_
  intro p e s m below meth c ls X hr hk hP hS hl
  have hx := X.1
  have hb := X.2.1
  have hl : lv_has ls 3 [(0, .ref (q 0)), (1, .int a1), (2, .int a2)] := hl
  rw [f_X11_moveOf] at h
  refine lv_iload_n hx hb dX11_moveOf_0 rfl (lv_at hl 1 rfl) ?_
  refine lv_iconst (v := 1) hx hb dX11_moveOf_1 (by decide) ?_
  refine lv_icmp_lt (tgt := 18) hx hb dX11_moveOf_2 (by decide) (fun c1 => ?_) (fun c1 => ?_)
  · rw [if_pos c1] at h
    refine lv_aload_n hx hb dX11_moveOf_18 rfl (lv_at hl 0 rfl) ?_
    refine lv_iconst (v := 1) hx hb dX11_moveOf_19 (by decide) ?_
    obtain ⟨r2, M3, hc4, h⟩ := bnd_inv h
    refine gV_i (As := [.int (1 : Int32)]) X hP hS hl.1 (c_X11_refused l D cA q aK aV hq hc4) sf_X11_refused bw_552 sv_X11_refused (rcC_11 sC_0) rfl ⟨rfl, rfl⟩ ⟨Nat.le_of_ble_eq_true rfl, Nat.le_of_ble_eq_true rfl⟩ rfl rfl (Nat.le_of_ble_eq_true rfl) dX11_moveOf_20 (fun H locs hP hS => ?_)
    exact end_i X hr hk hP hS h dX11_moveOf_23
  · rw [if_neg c1] at h
    refine lv_iload_n hx hb dX11_moveOf_5 rfl (lv_at hl 1 rfl) ?_
    refine lv_iconst (v := 3) hx hb dX11_moveOf_6 (by decide) ?_
    refine lv_icmp_gt (tgt := 18) hx hb dX11_moveOf_7 (by decide) (fun c5 => ?_) (fun c5 => ?_)
    · rw [if_pos c5] at h
      refine lv_aload_n hx hb dX11_moveOf_18 rfl (lv_at hl 0 rfl) ?_
      refine lv_iconst (v := 1) hx hb dX11_moveOf_19 (by decide) ?_
      obtain ⟨r6, M7, hc8, h⟩ := bnd_inv h
      refine gV_i (As := [.int (1 : Int32)]) X hP hS hl.1 (c_X11_refused l D cA q aK aV hq hc8) sf_X11_refused bw_552 sv_X11_refused (rcC_11 sC_0) rfl ⟨rfl, rfl⟩ ⟨Nat.le_of_ble_eq_true rfl, Nat.le_of_ble_eq_true rfl⟩ rfl rfl (Nat.le_of_ble_eq_true rfl) dX11_moveOf_20 (fun H locs hP hS => ?_)
      exact end_i X hr hk hP hS h dX11_moveOf_23
    · rw [if_neg c5] at h
      refine lv_iload_n hx hb dX11_moveOf_10 rfl (lv_at hl 2 rfl) ?_
      refine lv_iconst (v := 2) hx hb dX11_moveOf_11 (by decide) ?_
      obtain ⟨r9, M10, hc11, h⟩ := bnd_inv h
      refine gS_i (As := [.int a2, .int (2 : Int32)]) X hP hS hl.1 (c_X11_within l D cA q aK aV hq hc11) sf_X11_within bw_504 ss_X11_within ⟨rfl, rfl⟩ ⟨Nat.le_of_ble_eq_true rfl, Nat.le_of_ble_eq_true rfl⟩ rfl rfl (Nat.le_of_ble_eq_true rfl) dX11_moveOf_12 (fun H locs hP hS => ?_)
      refine lv_if_ne (tgt := 24) hx hb dX11_moveOf_15 (by decide) (fun c12 => ?_) (fun c12 => ?_)
      · rw [if_neg c12] at h
        refine lv_aload_n hx hb dX11_moveOf_24 rfl (lv_at hl 0 rfl) ?_
        refine gfC_11_1 X hP sC_0 bw_431 dX11_moveOf_25 ?_
        obtain ⟨g13, h⟩ := gd_inv h
        have g13 := Decidable.not_not.mp g13
        refine lv_aload_n hx hb dX11_moveOf_28 rfl (lv_at hl 0 rfl) ?_
        refine gfC_11_0 X hP sC_0 bw_430 dX11_moveOf_29 ?_
        obtain ⟨g14, h⟩ := gd_inv h
        have g14 := Decidable.not_not.mp g14
        obtain ⟨_, M16, hc17, h⟩ := bnd_inv h
        refine gV_v (As := [.ref (q (gR M10 0 0))]) X hP hS hl.1 (c_X0_copyFrom l D cA q aK aV hq g13 g14 hc17) sf_X0_copyFrom bw_994 sv_X0_copyFrom (rcC_0 g13) rfl ⟨rfl, rfl⟩ ⟨Nat.le_of_ble_eq_true rfl, Nat.le_of_ble_eq_true rfl⟩ rfl rfl (Nat.le_of_ble_eq_true rfl) dX11_moveOf_32 (fun H locs hP hS => ?_)
        refine lv_aload_n hx hb dX11_moveOf_35 rfl (lv_at hl 0 rfl) ?_
        refine gfC_11_10 X hP sC_0 bw_440 dX11_moveOf_36 ?_
        refine lv_aload_n hx hb dX11_moveOf_39 rfl (lv_at hl 0 rfl) ?_
        refine gfC_11_1 X hP sC_0 bw_431 dX11_moveOf_40 ?_
        obtain ⟨g18, h⟩ := gd_inv h
        have g18 := Decidable.not_not.mp g18
        refine lv_iload_n hx hb dX11_moveOf_43 rfl (lv_at hl 1 rfl) ?_
        obtain ⟨r19, M20, hc21, h⟩ := bnd_inv h
        refine gV_i (As := [.ref (q (gR M16 0 1)), .int a1]) X hP hS hl.1 (c_X1_begin l D cA q aK aV hq g18 hc21) sf_X1_begin bw_1196 sv_X1_begin (rcC_1 sC_24) rfl ⟨rfl, rfl⟩ ⟨Nat.le_of_ble_eq_true rfl, Nat.le_of_ble_eq_true rfl⟩ rfl rfl (Nat.le_of_ble_eq_true rfl) dX11_moveOf_44 (fun H locs hP hS => ?_)
        refine lv_pop hx hb dX11_moveOf_47 rfl ?_
        refine lv_aload_n hx hb dX11_moveOf_48 rfl (lv_at hl 0 rfl) ?_
        refine gfC_11_10 X hP sC_0 bw_440 dX11_moveOf_49 ?_
        refine gfC_1_0 X hP sC_24 bw_392 dX11_moveOf_52 ?_
        refine lv_bipush (v := 36) hx hb dX11_moveOf_55 (by decide) ?_
        refine lv_icmp_lt (tgt := 67) hx hb dX11_moveOf_57 (by decide) (fun c22 => ?_) (fun c22 => ?_)
        · rw [if_pos c22] at h
          refine lv_aload_n hx hb dX11_moveOf_67 rfl (lv_at hl 0 rfl) ?_
          refine lv_iload_n hx hb dX11_moveOf_68 rfl (lv_at hl 2 rfl) ?_
          refine lv_if_ne (tgt := 85) hx hb dX11_moveOf_69 (by decide) (fun c23 => ?_) (fun c23 => ?_)
          · rw [if_neg c23] at h
            refine lv_aload_n hx hb dX11_moveOf_85 rfl (lv_at hl 0 rfl) ?_
            refine gfC_11_10 X hP sC_0 bw_440 dX11_moveOf_86 ?_
            refine gfC_1_0 X hP sC_24 bw_392 dX11_moveOf_89 ?_
            refine lv_bipush (v := 6) hx hb dX11_moveOf_92 (by decide) ?_
            refine lv_irem hx hb dX11_moveOf_94 (by decide) ?_
            obtain ⟨r24, M25, hc26, h⟩ := bnd_inv h
            refine gV_i (As := [.int ((gI M20 24 0) - (gI M20 24 0) / (6 : Int32) * (6 : Int32))]) X hP hS hl.1 (c_X11_given l D cA q aK aV hq hc26) sf_X11_given bw_755 sv_X11_given (rcC_11 sC_0) rfl ⟨rfl, rfl⟩ ⟨Nat.le_of_ble_eq_true rfl, Nat.le_of_ble_eq_true rfl⟩ rfl rfl (Nat.le_of_ble_eq_true rfl) dX11_moveOf_95 (fun H locs hP hS => ?_)
            exact end_i X hr hk hP hS h dX11_moveOf_98
          · rw [if_pos c23] at h
            refine lv_aload_n hx hb dX11_moveOf_72 rfl (lv_at hl 0 rfl) ?_
            refine gfC_11_10 X hP sC_0 bw_440 dX11_moveOf_73 ?_
            refine gfC_1_0 X hP sC_24 bw_392 dX11_moveOf_76 ?_
            refine lv_bipush (v := 6) hx hb dX11_moveOf_79 (by decide) ?_
            refine lv_idiv hx hb dX11_moveOf_81 (by decide) ?_
            refine lv_goto (tgt := 95) hx hb dX11_moveOf_82 (by decide) ?_
            obtain ⟨r27, M28, hc29, h⟩ := bnd_inv h
            refine gV_i (As := [.int ((gI M20 24 0) / (6 : Int32))]) X hP hS hl.1 (c_X11_given l D cA q aK aV hq hc29) sf_X11_given bw_755 sv_X11_given (rcC_11 sC_0) rfl ⟨rfl, rfl⟩ ⟨Nat.le_of_ble_eq_true rfl, Nat.le_of_ble_eq_true rfl⟩ rfl rfl (Nat.le_of_ble_eq_true rfl) dX11_moveOf_95 (fun H locs hP hS => ?_)
            exact end_i X hr hk hP hS h dX11_moveOf_98
        · rw [if_neg c22] at h
          refine lv_aload_n hx hb dX11_moveOf_60 rfl (lv_at hl 0 rfl) ?_
          refine lv_bipush (v := 6) hx hb dX11_moveOf_61 (by decide) ?_
          obtain ⟨r30, M31, hc32, h⟩ := bnd_inv h
          refine gV_i (As := [.int (6 : Int32)]) X hP hS hl.1 (c_X11_refused l D cA q aK aV hq hc32) sf_X11_refused bw_552 sv_X11_refused (rcC_11 sC_0) rfl ⟨rfl, rfl⟩ ⟨Nat.le_of_ble_eq_true rfl, Nat.le_of_ble_eq_true rfl⟩ rfl rfl (Nat.le_of_ble_eq_true rfl) dX11_moveOf_63 (fun H locs hP hS => ?_)
          exact end_i X hr hk hP hS h dX11_moveOf_66
      · rw [if_pos c12] at h
        refine lv_aload_n hx hb dX11_moveOf_18 rfl (lv_at hl 0 rfl) ?_
        refine lv_iconst (v := 1) hx hb dX11_moveOf_19 (by decide) ?_
        obtain ⟨r33, M34, hc35, h⟩ := bnd_inv h
        refine gV_i (As := [.int (1 : Int32)]) X hP hS hl.1 (c_X11_refused l D cA q aK aV hq hc35) sf_X11_refused bw_552 sv_X11_refused (rcC_11 sC_0) rfl ⟨rfl, rfl⟩ ⟨Nat.le_of_ble_eq_true rfl, Nat.le_of_ble_eq_true rfl⟩ rfl rfl (Nat.le_of_ble_eq_true rfl) dX11_moveOf_20 (fun H locs hP hS => ?_)
        exact end_i X hr hk hP hS h dX11_moveOf_23
theorem dX11_copyFed_0 : decode cX11_copyFed 0 = .ok (.iload_n 1, 1) := by decide +kernel
theorem dX11_copyFed_1 : decode cX11_copyFed 1 = .ok (.iconst 4, 1) := by decide +kernel
theorem dX11_copyFed_2 : decode cX11_copyFed 2 = .ok (.invokestatic 104, 3) := by decide +kernel
theorem dX11_copyFed_5 : decode cX11_copyFed 5 = .ok (.ifCond .ne 9, 3) := by decide +kernel
theorem dX11_copyFed_8 : decode cX11_copyFed 8 = .ok (.aload_n 0, 1) := by decide +kernel
theorem dX11_copyFed_9 : decode cX11_copyFed 9 = .ok (.iconst 1, 1) := by decide +kernel
theorem dX11_copyFed_10 : decode cX11_copyFed 10 = .ok (.invokevirtual 132, 3) := by decide +kernel
theorem dX11_copyFed_13 : decode cX11_copyFed 13 = .ok (.ireturn, 1) := by decide +kernel
theorem dX11_copyFed_14 : decode cX11_copyFed 14 = .ok (.aload_n 0, 1) := by decide +kernel
theorem dX11_copyFed_15 : decode cX11_copyFed 15 = .ok (.iload_n 1, 1) := by decide +kernel
theorem dX11_copyFed_16 : decode cX11_copyFed 16 = .ok (.invokevirtual 112, 3) := by decide +kernel
theorem dX11_copyFed_19 : decode cX11_copyFed 19 = .ok (.astore_n 2, 1) := by decide +kernel
theorem dX11_copyFed_20 : decode cX11_copyFed 20 = .ok (.aload_n 2, 1) := by decide +kernel
theorem dX11_copyFed_21 : decode cX11_copyFed 21 = .ok (.invokevirtual 140, 3) := by decide +kernel
theorem dX11_copyFed_24 : decode cX11_copyFed 24 = .ok (.ifCond .eq 9, 3) := by decide +kernel
theorem dX11_copyFed_27 : decode cX11_copyFed 27 = .ok (.aload_n 0, 1) := by decide +kernel
theorem dX11_copyFed_28 : decode cX11_copyFed 28 = .ok (.iconst 2, 1) := by decide +kernel
theorem dX11_copyFed_29 : decode cX11_copyFed 29 = .ok (.invokevirtual 132, 3) := by decide +kernel
theorem dX11_copyFed_32 : decode cX11_copyFed 32 = .ok (.ireturn, 1) := by decide +kernel
theorem dX11_copyFed_33 : decode cX11_copyFed 33 = .ok (.aload_n 0, 1) := by decide +kernel
theorem dX11_copyFed_34 : decode cX11_copyFed 34 = .ok (.getfield 10, 3) := by decide +kernel
theorem dX11_copyFed_37 : decode cX11_copyFed 37 = .ok (.iconst 3, 1) := by decide +kernel
theorem dX11_copyFed_38 : decode cX11_copyFed 38 = .ok (.invokevirtual 167, 3) := by decide +kernel
theorem dX11_copyFed_41 : decode cX11_copyFed 41 = .ok (.istore_n 3, 1) := by decide +kernel
theorem dX11_copyFed_42 : decode cX11_copyFed 42 = .ok (.aload_n 2, 1) := by decide +kernel
theorem dX11_copyFed_43 : decode cX11_copyFed 43 = .ok (.iconst 0, 1) := by decide +kernel
theorem dX11_copyFed_44 : decode cX11_copyFed 44 = .ok (.iload_n 3, 1) := by decide +kernel
theorem dX11_copyFed_45 : decode cX11_copyFed 45 = .ok (.invokevirtual 146, 3) := by decide +kernel
theorem dX11_copyFed_48 : decode cX11_copyFed 48 = .ok (.ifCond .ne 9, 3) := by decide +kernel
theorem dX11_copyFed_51 : decode cX11_copyFed 51 = .ok (.aload_n 0, 1) := by decide +kernel
theorem dX11_copyFed_52 : decode cX11_copyFed 52 = .ok (.iconst 3, 1) := by decide +kernel
theorem dX11_copyFed_53 : decode cX11_copyFed 53 = .ok (.invokevirtual 132, 3) := by decide +kernel
theorem dX11_copyFed_56 : decode cX11_copyFed 56 = .ok (.ireturn, 1) := by decide +kernel
theorem dX11_copyFed_57 : decode cX11_copyFed 57 = .ok (.iconst 0, 1) := by decide +kernel
theorem dX11_copyFed_58 : decode cX11_copyFed 58 = .ok (.istore 4, 2) := by decide +kernel
theorem dX11_copyFed_60 : decode cX11_copyFed 60 = .ok (.iload 4, 2) := by decide +kernel
theorem dX11_copyFed_62 : decode cX11_copyFed 62 = .ok (.iload_n 3, 1) := by decide +kernel
theorem dX11_copyFed_63 : decode cX11_copyFed 63 = .ok (.if_icmp .ge 28, 3) := by decide +kernel
theorem dX11_copyFed_66 : decode cX11_copyFed 66 = .ok (.aload_n 2, 1) := by decide +kernel
theorem dX11_copyFed_67 : decode cX11_copyFed 67 = .ok (.iload 4, 2) := by decide +kernel
theorem dX11_copyFed_69 : decode cX11_copyFed 69 = .ok (.aload_n 0, 1) := by decide +kernel
theorem dX11_copyFed_70 : decode cX11_copyFed 70 = .ok (.getfield 10, 3) := by decide +kernel
theorem dX11_copyFed_73 : decode cX11_copyFed 73 = .ok (.iload 4, 2) := by decide +kernel
theorem dX11_copyFed_75 : decode cX11_copyFed 75 = .ok (.invokevirtual 228, 3) := by decide +kernel
theorem dX11_copyFed_78 : decode cX11_copyFed 78 = .ok (.getfield 232, 3) := by decide +kernel
theorem dX11_copyFed_81 : decode cX11_copyFed 81 = .ok (.i2l, 1) := by decide +kernel
theorem dX11_copyFed_82 : decode cX11_copyFed 82 = .ok (.invokevirtual 128, 3) := by decide +kernel
theorem dX11_copyFed_85 : decode cX11_copyFed 85 = .ok (.iinc 4 1, 3) := by decide +kernel
theorem dX11_copyFed_88 : decode cX11_copyFed 88 = .ok (.goto (-28), 3) := by decide +kernel
theorem dX11_copyFed_91 : decode cX11_copyFed 91 = .ok (.aload_n 0, 1) := by decide +kernel
theorem dX11_copyFed_92 : decode cX11_copyFed 92 = .ok (.iload_n 3, 1) := by decide +kernel
theorem dX11_copyFed_93 : decode cX11_copyFed 93 = .ok (.invokevirtual 191, 3) := by decide +kernel
theorem dX11_copyFed_96 : decode cX11_copyFed 96 = .ok (.ireturn, 1) := by decide +kernel
set_option maxRecDepth 100000 in
set_option maxHeartbeats 8000000 in
theorem c_X11_copyFed (l : Launch) (D : va_G) (cA : Nat → ClassId) (q aK aV : Nat → Nat) (hq : injG 167 q) {a1 : Int32} {M M0 : Mem} {r0 : Int32} (h : f_X11_copyFed a1 M = some (r0, M0)) : Met l yX11_copyFed (.code yX11_copyFed cX11_copyFed 5 (some .int) :: BW) ({ frames := 3, cells := 0, slots := 0, locals := 59 } : Room) (va_Pc [.ref (q 0), .int a1] (CB 167 (ceC cA q) D cA q aK aV M)) (Qi 167 (ceC cA q) D q r0 M0) 0 0 (AqG 167 q) := by
  refine gMet RX11 (by decide +kernel) rfl hq (Nat.le_of_ble_eq_true rfl) ?_
  intro p e s m below meth c ls X hr hk hP hS hl
  have hx := X.1
  have hb := X.2.1
  have hl : lv_has ls 5 [(0, .ref (q 0)), (1, .int a1)] := hl
  rw [f_X11_copyFed] at h
  have hL60 : ∀ (b2 : Nat) (hb2 : shC b2 = 8) (b3 : Int32) (fu : Nat) (b4 : Int32) (M : Mem) (res : (Unit) × Mem) (H : Heap) (locs : List Loc) (ls : Array Slot), f_X11_copyFed_L60 b2 b3 fu b4 M = some res → va_P D vwCl (wsG 167 (ceC cA q) q M) H → va_S (AqG 167 q) s.heap H locs → lv_has ls 5 [(0, .ref (q 0)), (2, .ref (q b2)), (3, .int b3), (4, .int b4)] → (∀ (H : Heap) (locs : List Loc) (ls : Array Slot), va_P D vwCl (wsG 167 (ceC cA q) q res.2) H → va_S (AqG 167 q) s.heap H locs → lv_has ls 5 [(0, .ref (q 0)), (3, .int b3)] → W p l e ({ frames := 3, cells := 0, slots := 0, locals := 59 } : Room) s m [.ref (q 0), .int a1].toArray below meth c H locs 0 0 (MQ below (Qi 167 (ceC cA q) D q r0 M0) [.ref (q 0), .int a1].toArray s 0 0 (AqG 167 q)) (F0 m 91 ls [])) → W p l e ({ frames := 3, cells := 0, slots := 0, locals := 59 } : Room) s m [.ref (q 0), .int a1].toArray below meth c H locs 0 0 (MQ below (Qi 167 (ceC cA q) D q r0 M0) [.ref (q 0), .int a1].toArray s 0 0 (AqG 167 q)) (F0 m 60 ls []) := by
    intro b2 hb2 b3 fu
    induction fu with
    | zero => intro b4 M res H locs ls h; exact absurd h (by simp [f_X11_copyFed_L60])
    | succ fu ih =>
      intro b4 M res H locs ls h hP hS hl K60_0
      rw [f_X11_copyFed_L60] at h
      refine lv_iload hx hb dX11_copyFed_60 (lv_at hl 3 rfl) ?_
      refine lv_iload_n hx hb dX11_copyFed_62 rfl (lv_at hl 2 rfl) ?_
      refine lv_icmp_ge (tgt := 91) hx hb dX11_copyFed_63 (by decide) (fun c36 => ?_) (fun c36 => ?_)
      · rw [if_pos c36] at h
        cases h
        exact K60_0 _ _ _ hP hS (lv_sub hl [0, 2] rfl)
      · rw [if_neg c36] at h
        refine lv_aload_n hx hb dX11_copyFed_66 rfl (lv_at hl 1 rfl) ?_
        refine lv_iload hx hb dX11_copyFed_67 (lv_at hl 3 rfl) ?_
        refine lv_aload_n hx hb dX11_copyFed_69 rfl (lv_at hl 0 rfl) ?_
        refine gfC_11_0 X hP sC_0 bw_430 dX11_copyFed_70 ?_
        obtain ⟨g37, h⟩ := gd_inv h
        have g37 := Decidable.not_not.mp g37
        refine lv_iload hx hb dX11_copyFed_73 (lv_at hl 3 rfl) ?_
        obtain ⟨r38, M39, hc40, h⟩ := bnd_inv h
        refine gV_r (As := [.int b4]) X hP hS hl.1 (c_X0_personAt l D cA q aK aV hq g37 hc40) sf_X0_personAt bw_852 sv_X0_personAt (rcC_0 g37) rfl ⟨rfl, rfl⟩ ⟨Nat.le_of_ble_eq_true rfl, Nat.le_of_ble_eq_true rfl⟩ rfl rfl (Nat.le_of_ble_eq_true rfl) dX11_copyFed_75 (fun H locs hP hS => ?_)
        obtain ⟨g41, h⟩ := gd_inv h
        have g41 := Decidable.not_not.mp g41
        refine gfC_5_1 X hP g41 bw_119 dX11_copyFed_78 ?_
        refine lv_i2l hx hb dX11_copyFed_81 rfl ?_
        obtain ⟨_, M43, hc44, h⟩ := bnd_inv h
        refine gV_v (As := [.int b4, .long (((gI M39 r38 1)).toInt64)]) X hP hS hl.1 (c_X8_putNumber l D cA q aK aV hq hb2 hc44) sf_X8_putNumber bw_540 sv_X8_putNumber (rcC_8 hb2) rfl ⟨rfl, rfl⟩ ⟨Nat.le_of_ble_eq_true rfl, Nat.le_of_ble_eq_true rfl⟩ rfl rfl (Nat.le_of_ble_eq_true rfl) dX11_copyFed_82 (fun H locs hP hS => ?_)
        obtain ⟨y45, ey45, h⟩ := lt_inv h
        refine lv_iinc (v := y45) (lv' := [(4, .int y45), (0, .ref (q 0)), (2, .ref (q b2)), (3, .int b3)]) hx hb dX11_copyFed_85 hl (k := 3) rfl (by rw [ey45]; rfl) (by decide) rfl (fun ls hl => ?_)
        refine lv_goto (tgt := 60) hx hb dX11_copyFed_88 (by decide) ?_
        exact ih _ _ res _ _ _ h hP hS (lv_sub hl [1, 2, 3, 0] rfl) K60_0
  refine lv_iload_n hx hb dX11_copyFed_0 rfl (lv_at hl 1 rfl) ?_
  refine lv_iconst (v := 4) hx hb dX11_copyFed_1 (by decide) ?_
  obtain ⟨r1, M2, hc3, h⟩ := bnd_inv h
  refine gS_i (As := [.int a1, .int (4 : Int32)]) X hP hS hl.1 (c_X11_within l D cA q aK aV hq hc3) sf_X11_within bw_504 ss_X11_within ⟨rfl, rfl⟩ ⟨Nat.le_of_ble_eq_true rfl, Nat.le_of_ble_eq_true rfl⟩ rfl rfl (Nat.le_of_ble_eq_true rfl) dX11_copyFed_2 (fun H locs hP hS => ?_)
  refine lv_if_ne (tgt := 14) hx hb dX11_copyFed_5 (by decide) (fun c4 => ?_) (fun c4 => ?_)
  · rw [if_neg c4] at h
    refine lv_aload_n hx hb dX11_copyFed_14 rfl (lv_at hl 0 rfl) ?_
    refine lv_iload_n hx hb dX11_copyFed_15 rfl (lv_at hl 1 rfl) ?_
    obtain ⟨r5, M6, hc7, h⟩ := bnd_inv h
    refine gV_r (As := [.int a1]) X hP hS hl.1 (c_X11_trayAt l D cA q aK aV hq hc7) sf_X11_trayAt bw_511 sv_X11_trayAt (rcC_11 sC_0) rfl ⟨rfl, rfl⟩ ⟨Nat.le_of_ble_eq_true rfl, Nat.le_of_ble_eq_true rfl⟩ rfl rfl (Nat.le_of_ble_eq_true rfl) dX11_copyFed_16 (fun H locs hP hS => ?_)
    obtain ⟨g8, h⟩ := gd_inv h
    have g8 := Decidable.not_not.mp g8
    refine lv_astore_n (lv' := [(2, .ref (q r5)), (0, .ref (q 0)), (1, .int a1)]) hx hb dX11_copyFed_19 rfl hl (by decide) rfl (fun ls hl => ?_)
    refine lv_aload_n hx hb dX11_copyFed_20 rfl (lv_at hl 0 rfl) ?_
    obtain ⟨r9, M10, hc11, h⟩ := bnd_inv h
    refine gV_i (As := []) X hP hS hl.1 (c_X8_isMissing l D cA q aK aV hq g8 hc11) sf_X8_isMissing bw_531 sv_X8_isMissing (rcC_8 g8) rfl ⟨rfl, rfl⟩ ⟨Nat.le_of_ble_eq_true rfl, Nat.le_of_ble_eq_true rfl⟩ rfl rfl (Nat.le_of_ble_eq_true rfl) dX11_copyFed_21 (fun H locs hP hS => ?_)
    refine lv_if_eq (tgt := 33) hx hb dX11_copyFed_24 (by decide) (fun c12 => ?_) (fun c12 => ?_)
    · rw [if_pos c12] at h
      refine lv_aload_n hx hb dX11_copyFed_33 rfl (lv_at hl 1 rfl) ?_
      refine gfC_11_0 X hP sC_0 bw_430 dX11_copyFed_34 ?_
      obtain ⟨g13, h⟩ := gd_inv h
      have g13 := Decidable.not_not.mp g13
      refine lv_iconst (v := 3) hx hb dX11_copyFed_37 (by decide) ?_
      obtain ⟨r14, M15, hc16, h⟩ := bnd_inv h
      refine gV_i (As := [.int (3 : Int32)]) X hP hS hl.1 (c_X0_countOf l D cA q aK aV hq g13 hc16) sf_X0_countOf bw_750 sv_X0_countOf (rcC_0 g13) rfl ⟨rfl, rfl⟩ ⟨Nat.le_of_ble_eq_true rfl, Nat.le_of_ble_eq_true rfl⟩ rfl rfl (Nat.le_of_ble_eq_true rfl) dX11_copyFed_38 (fun H locs hP hS => ?_)
      refine lv_istore_n (lv' := [(3, .int r14), (2, .ref (q r5)), (0, .ref (q 0)), (1, .int a1)]) hx hb dX11_copyFed_41 rfl hl (by decide) rfl (fun ls hl => ?_)
      refine lv_aload_n hx hb dX11_copyFed_42 rfl (lv_at hl 1 rfl) ?_
      refine lv_iconst (v := 0) hx hb dX11_copyFed_43 (by decide) ?_
      refine lv_iload_n hx hb dX11_copyFed_44 rfl (lv_at hl 0 rfl) ?_
      obtain ⟨r17, M18, hc19, h⟩ := bnd_inv h
      refine gV_i (As := [.int (0 : Int32), .int r14]) X hP hS hl.1 (c_X8_hasRun l D cA q aK aV hq g8 hc19) sf_X8_hasRun bw_564 sv_X8_hasRun (rcC_8 g8) rfl ⟨rfl, rfl⟩ ⟨Nat.le_of_ble_eq_true rfl, Nat.le_of_ble_eq_true rfl⟩ rfl rfl (Nat.le_of_ble_eq_true rfl) dX11_copyFed_45 (fun H locs hP hS => ?_)
      refine lv_if_ne (tgt := 57) hx hb dX11_copyFed_48 (by decide) (fun c20 => ?_) (fun c20 => ?_)
      · rw [if_neg c20] at h
        refine lv_iconst (v := 0) hx hb dX11_copyFed_57 (by decide) ?_
        refine lv_istore (lv' := [(4, .int (0 : Int32)), (3, .int r14), (2, .ref (q r5)), (0, .ref (q 0)), (1, .int a1)]) hx hb dX11_copyFed_58 hl (by decide) rfl (fun ls hl => ?_)
        obtain ⟨s21, M22, hc23, h⟩ := bnd_inv h
        try dsimp only at h
        refine hL60 _ g8 _ fz _ _ _ _ _ _ hc23 hP hS (lv_sub hl [3, 2, 1, 0] rfl) (fun H locs ls hP hS hl => ?_)
        have hl : lv_has ls 5 [(0, .ref (q 0)), (3, .int r14)] := hl
        refine lv_aload_n hx hb dX11_copyFed_91 rfl (lv_at hl 0 rfl) ?_
        refine lv_iload_n hx hb dX11_copyFed_92 rfl (lv_at hl 1 rfl) ?_
        obtain ⟨r24, M25, hc26, h⟩ := bnd_inv h
        refine gV_i (As := [.int r14]) X hP hS hl.1 (c_X11_given l D cA q aK aV hq hc26) sf_X11_given bw_755 sv_X11_given (rcC_11 sC_0) rfl ⟨rfl, rfl⟩ ⟨Nat.le_of_ble_eq_true rfl, Nat.le_of_ble_eq_true rfl⟩ rfl rfl (Nat.le_of_ble_eq_true rfl) dX11_copyFed_93 (fun H locs hP hS => ?_)
        exact end_i X hr hk hP hS h dX11_copyFed_96
      · rw [if_pos c20] at h
        refine lv_aload_n hx hb dX11_copyFed_51 rfl (lv_at hl 2 rfl) ?_
        refine lv_iconst (v := 3) hx hb dX11_copyFed_52 (by decide) ?_
        obtain ⟨r27, M28, hc29, h⟩ := bnd_inv h
        refine gV_i (As := [.int (3 : Int32)]) X hP hS hl.1 (c_X11_refused l D cA q aK aV hq hc29) sf_X11_refused bw_552 sv_X11_refused (rcC_11 sC_0) rfl ⟨rfl, rfl⟩ ⟨Nat.le_of_ble_eq_true rfl, Nat.le_of_ble_eq_true rfl⟩ rfl rfl (Nat.le_of_ble_eq_true rfl) dX11_copyFed_53 (fun H locs hP hS => ?_)
        exact end_i X hr hk hP hS h dX11_copyFed_56
    · rw [if_neg c12] at h
      refine lv_aload_n hx hb dX11_copyFed_27 rfl (lv_at hl 1 rfl) ?_
      refine lv_iconst (v := 2) hx hb dX11_copyFed_28 (by decide) ?_
      obtain ⟨r30, M31, hc32, h⟩ := bnd_inv h
      refine gV_i (As := [.int (2 : Int32)]) X hP hS hl.1 (c_X11_refused l D cA q aK aV hq hc32) sf_X11_refused bw_552 sv_X11_refused (rcC_11 sC_0) rfl ⟨rfl, rfl⟩ ⟨Nat.le_of_ble_eq_true rfl, Nat.le_of_ble_eq_true rfl⟩ rfl rfl (Nat.le_of_ble_eq_true rfl) dX11_copyFed_29 (fun H locs hP hS => ?_)
      exact end_i X hr hk hP hS h dX11_copyFed_32
  · rw [if_pos c4] at h
    refine lv_aload_n hx hb dX11_copyFed_8 rfl (lv_at hl 0 rfl) ?_
    refine lv_iconst (v := 1) hx hb dX11_copyFed_9 (by decide) ?_
    obtain ⟨r33, M34, hc35, h⟩ := bnd_inv h
    refine gV_i (As := [.int (1 : Int32)]) X hP hS hl.1 (c_X11_refused l D cA q aK aV hq hc35) sf_X11_refused bw_552 sv_X11_refused (rcC_11 sC_0) rfl ⟨rfl, rfl⟩ ⟨Nat.le_of_ble_eq_true rfl, Nat.le_of_ble_eq_true rfl⟩ rfl rfl (Nat.le_of_ble_eq_true rfl) dX11_copyFed_10 (fun H locs hP hS => ?_)
    exact end_i X hr hk hP hS h dX11_copyFed_13
theorem dX2_begin_0 : decode cX2_begin 0 = .ok (.aload_n 0, 1) := by decide +kernel
theorem dX2_begin_1 : decode cX2_begin 1 = .ok (.iload_n 1, 1) := by decide +kernel
theorem dX2_begin_2 : decode cX2_begin 2 = .ok (.putfield 19, 3) := by decide +kernel
theorem dX2_begin_5 : decode cX2_begin 5 = .ok (.aload_n 0, 1) := by decide +kernel
theorem dX2_begin_6 : decode cX2_begin 6 = .ok (.iconst 0, 1) := by decide +kernel
theorem dX2_begin_7 : decode cX2_begin 7 = .ok (.putfield 23, 3) := by decide +kernel
theorem dX2_begin_10 : decode cX2_begin 10 = .ok (.aload_n 0, 1) := by decide +kernel
theorem dX2_begin_11 : decode cX2_begin 11 = .ok (.iconst 0, 1) := by decide +kernel
theorem dX2_begin_12 : decode cX2_begin 12 = .ok (.putfield 26, 3) := by decide +kernel
theorem dX2_begin_15 : decode cX2_begin 15 = .ok (.aload_n 0, 1) := by decide +kernel
theorem dX2_begin_16 : decode cX2_begin 16 = .ok (.iconst 0, 1) := by decide +kernel
theorem dX2_begin_17 : decode cX2_begin 17 = .ok (.putfield 29, 3) := by decide +kernel
theorem dX2_begin_20 : decode cX2_begin 20 = .ok (.aload_n 0, 1) := by decide +kernel
theorem dX2_begin_21 : decode cX2_begin 21 = .ok (.iconst 0, 1) := by decide +kernel
theorem dX2_begin_22 : decode cX2_begin 22 = .ok (.putfield 32, 3) := by decide +kernel
theorem dX2_begin_25 : decode cX2_begin 25 = .ok (.return_, 1) := by decide +kernel
set_option maxRecDepth 100000 in
set_option maxHeartbeats 8000000 in
theorem c_X2_begin (l : Launch) (D : va_G) (cA : Nat → ClassId) (q aK aV : Nat → Nat) (hq : injG 167 q) {a1 : Int32} {M M0 : Mem} (h : f_X2_begin a1 M = some ((), M0)) : Met l yX2_begin (.code yX2_begin cX2_begin 2 none :: BW) ({ frames := 1, cells := 0, slots := 0, locals := 13 } : Room) (va_Pc [.ref (q 25), .int a1] (CB 167 (ceC cA q) D cA q aK aV M)) (Qv 167 (ceC cA q) D q M0) 0 0 (AqG 167 q) := by
  refine gMet RX2 (by decide +kernel) rfl hq (Nat.le_of_ble_eq_true rfl) ?_
  intro p e s m below meth c ls X hr hk hP hS hl
  have hx := X.1
  have hb := X.2.1
  have hl : lv_has ls 2 [(0, .ref (q 25)), (1, .int a1)] := hl
  rw [f_X2_begin] at h
  refine lv_aload_n hx hb dX2_begin_0 rfl (lv_at hl 0 rfl) ?_
  refine lv_iload_n hx hb dX2_begin_1 rfl (lv_at hl 1 rfl) ?_
  obtain ⟨M1, eM1, h⟩ := lt_inv h
  refine pfC_2_2 X hP hS sC_25 bw_409 eM1 dX2_begin_2 (fun H locs hP hS => ?_)
  refine lv_aload_n hx hb dX2_begin_5 rfl (lv_at hl 0 rfl) ?_
  refine lv_iconst (v := 0) hx hb dX2_begin_6 (by decide) ?_
  obtain ⟨M2, eM2, h⟩ := lt_inv h
  refine pfC_2_3 X hP hS sC_25 bw_410 eM2 dX2_begin_7 (fun H locs hP hS => ?_)
  refine lv_aload_n hx hb dX2_begin_10 rfl (lv_at hl 0 rfl) ?_
  refine lv_iconst (v := 0) hx hb dX2_begin_11 (by decide) ?_
  obtain ⟨M3, eM3, h⟩ := lt_inv h
  refine pfC_2_4 X hP hS sC_25 bw_412 eM3 dX2_begin_12 (fun H locs hP hS => ?_)
  refine lv_aload_n hx hb dX2_begin_15 rfl (lv_at hl 0 rfl) ?_
  refine lv_iconst (v := 0) hx hb dX2_begin_16 (by decide) ?_
  obtain ⟨M4, eM4, h⟩ := lt_inv h
  refine pfC_2_5 X hP hS sC_25 bw_413 eM4 dX2_begin_17 (fun H locs hP hS => ?_)
  refine lv_aload_n hx hb dX2_begin_20 rfl (lv_at hl 0 rfl) ?_
  refine lv_iconst (v := 0) hx hb dX2_begin_21 (by decide) ?_
  obtain ⟨M5, eM5, h⟩ := lt_inv h
  refine pfC_2_6 X hP hS sC_25 bw_414 (Or.inl rfl) eM5 dX2_begin_22 (fun H locs hP hS => ?_)
  exact end_v X hr hk hP hS h dX2_begin_25
theorem dX2_comesTo_0 : decode cX2_comesTo 0 = .ok (.aload_n 0, 1) := by decide +kernel
theorem dX2_comesTo_1 : decode cX2_comesTo 1 = .ok (.getfield 32, 3) := by decide +kernel
theorem dX2_comesTo_4 : decode cX2_comesTo 4 = .ok (.ifCond .eq 5, 3) := by decide +kernel
theorem dX2_comesTo_7 : decode cX2_comesTo 7 = .ok (.iconst 0, 1) := by decide +kernel
theorem dX2_comesTo_8 : decode cX2_comesTo 8 = .ok (.ireturn, 1) := by decide +kernel
theorem dX2_comesTo_9 : decode cX2_comesTo 9 = .ok (.aload_n 0, 1) := by decide +kernel
theorem dX2_comesTo_10 : decode cX2_comesTo 10 = .ok (.getfield 23, 3) := by decide +kernel
theorem dX2_comesTo_13 : decode cX2_comesTo 13 = .ok (.sipush 300, 3) := by decide +kernel
theorem dX2_comesTo_16 : decode cX2_comesTo 16 = .ok (.if_icmp .lt 15, 3) := by decide +kernel
theorem dX2_comesTo_19 : decode cX2_comesTo 19 = .ok (.aload_n 0, 1) := by decide +kernel
theorem dX2_comesTo_20 : decode cX2_comesTo 20 = .ok (.iconst 1, 1) := by decide +kernel
theorem dX2_comesTo_21 : decode cX2_comesTo 21 = .ok (.putfield 29, 3) := by decide +kernel
theorem dX2_comesTo_24 : decode cX2_comesTo 24 = .ok (.aload_n 0, 1) := by decide +kernel
theorem dX2_comesTo_25 : decode cX2_comesTo 25 = .ok (.iconst 1, 1) := by decide +kernel
theorem dX2_comesTo_26 : decode cX2_comesTo 26 = .ok (.putfield 32, 3) := by decide +kernel
theorem dX2_comesTo_29 : decode cX2_comesTo 29 = .ok (.iconst 0, 1) := by decide +kernel
theorem dX2_comesTo_30 : decode cX2_comesTo 30 = .ok (.ireturn, 1) := by decide +kernel
theorem dX2_comesTo_31 : decode cX2_comesTo 31 = .ok (.aload_n 0, 1) := by decide +kernel
theorem dX2_comesTo_32 : decode cX2_comesTo 32 = .ok (.dup, 1) := by decide +kernel
theorem dX2_comesTo_33 : decode cX2_comesTo 33 = .ok (.getfield 23, 3) := by decide +kernel
theorem dX2_comesTo_36 : decode cX2_comesTo 36 = .ok (.iconst 1, 1) := by decide +kernel
theorem dX2_comesTo_37 : decode cX2_comesTo 37 = .ok (.iadd, 1) := by decide +kernel
theorem dX2_comesTo_38 : decode cX2_comesTo 38 = .ok (.putfield 23, 3) := by decide +kernel
theorem dX2_comesTo_41 : decode cX2_comesTo 41 = .ok (.iconst 1, 1) := by decide +kernel
theorem dX2_comesTo_42 : decode cX2_comesTo 42 = .ok (.ireturn, 1) := by decide +kernel
set_option maxRecDepth 100000 in
set_option maxHeartbeats 8000000 in
theorem c_X2_comesTo (l : Launch) (D : va_G) (cA : Nat → ClassId) (q aK aV : Nat → Nat) (hq : injG 167 q) {M M0 : Mem} {r0 : Int32} (h : f_X2_comesTo M = some (r0, M0)) : Met l yX2_comesTo (.code yX2_comesTo cX2_comesTo 1 (some .boolean) :: BW) ({ frames := 1, cells := 0, slots := 0, locals := 12 } : Room) (va_Pc [.ref (q 25)] (CB 167 (ceC cA q) D cA q aK aV M)) (Qi 167 (ceC cA q) D q r0 M0) 0 0 (AqG 167 q) := by
  refine gMet RX2 (by decide +kernel) rfl hq (Nat.le_of_ble_eq_true rfl) ?_
  intro p e s m below meth c ls X hr hk hP hS hl
  have hx := X.1
  have hb := X.2.1
  have hl : lv_has ls 1 [(0, .ref (q 25))] := hl
  rw [f_X2_comesTo] at h
  refine lv_aload_n hx hb dX2_comesTo_0 rfl (lv_at hl 0 rfl) ?_
  refine gfC_2_6 X hP sC_25 bw_414 dX2_comesTo_1 ?_
  refine lv_if_eq (tgt := 9) hx hb dX2_comesTo_4 (by decide) (fun c1 => ?_) (fun c1 => ?_)
  · rw [if_pos c1] at h
    refine lv_aload_n hx hb dX2_comesTo_9 rfl (lv_at hl 0 rfl) ?_
    refine gfC_2_3 X hP sC_25 bw_410 dX2_comesTo_10 ?_
    refine lv_sipush (v := 300) hx hb dX2_comesTo_13 (by decide) ?_
    refine lv_icmp_lt (tgt := 31) hx hb dX2_comesTo_16 (by decide) (fun c2 => ?_) (fun c2 => ?_)
    · rw [if_pos c2] at h
      refine lv_aload_n hx hb dX2_comesTo_31 rfl (lv_at hl 0 rfl) ?_
      refine lv_dup hx hb dX2_comesTo_32 rfl ?_
      refine gfC_2_3 X hP sC_25 bw_410 dX2_comesTo_33 ?_
      refine lv_iconst (v := 1) hx hb dX2_comesTo_36 (by decide) ?_
      refine lv_iadd hx hb dX2_comesTo_37 ?_
      obtain ⟨M3, eM3, h⟩ := lt_inv h
      refine pfC_2_3 X hP hS sC_25 bw_410 eM3 dX2_comesTo_38 (fun H locs hP hS => ?_)
      refine lv_iconst (v := 1) hx hb dX2_comesTo_41 (by decide) ?_
      exact end_z X hr hk hP hS (Or.inr rfl) h dX2_comesTo_42
    · rw [if_neg c2] at h
      refine lv_aload_n hx hb dX2_comesTo_19 rfl (lv_at hl 0 rfl) ?_
      refine lv_iconst (v := 1) hx hb dX2_comesTo_20 (by decide) ?_
      obtain ⟨M4, eM4, h⟩ := lt_inv h
      refine pfC_2_5 X hP hS sC_25 bw_413 eM4 dX2_comesTo_21 (fun H locs hP hS => ?_)
      refine lv_aload_n hx hb dX2_comesTo_24 rfl (lv_at hl 0 rfl) ?_
      refine lv_iconst (v := 1) hx hb dX2_comesTo_25 (by decide) ?_
      obtain ⟨M5, eM5, h⟩ := lt_inv h
      refine pfC_2_6 X hP hS sC_25 bw_414 (Or.inr rfl) eM5 dX2_comesTo_26 (fun H locs hP hS => ?_)
      refine lv_iconst (v := 0) hx hb dX2_comesTo_29 (by decide) ?_
      exact end_z X hr hk hP hS (Or.inl rfl) h dX2_comesTo_30
  · rw [if_neg c1] at h
    refine lv_iconst (v := 0) hx hb dX2_comesTo_7 (by decide) ?_
    exact end_z X hr hk hP hS (Or.inl rfl) h dX2_comesTo_8
theorem dX9_cellAt_0 : decode cX9_cellAt 0 = .ok (.aload_n 0, 1) := by decide +kernel
theorem dX9_cellAt_1 : decode cX9_cellAt 1 = .ok (.getfield 17, 3) := by decide +kernel
theorem dX9_cellAt_4 : decode cX9_cellAt 4 = .ok (.iload_n 1, 1) := by decide +kernel
theorem dX9_cellAt_5 : decode cX9_cellAt 5 = .ok (.iconst 5, 1) := by decide +kernel
theorem dX9_cellAt_6 : decode cX9_cellAt 6 = .ok (.imul, 1) := by decide +kernel
theorem dX9_cellAt_7 : decode cX9_cellAt 7 = .ok (.iload_n 2, 1) := by decide +kernel
theorem dX9_cellAt_8 : decode cX9_cellAt 8 = .ok (.iadd, 1) := by decide +kernel
theorem dX9_cellAt_9 : decode cX9_cellAt 9 = .ok (.invokestatic 27, 3) := by decide +kernel
theorem dX9_cellAt_12 : decode cX9_cellAt 12 = .ok (.ireturn, 1) := by decide +kernel
set_option maxRecDepth 100000 in
set_option maxHeartbeats 8000000 in
theorem c_X9_cellAt (l : Launch) (D : va_G) (cA : Nat → ClassId) (q aK aV : Nat → Nat) (hq : injG 167 q) {a0 : Nat} {a1 : Int32} {a2 : Int32} {M M0 : Mem} {r0 : Int32} (h0 : shC a0 = 9) (h : f_X9_cellAt a0 a1 a2 M = some (r0, M0)) : Met l yX9_cellAt (.code yX9_cellAt cX9_cellAt 3 (some .int) :: BW) ({ frames := 2, cells := 0, slots := 0, locals := 34 } : Room) (va_Pc [.ref (q a0), .int a1, .int a2] (CB 167 (ceC cA q) D cA q aK aV M)) (Qi 167 (ceC cA q) D q r0 M0) 0 0 (AqG 167 q) := by
  refine gMet RX9 (by decide +kernel) rfl hq (Nat.le_of_ble_eq_true rfl) ?_
  intro p e s m below meth c ls X hr hk hP hS hl
  have hx := X.1
  have hb := X.2.1
  have hl : lv_has ls 3 [(0, .ref (q a0)), (1, .int a1), (2, .int a2)] := hl
  rw [f_X9_cellAt] at h
  refine lv_aload_n hx hb dX9_cellAt_0 rfl (lv_at hl 0 rfl) ?_
  refine gfC_9_2 X hP h0 bw_50 dX9_cellAt_1 ?_
  refine lv_iload_n hx hb dX9_cellAt_4 rfl (lv_at hl 1 rfl) ?_
  refine lv_iconst (v := 5) hx hb dX9_cellAt_5 (by decide) ?_
  refine lv_imul hx hb dX9_cellAt_6 ?_
  refine lv_iload_n hx hb dX9_cellAt_7 rfl (lv_at hl 2 rfl) ?_
  refine lv_iadd hx hb dX9_cellAt_8 ?_
  obtain ⟨r1, M2, hc3, h⟩ := bnd_inv h
  refine gSN_i (As := [.ref (q (a0 + 1)), .int ((a1 * (5 : Int32)) + a2)]) X hP hS hl.1 (c_X11_cell l D cA q aK aV hq ((kC_9_2 h0).1) hc3) sf_X11_cell nw_28 ss_X11_cell ⟨rfl, rfl⟩ ⟨Nat.le_of_ble_eq_true rfl, Nat.le_of_ble_eq_true rfl⟩ rfl rfl (Nat.le_of_ble_eq_true rfl) dX9_cellAt_9 (fun H locs hP hS => ?_)
  exact end_i X hr hk hP hS h dX9_cellAt_12
theorem dX2_holds_0 : decode cX2_holds 0 = .ok (.aload_n 0, 1) := by decide +kernel
theorem dX2_holds_1 : decode cX2_holds 1 = .ok (.getfield 43, 3) := by decide +kernel
theorem dX2_holds_4 : decode cX2_holds 4 = .ok (.iload_n 1, 1) := by decide +kernel
theorem dX2_holds_5 : decode cX2_holds 5 = .ok (.iconst 2, 1) := by decide +kernel
theorem dX2_holds_6 : decode cX2_holds 6 = .ok (.invokevirtual 55, 3) := by decide +kernel
theorem dX2_holds_9 : decode cX2_holds 9 = .ok (.istore_n 2, 1) := by decide +kernel
theorem dX2_holds_10 : decode cX2_holds 10 = .ok (.aload_n 0, 1) := by decide +kernel
theorem dX2_holds_11 : decode cX2_holds 11 = .ok (.getfield 43, 3) := by decide +kernel
theorem dX2_holds_14 : decode cX2_holds 14 = .ok (.iload_n 1, 1) := by decide +kernel
theorem dX2_holds_15 : decode cX2_holds 15 = .ok (.iconst 3, 1) := by decide +kernel
theorem dX2_holds_16 : decode cX2_holds 16 = .ok (.invokevirtual 55, 3) := by decide +kernel
theorem dX2_holds_19 : decode cX2_holds 19 = .ok (.istore_n 3, 1) := by decide +kernel
theorem dX2_holds_20 : decode cX2_holds 20 = .ok (.aload_n 0, 1) := by decide +kernel
theorem dX2_holds_21 : decode cX2_holds 21 = .ok (.getfield 43, 3) := by decide +kernel
theorem dX2_holds_24 : decode cX2_holds 24 = .ok (.iload_n 1, 1) := by decide +kernel
theorem dX2_holds_25 : decode cX2_holds 25 = .ok (.iconst 1, 1) := by decide +kernel
theorem dX2_holds_26 : decode cX2_holds 26 = .ok (.invokevirtual 55, 3) := by decide +kernel
theorem dX2_holds_29 : decode cX2_holds 29 = .ok (.tableswitch 82 25 27 #[27, 46, 64], 27) := by decide +kernel
theorem dX2_holds_56 : decode cX2_holds 56 = .ok (.aload_n 0, 1) := by decide +kernel
theorem dX2_holds_57 : decode cX2_holds 57 = .ok (.iload_n 2, 1) := by decide +kernel
theorem dX2_holds_58 : decode cX2_holds 58 = .ok (.aload_n 0, 1) := by decide +kernel
theorem dX2_holds_59 : decode cX2_holds 59 = .ok (.getfield 71, 3) := by decide +kernel
theorem dX2_holds_62 : decode cX2_holds 62 = .ok (.invokevirtual 74, 3) := by decide +kernel
theorem dX2_holds_65 : decode cX2_holds 65 = .ok (.iload_n 3, 1) := by decide +kernel
theorem dX2_holds_66 : decode cX2_holds 66 = .ok (.if_icmp .ne 7, 3) := by decide +kernel
theorem dX2_holds_69 : decode cX2_holds 69 = .ok (.iconst 1, 1) := by decide +kernel
theorem dX2_holds_70 : decode cX2_holds 70 = .ok (.goto 4, 3) := by decide +kernel
theorem dX2_holds_73 : decode cX2_holds 73 = .ok (.iconst 0, 1) := by decide +kernel
theorem dX2_holds_74 : decode cX2_holds 74 = .ok (.ireturn, 1) := by decide +kernel
theorem dX2_holds_75 : decode cX2_holds 75 = .ok (.aload_n 0, 1) := by decide +kernel
theorem dX2_holds_76 : decode cX2_holds 76 = .ok (.iload_n 2, 1) := by decide +kernel
theorem dX2_holds_77 : decode cX2_holds 77 = .ok (.invokevirtual 77, 3) := by decide +kernel
theorem dX2_holds_80 : decode cX2_holds 80 = .ok (.getfield 81, 3) := by decide +kernel
theorem dX2_holds_83 : decode cX2_holds 83 = .ok (.iconst 2, 1) := by decide +kernel
theorem dX2_holds_84 : decode cX2_holds 84 = .ok (.if_icmp .ne 7, 3) := by decide +kernel
theorem dX2_holds_87 : decode cX2_holds 87 = .ok (.iconst 1, 1) := by decide +kernel
theorem dX2_holds_88 : decode cX2_holds 88 = .ok (.goto 4, 3) := by decide +kernel
theorem dX2_holds_91 : decode cX2_holds 91 = .ok (.iconst 0, 1) := by decide +kernel
theorem dX2_holds_92 : decode cX2_holds 92 = .ok (.ireturn, 1) := by decide +kernel
theorem dX2_holds_93 : decode cX2_holds 93 = .ok (.aload_n 0, 1) := by decide +kernel
theorem dX2_holds_94 : decode cX2_holds 94 = .ok (.iload_n 2, 1) := by decide +kernel
theorem dX2_holds_95 : decode cX2_holds 95 = .ok (.invokevirtual 77, 3) := by decide +kernel
theorem dX2_holds_98 : decode cX2_holds 98 = .ok (.getfield 81, 3) := by decide +kernel
theorem dX2_holds_101 : decode cX2_holds 101 = .ok (.iconst 1, 1) := by decide +kernel
theorem dX2_holds_102 : decode cX2_holds 102 = .ok (.if_icmp .ne 7, 3) := by decide +kernel
theorem dX2_holds_105 : decode cX2_holds 105 = .ok (.iconst 1, 1) := by decide +kernel
theorem dX2_holds_106 : decode cX2_holds 106 = .ok (.goto 4, 3) := by decide +kernel
theorem dX2_holds_109 : decode cX2_holds 109 = .ok (.iconst 0, 1) := by decide +kernel
theorem dX2_holds_110 : decode cX2_holds 110 = .ok (.ireturn, 1) := by decide +kernel
theorem dX2_holds_111 : decode cX2_holds 111 = .ok (.aload_n 0, 1) := by decide +kernel
theorem dX2_holds_112 : decode cX2_holds 112 = .ok (.getfield 71, 3) := by decide +kernel
theorem dX2_holds_115 : decode cX2_holds 115 = .ok (.iload_n 2, 1) := by decide +kernel
theorem dX2_holds_116 : decode cX2_holds 116 = .ok (.if_icmp .lt 15, 3) := by decide +kernel
theorem dX2_holds_119 : decode cX2_holds 119 = .ok (.aload_n 0, 1) := by decide +kernel
theorem dX2_holds_120 : decode cX2_holds 120 = .ok (.getfield 71, 3) := by decide +kernel
theorem dX2_holds_123 : decode cX2_holds 123 = .ok (.iload_n 3, 1) := by decide +kernel
theorem dX2_holds_124 : decode cX2_holds 124 = .ok (.if_icmp .gt 7, 3) := by decide +kernel
theorem dX2_holds_127 : decode cX2_holds 127 = .ok (.iconst 1, 1) := by decide +kernel
theorem dX2_holds_128 : decode cX2_holds 128 = .ok (.goto 4, 3) := by decide +kernel
theorem dX2_holds_131 : decode cX2_holds 131 = .ok (.iconst 0, 1) := by decide +kernel
theorem dX2_holds_132 : decode cX2_holds 132 = .ok (.ireturn, 1) := by decide +kernel
set_option maxRecDepth 100000 in
set_option maxHeartbeats 8000000 in
theorem c_X2_holds (l : Launch) (D : va_G) (cA : Nat → ClassId) (q aK aV : Nat → Nat) (hq : injG 167 q) {a0 : Nat} {a1 : Int32} {M M0 : Mem} {r0 : Int32} (h0 : shC a0 = 0) (h : f_X2_holds a0 a1 M = some (r0, M0)) : Met l yX2_holds (.code yX2_holds cX2_holds 4 (some .boolean) :: BW) ({ frames := 4, cells := 0, slots := 0, locals := 89 } : Room) (va_Pc [.ref (q a0), .int a1] (CB 167 (ceC cA q) D cA q aK aV M)) (Qi 167 (ceC cA q) D q r0 M0) 0 0 (AqG 167 q) := by
  refine gMet RX2 (by decide +kernel) rfl hq (Nat.le_of_ble_eq_true rfl) ?_
  intro p e s m below meth c ls X hr hk hP hS hl
  have hx := X.1
  have hb := X.2.1
  have hl : lv_has ls 4 [(0, .ref (q a0)), (1, .int a1)] := hl
  rw [f_X2_holds] at h
  refine lv_aload_n hx hb dX2_holds_0 rfl (lv_at hl 0 rfl) ?_
  refine gfC_0_9 X hP h0 bw_163 dX2_holds_1 ?_
  refine lv_iload_n hx hb dX2_holds_4 rfl (lv_at hl 1 rfl) ?_
  refine lv_iconst (v := 2) hx hb dX2_holds_5 (by decide) ?_
  obtain ⟨r1, M2, hc3, h⟩ := bnd_inv h
  refine gV_i (As := [.int a1, .int (2 : Int32)]) X hP hS hl.1 (c_X9_cellAt l D cA q aK aV hq (kC_0_9 h0) hc3) sf_X9_cellAt bw_1241 sv_X9_cellAt (rcC_9 (kC_0_9 h0)) rfl ⟨rfl, rfl⟩ ⟨Nat.le_of_ble_eq_true rfl, Nat.le_of_ble_eq_true rfl⟩ rfl rfl (Nat.le_of_ble_eq_true rfl) dX2_holds_6 (fun H locs hP hS => ?_)
  refine lv_istore_n (lv' := [(2, .int r1), (0, .ref (q a0)), (1, .int a1)]) hx hb dX2_holds_9 rfl hl (by decide) rfl (fun ls hl => ?_)
  refine lv_aload_n hx hb dX2_holds_10 rfl (lv_at hl 1 rfl) ?_
  refine gfC_0_9 X hP h0 bw_163 dX2_holds_11 ?_
  refine lv_iload_n hx hb dX2_holds_14 rfl (lv_at hl 2 rfl) ?_
  refine lv_iconst (v := 3) hx hb dX2_holds_15 (by decide) ?_
  obtain ⟨r4, M5, hc6, h⟩ := bnd_inv h
  refine gV_i (As := [.int a1, .int (3 : Int32)]) X hP hS hl.1 (c_X9_cellAt l D cA q aK aV hq (kC_0_9 h0) hc6) sf_X9_cellAt bw_1241 sv_X9_cellAt (rcC_9 (kC_0_9 h0)) rfl ⟨rfl, rfl⟩ ⟨Nat.le_of_ble_eq_true rfl, Nat.le_of_ble_eq_true rfl⟩ rfl rfl (Nat.le_of_ble_eq_true rfl) dX2_holds_16 (fun H locs hP hS => ?_)
  refine lv_istore_n (lv' := [(3, .int r4), (2, .int r1), (0, .ref (q a0)), (1, .int a1)]) hx hb dX2_holds_19 rfl hl (by decide) rfl (fun ls hl => ?_)
  refine lv_aload_n hx hb dX2_holds_20 rfl (lv_at hl 2 rfl) ?_
  refine gfC_0_9 X hP h0 bw_163 dX2_holds_21 ?_
  refine lv_iload_n hx hb dX2_holds_24 rfl (lv_at hl 3 rfl) ?_
  refine lv_iconst (v := 1) hx hb dX2_holds_25 (by decide) ?_
  obtain ⟨r7, M8, hc9, h⟩ := bnd_inv h
  refine gV_i (As := [.int a1, .int (1 : Int32)]) X hP hS hl.1 (c_X9_cellAt l D cA q aK aV hq (kC_0_9 h0) hc9) sf_X9_cellAt bw_1241 sv_X9_cellAt (rcC_9 (kC_0_9 h0)) rfl ⟨rfl, rfl⟩ ⟨Nat.le_of_ble_eq_true rfl, Nat.le_of_ble_eq_true rfl⟩ rfl rfl (Nat.le_of_ble_eq_true rfl) dX2_holds_26 (fun H locs hP hS => ?_)
  by_cases c14 : r7 = 25
  · rw [if_pos c14] at h
    refine lv_tableIn (tgt := 56) hx hb dX2_holds_29 (by rw [c14]; decide) (by rw [c14]; decide) (by rw [c14]; rfl) (by decide) ?_
    refine lv_aload_n hx hb dX2_holds_56 rfl (lv_at hl 2 rfl) ?_
    refine lv_iload_n hx hb dX2_holds_57 rfl (lv_at hl 1 rfl) ?_
    refine lv_aload_n hx hb dX2_holds_58 rfl (lv_at hl 2 rfl) ?_
    refine gfC_0_12 X hP h0 bw_170 dX2_holds_59 ?_
    obtain ⟨r10, M11, hc12, h⟩ := bnd_inv h
    refine gV_i (As := [.int r1, .int (gI M8 a0 12)]) X hP hS hl.1 (c_X0_cueBefore l D cA q aK aV hq h0 hc12) sf_X0_cueBefore bw_1249 sv_X0_cueBefore (rcC_0 h0) rfl ⟨rfl, rfl⟩ ⟨Nat.le_of_ble_eq_true rfl, Nat.le_of_ble_eq_true rfl⟩ rfl rfl (Nat.le_of_ble_eq_true rfl) dX2_holds_62 (fun H locs hP hS => ?_)
    refine lv_iload_n hx hb dX2_holds_65 rfl (lv_at hl 0 rfl) ?_
    refine lv_icmp_ne (tgt := 73) hx hb dX2_holds_66 (by decide) (fun c13 => ?_) (fun c13 => ?_)
    · rw [if_neg c13] at h
      refine lv_iconst (v := 0) hx hb dX2_holds_73 (by decide) ?_
      exact end_z X hr hk hP hS (Or.inl rfl) h dX2_holds_74
    · rw [if_pos c13] at h
      refine lv_iconst (v := 1) hx hb dX2_holds_69 (by decide) ?_
      refine lv_goto (tgt := 74) hx hb dX2_holds_70 (by decide) ?_
      exact end_z X hr hk hP hS (Or.inr rfl) h dX2_holds_74
  rw [if_neg c14] at h
  by_cases c20 : r7 = 26
  · rw [if_pos c20] at h
    refine lv_tableIn (tgt := 75) hx hb dX2_holds_29 (by rw [c20]; decide) (by rw [c20]; decide) (by rw [c20]; rfl) (by decide) ?_
    refine lv_aload_n hx hb dX2_holds_75 rfl (lv_at hl 2 rfl) ?_
    refine lv_iload_n hx hb dX2_holds_76 rfl (lv_at hl 1 rfl) ?_
    obtain ⟨r15, M16, hc17, h⟩ := bnd_inv h
    refine gV_r (As := [.int r1]) X hP hS hl.1 (c_X0_personAt l D cA q aK aV hq h0 hc17) sf_X0_personAt bw_1250 sv_X0_personAt (rcC_0 h0) rfl ⟨rfl, rfl⟩ ⟨Nat.le_of_ble_eq_true rfl, Nat.le_of_ble_eq_true rfl⟩ rfl rfl (Nat.le_of_ble_eq_true rfl) dX2_holds_77 (fun H locs hP hS => ?_)
    obtain ⟨g18, h⟩ := gd_inv h
    have g18 := Decidable.not_not.mp g18
    refine gfC_5_3 X hP g18 bw_126 dX2_holds_80 ?_
    refine lv_iconst (v := 2) hx hb dX2_holds_83 (by decide) ?_
    refine lv_icmp_ne (tgt := 91) hx hb dX2_holds_84 (by decide) (fun c19 => ?_) (fun c19 => ?_)
    · rw [if_neg c19] at h
      refine lv_iconst (v := 0) hx hb dX2_holds_91 (by decide) ?_
      exact end_z X hr hk hP hS (Or.inl rfl) h dX2_holds_92
    · rw [if_pos c19] at h
      refine lv_iconst (v := 1) hx hb dX2_holds_87 (by decide) ?_
      refine lv_goto (tgt := 92) hx hb dX2_holds_88 (by decide) ?_
      exact end_z X hr hk hP hS (Or.inr rfl) h dX2_holds_92
  rw [if_neg c20] at h
  by_cases c26 : r7 = 27
  · rw [if_pos c26] at h
    refine lv_tableIn (tgt := 93) hx hb dX2_holds_29 (by rw [c26]; decide) (by rw [c26]; decide) (by rw [c26]; rfl) (by decide) ?_
    refine lv_aload_n hx hb dX2_holds_93 rfl (lv_at hl 2 rfl) ?_
    refine lv_iload_n hx hb dX2_holds_94 rfl (lv_at hl 1 rfl) ?_
    obtain ⟨r21, M22, hc23, h⟩ := bnd_inv h
    refine gV_r (As := [.int r1]) X hP hS hl.1 (c_X0_personAt l D cA q aK aV hq h0 hc23) sf_X0_personAt bw_1250 sv_X0_personAt (rcC_0 h0) rfl ⟨rfl, rfl⟩ ⟨Nat.le_of_ble_eq_true rfl, Nat.le_of_ble_eq_true rfl⟩ rfl rfl (Nat.le_of_ble_eq_true rfl) dX2_holds_95 (fun H locs hP hS => ?_)
    obtain ⟨g24, h⟩ := gd_inv h
    have g24 := Decidable.not_not.mp g24
    refine gfC_5_3 X hP g24 bw_126 dX2_holds_98 ?_
    refine lv_iconst (v := 1) hx hb dX2_holds_101 (by decide) ?_
    refine lv_icmp_ne (tgt := 109) hx hb dX2_holds_102 (by decide) (fun c25 => ?_) (fun c25 => ?_)
    · rw [if_neg c25] at h
      refine lv_iconst (v := 0) hx hb dX2_holds_109 (by decide) ?_
      exact end_z X hr hk hP hS (Or.inl rfl) h dX2_holds_110
    · rw [if_pos c25] at h
      refine lv_iconst (v := 1) hx hb dX2_holds_105 (by decide) ?_
      refine lv_goto (tgt := 110) hx hb dX2_holds_106 (by decide) ?_
      exact end_z X hr hk hP hS (Or.inr rfl) h dX2_holds_110
  rw [if_neg c26] at h
  refine lv_tableOut (tgt := 111) hx hb dX2_holds_29 (by have nc14 := lv_neT (a := 25) c14 (by decide); have nc20 := lv_neT (a := 26) c20 (by decide); have nc26 := lv_neT (a := 27) c26 (by decide); omega) (by decide) ?_
  refine lv_aload_n hx hb dX2_holds_111 rfl (lv_at hl 2 rfl) ?_
  refine gfC_0_12 X hP h0 bw_170 dX2_holds_112 ?_
  refine lv_iload_n hx hb dX2_holds_115 rfl (lv_at hl 1 rfl) ?_
  refine lv_icmp_lt (tgt := 131) hx hb dX2_holds_116 (by decide) (fun c27 => ?_) (fun c27 => ?_)
  · rw [if_pos c27] at h
    refine lv_iconst (v := 0) hx hb dX2_holds_131 (by decide) ?_
    exact end_z X hr hk hP hS (Or.inl rfl) h dX2_holds_132
  · rw [if_neg c27] at h
    refine lv_aload_n hx hb dX2_holds_119 rfl (lv_at hl 2 rfl) ?_
    refine gfC_0_12 X hP h0 bw_170 dX2_holds_120 ?_
    refine lv_iload_n hx hb dX2_holds_123 rfl (lv_at hl 0 rfl) ?_
    refine lv_icmp_gt (tgt := 131) hx hb dX2_holds_124 (by decide) (fun c28 => ?_) (fun c28 => ?_)
    · rw [if_pos c28] at h
      refine lv_iconst (v := 0) hx hb dX2_holds_131 (by decide) ?_
      exact end_z X hr hk hP hS (Or.inl rfl) h dX2_holds_132
    · rw [if_neg c28] at h
      refine lv_iconst (v := 1) hx hb dX2_holds_127 (by decide) ?_
      refine lv_goto (tgt := 132) hx hb dX2_holds_128 (by decide) ?_
      exact end_z X hr hk hP hS (Or.inr rfl) h dX2_holds_132
theorem dX0_canHoldTerm_0 : decode cX0_canHoldTerm 0 = .ok (.aload_n 0, 1) := by decide +kernel
theorem dX0_canHoldTerm_1 : decode cX0_canHoldTerm 1 = .ok (.iconst 0, 1) := by decide +kernel
theorem dX0_canHoldTerm_2 : decode cX0_canHoldTerm 2 = .ok (.invokevirtual 161, 3) := by decide +kernel
theorem dX0_canHoldTerm_5 : decode cX0_canHoldTerm 5 = .ok (.invokestatic 164, 3) := by decide +kernel
theorem dX0_canHoldTerm_8 : decode cX0_canHoldTerm 8 = .ok (.istore_n 1, 1) := by decide +kernel
theorem dX0_canHoldTerm_9 : decode cX0_canHoldTerm 9 = .ok (.iload_n 1, 1) := by decide +kernel
theorem dX0_canHoldTerm_10 : decode cX0_canHoldTerm 10 = .ok (.ifCond .le 15, 3) := by decide +kernel
theorem dX0_canHoldTerm_13 : decode cX0_canHoldTerm 13 = .ok (.aload_n 0, 1) := by decide +kernel
theorem dX0_canHoldTerm_14 : decode cX0_canHoldTerm 14 = .ok (.iload_n 1, 1) := by decide +kernel
theorem dX0_canHoldTerm_15 : decode cX0_canHoldTerm 15 = .ok (.invokevirtual 169, 3) := by decide +kernel
theorem dX0_canHoldTerm_18 : decode cX0_canHoldTerm 18 = .ok (.ifCond .eq 7, 3) := by decide +kernel
theorem dX0_canHoldTerm_21 : decode cX0_canHoldTerm 21 = .ok (.iconst 1, 1) := by decide +kernel
theorem dX0_canHoldTerm_22 : decode cX0_canHoldTerm 22 = .ok (.goto 4, 3) := by decide +kernel
theorem dX0_canHoldTerm_25 : decode cX0_canHoldTerm 25 = .ok (.iconst 0, 1) := by decide +kernel
theorem dX0_canHoldTerm_26 : decode cX0_canHoldTerm 26 = .ok (.ireturn, 1) := by decide +kernel
set_option maxRecDepth 100000 in
set_option maxHeartbeats 8000000 in
theorem c_X0_canHoldTerm (l : Launch) (D : va_G) (cA : Nat → ClassId) (q aK aV : Nat → Nat) (hq : injG 167 q) {a0 : Nat} {M M0 : Mem} {r0 : Int32} (h0 : shC a0 = 0) (h : f_X0_canHoldTerm a0 M = some (r0, M0)) : Met l yX0_canHoldTerm (.code yX0_canHoldTerm cX0_canHoldTerm 2 (some .boolean) :: BW) ({ frames := 3, cells := 0, slots := 0, locals := 59 } : Room) (va_Pc [.ref (q a0)] (CB 167 (ceC cA q) D cA q aK aV M)) (Qi 167 (ceC cA q) D q r0 M0) 0 0 (AqG 167 q) := by
  refine gMet RX0 (by decide +kernel) rfl hq (Nat.le_of_ble_eq_true rfl) ?_
  intro p e s m below meth c ls X hr hk hP hS hl
  have hx := X.1
  have hb := X.2.1
  have hl : lv_has ls 2 [(0, .ref (q a0))] := hl
  rw [f_X0_canHoldTerm] at h
  refine lv_aload_n hx hb dX0_canHoldTerm_0 rfl (lv_at hl 0 rfl) ?_
  refine lv_iconst (v := 0) hx hb dX0_canHoldTerm_1 (by decide) ?_
  obtain ⟨r1, M2, hc3, h⟩ := bnd_inv h
  refine gV_i (As := [.int (0 : Int32)]) X hP hS hl.1 (c_X0_setOfFate l D cA q aK aV hq h0 hc3) sf_X0_setOfFate bw_1262 sv_X0_setOfFate (rcC_0 h0) rfl ⟨rfl, rfl⟩ ⟨Nat.le_of_ble_eq_true rfl, Nat.le_of_ble_eq_true rfl⟩ rfl rfl (Nat.le_of_ble_eq_true rfl) dX0_canHoldTerm_2 (fun H locs hP hS => ?_)
  obtain ⟨r4, M5, hc6, h⟩ := bnd_inv h
  refine gS_i (As := [.int r1]) X hP hS hl.1 (c_J6_bitCount_0f7a4_C l D cA q aK aV hq hc6) sf_J6_bitCount_0f7a4 bw_1263 ss_J6_bitCount_0f7a4 ⟨rfl, rfl⟩ ⟨Nat.le_of_ble_eq_true rfl, Nat.le_of_ble_eq_true rfl⟩ rfl rfl (Nat.le_of_ble_eq_true rfl) dX0_canHoldTerm_5 (fun H locs hP hS => ?_)
  refine lv_istore_n (lv' := [(1, .int r4), (0, .ref (q a0))]) hx hb dX0_canHoldTerm_8 rfl hl (by decide) rfl (fun ls hl => ?_)
  refine lv_iload_n hx hb dX0_canHoldTerm_9 rfl (lv_at hl 0 rfl) ?_
  refine lv_if_le (tgt := 25) hx hb dX0_canHoldTerm_10 (by decide) (fun c7 => ?_) (fun c7 => ?_)
  · rw [if_pos c7] at h
    refine lv_iconst (v := 0) hx hb dX0_canHoldTerm_25 (by decide) ?_
    exact end_z X hr hk hP hS (Or.inl rfl) h dX0_canHoldTerm_26
  · rw [if_neg c7] at h
    refine lv_aload_n hx hb dX0_canHoldTerm_13 rfl (lv_at hl 1 rfl) ?_
    refine lv_iload_n hx hb dX0_canHoldTerm_14 rfl (lv_at hl 0 rfl) ?_
    obtain ⟨r8, M9, hc10, h⟩ := bnd_inv h
    refine gV_i (As := [.int r4]) X hP hS hl.1 (c_X0_hasRoomFor l D cA q aK aV hq h0 hc10) sf_X0_hasRoomFor bw_1264 sv_X0_hasRoomFor (rcC_0 h0) rfl ⟨rfl, rfl⟩ ⟨Nat.le_of_ble_eq_true rfl, Nat.le_of_ble_eq_true rfl⟩ rfl rfl (Nat.le_of_ble_eq_true rfl) dX0_canHoldTerm_15 (fun H locs hP hS => ?_)
    refine lv_if_eq (tgt := 25) hx hb dX0_canHoldTerm_18 (by decide) (fun c11 => ?_) (fun c11 => ?_)
    · rw [if_pos c11] at h
      refine lv_iconst (v := 0) hx hb dX0_canHoldTerm_25 (by decide) ?_
      exact end_z X hr hk hP hS (Or.inl rfl) h dX0_canHoldTerm_26
    · rw [if_neg c11] at h
      refine lv_iconst (v := 1) hx hb dX0_canHoldTerm_21 (by decide) ?_
      refine lv_goto (tgt := 26) hx hb dX0_canHoldTerm_22 (by decide) ?_
      exact end_z X hr hk hP hS (Or.inr rfl) h dX0_canHoldTerm_26
theorem dX2_draw_0 : decode cX2_draw 0 = .ok (.aload_n 0, 1) := by decide +kernel
theorem dX2_draw_1 : decode cX2_draw 1 = .ok (.aload_n 0, 1) := by decide +kernel
theorem dX2_draw_2 : decode cX2_draw 2 = .ok (.getfield 19, 3) := by decide +kernel
theorem dX2_draw_5 : decode cX2_draw 5 = .ok (.sipush 3181, 3) := by decide +kernel
theorem dX2_draw_8 : decode cX2_draw 8 = .ok (.imul, 1) := by decide +kernel
theorem dX2_draw_9 : decode cX2_draw 9 = .ok (.sipush 11399, 3) := by decide +kernel
theorem dX2_draw_12 : decode cX2_draw 12 = .ok (.iadd, 1) := by decide +kernel
theorem dX2_draw_13 : decode cX2_draw 13 = .ok (.ldc 122, 2) := by decide +kernel
theorem dX2_draw_15 : decode cX2_draw 15 = .ok (.irem, 1) := by decide +kernel
theorem dX2_draw_16 : decode cX2_draw 16 = .ok (.putfield 19, 3) := by decide +kernel
theorem dX2_draw_19 : decode cX2_draw 19 = .ok (.iload_n 1, 1) := by decide +kernel
theorem dX2_draw_20 : decode cX2_draw 20 = .ok (.ifCond .le 15, 3) := by decide +kernel
theorem dX2_draw_23 : decode cX2_draw 23 = .ok (.aload_n 0, 1) := by decide +kernel
theorem dX2_draw_24 : decode cX2_draw 24 = .ok (.getfield 19, 3) := by decide +kernel
theorem dX2_draw_27 : decode cX2_draw 27 = .ok (.bipush 8, 2) := by decide +kernel
theorem dX2_draw_29 : decode cX2_draw 29 = .ok (.idiv, 1) := by decide +kernel
theorem dX2_draw_30 : decode cX2_draw 30 = .ok (.iload_n 1, 1) := by decide +kernel
theorem dX2_draw_31 : decode cX2_draw 31 = .ok (.irem, 1) := by decide +kernel
theorem dX2_draw_32 : decode cX2_draw 32 = .ok (.goto 4, 3) := by decide +kernel
theorem dX2_draw_35 : decode cX2_draw 35 = .ok (.iconst 0, 1) := by decide +kernel
theorem dX2_draw_36 : decode cX2_draw 36 = .ok (.ireturn, 1) := by decide +kernel
set_option maxRecDepth 100000 in
set_option maxHeartbeats 8000000 in
theorem c_X2_draw (l : Launch) (D : va_G) (cA : Nat → ClassId) (q aK aV : Nat → Nat) (hq : injG 167 q) {a1 : Int32} {M M0 : Mem} {r0 : Int32} (h : f_X2_draw a1 M = some (r0, M0)) : Met l yX2_draw (.code yX2_draw cX2_draw 2 (some .int) :: BW) ({ frames := 1, cells := 0, slots := 0, locals := 13 } : Room) (va_Pc [.ref (q 25), .int a1] (CB 167 (ceC cA q) D cA q aK aV M)) (Qi 167 (ceC cA q) D q r0 M0) 0 0 (AqG 167 q) := by
  refine gMet RX2 (by decide +kernel) rfl hq (Nat.le_of_ble_eq_true rfl) ?_
  intro p e s m below meth c ls X hr hk hP hS hl
  have hx := X.1
  have hb := X.2.1
  have hl : lv_has ls 2 [(0, .ref (q 25)), (1, .int a1)] := hl
  rw [f_X2_draw] at h
  refine lv_aload_n hx hb dX2_draw_0 rfl (lv_at hl 0 rfl) ?_
  refine lv_aload_n hx hb dX2_draw_1 rfl (lv_at hl 0 rfl) ?_
  refine gfC_2_2 X hP sC_25 bw_409 dX2_draw_2 ?_
  refine lv_sipush (v := 3181) hx hb dX2_draw_5 (by decide) ?_
  refine lv_imul hx hb dX2_draw_8 ?_
  refine lv_sipush (v := 11399) hx hb dX2_draw_9 (by decide) ?_
  refine lv_iadd hx hb dX2_draw_12 ?_
  refine lv_ldc hx hb X.2.2.2.1 (X.2.2.2.2.1 _ bw_1278) dX2_draw_13 ?_
  refine lv_irem hx hb dX2_draw_15 (by decide) ?_
  obtain ⟨M1, eM1, h⟩ := lt_inv h
  refine pfC_2_2 X hP hS sC_25 bw_409 eM1 dX2_draw_16 (fun H locs hP hS => ?_)
  refine lv_iload_n hx hb dX2_draw_19 rfl (lv_at hl 1 rfl) ?_
  refine lv_if_le (tgt := 35) hx hb dX2_draw_20 (by decide) (fun c2 => ?_) (fun c2 => ?_)
  · rw [if_pos c2] at h
    refine lv_iconst (v := 0) hx hb dX2_draw_35 (by decide) ?_
    exact end_i X hr hk hP hS h dX2_draw_36
  · rw [if_neg c2] at h
    refine lv_aload_n hx hb dX2_draw_23 rfl (lv_at hl 0 rfl) ?_
    refine gfC_2_2 X hP sC_25 bw_409 dX2_draw_24 ?_
    refine lv_bipush (v := 8) hx hb dX2_draw_27 (by decide) ?_
    refine lv_idiv hx hb dX2_draw_29 (by decide) ?_
    refine lv_iload_n hx hb dX2_draw_30 rfl (lv_at hl 1 rfl) ?_
    obtain ⟨g3, h⟩ := gd_inv h
    refine lv_irem hx hb dX2_draw_31 g3 ?_
    refine lv_goto (tgt := 36) hx hb dX2_draw_32 (by decide) ?_
    exact end_i X hr hk hP hS h dX2_draw_36
theorem dX2_feedsAny_0 : decode cX2_feedsAny 0 = .ok (.aload_n 1, 1) := by decide +kernel
theorem dX2_feedsAny_1 : decode cX2_feedsAny 1 = .ok (.iconst 3, 1) := by decide +kernel
theorem dX2_feedsAny_2 : decode cX2_feedsAny 2 = .ok (.invokevirtual 116, 3) := by decide +kernel
theorem dX2_feedsAny_5 : decode cX2_feedsAny 5 = .ok (.ifCond .gt 5, 3) := by decide +kernel
theorem dX2_feedsAny_8 : decode cX2_feedsAny 8 = .ok (.iconst 0, 1) := by decide +kernel
theorem dX2_feedsAny_9 : decode cX2_feedsAny 9 = .ok (.ireturn, 1) := by decide +kernel
theorem dX2_feedsAny_10 : decode cX2_feedsAny 10 = .ok (.aload_n 0, 1) := by decide +kernel
theorem dX2_feedsAny_11 : decode cX2_feedsAny 11 = .ok (.aload_n 1, 1) := by decide +kernel
theorem dX2_feedsAny_12 : decode cX2_feedsAny 12 = .ok (.iconst 3, 1) := by decide +kernel
theorem dX2_feedsAny_13 : decode cX2_feedsAny 13 = .ok (.invokevirtual 116, 3) := by decide +kernel
theorem dX2_feedsAny_16 : decode cX2_feedsAny 16 = .ok (.invokevirtual 119, 3) := by decide +kernel
theorem dX2_feedsAny_19 : decode cX2_feedsAny 19 = .ok (.istore_n 2, 1) := by decide +kernel
theorem dX2_feedsAny_20 : decode cX2_feedsAny 20 = .ok (.aload_n 0, 1) := by decide +kernel
theorem dX2_feedsAny_21 : decode cX2_feedsAny 21 = .ok (.iconst 4, 1) := by decide +kernel
theorem dX2_feedsAny_22 : decode cX2_feedsAny 22 = .ok (.invokevirtual 119, 3) := by decide +kernel
theorem dX2_feedsAny_25 : decode cX2_feedsAny 25 = .ok (.istore_n 3, 1) := by decide +kernel
theorem dX2_feedsAny_26 : decode cX2_feedsAny 26 = .ok (.iload_n 3, 1) := by decide +kernel
theorem dX2_feedsAny_27 : decode cX2_feedsAny 27 = .ok (.ifCond .le 16, 3) := by decide +kernel
theorem dX2_feedsAny_30 : decode cX2_feedsAny 30 = .ok (.aload_n 1, 1) := by decide +kernel
theorem dX2_feedsAny_31 : decode cX2_feedsAny 31 = .ok (.iload_n 2, 1) := by decide +kernel
theorem dX2_feedsAny_32 : decode cX2_feedsAny 32 = .ok (.iload_n 3, 1) := by decide +kernel
theorem dX2_feedsAny_33 : decode cX2_feedsAny 33 = .ok (.invokevirtual 101, 3) := by decide +kernel
theorem dX2_feedsAny_36 : decode cX2_feedsAny 36 = .ok (.ifCond .eq 7, 3) := by decide +kernel
theorem dX2_feedsAny_39 : decode cX2_feedsAny 39 = .ok (.iconst 1, 1) := by decide +kernel
theorem dX2_feedsAny_40 : decode cX2_feedsAny 40 = .ok (.goto 4, 3) := by decide +kernel
theorem dX2_feedsAny_43 : decode cX2_feedsAny 43 = .ok (.iconst 0, 1) := by decide +kernel
theorem dX2_feedsAny_44 : decode cX2_feedsAny 44 = .ok (.ireturn, 1) := by decide +kernel
set_option maxRecDepth 100000 in
set_option maxHeartbeats 8000000 in
theorem c_X2_feedsAny (l : Launch) (D : va_G) (cA : Nat → ClassId) (q aK aV : Nat → Nat) (hq : injG 167 q) {a1 : Nat} {M M0 : Mem} {r0 : Int32} (h1 : shC a1 = 0) (h : f_X2_feedsAny a1 M = some (r0, M0)) : Met l yX2_feedsAny (.code yX2_feedsAny cX2_feedsAny 4 (some .boolean) :: BW) ({ frames := 3, cells := 0, slots := 0, locals := 63 } : Room) (va_Pc [.ref (q 25), .ref (q a1)] (CB 167 (ceC cA q) D cA q aK aV M)) (Qi 167 (ceC cA q) D q r0 M0) 0 0 (AqG 167 q) := by
  refine gMet RX2 (by decide +kernel) rfl hq (Nat.le_of_ble_eq_true rfl) ?_
  intro p e s m below meth c ls X hr hk hP hS hl
  have hx := X.1
  have hb := X.2.1
  have hl : lv_has ls 4 [(0, .ref (q 25)), (1, .ref (q a1))] := hl
  rw [f_X2_feedsAny] at h
  refine lv_aload_n hx hb dX2_feedsAny_0 rfl (lv_at hl 1 rfl) ?_
  refine lv_iconst (v := 3) hx hb dX2_feedsAny_1 (by decide) ?_
  obtain ⟨r1, M2, hc3, h⟩ := bnd_inv h
  refine gV_i (As := [.int (3 : Int32)]) X hP hS hl.1 (c_X0_countOf l D cA q aK aV hq h1 hc3) sf_X0_countOf bw_1273 sv_X0_countOf (rcC_0 h1) rfl ⟨rfl, rfl⟩ ⟨Nat.le_of_ble_eq_true rfl, Nat.le_of_ble_eq_true rfl⟩ rfl rfl (Nat.le_of_ble_eq_true rfl) dX2_feedsAny_2 (fun H locs hP hS => ?_)
  refine lv_if_gt (tgt := 10) hx hb dX2_feedsAny_5 (by decide) (fun c4 => ?_) (fun c4 => ?_)
  · rw [if_pos c4] at h
    refine lv_aload_n hx hb dX2_feedsAny_10 rfl (lv_at hl 0 rfl) ?_
    refine lv_aload_n hx hb dX2_feedsAny_11 rfl (lv_at hl 1 rfl) ?_
    refine lv_iconst (v := 3) hx hb dX2_feedsAny_12 (by decide) ?_
    obtain ⟨r5, M6, hc7, h⟩ := bnd_inv h
    refine gV_i (As := [.int (3 : Int32)]) X hP hS hl.1 (c_X0_countOf l D cA q aK aV hq h1 hc7) sf_X0_countOf bw_1273 sv_X0_countOf (rcC_0 h1) rfl ⟨rfl, rfl⟩ ⟨Nat.le_of_ble_eq_true rfl, Nat.le_of_ble_eq_true rfl⟩ rfl rfl (Nat.le_of_ble_eq_true rfl) dX2_feedsAny_13 (fun H locs hP hS => ?_)
    obtain ⟨r8, M9, hc10, h⟩ := bnd_inv h
    refine gV_i (As := [.int r5]) X hP hS hl.1 (c_X2_draw l D cA q aK aV hq hc10) sf_X2_draw bw_1274 sv_X2_draw (rcC_2 sC_25) rfl ⟨rfl, rfl⟩ ⟨Nat.le_of_ble_eq_true rfl, Nat.le_of_ble_eq_true rfl⟩ rfl rfl (Nat.le_of_ble_eq_true rfl) dX2_feedsAny_16 (fun H locs hP hS => ?_)
    refine lv_istore_n (lv' := [(2, .int r8), (0, .ref (q 25)), (1, .ref (q a1))]) hx hb dX2_feedsAny_19 rfl hl (by decide) rfl (fun ls hl => ?_)
    refine lv_aload_n hx hb dX2_feedsAny_20 rfl (lv_at hl 1 rfl) ?_
    refine lv_iconst (v := 4) hx hb dX2_feedsAny_21 (by decide) ?_
    obtain ⟨r11, M12, hc13, h⟩ := bnd_inv h
    refine gV_i (As := [.int (4 : Int32)]) X hP hS hl.1 (c_X2_draw l D cA q aK aV hq hc13) sf_X2_draw bw_1274 sv_X2_draw (rcC_2 sC_25) rfl ⟨rfl, rfl⟩ ⟨Nat.le_of_ble_eq_true rfl, Nat.le_of_ble_eq_true rfl⟩ rfl rfl (Nat.le_of_ble_eq_true rfl) dX2_feedsAny_22 (fun H locs hP hS => ?_)
    refine lv_istore_n (lv' := [(3, .int r11), (2, .int r8), (0, .ref (q 25)), (1, .ref (q a1))]) hx hb dX2_feedsAny_25 rfl hl (by decide) rfl (fun ls hl => ?_)
    refine lv_iload_n hx hb dX2_feedsAny_26 rfl (lv_at hl 0 rfl) ?_
    refine lv_if_le (tgt := 43) hx hb dX2_feedsAny_27 (by decide) (fun c14 => ?_) (fun c14 => ?_)
    · rw [if_pos c14] at h
      refine lv_iconst (v := 0) hx hb dX2_feedsAny_43 (by decide) ?_
      exact end_z X hr hk hP hS (Or.inl rfl) h dX2_feedsAny_44
    · rw [if_neg c14] at h
      refine lv_aload_n hx hb dX2_feedsAny_30 rfl (lv_at hl 3 rfl) ?_
      refine lv_iload_n hx hb dX2_feedsAny_31 rfl (lv_at hl 1 rfl) ?_
      refine lv_iload_n hx hb dX2_feedsAny_32 rfl (lv_at hl 0 rfl) ?_
      obtain ⟨r15, M16, hc17, h⟩ := bnd_inv h
      refine gV_i (As := [.int r8, .int r11]) X hP hS hl.1 (c_X0_feedPerson l D cA q aK aV hq h1 hc17) sf_X0_feedPerson bw_1266 sv_X0_feedPerson (rcC_0 h1) rfl ⟨rfl, rfl⟩ ⟨Nat.le_of_ble_eq_true rfl, Nat.le_of_ble_eq_true rfl⟩ rfl rfl (Nat.le_of_ble_eq_true rfl) dX2_feedsAny_33 (fun H locs hP hS => ?_)
      refine lv_if_eq (tgt := 43) hx hb dX2_feedsAny_36 (by decide) (fun c18 => ?_) (fun c18 => ?_)
      · rw [if_pos c18] at h
        refine lv_iconst (v := 0) hx hb dX2_feedsAny_43 (by decide) ?_
        exact end_z X hr hk hP hS (Or.inl rfl) h dX2_feedsAny_44
      · rw [if_neg c18] at h
        refine lv_iconst (v := 1) hx hb dX2_feedsAny_39 (by decide) ?_
        refine lv_goto (tgt := 44) hx hb dX2_feedsAny_40 (by decide) ?_
        exact end_z X hr hk hP hS (Or.inr rfl) h dX2_feedsAny_44
  · rw [if_neg c4] at h
    refine lv_iconst (v := 0) hx hb dX2_feedsAny_8 (by decide) ?_
    exact end_z X hr hk hP hS (Or.inl rfl) h dX2_feedsAny_9
theorem dX2_does_0 : decode cX2_does 0 = .ok (.aload_n 1, 1) := by decide +kernel
theorem dX2_does_1 : decode cX2_does 1 = .ok (.getfield 43, 3) := by decide +kernel
theorem dX2_does_4 : decode cX2_does 4 = .ok (.iload_n 3, 1) := by decide +kernel
theorem dX2_does_5 : decode cX2_does 5 = .ok (.iconst 2, 1) := by decide +kernel
theorem dX2_does_6 : decode cX2_does 6 = .ok (.invokevirtual 55, 3) := by decide +kernel
theorem dX2_does_9 : decode cX2_does 9 = .ok (.istore 4, 2) := by decide +kernel
theorem dX2_does_11 : decode cX2_does 11 = .ok (.aload_n 1, 1) := by decide +kernel
theorem dX2_does_12 : decode cX2_does 12 = .ok (.getfield 43, 3) := by decide +kernel
theorem dX2_does_15 : decode cX2_does 15 = .ok (.iload_n 3, 1) := by decide +kernel
theorem dX2_does_16 : decode cX2_does 16 = .ok (.iconst 3, 1) := by decide +kernel
theorem dX2_does_17 : decode cX2_does 17 = .ok (.invokevirtual 55, 3) := by decide +kernel
theorem dX2_does_20 : decode cX2_does 20 = .ok (.istore 5, 2) := by decide +kernel
theorem dX2_does_22 : decode cX2_does 22 = .ok (.iload_n 2, 1) := by decide +kernel
theorem dX2_does_23 : decode cX2_does 23 = .ok (.tableswitch 116 15 21 #[41, 60, 76, 85, 95, 105, 110], 41) := by decide +kernel
theorem dX2_does_64 : decode cX2_does 64 = .ok (.aload_n 1, 1) := by decide +kernel
theorem dX2_does_65 : decode cX2_does 65 = .ok (.iconst 1, 1) := by decide +kernel
theorem dX2_does_66 : decode cX2_does 66 = .ok (.invokevirtual 86, 3) := by decide +kernel
theorem dX2_does_69 : decode cX2_does 69 = .ok (.ifCond .ne 5, 3) := by decide +kernel
theorem dX2_does_72 : decode cX2_does 72 = .ok (.iconst 0, 1) := by decide +kernel
theorem dX2_does_73 : decode cX2_does 73 = .ok (.ireturn, 1) := by decide +kernel
theorem dX2_does_74 : decode cX2_does 74 = .ok (.aload_n 1, 1) := by decide +kernel
theorem dX2_does_75 : decode cX2_does 75 = .ok (.iload 4, 2) := by decide +kernel
theorem dX2_does_77 : decode cX2_does 77 = .ok (.invokevirtual 90, 3) := by decide +kernel
theorem dX2_does_80 : decode cX2_does 80 = .ok (.pop, 1) := by decide +kernel
theorem dX2_does_81 : decode cX2_does 81 = .ok (.iconst 1, 1) := by decide +kernel
theorem dX2_does_82 : decode cX2_does 82 = .ok (.ireturn, 1) := by decide +kernel
theorem dX2_does_83 : decode cX2_does 83 = .ok (.aload_n 1, 1) := by decide +kernel
theorem dX2_does_84 : decode cX2_does 84 = .ok (.invokevirtual 94, 3) := by decide +kernel
theorem dX2_does_87 : decode cX2_does 87 = .ok (.ifCond .ne 5, 3) := by decide +kernel
theorem dX2_does_90 : decode cX2_does 90 = .ok (.iconst 0, 1) := by decide +kernel
theorem dX2_does_91 : decode cX2_does 91 = .ok (.ireturn, 1) := by decide +kernel
theorem dX2_does_92 : decode cX2_does 92 = .ok (.aload_n 1, 1) := by decide +kernel
theorem dX2_does_93 : decode cX2_does 93 = .ok (.invokevirtual 97, 3) := by decide +kernel
theorem dX2_does_96 : decode cX2_does 96 = .ok (.pop, 1) := by decide +kernel
theorem dX2_does_97 : decode cX2_does 97 = .ok (.iconst 1, 1) := by decide +kernel
theorem dX2_does_98 : decode cX2_does 98 = .ok (.ireturn, 1) := by decide +kernel
theorem dX2_does_99 : decode cX2_does 99 = .ok (.aload_n 1, 1) := by decide +kernel
theorem dX2_does_100 : decode cX2_does 100 = .ok (.iload 4, 2) := by decide +kernel
theorem dX2_does_102 : decode cX2_does 102 = .ok (.iload 5, 2) := by decide +kernel
theorem dX2_does_104 : decode cX2_does 104 = .ok (.invokevirtual 101, 3) := by decide +kernel
theorem dX2_does_107 : decode cX2_does 107 = .ok (.ireturn, 1) := by decide +kernel
theorem dX2_does_108 : decode cX2_does 108 = .ok (.aload_n 1, 1) := by decide +kernel
theorem dX2_does_109 : decode cX2_does 109 = .ok (.iload 4, 2) := by decide +kernel
theorem dX2_does_111 : decode cX2_does 111 = .ok (.iload 5, 2) := by decide +kernel
theorem dX2_does_113 : decode cX2_does 113 = .ok (.iconst 1, 1) := by decide +kernel
theorem dX2_does_114 : decode cX2_does 114 = .ok (.invokevirtual 105, 3) := by decide +kernel
theorem dX2_does_117 : decode cX2_does 117 = .ok (.ireturn, 1) := by decide +kernel
theorem dX2_does_118 : decode cX2_does 118 = .ok (.aload_n 1, 1) := by decide +kernel
theorem dX2_does_119 : decode cX2_does 119 = .ok (.iload 4, 2) := by decide +kernel
theorem dX2_does_121 : decode cX2_does 121 = .ok (.iload 5, 2) := by decide +kernel
theorem dX2_does_123 : decode cX2_does 123 = .ok (.iconst 0, 1) := by decide +kernel
theorem dX2_does_124 : decode cX2_does 124 = .ok (.invokevirtual 105, 3) := by decide +kernel
theorem dX2_does_127 : decode cX2_does 127 = .ok (.ireturn, 1) := by decide +kernel
theorem dX2_does_128 : decode cX2_does 128 = .ok (.aload_n 1, 1) := by decide +kernel
theorem dX2_does_129 : decode cX2_does 129 = .ok (.invokevirtual 109, 3) := by decide +kernel
theorem dX2_does_132 : decode cX2_does 132 = .ok (.ireturn, 1) := by decide +kernel
theorem dX2_does_133 : decode cX2_does 133 = .ok (.aload_n 0, 1) := by decide +kernel
theorem dX2_does_134 : decode cX2_does 134 = .ok (.aload_n 1, 1) := by decide +kernel
theorem dX2_does_135 : decode cX2_does 135 = .ok (.invokevirtual 112, 3) := by decide +kernel
theorem dX2_does_138 : decode cX2_does 138 = .ok (.ireturn, 1) := by decide +kernel
theorem dX2_does_139 : decode cX2_does 139 = .ok (.aload_n 0, 1) := by decide +kernel
theorem dX2_does_140 : decode cX2_does 140 = .ok (.iconst 1, 1) := by decide +kernel
theorem dX2_does_141 : decode cX2_does 141 = .ok (.putfield 32, 3) := by decide +kernel
theorem dX2_does_144 : decode cX2_does 144 = .ok (.iconst 1, 1) := by decide +kernel
theorem dX2_does_145 : decode cX2_does 145 = .ok (.ireturn, 1) := by decide +kernel
set_option maxRecDepth 100000 in
set_option maxHeartbeats 8000000 in
theorem c_X2_does (l : Launch) (D : va_G) (cA : Nat → ClassId) (q aK aV : Nat → Nat) (hq : injG 167 q) {a1 : Nat} {a2 : Int32} {a3 : Int32} {M M0 : Mem} {r0 : Int32} (h1 : shC a1 = 0) (h : f_X2_does a1 a2 a3 M = some (r0, M0)) : Met l yX2_does (.code yX2_does cX2_does 6 (some .boolean) :: BW) ({ frames := 6, cells := 0, slots := 0, locals := 135 } : Room) (va_Pc [.ref (q 25), .ref (q a1), .int a2, .int a3] (CB 167 (ceC cA q) D cA q aK aV M)) (Qi 167 (ceC cA q) D q r0 M0) 0 0 (AqG 167 q) := by
  refine gMet RX2 (by decide +kernel) rfl hq (Nat.le_of_ble_eq_true rfl) ?_
  intro p e s m below meth c ls X hr hk hP hS hl
  have hx := X.1
  have hb := X.2.1
  have hl : lv_has ls 6 [(0, .ref (q 25)), (1, .ref (q a1)), (2, .int a2), (3, .int a3)] := hl
  rw [f_X2_does] at h
  refine lv_aload_n hx hb dX2_does_0 rfl (lv_at hl 1 rfl) ?_
  refine gfC_0_9 X hP h1 bw_163 dX2_does_1 ?_
  refine lv_iload_n hx hb dX2_does_4 rfl (lv_at hl 3 rfl) ?_
  refine lv_iconst (v := 2) hx hb dX2_does_5 (by decide) ?_
  obtain ⟨r1, M2, hc3, h⟩ := bnd_inv h
  refine gV_i (As := [.int a3, .int (2 : Int32)]) X hP hS hl.1 (c_X9_cellAt l D cA q aK aV hq (kC_0_9 h1) hc3) sf_X9_cellAt bw_1241 sv_X9_cellAt (rcC_9 (kC_0_9 h1)) rfl ⟨rfl, rfl⟩ ⟨Nat.le_of_ble_eq_true rfl, Nat.le_of_ble_eq_true rfl⟩ rfl rfl (Nat.le_of_ble_eq_true rfl) dX2_does_6 (fun H locs hP hS => ?_)
  refine lv_istore (lv' := [(4, .int r1), (0, .ref (q 25)), (1, .ref (q a1)), (2, .int a2), (3, .int a3)]) hx hb dX2_does_9 hl (by decide) rfl (fun ls hl => ?_)
  refine lv_aload_n hx hb dX2_does_11 rfl (lv_at hl 2 rfl) ?_
  refine gfC_0_9 X hP h1 bw_163 dX2_does_12 ?_
  refine lv_iload_n hx hb dX2_does_15 rfl (lv_at hl 4 rfl) ?_
  refine lv_iconst (v := 3) hx hb dX2_does_16 (by decide) ?_
  obtain ⟨r4, M5, hc6, h⟩ := bnd_inv h
  refine gV_i (As := [.int a3, .int (3 : Int32)]) X hP hS hl.1 (c_X9_cellAt l D cA q aK aV hq (kC_0_9 h1) hc6) sf_X9_cellAt bw_1241 sv_X9_cellAt (rcC_9 (kC_0_9 h1)) rfl ⟨rfl, rfl⟩ ⟨Nat.le_of_ble_eq_true rfl, Nat.le_of_ble_eq_true rfl⟩ rfl rfl (Nat.le_of_ble_eq_true rfl) dX2_does_17 (fun H locs hP hS => ?_)
  refine lv_istore (lv' := [(5, .int r4), (4, .int r1), (0, .ref (q 25)), (1, .ref (q a1)), (2, .int a2), (3, .int a3)]) hx hb dX2_does_20 hl (by decide) rfl (fun ls hl => ?_)
  refine lv_iload_n hx hb dX2_does_22 rfl (lv_at hl 4 rfl) ?_
  by_cases c14 : a2 = 15
  · rw [if_pos c14] at h
    refine lv_tableIn (tgt := 64) hx hb dX2_does_23 (by rw [c14]; decide) (by rw [c14]; decide) (by rw [c14]; rfl) (by decide) ?_
    refine lv_aload_n hx hb dX2_does_64 rfl (lv_at hl 3 rfl) ?_
    refine lv_iconst (v := 1) hx hb dX2_does_65 (by decide) ?_
    obtain ⟨r7, M8, hc9, h⟩ := bnd_inv h
    refine gV_i (As := [.int (1 : Int32)]) X hP hS hl.1 (c_X0_hasRoomFor l D cA q aK aV hq h1 hc9) sf_X0_hasRoomFor bw_1256 sv_X0_hasRoomFor (rcC_0 h1) rfl ⟨rfl, rfl⟩ ⟨Nat.le_of_ble_eq_true rfl, Nat.le_of_ble_eq_true rfl⟩ rfl rfl (Nat.le_of_ble_eq_true rfl) dX2_does_66 (fun H locs hP hS => ?_)
    refine lv_if_ne (tgt := 74) hx hb dX2_does_69 (by decide) (fun c10 => ?_) (fun c10 => ?_)
    · rw [if_neg c10] at h
      refine lv_aload_n hx hb dX2_does_74 rfl (lv_at hl 3 rfl) ?_
      refine lv_iload hx hb dX2_does_75 (lv_at hl 1 rfl) ?_
      obtain ⟨r11, M12, hc13, h⟩ := bnd_inv h
      refine gV_i (As := [.int r1]) X hP hS hl.1 (c_X0_sitBefore l D cA q aK aV hq h1 hc13) sf_X0_sitBefore bw_1257 sv_X0_sitBefore (rcC_0 h1) rfl ⟨rfl, rfl⟩ ⟨Nat.le_of_ble_eq_true rfl, Nat.le_of_ble_eq_true rfl⟩ rfl rfl (Nat.le_of_ble_eq_true rfl) dX2_does_77 (fun H locs hP hS => ?_)
      refine lv_pop hx hb dX2_does_80 rfl ?_
      refine lv_iconst (v := 1) hx hb dX2_does_81 (by decide) ?_
      exact end_z X hr hk hP hS (Or.inr rfl) h dX2_does_82
    · rw [if_pos c10] at h
      refine lv_iconst (v := 0) hx hb dX2_does_72 (by decide) ?_
      exact end_z X hr hk hP hS (Or.inl rfl) h dX2_does_73
  rw [if_neg c14] at h
  by_cases c22 : a2 = 16
  · rw [if_pos c22] at h
    refine lv_tableIn (tgt := 83) hx hb dX2_does_23 (by rw [c22]; decide) (by rw [c22]; decide) (by rw [c22]; rfl) (by decide) ?_
    refine lv_aload_n hx hb dX2_does_83 rfl (lv_at hl 3 rfl) ?_
    obtain ⟨r15, M16, hc17, h⟩ := bnd_inv h
    refine gV_i (As := []) X hP hS hl.1 (c_X0_canHoldTerm l D cA q aK aV hq h1 hc17) sf_X0_canHoldTerm bw_1258 sv_X0_canHoldTerm (rcC_0 h1) rfl ⟨rfl, rfl⟩ ⟨Nat.le_of_ble_eq_true rfl, Nat.le_of_ble_eq_true rfl⟩ rfl rfl (Nat.le_of_ble_eq_true rfl) dX2_does_84 (fun H locs hP hS => ?_)
    refine lv_if_ne (tgt := 92) hx hb dX2_does_87 (by decide) (fun c18 => ?_) (fun c18 => ?_)
    · rw [if_neg c18] at h
      refine lv_aload_n hx hb dX2_does_92 rfl (lv_at hl 3 rfl) ?_
      obtain ⟨r19, M20, hc21, h⟩ := bnd_inv h
      refine gV_i (As := []) X hP hS hl.1 (c_X0_holdTerm l D cA q aK aV hq h1 hc21) sf_X0_holdTerm bw_1265 sv_X0_holdTerm (rcC_0 h1) rfl ⟨rfl, rfl⟩ ⟨Nat.le_of_ble_eq_true rfl, Nat.le_of_ble_eq_true rfl⟩ rfl rfl (Nat.le_of_ble_eq_true rfl) dX2_does_93 (fun H locs hP hS => ?_)
      refine lv_pop hx hb dX2_does_96 rfl ?_
      refine lv_iconst (v := 1) hx hb dX2_does_97 (by decide) ?_
      exact end_z X hr hk hP hS (Or.inr rfl) h dX2_does_98
    · rw [if_pos c18] at h
      refine lv_iconst (v := 0) hx hb dX2_does_90 (by decide) ?_
      exact end_z X hr hk hP hS (Or.inl rfl) h dX2_does_91
  rw [if_neg c22] at h
  by_cases c27 : a2 = 17
  · rw [if_pos c27] at h
    refine lv_tableIn (tgt := 99) hx hb dX2_does_23 (by rw [c27]; decide) (by rw [c27]; decide) (by rw [c27]; rfl) (by decide) ?_
    refine lv_aload_n hx hb dX2_does_99 rfl (lv_at hl 3 rfl) ?_
    refine lv_iload hx hb dX2_does_100 (lv_at hl 1 rfl) ?_
    refine lv_iload hx hb dX2_does_102 (lv_at hl 0 rfl) ?_
    obtain ⟨r23, M24, hc25, h⟩ := bnd_inv h
    refine gV_i (As := [.int r1, .int r4]) X hP hS hl.1 (c_X0_feedPerson l D cA q aK aV hq h1 hc25) sf_X0_feedPerson bw_1266 sv_X0_feedPerson (rcC_0 h1) rfl ⟨rfl, rfl⟩ ⟨Nat.le_of_ble_eq_true rfl, Nat.le_of_ble_eq_true rfl⟩ rfl rfl (Nat.le_of_ble_eq_true rfl) dX2_does_104 (fun H locs hP hS => ?_)
    obtain ⟨g26, h⟩ := gd_inv h
    exact end_z X hr hk hP hS (Decidable.not_not.mp g26) h dX2_does_107
  rw [if_neg c27] at h
  by_cases c32 : a2 = 18
  · rw [if_pos c32] at h
    refine lv_tableIn (tgt := 108) hx hb dX2_does_23 (by rw [c32]; decide) (by rw [c32]; decide) (by rw [c32]; rfl) (by decide) ?_
    refine lv_aload_n hx hb dX2_does_108 rfl (lv_at hl 3 rfl) ?_
    refine lv_iload hx hb dX2_does_109 (lv_at hl 1 rfl) ?_
    refine lv_iload hx hb dX2_does_111 (lv_at hl 0 rfl) ?_
    refine lv_iconst (v := 1) hx hb dX2_does_113 (by decide) ?_
    obtain ⟨r28, M29, hc30, h⟩ := bnd_inv h
    refine gV_i (As := [.int r1, .int r4, .int (1 : Int32)]) X hP hS hl.1 (c_X0_setSmell l D cA q aK aV hq h1 hc30) sf_X0_setSmell bw_1267 sv_X0_setSmell (rcC_0 h1) rfl ⟨rfl, rfl⟩ ⟨Nat.le_of_ble_eq_true rfl, Nat.le_of_ble_eq_true rfl⟩ rfl rfl (Nat.le_of_ble_eq_true rfl) dX2_does_114 (fun H locs hP hS => ?_)
    obtain ⟨g31, h⟩ := gd_inv h
    exact end_z X hr hk hP hS (Decidable.not_not.mp g31) h dX2_does_117
  rw [if_neg c32] at h
  by_cases c37 : a2 = 19
  · rw [if_pos c37] at h
    refine lv_tableIn (tgt := 118) hx hb dX2_does_23 (by rw [c37]; decide) (by rw [c37]; decide) (by rw [c37]; rfl) (by decide) ?_
    refine lv_aload_n hx hb dX2_does_118 rfl (lv_at hl 3 rfl) ?_
    refine lv_iload hx hb dX2_does_119 (lv_at hl 1 rfl) ?_
    refine lv_iload hx hb dX2_does_121 (lv_at hl 0 rfl) ?_
    refine lv_iconst (v := 0) hx hb dX2_does_123 (by decide) ?_
    obtain ⟨r33, M34, hc35, h⟩ := bnd_inv h
    refine gV_i (As := [.int r1, .int r4, .int (0 : Int32)]) X hP hS hl.1 (c_X0_setSmell l D cA q aK aV hq h1 hc35) sf_X0_setSmell bw_1267 sv_X0_setSmell (rcC_0 h1) rfl ⟨rfl, rfl⟩ ⟨Nat.le_of_ble_eq_true rfl, Nat.le_of_ble_eq_true rfl⟩ rfl rfl (Nat.le_of_ble_eq_true rfl) dX2_does_124 (fun H locs hP hS => ?_)
    obtain ⟨g36, h⟩ := gd_inv h
    exact end_z X hr hk hP hS (Decidable.not_not.mp g36) h dX2_does_127
  rw [if_neg c37] at h
  by_cases c42 : a2 = 20
  · rw [if_pos c42] at h
    refine lv_tableIn (tgt := 128) hx hb dX2_does_23 (by rw [c42]; decide) (by rw [c42]; decide) (by rw [c42]; rfl) (by decide) ?_
    refine lv_aload_n hx hb dX2_does_128 rfl (lv_at hl 3 rfl) ?_
    obtain ⟨r38, M39, hc40, h⟩ := bnd_inv h
    refine gV_i (As := []) X hP hS hl.1 (c_X0_coolDown l D cA q aK aV hq h1 hc40) sf_X0_coolDown bw_1268 sv_X0_coolDown (rcC_0 h1) rfl ⟨rfl, rfl⟩ ⟨Nat.le_of_ble_eq_true rfl, Nat.le_of_ble_eq_true rfl⟩ rfl rfl (Nat.le_of_ble_eq_true rfl) dX2_does_129 (fun H locs hP hS => ?_)
    obtain ⟨g41, h⟩ := gd_inv h
    exact end_z X hr hk hP hS (Decidable.not_not.mp g41) h dX2_does_132
  rw [if_neg c42] at h
  by_cases c47 : a2 = 21
  · rw [if_pos c47] at h
    refine lv_tableIn (tgt := 133) hx hb dX2_does_23 (by rw [c47]; decide) (by rw [c47]; decide) (by rw [c47]; rfl) (by decide) ?_
    refine lv_aload_n hx hb dX2_does_133 rfl (lv_at hl 2 rfl) ?_
    refine lv_aload_n hx hb dX2_does_134 rfl (lv_at hl 3 rfl) ?_
    obtain ⟨r43, M44, hc45, h⟩ := bnd_inv h
    refine gV_i (As := [.ref (q a1)]) X hP hS hl.1 (c_X2_feedsAny l D cA q aK aV hq h1 hc45) sf_X2_feedsAny bw_1269 sv_X2_feedsAny (rcC_2 sC_25) rfl ⟨rfl, rfl⟩ ⟨Nat.le_of_ble_eq_true rfl, Nat.le_of_ble_eq_true rfl⟩ rfl rfl (Nat.le_of_ble_eq_true rfl) dX2_does_135 (fun H locs hP hS => ?_)
    obtain ⟨g46, h⟩ := gd_inv h
    exact end_z X hr hk hP hS (Decidable.not_not.mp g46) h dX2_does_138
  rw [if_neg c47] at h
  refine lv_tableOut (tgt := 139) hx hb dX2_does_23 (by have nc14 := lv_neT (a := 15) c14 (by decide); have nc22 := lv_neT (a := 16) c22 (by decide); have nc27 := lv_neT (a := 17) c27 (by decide); have nc32 := lv_neT (a := 18) c32 (by decide); have nc37 := lv_neT (a := 19) c37 (by decide); have nc42 := lv_neT (a := 20) c42 (by decide); have nc47 := lv_neT (a := 21) c47 (by decide); omega) (by decide) ?_
  refine lv_aload_n hx hb dX2_does_139 rfl (lv_at hl 2 rfl) ?_
  refine lv_iconst (v := 1) hx hb dX2_does_140 (by decide) ?_
  obtain ⟨M48, eM48, h⟩ := lt_inv h
  refine pfC_2_6 X hP hS sC_25 bw_414 (Or.inr rfl) eM48 dX2_does_141 (fun H locs hP hS => ?_)
  refine lv_iconst (v := 1) hx hb dX2_does_144 (by decide) ?_
  exact end_z X hr hk hP hS (Or.inr rfl) h dX2_does_145
theorem dX2_runSteps_0 : decode cX2_runSteps 0 = .ok (.aload_n 1, 1) := by decide +kernel
theorem dX2_runSteps_1 : decode cX2_runSteps 1 = .ok (.getfield 43, 3) := by decide +kernel
theorem dX2_runSteps_4 : decode cX2_runSteps 4 = .ok (.astore 5, 2) := by decide +kernel
theorem dX2_runSteps_6 : decode cX2_runSteps 6 = .ok (.iload_n 2, 1) := by decide +kernel
theorem dX2_runSteps_7 : decode cX2_runSteps 7 = .ok (.istore 6, 2) := by decide +kernel
theorem dX2_runSteps_9 : decode cX2_runSteps 9 = .ok (.iconst 0, 1) := by decide +kernel
theorem dX2_runSteps_10 : decode cX2_runSteps 10 = .ok (.istore 7, 2) := by decide +kernel
theorem dX2_runSteps_12 : decode cX2_runSteps 12 = .ok (.iload 7, 2) := by decide +kernel
theorem dX2_runSteps_14 : decode cX2_runSteps 14 = .ok (.bipush 30, 2) := by decide +kernel
theorem dX2_runSteps_16 : decode cX2_runSteps 16 = .ok (.if_icmp .ge 173, 3) := by decide +kernel
theorem dX2_runSteps_19 : decode cX2_runSteps 19 = .ok (.iload 6, 2) := by decide +kernel
theorem dX2_runSteps_21 : decode cX2_runSteps 21 = .ok (.iload_n 3, 1) := by decide +kernel
theorem dX2_runSteps_22 : decode cX2_runSteps 22 = .ok (.if_icmp .ge 167, 3) := by decide +kernel
theorem dX2_runSteps_25 : decode cX2_runSteps 25 = .ok (.aload_n 0, 1) := by decide +kernel
theorem dX2_runSteps_26 : decode cX2_runSteps 26 = .ok (.invokevirtual 51, 3) := by decide +kernel
theorem dX2_runSteps_29 : decode cX2_runSteps 29 = .ok (.ifCond .eq 160, 3) := by decide +kernel
theorem dX2_runSteps_32 : decode cX2_runSteps 32 = .ok (.aload 5, 2) := by decide +kernel
theorem dX2_runSteps_34 : decode cX2_runSteps 34 = .ok (.iload 6, 2) := by decide +kernel
theorem dX2_runSteps_36 : decode cX2_runSteps 36 = .ok (.iconst 0, 1) := by decide +kernel
theorem dX2_runSteps_37 : decode cX2_runSteps 37 = .ok (.invokevirtual 55, 3) := by decide +kernel
theorem dX2_runSteps_40 : decode cX2_runSteps 40 = .ok (.istore 8, 2) := by decide +kernel
theorem dX2_runSteps_42 : decode cX2_runSteps 42 = .ok (.iload 6, 2) := by decide +kernel
theorem dX2_runSteps_44 : decode cX2_runSteps 44 = .ok (.iconst 1, 1) := by decide +kernel
theorem dX2_runSteps_45 : decode cX2_runSteps 45 = .ok (.iadd, 1) := by decide +kernel
theorem dX2_runSteps_46 : decode cX2_runSteps 46 = .ok (.istore 9, 2) := by decide +kernel
theorem dX2_runSteps_48 : decode cX2_runSteps 48 = .ok (.iload 8, 2) := by decide +kernel
theorem dX2_runSteps_50 : decode cX2_runSteps 50 = .ok (.bipush 22, 2) := by decide +kernel
theorem dX2_runSteps_52 : decode cX2_runSteps 52 = .ok (.if_icmp .eq 10, 3) := by decide +kernel
theorem dX2_runSteps_55 : decode cX2_runSteps 55 = .ok (.iload 8, 2) := by decide +kernel
theorem dX2_runSteps_57 : decode cX2_runSteps 57 = .ok (.bipush 23, 2) := by decide +kernel
theorem dX2_runSteps_59 : decode cX2_runSteps 59 = .ok (.if_icmp .ne 94, 3) := by decide +kernel
theorem dX2_runSteps_62 : decode cX2_runSteps 62 = .ok (.aload 5, 2) := by decide +kernel
theorem dX2_runSteps_64 : decode cX2_runSteps 64 = .ok (.iload 6, 2) := by decide +kernel
theorem dX2_runSteps_66 : decode cX2_runSteps 66 = .ok (.iconst 4, 1) := by decide +kernel
theorem dX2_runSteps_67 : decode cX2_runSteps 67 = .ok (.invokevirtual 55, 3) := by decide +kernel
theorem dX2_runSteps_70 : decode cX2_runSteps 70 = .ok (.istore 9, 2) := by decide +kernel
theorem dX2_runSteps_72 : decode cX2_runSteps 72 = .ok (.iload 8, 2) := by decide +kernel
theorem dX2_runSteps_74 : decode cX2_runSteps 74 = .ok (.bipush 23, 2) := by decide +kernel
theorem dX2_runSteps_76 : decode cX2_runSteps 76 = .ok (.if_icmp .ne 14, 3) := by decide +kernel
theorem dX2_runSteps_79 : decode cX2_runSteps 79 = .ok (.aload 5, 2) := by decide +kernel
theorem dX2_runSteps_81 : decode cX2_runSteps 81 = .ok (.iload 6, 2) := by decide +kernel
theorem dX2_runSteps_83 : decode cX2_runSteps 83 = .ok (.iconst 2, 1) := by decide +kernel
theorem dX2_runSteps_84 : decode cX2_runSteps 84 = .ok (.invokevirtual 55, 3) := by decide +kernel
theorem dX2_runSteps_87 : decode cX2_runSteps 87 = .ok (.goto 17, 3) := by decide +kernel
theorem dX2_runSteps_90 : decode cX2_runSteps 90 = .ok (.aload_n 1, 1) := by decide +kernel
theorem dX2_runSteps_91 : decode cX2_runSteps 91 = .ok (.iload 6, 2) := by decide +kernel
theorem dX2_runSteps_93 : decode cX2_runSteps 93 = .ok (.invokestatic 59, 3) := by decide +kernel
theorem dX2_runSteps_96 : decode cX2_runSteps 96 = .ok (.ifCond .eq 7, 3) := by decide +kernel
theorem dX2_runSteps_99 : decode cX2_runSteps 99 = .ok (.iconst 1, 1) := by decide +kernel
theorem dX2_runSteps_100 : decode cX2_runSteps 100 = .ok (.goto 4, 3) := by decide +kernel
theorem dX2_runSteps_103 : decode cX2_runSteps 103 = .ok (.iconst 0, 1) := by decide +kernel
theorem dX2_runSteps_104 : decode cX2_runSteps 104 = .ok (.istore 10, 2) := by decide +kernel
theorem dX2_runSteps_106 : decode cX2_runSteps 106 = .ok (.iconst 0, 1) := by decide +kernel
theorem dX2_runSteps_107 : decode cX2_runSteps 107 = .ok (.istore 11, 2) := by decide +kernel
theorem dX2_runSteps_109 : decode cX2_runSteps 109 = .ok (.iload 11, 2) := by decide +kernel
theorem dX2_runSteps_111 : decode cX2_runSteps 111 = .ok (.iload 10, 2) := by decide +kernel
theorem dX2_runSteps_113 : decode cX2_runSteps 113 = .ok (.if_icmp .ge 37, 3) := by decide +kernel
theorem dX2_runSteps_116 : decode cX2_runSteps 116 = .ok (.iload 4, 2) := by decide +kernel
theorem dX2_runSteps_118 : decode cX2_runSteps 118 = .ok (.iconst 3, 1) := by decide +kernel
theorem dX2_runSteps_119 : decode cX2_runSteps 119 = .ok (.if_icmp .ge 31, 3) := by decide +kernel
theorem dX2_runSteps_122 : decode cX2_runSteps 122 = .ok (.aload_n 0, 1) := by decide +kernel
theorem dX2_runSteps_123 : decode cX2_runSteps 123 = .ok (.getfield 32, 3) := by decide +kernel
theorem dX2_runSteps_126 : decode cX2_runSteps 126 = .ok (.ifCond .ne 24, 3) := by decide +kernel
theorem dX2_runSteps_129 : decode cX2_runSteps 129 = .ok (.aload_n 0, 1) := by decide +kernel
theorem dX2_runSteps_130 : decode cX2_runSteps 130 = .ok (.aload_n 1, 1) := by decide +kernel
theorem dX2_runSteps_131 : decode cX2_runSteps 131 = .ok (.iload 6, 2) := by decide +kernel
theorem dX2_runSteps_133 : decode cX2_runSteps 133 = .ok (.iconst 1, 1) := by decide +kernel
theorem dX2_runSteps_134 : decode cX2_runSteps 134 = .ok (.iadd, 1) := by decide +kernel
theorem dX2_runSteps_135 : decode cX2_runSteps 135 = .ok (.iload 9, 2) := by decide +kernel
theorem dX2_runSteps_137 : decode cX2_runSteps 137 = .ok (.iload 4, 2) := by decide +kernel
theorem dX2_runSteps_139 : decode cX2_runSteps 139 = .ok (.iconst 1, 1) := by decide +kernel
theorem dX2_runSteps_140 : decode cX2_runSteps 140 = .ok (.iadd, 1) := by decide +kernel
theorem dX2_runSteps_141 : decode cX2_runSteps 141 = .ok (.invokestatic 63, 3) := by decide +kernel
theorem dX2_runSteps_144 : decode cX2_runSteps 144 = .ok (.iinc 11 1, 3) := by decide +kernel
theorem dX2_runSteps_147 : decode cX2_runSteps 147 = .ok (.goto (-38), 3) := by decide +kernel
theorem dX2_runSteps_150 : decode cX2_runSteps 150 = .ok (.goto 29, 3) := by decide +kernel
theorem dX2_runSteps_153 : decode cX2_runSteps 153 = .ok (.aload_n 0, 1) := by decide +kernel
theorem dX2_runSteps_154 : decode cX2_runSteps 154 = .ok (.dup, 1) := by decide +kernel
theorem dX2_runSteps_155 : decode cX2_runSteps 155 = .ok (.getfield 26, 3) := by decide +kernel
theorem dX2_runSteps_158 : decode cX2_runSteps 158 = .ok (.aload_n 0, 1) := by decide +kernel
theorem dX2_runSteps_159 : decode cX2_runSteps 159 = .ok (.aload_n 1, 1) := by decide +kernel
theorem dX2_runSteps_160 : decode cX2_runSteps 160 = .ok (.iload 8, 2) := by decide +kernel
theorem dX2_runSteps_162 : decode cX2_runSteps 162 = .ok (.iload 6, 2) := by decide +kernel
theorem dX2_runSteps_164 : decode cX2_runSteps 164 = .ok (.invokevirtual 67, 3) := by decide +kernel
theorem dX2_runSteps_167 : decode cX2_runSteps 167 = .ok (.ifCond .eq 7, 3) := by decide +kernel
theorem dX2_runSteps_170 : decode cX2_runSteps 170 = .ok (.iconst 0, 1) := by decide +kernel
theorem dX2_runSteps_171 : decode cX2_runSteps 171 = .ok (.goto 4, 3) := by decide +kernel
theorem dX2_runSteps_174 : decode cX2_runSteps 174 = .ok (.iconst 1, 1) := by decide +kernel
theorem dX2_runSteps_175 : decode cX2_runSteps 175 = .ok (.iadd, 1) := by decide +kernel
theorem dX2_runSteps_176 : decode cX2_runSteps 176 = .ok (.putfield 26, 3) := by decide +kernel
theorem dX2_runSteps_179 : decode cX2_runSteps 179 = .ok (.iload 9, 2) := by decide +kernel
theorem dX2_runSteps_181 : decode cX2_runSteps 181 = .ok (.istore 6, 2) := by decide +kernel
theorem dX2_runSteps_183 : decode cX2_runSteps 183 = .ok (.iinc 7 1, 3) := by decide +kernel
theorem dX2_runSteps_186 : decode cX2_runSteps 186 = .ok (.goto (-174), 3) := by decide +kernel
theorem dX2_runSteps_189 : decode cX2_runSteps 189 = .ok (.return_, 1) := by decide +kernel
set_option maxRecDepth 100000 in
set_option maxHeartbeats 8000000 in
theorem c_X2_runSteps (d : Nat) (l : Launch) (D : va_G) (cA : Nat → ClassId) (q aK aV : Nat → Nat) (hq : injG 167 q) : ∀ (a1 : Nat) (a2 : Int32) (a3 : Int32) (a4 : Int32) (M M0 : Mem) (h1 : shC a1 = 0) (_ : f_X2_runSteps d a1 a2 a3 a4 M = some ((), M0)), Met l yX2_runSteps (.code yX2_runSteps cX2_runSteps 12 none :: BW) ({ frames := 7 + d, cells := 0, slots := 0, locals := 160 + 31 * d } : Room) (va_Pc [.ref (q 25), .ref (q a1), .int a2, .int a3, .int a4] (CB 167 (ceC cA q) D cA q aK aV M)) (Qv 167 (ceC cA q) D q M0) 0 0 (AqG 167 q) := by
  induction d with
  | zero => intro a1 a2 a3 a4 M M0 h1 h; exact absurd h (by simp [f_X2_runSteps])
  | succ d ihd =>
    intro a1 a2 a3 a4 M M0 h1 h
    refine gMet RX2 (by decide +kernel) rfl hq (Nat.le_of_ble_eq_true rfl) ?_
    intro p e s m below meth c ls X hr hk hP hS hl
    have hx := X.1
    have hb := X.2.1
    have hl : lv_has ls 12 [(0, .ref (q 25)), (1, .ref (q a1)), (2, .int a2), (3, .int a3), (4, .int a4)] := hl
    rw [f_X2_runSteps] at h
    have hL12 : ∀ (b5 : Nat) (hb5 : shC b5 = 9) (fu : Nat) (b6 : Int32) (b7 : Int32) (M : Mem) (res : (Unit) × Mem) (H : Heap) (locs : List Loc) (ls : Array Slot), f_X2_runSteps_L12 (f_X2_runSteps d) a1 a3 a4 b5 fu b6 b7 M = some res → va_P D vwCl (wsG 167 (ceC cA q) q M) H → va_S (AqG 167 q) s.heap H locs → lv_has ls 12 [(0, .ref (q 25)), (1, .ref (q a1)), (3, .int a3), (4, .int a4), (5, .ref (q b5)), (6, .int b6), (7, .int b7)] → (∀ (H : Heap) (locs : List Loc) (ls : Array Slot), va_P D vwCl (wsG 167 (ceC cA q) q res.2) H → va_S (AqG 167 q) s.heap H locs → lv_has ls 12 [] → W p l e ({ frames := 7 + (d + 1), cells := 0, slots := 0, locals := 160 + 31 * (d + 1) } : Room) s m [.ref (q 25), .ref (q a1), .int a2, .int a3, .int a4].toArray below meth c H locs 0 0 (MQ below (Qv 167 (ceC cA q) D q M0) [.ref (q 25), .ref (q a1), .int a2, .int a3, .int a4].toArray s 0 0 (AqG 167 q)) (F0 m 189 ls [])) → W p l e ({ frames := 7 + (d + 1), cells := 0, slots := 0, locals := 160 + 31 * (d + 1) } : Room) s m [.ref (q 25), .ref (q a1), .int a2, .int a3, .int a4].toArray below meth c H locs 0 0 (MQ below (Qv 167 (ceC cA q) D q M0) [.ref (q 25), .ref (q a1), .int a2, .int a3, .int a4].toArray s 0 0 (AqG 167 q)) (F0 m 12 ls []) := by
      intro b5 hb5 fu
      induction fu with
      | zero => intro b6 b7 M res H locs ls h; exact absurd h (by simp [f_X2_runSteps_L12])
      | succ fu ih =>
        intro b6 b7 M res H locs ls h hP hS hl K12_0
        rw [f_X2_runSteps_L12] at h
        have hL109 : ∀ (b5 : Nat) (hb5 : shC b5 = 9) (b6 : Int32) (b7 : Int32) (b9 : Int32) (b10 : Int32) (fu : Nat) (b11 : Int32) (M : Mem) (res : (Unit) × Mem) (H : Heap) (locs : List Loc) (ls : Array Slot), f_X2_runSteps_L109 (f_X2_runSteps d) a1 a3 a4 b5 b6 b7 b9 b10 fu b11 M = some res → va_P D vwCl (wsG 167 (ceC cA q) q M) H → va_S (AqG 167 q) s.heap H locs → lv_has ls 12 [(0, .ref (q 25)), (1, .ref (q a1)), (3, .int a3), (4, .int a4), (5, .ref (q b5)), (6, .int b6), (7, .int b7), (9, .int b9), (10, .int b10), (11, .int b11)] → (∀ (H : Heap) (locs : List Loc) (ls : Array Slot), va_P D vwCl (wsG 167 (ceC cA q) q res.2) H → va_S (AqG 167 q) s.heap H locs → lv_has ls 12 [(0, .ref (q 25)), (1, .ref (q a1)), (3, .int a3), (4, .int a4), (5, .ref (q b5)), (7, .int b7), (9, .int b9)] → W p l e ({ frames := 7 + (d + 1), cells := 0, slots := 0, locals := 160 + 31 * (d + 1) } : Room) s m [.ref (q 25), .ref (q a1), .int a2, .int a3, .int a4].toArray below meth c H locs 0 0 (MQ below (Qv 167 (ceC cA q) D q M0) [.ref (q 25), .ref (q a1), .int a2, .int a3, .int a4].toArray s 0 0 (AqG 167 q)) (F0 m 150 ls [])) → W p l e ({ frames := 7 + (d + 1), cells := 0, slots := 0, locals := 160 + 31 * (d + 1) } : Room) s m [.ref (q 25), .ref (q a1), .int a2, .int a3, .int a4].toArray below meth c H locs 0 0 (MQ below (Qv 167 (ceC cA q) D q M0) [.ref (q 25), .ref (q a1), .int a2, .int a3, .int a4].toArray s 0 0 (AqG 167 q)) (F0 m 109 ls []) := by
          intro b5 hb5 b6 b7 b9 b10 fu
          induction fu with
          | zero => intro b11 M res H locs ls h; exact absurd h (by simp [f_X2_runSteps_L109])
          | succ fu ih =>
            intro b11 M res H locs ls h hP hS hl K109_0
            rw [f_X2_runSteps_L109] at h
            refine lv_iload hx hb dX2_runSteps_109 (lv_at hl 9 rfl) ?_
            refine lv_iload hx hb dX2_runSteps_111 (lv_at hl 8 rfl) ?_
            refine lv_icmp_ge (tgt := 150) hx hb dX2_runSteps_113 (by decide) (fun c39 => ?_) (fun c39 => ?_)
            · rw [if_pos c39] at h
              cases h
              exact K109_0 _ _ _ hP hS (lv_sub hl [0, 1, 2, 3, 4, 6, 7] rfl)
            · rw [if_neg c39] at h
              refine lv_iload hx hb dX2_runSteps_116 (lv_at hl 3 rfl) ?_
              refine lv_iconst (v := 3) hx hb dX2_runSteps_118 (by decide) ?_
              refine lv_icmp_ge (tgt := 150) hx hb dX2_runSteps_119 (by decide) (fun c40 => ?_) (fun c40 => ?_)
              · rw [if_pos c40] at h
                cases h
                exact K109_0 _ _ _ hP hS (lv_sub hl [0, 1, 2, 3, 4, 6, 7] rfl)
              · rw [if_neg c40] at h
                refine lv_aload_n hx hb dX2_runSteps_122 rfl (lv_at hl 0 rfl) ?_
                refine gfC_2_6 X hP sC_25 bw_414 dX2_runSteps_123 ?_
                refine lv_if_ne (tgt := 150) hx hb dX2_runSteps_126 (by decide) (fun c41 => ?_) (fun c41 => ?_)
                · rw [if_neg c41] at h
                  cases h
                  exact K109_0 _ _ _ hP hS (lv_sub hl [0, 1, 2, 3, 4, 6, 7] rfl)
                · rw [if_pos c41] at h
                  refine lv_aload_n hx hb dX2_runSteps_129 rfl (lv_at hl 0 rfl) ?_
                  refine lv_aload_n hx hb dX2_runSteps_130 rfl (lv_at hl 1 rfl) ?_
                  refine lv_iload hx hb dX2_runSteps_131 (lv_at hl 5 rfl) ?_
                  refine lv_iconst (v := 1) hx hb dX2_runSteps_133 (by decide) ?_
                  refine lv_iadd hx hb dX2_runSteps_134 ?_
                  refine lv_iload hx hb dX2_runSteps_135 (lv_at hl 7 rfl) ?_
                  refine lv_iload hx hb dX2_runSteps_137 (lv_at hl 3 rfl) ?_
                  refine lv_iconst (v := 1) hx hb dX2_runSteps_139 (by decide) ?_
                  refine lv_iadd hx hb dX2_runSteps_140 ?_
                  obtain ⟨_, M43, hc44, h⟩ := bnd_inv h
                  refine gS_v (As := [.ref (q 25), .ref (q a1), .int (b6 + (1 : Int32)), .int b9, .int (a4 + (1 : Int32))]) X hP hS hl.1 (ihd _ _ _ _ _ _  h1 hc44) sf_X2_runSteps bw_1251 ss_X2_runSteps ⟨rfl, rfl⟩ ⟨by dsimp only; omega, by dsimp only; omega⟩ rfl rfl (Nat.le_of_ble_eq_true rfl) dX2_runSteps_141 (fun H locs hP hS => ?_)
                  obtain ⟨y45, ey45, h⟩ := lt_inv h
                  refine lv_iinc (v := y45) (lv' := [(11, .int y45), (0, .ref (q 25)), (1, .ref (q a1)), (3, .int a3), (4, .int a4), (5, .ref (q b5)), (6, .int b6), (7, .int b7), (9, .int b9), (10, .int b10)]) hx hb dX2_runSteps_144 hl (k := 9) rfl (by rw [ey45]; rfl) (by decide) rfl (fun ls hl => ?_)
                  refine lv_goto (tgt := 109) hx hb dX2_runSteps_147 (by decide) ?_
                  exact ih _ _ res _ _ _ h hP hS (lv_sub hl [1, 2, 3, 4, 5, 6, 7, 8, 9, 0] rfl) K109_0
        have hJ104 : ∀ (b6 : Int32) (b7 : Int32) (b9 : Int32) (s0 : Int32) (M : Mem) (H : Heap) (locs : List Loc) (ls : Array Slot), f_X2_runSteps_J104 (f_X2_runSteps d) (f_X2_runSteps_L12 (f_X2_runSteps d) a1 a3 a4 b5 fu) a1 a3 a4 b5 b6 b7 b9 s0 M = some res → va_P D vwCl (wsG 167 (ceC cA q) q M) H → va_S (AqG 167 q) s.heap H locs → lv_has ls 12 [(0, .ref (q 25)), (1, .ref (q a1)), (3, .int a3), (4, .int a4), (5, .ref (q b5)), (6, .int b6), (7, .int b7), (9, .int b9)] → W p l e ({ frames := 7 + (d + 1), cells := 0, slots := 0, locals := 160 + 31 * (d + 1) } : Room) s m [.ref (q 25), .ref (q a1), .int a2, .int a3, .int a4].toArray below meth c H locs 0 0 (MQ below (Qv 167 (ceC cA q) D q M0) [.ref (q 25), .ref (q a1), .int a2, .int a3, .int a4].toArray s 0 0 (AqG 167 q)) (F0 m 104 ls [.int s0]) := by
          intro b6 b7 b9 s0 M H locs ls h hP hS hl
          rw [f_X2_runSteps_J104] at h
          refine lv_istore (lv' := [(10, .int s0), (0, .ref (q 25)), (1, .ref (q a1)), (3, .int a3), (4, .int a4), (5, .ref (q b5)), (6, .int b6), (7, .int b7), (9, .int b9)]) hx hb dX2_runSteps_104 hl (by decide) rfl (fun ls hl => ?_)
          refine lv_iconst (v := 0) hx hb dX2_runSteps_106 (by decide) ?_
          refine lv_istore (lv' := [(11, .int (0 : Int32)), (10, .int s0), (0, .ref (q 25)), (1, .ref (q a1)), (3, .int a3), (4, .int a4), (5, .ref (q b5)), (6, .int b6), (7, .int b7), (9, .int b9)]) hx hb dX2_runSteps_107 hl (by decide) rfl (fun ls hl => ?_)
          obtain ⟨s35, M36, hc37, h⟩ := bnd_inv h
          try dsimp only at h
          refine hL109 _ hb5 _ _ _ _ fz _ _ _ _ _ _ hc37 hP hS (lv_sub hl [2, 3, 4, 5, 6, 7, 8, 9, 1, 0] rfl) (fun H locs ls hP hS hl => ?_)
          have hl : lv_has ls 12 [(0, .ref (q 25)), (1, .ref (q a1)), (3, .int a3), (4, .int a4), (5, .ref (q b5)), (7, .int b7), (9, .int b9)] := hl
          refine lv_goto (tgt := 179) hx hb dX2_runSteps_150 (by decide) ?_
          refine lv_iload hx hb dX2_runSteps_179 (lv_at hl 6 rfl) ?_
          refine lv_istore (lv' := [(6, .int b9), (0, .ref (q 25)), (1, .ref (q a1)), (3, .int a3), (4, .int a4), (5, .ref (q b5)), (7, .int b7), (9, .int b9)]) hx hb dX2_runSteps_181 hl (by decide) rfl (fun ls hl => ?_)
          obtain ⟨y38, ey38, h⟩ := lt_inv h
          refine lv_iinc (v := y38) (lv' := [(7, .int y38), (6, .int b9), (0, .ref (q 25)), (1, .ref (q a1)), (3, .int a3), (4, .int a4), (5, .ref (q b5)), (9, .int b9)]) hx hb dX2_runSteps_183 hl (k := 6) rfl (by rw [ey38]; rfl) (by decide) rfl (fun ls hl => ?_)
          refine lv_goto (tgt := 12) hx hb dX2_runSteps_186 (by decide) ?_
          exact ih _ _ _ res _ _ _ h hP hS (lv_sub hl [2, 3, 4, 5, 6, 1, 0] rfl) K12_0
        have hJ62 : ∀ (b6 : Int32) (b7 : Int32) (b8 : Int32) (M : Mem) (H : Heap) (locs : List Loc) (ls : Array Slot), f_X2_runSteps_J62 (f_X2_runSteps d) (f_X2_runSteps_L12 (f_X2_runSteps d) a1 a3 a4 b5 fu) a1 a3 a4 b5 b6 b7 b8 M = some res → va_P D vwCl (wsG 167 (ceC cA q) q M) H → va_S (AqG 167 q) s.heap H locs → lv_has ls 12 [(0, .ref (q 25)), (1, .ref (q a1)), (3, .int a3), (4, .int a4), (5, .ref (q b5)), (6, .int b6), (7, .int b7), (8, .int b8)] → W p l e ({ frames := 7 + (d + 1), cells := 0, slots := 0, locals := 160 + 31 * (d + 1) } : Room) s m [.ref (q 25), .ref (q a1), .int a2, .int a3, .int a4].toArray below meth c H locs 0 0 (MQ below (Qv 167 (ceC cA q) D q M0) [.ref (q 25), .ref (q a1), .int a2, .int a3, .int a4].toArray s 0 0 (AqG 167 q)) (F0 m 62 ls []) := by
          intro b6 b7 b8 M H locs ls h hP hS hl
          rw [f_X2_runSteps_J62] at h
          refine lv_aload hx hb dX2_runSteps_62 (lv_at hl 4 rfl) ?_
          refine lv_iload hx hb dX2_runSteps_64 (lv_at hl 5 rfl) ?_
          refine lv_iconst (v := 4) hx hb dX2_runSteps_66 (by decide) ?_
          obtain ⟨r24, M25, hc26, h⟩ := bnd_inv h
          refine gV_i (As := [.int b6, .int (4 : Int32)]) X hP hS hl.1 (c_X9_cellAt l D cA q aK aV hq hb5 hc26) sf_X9_cellAt bw_1241 sv_X9_cellAt (rcC_9 hb5) rfl ⟨rfl, rfl⟩ ⟨by dsimp only; omega, by dsimp only; omega⟩ rfl rfl (Nat.le_of_ble_eq_true rfl) dX2_runSteps_67 (fun H locs hP hS => ?_)
          refine lv_istore (lv' := [(9, .int r24), (0, .ref (q 25)), (1, .ref (q a1)), (3, .int a3), (4, .int a4), (5, .ref (q b5)), (6, .int b6), (7, .int b7), (8, .int b8)]) hx hb dX2_runSteps_70 hl (by decide) rfl (fun ls hl => ?_)
          refine lv_iload hx hb dX2_runSteps_72 (lv_at hl 8 rfl) ?_
          refine lv_bipush (v := 23) hx hb dX2_runSteps_74 (by decide) ?_
          refine lv_icmp_ne (tgt := 90) hx hb dX2_runSteps_76 (by decide) (fun c27 => ?_) (fun c27 => ?_)
          · rw [if_neg c27] at h
            refine lv_aload_n hx hb dX2_runSteps_90 rfl (lv_at hl 2 rfl) ?_
            refine lv_iload hx hb dX2_runSteps_91 (lv_at hl 6 rfl) ?_
            obtain ⟨r28, M29, hc30, h⟩ := bnd_inv h
            refine gS_i (As := [.ref (q a1), .int b6]) X hP hS hl.1 (c_X2_holds l D cA q aK aV hq h1 hc30) sf_X2_holds bw_1246 ss_X2_holds ⟨rfl, rfl⟩ ⟨by dsimp only; omega, by dsimp only; omega⟩ rfl rfl (Nat.le_of_ble_eq_true rfl) dX2_runSteps_93 (fun H locs hP hS => ?_)
            refine lv_if_eq (tgt := 103) hx hb dX2_runSteps_96 (by decide) (fun c31 => ?_) (fun c31 => ?_)
            · rw [if_pos c31] at h
              refine lv_iconst (v := 0) hx hb dX2_runSteps_103 (by decide) ?_
              exact hJ104 _ _ _ _ _ _ _ _ h hP hS (lv_sub hl [1, 2, 3, 4, 5, 6, 7, 0] rfl)
            · rw [if_neg c31] at h
              refine lv_iconst (v := 1) hx hb dX2_runSteps_99 (by decide) ?_
              refine lv_goto (tgt := 104) hx hb dX2_runSteps_100 (by decide) ?_
              exact hJ104 _ _ _ _ _ _ _ _ h hP hS (lv_sub hl [1, 2, 3, 4, 5, 6, 7, 0] rfl)
          · rw [if_pos c27] at h
            refine lv_aload hx hb dX2_runSteps_79 (lv_at hl 5 rfl) ?_
            refine lv_iload hx hb dX2_runSteps_81 (lv_at hl 6 rfl) ?_
            refine lv_iconst (v := 2) hx hb dX2_runSteps_83 (by decide) ?_
            obtain ⟨r32, M33, hc34, h⟩ := bnd_inv h
            refine gV_i (As := [.int b6, .int (2 : Int32)]) X hP hS hl.1 (c_X9_cellAt l D cA q aK aV hq hb5 hc34) sf_X9_cellAt bw_1241 sv_X9_cellAt (rcC_9 hb5) rfl ⟨rfl, rfl⟩ ⟨by dsimp only; omega, by dsimp only; omega⟩ rfl rfl (Nat.le_of_ble_eq_true rfl) dX2_runSteps_84 (fun H locs hP hS => ?_)
            refine lv_goto (tgt := 104) hx hb dX2_runSteps_87 (by decide) ?_
            exact hJ104 _ _ _ _ _ _ _ _ h hP hS (lv_sub hl [1, 2, 3, 4, 5, 6, 7, 0] rfl)
        refine lv_iload hx hb dX2_runSteps_12 (lv_at hl 6 rfl) ?_
        refine lv_bipush (v := 30) hx hb dX2_runSteps_14 (by decide) ?_
        refine lv_icmp_ge (tgt := 189) hx hb dX2_runSteps_16 (by decide) (fun c4 => ?_) (fun c4 => ?_)
        · rw [if_pos c4] at h
          cases h
          exact K12_0 _ _ _ hP hS (lv_sub hl [] rfl)
        · rw [if_neg c4] at h
          refine lv_iload hx hb dX2_runSteps_19 (lv_at hl 5 rfl) ?_
          refine lv_iload_n hx hb dX2_runSteps_21 rfl (lv_at hl 2 rfl) ?_
          refine lv_icmp_ge (tgt := 189) hx hb dX2_runSteps_22 (by decide) (fun c5 => ?_) (fun c5 => ?_)
          · rw [if_pos c5] at h
            cases h
            exact K12_0 _ _ _ hP hS (lv_sub hl [] rfl)
          · rw [if_neg c5] at h
            refine lv_aload_n hx hb dX2_runSteps_25 rfl (lv_at hl 0 rfl) ?_
            obtain ⟨r6, M7, hc8, h⟩ := bnd_inv h
            refine gV_i (As := []) X hP hS hl.1 (c_X2_comesTo l D cA q aK aV hq hc8) sf_X2_comesTo bw_1237 sv_X2_comesTo (rcC_2 sC_25) rfl ⟨rfl, rfl⟩ ⟨by dsimp only; omega, by dsimp only; omega⟩ rfl rfl (Nat.le_of_ble_eq_true rfl) dX2_runSteps_26 (fun H locs hP hS => ?_)
            refine lv_if_eq (tgt := 189) hx hb dX2_runSteps_29 (by decide) (fun c9 => ?_) (fun c9 => ?_)
            · rw [if_pos c9] at h
              cases h
              exact K12_0 _ _ _ hP hS (lv_sub hl [] rfl)
            · rw [if_neg c9] at h
              refine lv_aload hx hb dX2_runSteps_32 (lv_at hl 4 rfl) ?_
              refine lv_iload hx hb dX2_runSteps_34 (lv_at hl 5 rfl) ?_
              refine lv_iconst (v := 0) hx hb dX2_runSteps_36 (by decide) ?_
              obtain ⟨r10, M11, hc12, h⟩ := bnd_inv h
              refine gV_i (As := [.int b6, .int (0 : Int32)]) X hP hS hl.1 (c_X9_cellAt l D cA q aK aV hq hb5 hc12) sf_X9_cellAt bw_1241 sv_X9_cellAt (rcC_9 hb5) rfl ⟨rfl, rfl⟩ ⟨by dsimp only; omega, by dsimp only; omega⟩ rfl rfl (Nat.le_of_ble_eq_true rfl) dX2_runSteps_37 (fun H locs hP hS => ?_)
              refine lv_istore (lv' := [(8, .int r10), (0, .ref (q 25)), (1, .ref (q a1)), (3, .int a3), (4, .int a4), (5, .ref (q b5)), (6, .int b6), (7, .int b7)]) hx hb dX2_runSteps_40 hl (by decide) rfl (fun ls hl => ?_)
              refine lv_iload hx hb dX2_runSteps_42 (lv_at hl 6 rfl) ?_
              refine lv_iconst (v := 1) hx hb dX2_runSteps_44 (by decide) ?_
              refine lv_iadd hx hb dX2_runSteps_45 ?_
              obtain ⟨y13, ey13, h⟩ := lt_inv h
              refine topE ey13 ?_
              refine lv_istore (lv' := [(9, .int y13), (8, .int r10), (0, .ref (q 25)), (1, .ref (q a1)), (3, .int a3), (4, .int a4), (5, .ref (q b5)), (6, .int b6), (7, .int b7)]) hx hb dX2_runSteps_46 hl (by decide) rfl (fun ls hl => ?_)
              refine lv_iload hx hb dX2_runSteps_48 (lv_at hl 1 rfl) ?_
              refine lv_bipush (v := 22) hx hb dX2_runSteps_50 (by decide) ?_
              refine lv_icmp_eq (tgt := 62) hx hb dX2_runSteps_52 (by decide) (fun c14 => ?_) (fun c14 => ?_)
              · rw [if_pos c14] at h
                exact hJ62 _ _ _ _ _ _ _ h hP hS (lv_sub hl [2, 3, 4, 5, 6, 7, 8, 1] rfl)
              · rw [if_neg c14] at h
                refine lv_iload hx hb dX2_runSteps_55 (lv_at hl 1 rfl) ?_
                refine lv_bipush (v := 23) hx hb dX2_runSteps_57 (by decide) ?_
                refine lv_icmp_ne (tgt := 153) hx hb dX2_runSteps_59 (by decide) (fun c15 => ?_) (fun c15 => ?_)
                · rw [if_neg c15] at h
                  refine lv_aload_n hx hb dX2_runSteps_153 rfl (lv_at hl 2 rfl) ?_
                  refine lv_dup hx hb dX2_runSteps_154 rfl ?_
                  refine gfC_2_4 X hP sC_25 bw_412 dX2_runSteps_155 ?_
                  refine lv_aload_n hx hb dX2_runSteps_158 rfl (lv_at hl 2 rfl) ?_
                  refine lv_aload_n hx hb dX2_runSteps_159 rfl (lv_at hl 3 rfl) ?_
                  refine lv_iload hx hb dX2_runSteps_160 (lv_at hl 1 rfl) ?_
                  refine lv_iload hx hb dX2_runSteps_162 (lv_at hl 7 rfl) ?_
                  obtain ⟨r16, M17, hc18, h⟩ := bnd_inv h
                  refine gV_i (As := [.ref (q a1), .int r10, .int b6]) X hP hS hl.1 (c_X2_does l D cA q aK aV hq h1 hc18) sf_X2_does bw_1252 sv_X2_does (rcC_2 sC_25) rfl ⟨rfl, rfl⟩ ⟨by dsimp only; omega, by dsimp only; omega⟩ rfl rfl (Nat.le_of_ble_eq_true rfl) dX2_runSteps_164 (fun H locs hP hS => ?_)
                  refine lv_if_eq (tgt := 174) hx hb dX2_runSteps_167 (by decide) (fun c19 => ?_) (fun c19 => ?_)
                  · rw [if_pos c19] at h
                    refine lv_iconst (v := 1) hx hb dX2_runSteps_174 (by decide) ?_
                    refine lv_iadd hx hb dX2_runSteps_175 ?_
                    obtain ⟨M20, eM20, h⟩ := lt_inv h
                    refine pfC_2_4 X hP hS sC_25 bw_412 eM20 dX2_runSteps_176 (fun H locs hP hS => ?_)
                    refine lv_iload hx hb dX2_runSteps_179 (lv_at hl 0 rfl) ?_
                    refine lv_istore (lv' := [(6, .int y13), (9, .int y13), (8, .int r10), (0, .ref (q 25)), (1, .ref (q a1)), (3, .int a3), (4, .int a4), (5, .ref (q b5)), (7, .int b7)]) hx hb dX2_runSteps_181 hl (by decide) rfl (fun ls hl => ?_)
                    obtain ⟨y21, ey21, h⟩ := lt_inv h
                    refine lv_iinc (v := y21) (lv' := [(7, .int y21), (6, .int y13), (9, .int y13), (8, .int r10), (0, .ref (q 25)), (1, .ref (q a1)), (3, .int a3), (4, .int a4), (5, .ref (q b5))]) hx hb dX2_runSteps_183 hl (k := 8) rfl (by rw [ey21]; rfl) (by decide) rfl (fun ls hl => ?_)
                    refine lv_goto (tgt := 12) hx hb dX2_runSteps_186 (by decide) ?_
                    exact ih _ _ _ res _ _ _ h hP hS (lv_sub hl [4, 5, 6, 7, 8, 1, 0] rfl) K12_0
                  · rw [if_neg c19] at h
                    refine lv_iconst (v := 0) hx hb dX2_runSteps_170 (by decide) ?_
                    refine lv_goto (tgt := 175) hx hb dX2_runSteps_171 (by decide) ?_
                    refine lv_iadd hx hb dX2_runSteps_175 ?_
                    obtain ⟨M22, eM22, h⟩ := lt_inv h
                    refine pfC_2_4 X hP hS sC_25 bw_412 eM22 dX2_runSteps_176 (fun H locs hP hS => ?_)
                    refine lv_iload hx hb dX2_runSteps_179 (lv_at hl 0 rfl) ?_
                    refine lv_istore (lv' := [(6, .int y13), (9, .int y13), (8, .int r10), (0, .ref (q 25)), (1, .ref (q a1)), (3, .int a3), (4, .int a4), (5, .ref (q b5)), (7, .int b7)]) hx hb dX2_runSteps_181 hl (by decide) rfl (fun ls hl => ?_)
                    obtain ⟨y23, ey23, h⟩ := lt_inv h
                    refine lv_iinc (v := y23) (lv' := [(7, .int y23), (6, .int y13), (9, .int y13), (8, .int r10), (0, .ref (q 25)), (1, .ref (q a1)), (3, .int a3), (4, .int a4), (5, .ref (q b5))]) hx hb dX2_runSteps_183 hl (k := 8) rfl (by rw [ey23]; rfl) (by decide) rfl (fun ls hl => ?_)
                    refine lv_goto (tgt := 12) hx hb dX2_runSteps_186 (by decide) ?_
                    exact ih _ _ _ res _ _ _ h hP hS (lv_sub hl [4, 5, 6, 7, 8, 1, 0] rfl) K12_0
                · rw [if_pos c15] at h
                  exact hJ62 _ _ _ _ _ _ _ h hP hS (lv_sub hl [2, 3, 4, 5, 6, 7, 8, 1] rfl)
    refine lv_aload_n hx hb dX2_runSteps_0 rfl (lv_at hl 1 rfl) ?_
    refine gfC_0_9 X hP h1 bw_163 dX2_runSteps_1 ?_
    refine lv_astore (lv' := [(5, .ref (q (a1 + 24))), (0, .ref (q 25)), (1, .ref (q a1)), (2, .int a2), (3, .int a3), (4, .int a4)]) hx hb dX2_runSteps_4 hl (by decide) rfl (fun ls hl => ?_)
    refine lv_iload_n hx hb dX2_runSteps_6 rfl (lv_at hl 3 rfl) ?_
    refine lv_istore (lv' := [(6, .int a2), (5, .ref (q (a1 + 24))), (0, .ref (q 25)), (1, .ref (q a1)), (2, .int a2), (3, .int a3), (4, .int a4)]) hx hb dX2_runSteps_7 hl (by decide) rfl (fun ls hl => ?_)
    refine lv_iconst (v := 0) hx hb dX2_runSteps_9 (by decide) ?_
    refine lv_istore (lv' := [(7, .int (0 : Int32)), (6, .int a2), (5, .ref (q (a1 + 24))), (0, .ref (q 25)), (1, .ref (q a1)), (2, .int a2), (3, .int a3), (4, .int a4)]) hx hb dX2_runSteps_10 hl (by decide) rfl (fun ls hl => ?_)
    obtain ⟨s1, M2, hc3, h⟩ := bnd_inv h
    try dsimp only at h
    refine hL12 _ (kC_0_9 h1) fz _ _ _ _ _ _ _ hc3 hP hS (lv_sub hl [3, 4, 6, 7, 2, 1, 0] rfl) (fun H locs ls hP hS hl => ?_)
    have hl : lv_has ls 12 [] := hl
    exact end_v X hr hk hP hS h dX2_runSteps_189
