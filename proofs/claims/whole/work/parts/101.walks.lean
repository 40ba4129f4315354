theorem dX0_countOf_0 : decode cX0_countOf 0 = .ok (.iload_n 1, 1) := by decide +kernel
theorem dX0_countOf_1 : decode cX0_countOf 1 = .ok (.ifCond .lt 21, 3) := by decide +kernel
theorem dX0_countOf_4 : decode cX0_countOf 4 = .ok (.iload_n 1, 1) := by decide +kernel
theorem dX0_countOf_5 : decode cX0_countOf 5 = .ok (.aload_n 0, 1) := by decide +kernel
theorem dX0_countOf_6 : decode cX0_countOf 6 = .ok (.getfield 9, 3) := by decide +kernel
theorem dX0_countOf_9 : decode cX0_countOf 9 = .ok (.arraylength, 1) := by decide +kernel
theorem dX0_countOf_10 : decode cX0_countOf 10 = .ok (.if_icmp .ge 12, 3) := by decide +kernel
theorem dX0_countOf_13 : decode cX0_countOf 13 = .ok (.aload_n 0, 1) := by decide +kernel
theorem dX0_countOf_14 : decode cX0_countOf 14 = .ok (.getfield 9, 3) := by decide +kernel
theorem dX0_countOf_17 : decode cX0_countOf 17 = .ok (.iload_n 1, 1) := by decide +kernel
theorem dX0_countOf_18 : decode cX0_countOf 18 = .ok (.iaload, 1) := by decide +kernel
theorem dX0_countOf_19 : decode cX0_countOf 19 = .ok (.goto 4, 3) := by decide +kernel
theorem dX0_countOf_22 : decode cX0_countOf 22 = .ok (.iconst 0, 1) := by decide +kernel
theorem dX0_countOf_23 : decode cX0_countOf 23 = .ok (.ireturn, 1) := by decide +kernel
set_option maxRecDepth 100000 in
set_option maxHeartbeats 8000000 in
theorem c_X0_countOf (l : Launch) (D : va_G) (cA : Nat → ClassId) (q aK aV : Nat → Nat) (hq : injG 167 q) {a0 : Nat} {a1 : Int32} {M M0 : Mem} {r0 : Int32} (h0 : shC a0 = 0) (h : f_X0_countOf a0 a1 M = some (r0, M0)) : Met l yX0_countOf (.code yX0_countOf cX0_countOf 2 (some .int) :: BW) ({ frames := 1, cells := 0, slots := 0, locals := 13 } : Room) (va_Pc [.ref (q a0), .int a1] (CB 167 (ceC cA q) D cA q aK aV M)) (Qi 167 (ceC cA q) D q r0 M0) 0 0 (AqG 167 q) := by
  refine gMet RX0 (by decide +kernel) rfl hq (Nat.le_of_ble_eq_true rfl) ?_
  intro p e s m below meth c ls X hr hk hP hS hl
  have hx := X.1
  have hb := X.2.1
  have hl : lv_has ls 2 [(0, .ref (q a0)), (1, .int a1)] := hl
  rw [f_X0_countOf] at h
  refine lv_iload_n hx hb dX0_countOf_0 rfl (lv_at hl 1 rfl) ?_
  refine lv_if_lt (tgt := 22) hx hb dX0_countOf_1 (by decide) (fun c1 => ?_) (fun c1 => ?_)
  · rw [if_pos c1] at h
    refine lv_iconst (v := 0) hx hb dX0_countOf_22 (by decide) ?_
    exact end_i X hr hk hP hS h dX0_countOf_23
  · rw [if_neg c1] at h
    refine lv_iload_n hx hb dX0_countOf_4 rfl (lv_at hl 1 rfl) ?_
    refine lv_aload_n hx hb dX0_countOf_5 rfl (lv_at hl 0 rfl) ?_
    refine gfC_0_0 X hP h0 bw_143 dX0_countOf_6 ?_
    refine alC_20 X hP ((kC_0_0 h0).1) ((kC_0_0 h0).2) (v := 6) rfl dX0_countOf_9 ?_
    refine lv_icmp_ge (tgt := 22) hx hb dX0_countOf_10 (by decide) (fun c2 => ?_) (fun c2 => ?_)
    · rw [if_pos c2] at h
      refine lv_iconst (v := 0) hx hb dX0_countOf_22 (by decide) ?_
      exact end_i X hr hk hP hS h dX0_countOf_23
    · rw [if_neg c2] at h
      refine lv_aload_n hx hb dX0_countOf_13 rfl (lv_at hl 0 rfl) ?_
      refine gfC_0_0 X hP h0 bw_143 dX0_countOf_14 ?_
      refine lv_iload_n hx hb dX0_countOf_17 rfl (lv_at hl 1 rfl) ?_
      obtain ⟨g3, h⟩ := gd_inv h
      refine ldC_ia X hP ((kC_0_0 h0).1) ((kC_0_0 h0).2) g3 dX0_countOf_18 ?_
      refine lv_goto (tgt := 23) hx hb dX0_countOf_19 (by decide) ?_
      exact end_i X hr hk hP hS h dX0_countOf_23
theorem dX11_cell_0 : decode cX11_cell 0 = .ok (.iload_n 1, 1) := by decide +kernel
theorem dX11_cell_1 : decode cX11_cell 1 = .ok (.ifCond .lt 15, 3) := by decide +kernel
theorem dX11_cell_4 : decode cX11_cell 4 = .ok (.iload_n 1, 1) := by decide +kernel
theorem dX11_cell_5 : decode cX11_cell 5 = .ok (.aload_n 0, 1) := by decide +kernel
theorem dX11_cell_6 : decode cX11_cell 6 = .ok (.arraylength, 1) := by decide +kernel
theorem dX11_cell_7 : decode cX11_cell 7 = .ok (.if_icmp .ge 9, 3) := by decide +kernel
theorem dX11_cell_10 : decode cX11_cell 10 = .ok (.aload_n 0, 1) := by decide +kernel
theorem dX11_cell_11 : decode cX11_cell 11 = .ok (.iload_n 1, 1) := by decide +kernel
theorem dX11_cell_12 : decode cX11_cell 12 = .ok (.iaload, 1) := by decide +kernel
theorem dX11_cell_13 : decode cX11_cell 13 = .ok (.goto 4, 3) := by decide +kernel
theorem dX11_cell_16 : decode cX11_cell 16 = .ok (.iconst 0, 1) := by decide +kernel
theorem dX11_cell_17 : decode cX11_cell 17 = .ok (.ireturn, 1) := by decide +kernel
set_option maxRecDepth 100000 in
set_option maxHeartbeats 8000000 in
theorem c_X11_cell_T (l : Launch) (D : va_G) (cA : Nat → ClassId) (q aK aV : Nat → Nat) (hq : injG 167 q) {a1 : Int32} {M M0 : Mem} {r0 : Int32} (h : f_X11_cell_T a1 M = some (r0, M0)) : Met l yX11_cell (.code yX11_cell cX11_cell 2 (some .int) :: BW) ({ frames := 1, cells := 0, slots := 0, locals := 13 } : Room) (va_Pc [.ref (aK 2), .int a1] (CB 167 (ceC cA q) D cA q aK aV M)) (Qi 167 (ceC cA q) D q r0 M0) 0 0 (AqG 167 q) := by
  refine gMet RX11 (by decide +kernel) rfl hq (Nat.le_of_ble_eq_true rfl) ?_
  intro p e s m below meth c ls X hr hk hP hS hl
  have hx := X.1
  have hb := X.2.1
  have hl : lv_has ls 2 [(0, .ref (aK 2)), (1, .int a1)] := hl
  have hT := (X_most X).2
  rw [f_X11_cell_T] at h
  refine lv_iload_n hx hb dX11_cell_0 rfl (lv_at hl 1 rfl) ?_
  refine lv_if_lt (tgt := 16) hx hb dX11_cell_1 (by decide) (fun c1 => ?_) (fun c1 => ?_)
  · rw [if_pos c1] at h
    refine lv_iconst (v := 0) hx hb dX11_cell_16 (by decide) ?_
    exact end_i X hr hk hP hS h dX11_cell_17
  · rw [if_neg c1] at h
    refine lv_iload_n hx hb dX11_cell_4 rfl (lv_at hl 1 rfl) ?_
    refine lv_aload_n hx hb dX11_cell_5 rfl (lv_at hl 0 rfl) ?_
    refine va_tlen hx hb hT hS (v := 6) rfl dX11_cell_6 ?_
    refine lv_icmp_ge (tgt := 16) hx hb dX11_cell_7 (by decide) (fun c2 => ?_) (fun c2 => ?_)
    · rw [if_pos c2] at h
      refine lv_iconst (v := 0) hx hb dX11_cell_16 (by decide) ?_
      exact end_i X hr hk hP hS h dX11_cell_17
    · rw [if_neg c2] at h
      refine lv_aload_n hx hb dX11_cell_10 rfl (lv_at hl 0 rfl) ?_
      refine lv_iload_n hx hb dX11_cell_11 rfl (lv_at hl 1 rfl) ?_
      obtain ⟨g3, h⟩ := gd_inv h
      refine va_ti hx hb hT hS g3 rfl dX11_cell_12 ?_
      refine lv_goto (tgt := 17) hx hb dX11_cell_13 (by decide) ?_
      exact end_i X hr hk hP hS h dX11_cell_17
set_option maxRecDepth 100000 in
set_option maxHeartbeats 8000000 in
theorem c_X11_cell (l : Launch) (D : va_G) (cA : Nat → ClassId) (q aK aV : Nat → Nat) (hq : injG 167 q) {a0 : Nat} {a1 : Int32} {M M0 : Mem} {r0 : Int32} (h0 : shC a0 = 20) (h : f_X11_cell a0 a1 M = some (r0, M0)) : Met l yX11_cell (.code yX11_cell cX11_cell 2 (some .int) :: BW) ({ frames := 1, cells := 0, slots := 0, locals := 13 } : Room) (va_Pc [.ref (q a0), .int a1] (CB 167 (ceC cA q) D cA q aK aV M)) (Qi 167 (ceC cA q) D q r0 M0) 0 0 (AqG 167 q) := by
  refine gMet RX11 (by decide +kernel) rfl hq (Nat.le_of_ble_eq_true rfl) ?_
  intro p e s m below meth c ls X hr hk hP hS hl
  have hx := X.1
  have hb := X.2.1
  have hl : lv_has ls 2 [(0, .ref (q a0)), (1, .int a1)] := hl
  rw [f_X11_cell] at h
  refine lv_iload_n hx hb dX11_cell_0 rfl (lv_at hl 1 rfl) ?_
  refine lv_if_lt (tgt := 16) hx hb dX11_cell_1 (by decide) (fun c1 => ?_) (fun c1 => ?_)
  · rw [if_pos c1] at h
    refine lv_iconst (v := 0) hx hb dX11_cell_16 (by decide) ?_
    exact end_i X hr hk hP hS h dX11_cell_17
  · rw [if_neg c1] at h
    refine lv_iload_n hx hb dX11_cell_4 rfl (lv_at hl 1 rfl) ?_
    refine lv_aload_n hx hb dX11_cell_5 rfl (lv_at hl 0 rfl) ?_
    refine alC_20 X hP h0 rfl rfl dX11_cell_6 ?_
    refine lv_icmp_ge (tgt := 16) hx hb dX11_cell_7 (by decide) (fun c2 => ?_) (fun c2 => ?_)
    · rw [if_pos c2] at h
      refine lv_iconst (v := 0) hx hb dX11_cell_16 (by decide) ?_
      exact end_i X hr hk hP hS h dX11_cell_17
    · rw [if_neg c2] at h
      refine lv_aload_n hx hb dX11_cell_10 rfl (lv_at hl 0 rfl) ?_
      refine lv_iload_n hx hb dX11_cell_11 rfl (lv_at hl 1 rfl) ?_
      obtain ⟨g3, h⟩ := gd_inv h
      refine ldC_ia X hP h0 rfl g3 dX11_cell_12 ?_
      refine lv_goto (tgt := 17) hx hb dX11_cell_13 (by decide) ?_
      exact end_i X hr hk hP hS h dX11_cell_17
theorem dX0_isFull_0 : decode cX0_isFull 0 = .ok (.aload_n 0, 1) := by decide +kernel
theorem dX0_isFull_1 : decode cX0_isFull 1 = .ok (.iload_n 1, 1) := by decide +kernel
theorem dX0_isFull_2 : decode cX0_isFull 2 = .ok (.invokevirtual 77, 3) := by decide +kernel
theorem dX0_isFull_5 : decode cX0_isFull 5 = .ok (.getstatic 99, 3) := by decide +kernel
theorem dX0_isFull_8 : decode cX0_isFull 8 = .ok (.iload_n 1, 1) := by decide +kernel
theorem dX0_isFull_9 : decode cX0_isFull 9 = .ok (.invokestatic 102, 3) := by decide +kernel
theorem dX0_isFull_12 : decode cX0_isFull 12 = .ok (.if_icmp .lt 7, 3) := by decide +kernel
theorem dX0_isFull_15 : decode cX0_isFull 15 = .ok (.iconst 1, 1) := by decide +kernel
theorem dX0_isFull_16 : decode cX0_isFull 16 = .ok (.goto 4, 3) := by decide +kernel
theorem dX0_isFull_19 : decode cX0_isFull 19 = .ok (.iconst 0, 1) := by decide +kernel
theorem dX0_isFull_20 : decode cX0_isFull 20 = .ok (.ireturn, 1) := by decide +kernel
set_option maxRecDepth 100000 in
set_option maxHeartbeats 8000000 in
theorem c_X0_isFull (l : Launch) (D : va_G) (cA : Nat → ClassId) (q aK aV : Nat → Nat) (hq : injG 167 q) {a0 : Nat} {a1 : Int32} {M M0 : Mem} {r0 : Int32} (h0 : shC a0 = 0) (h : f_X0_isFull a0 a1 M = some (r0, M0)) : Met l yX0_isFull (.code yX0_isFull cX0_isFull 2 (some .boolean) :: BW) ({ frames := 2, cells := 0, slots := 0, locals := 34 } : Room) (va_Pc [.ref (q a0), .int a1] (CB 167 (ceC cA q) D cA q aK aV M)) (Qi 167 (ceC cA q) D q r0 M0) 0 0 (AqG 167 q) := by
  refine gMet RX0 (by decide +kernel) rfl hq (Nat.le_of_ble_eq_true rfl) ?_
  intro p e s m below meth c ls X hr hk hP hS hl
  have hx := X.1
  have hb := X.2.1
  have hl : lv_has ls 2 [(0, .ref (q a0)), (1, .int a1)] := hl
  rw [f_X0_isFull] at h
  refine lv_aload_n hx hb dX0_isFull_0 rfl (lv_at hl 0 rfl) ?_
  refine lv_iload_n hx hb dX0_isFull_1 rfl (lv_at hl 1 rfl) ?_
  obtain ⟨r1, M2, hc3, h⟩ := bnd_inv h
  refine gV_i (As := [.int a1]) X hP hS hl.1 (c_X0_countOf l D cA q aK aV hq h0 hc3) sf_X0_countOf bw_645 sv_X0_countOf (rcC_0 h0) rfl ⟨rfl, rfl⟩ ⟨Nat.le_of_ble_eq_true rfl, Nat.le_of_ble_eq_true rfl⟩ rfl rfl (Nat.le_of_ble_eq_true rfl) dX0_isFull_2 (fun H locs hP hS => ?_)
  obtain ⟨hZt, hT⟩ := X_most X
  refine va_getsN hx hb hZt hS X.2.2.2.1 (va_Nw.use rfl (X.2.2.2.2.2.2.2.1 _ nw_f)) (fun x h => h) dX0_isFull_5 ?_
  refine lv_iload_n hx hb dX0_isFull_8 rfl (lv_at hl 1 rfl) ?_
  obtain ⟨r4, M5, hc6, h⟩ := bnd_inv h
  refine gSN_i (As := [.ref (aK 2), .int a1]) X hP hS hl.1 (c_X11_cell_T l D cA q aK aV hq hc6) sf_X11_cell nw_11 ss_X11_cell ⟨rfl, rfl⟩ ⟨Nat.le_of_ble_eq_true rfl, Nat.le_of_ble_eq_true rfl⟩ rfl rfl (Nat.le_of_ble_eq_true rfl) dX0_isFull_9 (fun H locs hP hS => ?_)
  refine lv_icmp_lt (tgt := 19) hx hb dX0_isFull_12 (by decide) (fun c7 => ?_) (fun c7 => ?_)
  · rw [if_pos c7] at h
    refine lv_iconst (v := 0) hx hb dX0_isFull_19 (by decide) ?_
    exact end_z X hr hk hP hS (Or.inl rfl) h dX0_isFull_20
  · rw [if_neg c7] at h
    refine lv_iconst (v := 1) hx hb dX0_isFull_15 (by decide) ?_
    refine lv_goto (tgt := 20) hx hb dX0_isFull_16 (by decide) ?_
    exact end_z X hr hk hP hS (Or.inr rfl) h dX0_isFull_20
theorem dX4_beginPart_0 : decode cX4_beginPart 0 = .ok (.iload_n 1, 1) := by decide +kernel
theorem dX4_beginPart_1 : decode cX4_beginPart 1 = .ok (.ifCond .lt 8, 3) := by decide +kernel
theorem dX4_beginPart_4 : decode cX4_beginPart 4 = .ok (.iload_n 1, 1) := by decide +kernel
theorem dX4_beginPart_5 : decode cX4_beginPart 5 = .ok (.iconst 5, 1) := by decide +kernel
theorem dX4_beginPart_6 : decode cX4_beginPart 6 = .ok (.if_icmp .le 12, 3) := by decide +kernel
theorem dX4_beginPart_9 : decode cX4_beginPart 9 = .ok (.aload_n 0, 1) := by decide +kernel
theorem dX4_beginPart_10 : decode cX4_beginPart 10 = .ok (.getfield 28, 3) := by decide +kernel
theorem dX4_beginPart_13 : decode cX4_beginPart 13 = .ok (.iconst 2, 1) := by decide +kernel
theorem dX4_beginPart_14 : decode cX4_beginPart 14 = .ok (.invokevirtual 57, 3) := by decide +kernel
theorem dX4_beginPart_17 : decode cX4_beginPart 17 = .ok (.ireturn, 1) := by decide +kernel
theorem dX4_beginPart_18 : decode cX4_beginPart 18 = .ok (.aload_n 2, 1) := by decide +kernel
theorem dX4_beginPart_19 : decode cX4_beginPart 19 = .ok (.iload_n 1, 1) := by decide +kernel
theorem dX4_beginPart_20 : decode cX4_beginPart 20 = .ok (.invokevirtual 60, 3) := by decide +kernel
theorem dX4_beginPart_23 : decode cX4_beginPart 23 = .ok (.ifCond .eq 13, 3) := by decide +kernel
theorem dX4_beginPart_26 : decode cX4_beginPart 26 = .ok (.aload_n 0, 1) := by decide +kernel
theorem dX4_beginPart_27 : decode cX4_beginPart 27 = .ok (.getfield 28, 3) := by decide +kernel
theorem dX4_beginPart_30 : decode cX4_beginPart 30 = .ok (.bipush 6, 2) := by decide +kernel
theorem dX4_beginPart_32 : decode cX4_beginPart 32 = .ok (.invokevirtual 57, 3) := by decide +kernel
theorem dX4_beginPart_35 : decode cX4_beginPart 35 = .ok (.ireturn, 1) := by decide +kernel
theorem dX4_beginPart_36 : decode cX4_beginPart 36 = .ok (.aload_n 0, 1) := by decide +kernel
theorem dX4_beginPart_37 : decode cX4_beginPart 37 = .ok (.getfield 28, 3) := by decide +kernel
theorem dX4_beginPart_40 : decode cX4_beginPart 40 = .ok (.invokevirtual 63, 3) := by decide +kernel
theorem dX4_beginPart_43 : decode cX4_beginPart 43 = .ok (.iconst 1, 1) := by decide +kernel
theorem dX4_beginPart_44 : decode cX4_beginPart 44 = .ok (.ireturn, 1) := by decide +kernel
set_option maxRecDepth 100000 in
set_option maxHeartbeats 8000000 in
theorem c_X4_beginPart (l : Launch) (D : va_G) (cA : Nat → ClassId) (q aK aV : Nat → Nat) (hq : injG 167 q) {a1 : Int32} {a2 : Nat} {M M0 : Mem} {r0 : Int32} (h2 : shC a2 = 0) (h : f_X4_beginPart a1 a2 M = some (r0, M0)) : Met l yX4_beginPart (.code yX4_beginPart cX4_beginPart 3 (some .boolean) :: BW) ({ frames := 3, cells := 0, slots := 0, locals := 57 } : Room) (va_Pc [.ref (q 16), .int a1, .ref (q a2)] (CB 167 (ceC cA q) D cA q aK aV M)) (Qi 167 (ceC cA q) D q r0 M0) 0 0 (AqG 167 q) := by
  refine gMet RX4 (by decide +kernel) rfl hq (Nat.le_of_ble_eq_true rfl) ?_
  intro p e s m below meth c ls X hr hk hP hS hl
  have hx := X.1
  have hb := X.2.1
  have hl : lv_has ls 3 [(0, .ref (q 16)), (1, .int a1), (2, .ref (q a2))] := hl
  rw [f_X4_beginPart] at h
  refine lv_iload_n hx hb dX4_beginPart_0 rfl (lv_at hl 1 rfl) ?_
  refine lv_if_lt (tgt := 9) hx hb dX4_beginPart_1 (by decide) (fun c1 => ?_) (fun c1 => ?_)
  · rw [if_pos c1] at h
    refine lv_aload_n hx hb dX4_beginPart_9 rfl (lv_at hl 0 rfl) ?_
    refine gfC_4_0 X hP sC_16 bw_329 dX4_beginPart_10 ?_
    refine lv_iconst (v := 2) hx hb dX4_beginPart_13 (by decide) ?_
    obtain ⟨r2, M3, hc4, h⟩ := bnd_inv h
    refine gV_i (As := [.int (2 : Int32)]) X hP hS hl.1 (c_X7_refuse l D cA q aK aV hq hc4) sf_X7_refuse bw_637 sv_X7_refuse (rcC_7 sC_13) rfl ⟨rfl, rfl⟩ ⟨Nat.le_of_ble_eq_true rfl, Nat.le_of_ble_eq_true rfl⟩ rfl rfl (Nat.le_of_ble_eq_true rfl) dX4_beginPart_14 (fun H locs hP hS => ?_)
    obtain ⟨g5, h⟩ := gd_inv h
    exact end_z X hr hk hP hS (Decidable.not_not.mp g5) h dX4_beginPart_17
  · rw [if_neg c1] at h
    refine lv_iload_n hx hb dX4_beginPart_4 rfl (lv_at hl 1 rfl) ?_
    refine lv_iconst (v := 5) hx hb dX4_beginPart_5 (by decide) ?_
    refine lv_icmp_le (tgt := 18) hx hb dX4_beginPart_6 (by decide) (fun c6 => ?_) (fun c6 => ?_)
    · rw [if_pos c6] at h
      refine lv_aload_n hx hb dX4_beginPart_18 rfl (lv_at hl 2 rfl) ?_
      refine lv_iload_n hx hb dX4_beginPart_19 rfl (lv_at hl 1 rfl) ?_
      obtain ⟨r7, M8, hc9, h⟩ := bnd_inv h
      refine gV_i (As := [.int a1]) X hP hS hl.1 (c_X0_isFull l D cA q aK aV hq h2 hc9) sf_X0_isFull bw_641 sv_X0_isFull (rcC_0 h2) rfl ⟨rfl, rfl⟩ ⟨Nat.le_of_ble_eq_true rfl, Nat.le_of_ble_eq_true rfl⟩ rfl rfl (Nat.le_of_ble_eq_true rfl) dX4_beginPart_20 (fun H locs hP hS => ?_)
      refine lv_if_eq (tgt := 36) hx hb dX4_beginPart_23 (by decide) (fun c10 => ?_) (fun c10 => ?_)
      · rw [if_pos c10] at h
        refine lv_aload_n hx hb dX4_beginPart_36 rfl (lv_at hl 0 rfl) ?_
        refine gfC_4_0 X hP sC_16 bw_329 dX4_beginPart_37 ?_
        obtain ⟨_, M12, hc13, h⟩ := bnd_inv h
        refine gV_v (As := []) X hP hS hl.1 (c_X7_goOn l D cA q aK aV hq hc13) sf_X7_goOn bw_654 sv_X7_goOn (rcC_7 sC_13) rfl ⟨rfl, rfl⟩ ⟨Nat.le_of_ble_eq_true rfl, Nat.le_of_ble_eq_true rfl⟩ rfl rfl (Nat.le_of_ble_eq_true rfl) dX4_beginPart_40 (fun H locs hP hS => ?_)
        refine lv_iconst (v := 1) hx hb dX4_beginPart_43 (by decide) ?_
        exact end_z X hr hk hP hS (Or.inr rfl) h dX4_beginPart_44
      · rw [if_neg c10] at h
        refine lv_aload_n hx hb dX4_beginPart_26 rfl (lv_at hl 0 rfl) ?_
        refine gfC_4_0 X hP sC_16 bw_329 dX4_beginPart_27 ?_
        refine lv_bipush (v := 6) hx hb dX4_beginPart_30 (by decide) ?_
        obtain ⟨r14, M15, hc16, h⟩ := bnd_inv h
        refine gV_i (As := [.int (6 : Int32)]) X hP hS hl.1 (c_X7_refuse l D cA q aK aV hq hc16) sf_X7_refuse bw_637 sv_X7_refuse (rcC_7 sC_13) rfl ⟨rfl, rfl⟩ ⟨Nat.le_of_ble_eq_true rfl, Nat.le_of_ble_eq_true rfl⟩ rfl rfl (Nat.le_of_ble_eq_true rfl) dX4_beginPart_32 (fun H locs hP hS => ?_)
        obtain ⟨g17, h⟩ := gd_inv h
        exact end_z X hr hk hP hS (Decidable.not_not.mp g17) h dX4_beginPart_35
    · rw [if_neg c6] at h
      refine lv_aload_n hx hb dX4_beginPart_9 rfl (lv_at hl 0 rfl) ?_
      refine gfC_4_0 X hP sC_16 bw_329 dX4_beginPart_10 ?_
      refine lv_iconst (v := 2) hx hb dX4_beginPart_13 (by decide) ?_
      obtain ⟨r18, M19, hc20, h⟩ := bnd_inv h
      refine gV_i (As := [.int (2 : Int32)]) X hP hS hl.1 (c_X7_refuse l D cA q aK aV hq hc20) sf_X7_refuse bw_637 sv_X7_refuse (rcC_7 sC_13) rfl ⟨rfl, rfl⟩ ⟨Nat.le_of_ble_eq_true rfl, Nat.le_of_ble_eq_true rfl⟩ rfl rfl (Nat.le_of_ble_eq_true rfl) dX4_beginPart_14 (fun H locs hP hS => ?_)
      obtain ⟨g21, h⟩ := gd_inv h
      exact end_z X hr hk hP hS (Decidable.not_not.mp g21) h dX4_beginPart_17
theorem dX0_numberOf_0 : decode cX0_numberOf 0 = .ok (.iconst 0, 1) := by decide +kernel
theorem dX0_numberOf_1 : decode cX0_numberOf 1 = .ok (.istore 4, 2) := by decide +kernel
theorem dX0_numberOf_3 : decode cX0_numberOf 3 = .ok (.iload 4, 2) := by decide +kernel
theorem dX0_numberOf_5 : decode cX0_numberOf 5 = .ok (.aload_n 0, 1) := by decide +kernel
theorem dX0_numberOf_6 : decode cX0_numberOf 6 = .ok (.iload_n 1, 1) := by decide +kernel
theorem dX0_numberOf_7 : decode cX0_numberOf 7 = .ok (.invokevirtual 77, 3) := by decide +kernel
theorem dX0_numberOf_10 : decode cX0_numberOf 10 = .ok (.if_icmp .ge 53, 3) := by decide +kernel
theorem dX0_numberOf_13 : decode cX0_numberOf 13 = .ok (.iload 4, 2) := by decide +kernel
theorem dX0_numberOf_15 : decode cX0_numberOf 15 = .ok (.bipush 6, 2) := by decide +kernel
theorem dX0_numberOf_17 : decode cX0_numberOf 17 = .ok (.if_icmp .ge 46, 3) := by decide +kernel
theorem dX0_numberOf_20 : decode cX0_numberOf 20 = .ok (.iload_n 1, 1) := by decide +kernel
theorem dX0_numberOf_21 : decode cX0_numberOf 21 = .ok (.bipush 6, 2) := by decide +kernel
theorem dX0_numberOf_23 : decode cX0_numberOf 23 = .ok (.imul, 1) := by decide +kernel
theorem dX0_numberOf_24 : decode cX0_numberOf 24 = .ok (.iload 4, 2) := by decide +kernel
theorem dX0_numberOf_26 : decode cX0_numberOf 26 = .ok (.iadd, 1) := by decide +kernel
theorem dX0_numberOf_27 : decode cX0_numberOf 27 = .ok (.istore 5, 2) := by decide +kernel
theorem dX0_numberOf_29 : decode cX0_numberOf 29 = .ok (.iload 5, 2) := by decide +kernel
theorem dX0_numberOf_31 : decode cX0_numberOf 31 = .ok (.aload_n 0, 1) := by decide +kernel
theorem dX0_numberOf_32 : decode cX0_numberOf 32 = .ok (.getfield 15, 3) := by decide +kernel
theorem dX0_numberOf_35 : decode cX0_numberOf 35 = .ok (.arraylength, 1) := by decide +kernel
theorem dX0_numberOf_36 : decode cX0_numberOf 36 = .ok (.invokestatic 110, 3) := by decide +kernel
theorem dX0_numberOf_39 : decode cX0_numberOf 39 = .ok (.ifCond .eq 18, 3) := by decide +kernel
theorem dX0_numberOf_42 : decode cX0_numberOf 42 = .ok (.aload_n 0, 1) := by decide +kernel
theorem dX0_numberOf_43 : decode cX0_numberOf 43 = .ok (.getfield 15, 3) := by decide +kernel
theorem dX0_numberOf_46 : decode cX0_numberOf 46 = .ok (.iload 5, 2) := by decide +kernel
theorem dX0_numberOf_48 : decode cX0_numberOf 48 = .ok (.laload, 1) := by decide +kernel
theorem dX0_numberOf_49 : decode cX0_numberOf 49 = .ok (.lload_n 2, 1) := by decide +kernel
theorem dX0_numberOf_50 : decode cX0_numberOf 50 = .ok (.lcmp, 1) := by decide +kernel
theorem dX0_numberOf_51 : decode cX0_numberOf 51 = .ok (.ifCond .ne 6, 3) := by decide +kernel
theorem dX0_numberOf_54 : decode cX0_numberOf 54 = .ok (.iload 4, 2) := by decide +kernel
theorem dX0_numberOf_56 : decode cX0_numberOf 56 = .ok (.ireturn, 1) := by decide +kernel
theorem dX0_numberOf_57 : decode cX0_numberOf 57 = .ok (.iinc 4 1, 3) := by decide +kernel
theorem dX0_numberOf_60 : decode cX0_numberOf 60 = .ok (.goto (-57), 3) := by decide +kernel
theorem dX0_numberOf_63 : decode cX0_numberOf 63 = .ok (.iconst (-1), 1) := by decide +kernel
theorem dX0_numberOf_64 : decode cX0_numberOf 64 = .ok (.ireturn, 1) := by decide +kernel
set_option maxRecDepth 100000 in
set_option maxHeartbeats 8000000 in
theorem c_X0_numberOf (l : Launch) (D : va_G) (cA : Nat → ClassId) (q aK aV : Nat → Nat) (hq : injG 167 q) {a0 : Nat} {a1 : Int32} {a2 : Int64} {M M0 : Mem} {r0 : Int32} (h0 : shC a0 = 0) (h : f_X0_numberOf a0 a1 a2 M = some (r0, M0)) : Met l yX0_numberOf (.code yX0_numberOf cX0_numberOf 6 (some .int) :: BW) ({ frames := 2, cells := 0, slots := 0, locals := 34 } : Room) (va_Pc [.ref (q a0), .int a1, .long a2] (CB 167 (ceC cA q) D cA q aK aV M)) (Qi 167 (ceC cA q) D q r0 M0) 0 0 (AqG 167 q) := by
  refine gMet RX0 (by decide +kernel) rfl hq (Nat.le_of_ble_eq_true rfl) ?_
  intro p e s m below meth c ls X hr hk hP hS hl
  have hx := X.1
  have hb := X.2.1
  have hl : lv_has ls 6 [(0, .ref (q a0)), (1, .int a1), (2, .long a2)] := hl
  rw [f_X0_numberOf] at h
  have hL3 : ∀ (fu : Nat) (b4 : Int32) (M : Mem) (res : (Nat × Int32) × Mem) (H : Heap) (locs : List Loc) (ls : Array Slot), f_X0_numberOf_L3 a0 a1 a2 fu b4 M = some res → va_P D vwCl (wsG 167 (ceC cA q) q M) H → va_S (AqG 167 q) s.heap H locs → lv_has ls 6 [(0, .ref (q a0)), (1, .int a1), (2, .long a2), (4, .int b4)] → (res.1.1 = 0 → ∀ (H : Heap) (locs : List Loc) (ls : Array Slot), va_P D vwCl (wsG 167 (ceC cA q) q res.2) H → va_S (AqG 167 q) s.heap H locs → lv_has ls 6 [(4, .int (res.1.2))] → W p l e ({ frames := 2, cells := 0, slots := 0, locals := 34 } : Room) s m [.ref (q a0), .int a1, .long a2].toArray below meth c H locs 0 0 (MQ below (Qi 167 (ceC cA q) D q r0 M0) [.ref (q a0), .int a1, .long a2].toArray s 0 0 (AqG 167 q)) (F0 m 54 ls [])) → (res.1.1 = 1 → ∀ (H : Heap) (locs : List Loc) (ls : Array Slot), va_P D vwCl (wsG 167 (ceC cA q) q res.2) H → va_S (AqG 167 q) s.heap H locs → lv_has ls 6 [] → W p l e ({ frames := 2, cells := 0, slots := 0, locals := 34 } : Room) s m [.ref (q a0), .int a1, .long a2].toArray below meth c H locs 0 0 (MQ below (Qi 167 (ceC cA q) D q r0 M0) [.ref (q a0), .int a1, .long a2].toArray s 0 0 (AqG 167 q)) (F0 m 63 ls [])) → W p l e ({ frames := 2, cells := 0, slots := 0, locals := 34 } : Room) s m [.ref (q a0), .int a1, .long a2].toArray below meth c H locs 0 0 (MQ below (Qi 167 (ceC cA q) D q r0 M0) [.ref (q a0), .int a1, .long a2].toArray s 0 0 (AqG 167 q)) (F0 m 3 ls []) := by
    intro fu
    induction fu with
    | zero => intro b4 M res H locs ls h; exact absurd h (by simp [f_X0_numberOf_L3])
    | succ fu ih =>
      intro b4 M res H locs ls h hP hS hl K3_0 K3_1
      rw [f_X0_numberOf_L3] at h
      refine lv_iload hx hb dX0_numberOf_3 (lv_at hl 3 rfl) ?_
      refine lv_aload_n hx hb dX0_numberOf_5 rfl (lv_at hl 0 rfl) ?_
      refine lv_iload_n hx hb dX0_numberOf_6 rfl (lv_at hl 1 rfl) ?_
      obtain ⟨r6, M7, hc8, h⟩ := bnd_inv h
      refine gV_i (As := [.int a1]) X hP hS hl.1 (c_X0_countOf l D cA q aK aV hq h0 hc8) sf_X0_countOf bw_645 sv_X0_countOf (rcC_0 h0) rfl ⟨rfl, rfl⟩ ⟨Nat.le_of_ble_eq_true rfl, Nat.le_of_ble_eq_true rfl⟩ rfl rfl (Nat.le_of_ble_eq_true rfl) dX0_numberOf_7 (fun H locs hP hS => ?_)
      refine lv_icmp_ge (tgt := 63) hx hb dX0_numberOf_10 (by decide) (fun c9 => ?_) (fun c9 => ?_)
      · rw [if_pos c9] at h
        cases h
        exact K3_1 rfl _ _ _ hP hS (lv_sub hl [] rfl)
      · rw [if_neg c9] at h
        refine lv_iload hx hb dX0_numberOf_13 (lv_at hl 3 rfl) ?_
        refine lv_bipush (v := 6) hx hb dX0_numberOf_15 (by decide) ?_
        refine lv_icmp_ge (tgt := 63) hx hb dX0_numberOf_17 (by decide) (fun c10 => ?_) (fun c10 => ?_)
        · rw [if_pos c10] at h
          cases h
          exact K3_1 rfl _ _ _ hP hS (lv_sub hl [] rfl)
        · rw [if_neg c10] at h
          refine lv_iload_n hx hb dX0_numberOf_20 rfl (lv_at hl 1 rfl) ?_
          refine lv_bipush (v := 6) hx hb dX0_numberOf_21 (by decide) ?_
          refine lv_imul hx hb dX0_numberOf_23 ?_
          refine lv_iload hx hb dX0_numberOf_24 (lv_at hl 3 rfl) ?_
          refine lv_iadd hx hb dX0_numberOf_26 ?_
          obtain ⟨y11, ey11, h⟩ := lt_inv h
          refine topE ey11 ?_
          refine lv_istore (lv' := [(5, .int y11), (0, .ref (q a0)), (1, .int a1), (2, .long a2), (4, .int b4)]) hx hb dX0_numberOf_27 hl (by decide) rfl (fun ls hl => ?_)
          refine lv_iload hx hb dX0_numberOf_29 (lv_at hl 0 rfl) ?_
          refine lv_aload_n hx hb dX0_numberOf_31 rfl (lv_at hl 1 rfl) ?_
          refine gfC_0_1 X hP h0 bw_144 dX0_numberOf_32 ?_
          refine alC_21 X hP ((kC_0_1 h0).1) ((kC_0_1 h0).2) (v := 36) rfl dX0_numberOf_35 ?_
          obtain ⟨r12, M13, hc14, h⟩ := bnd_inv h
          refine gSN_i (As := [.int y11, .int (36 : Int32)]) X hP hS hl.1 (c_X11_within l D cA q aK aV hq hc14) sf_X11_within nw_12 ss_X11_within ⟨rfl, rfl⟩ ⟨Nat.le_of_ble_eq_true rfl, Nat.le_of_ble_eq_true rfl⟩ rfl rfl (Nat.le_of_ble_eq_true rfl) dX0_numberOf_36 (fun H locs hP hS => ?_)
          refine lv_if_eq (tgt := 57) hx hb dX0_numberOf_39 (by decide) (fun c15 => ?_) (fun c15 => ?_)
          · rw [if_pos c15] at h
            obtain ⟨y16, ey16, h⟩ := lt_inv h
            refine lv_iinc (v := y16) (lv' := [(4, .int y16), (5, .int y11), (0, .ref (q a0)), (1, .int a1), (2, .long a2)]) hx hb dX0_numberOf_57 hl (k := 4) rfl (by rw [ey16]; rfl) (by decide) rfl (fun ls hl => ?_)
            refine lv_goto (tgt := 3) hx hb dX0_numberOf_60 (by decide) ?_
            exact ih _ _ res _ _ _ h hP hS (lv_sub hl [2, 3, 4, 0] rfl) K3_0 K3_1
          · rw [if_neg c15] at h
            refine lv_aload_n hx hb dX0_numberOf_42 rfl (lv_at hl 1 rfl) ?_
            refine gfC_0_1 X hP h0 bw_144 dX0_numberOf_43 ?_
            refine lv_iload hx hb dX0_numberOf_46 (lv_at hl 0 rfl) ?_
            obtain ⟨g17, h⟩ := gd_inv h
            refine ldC_la X hP ((kC_0_1 h0).1) ((kC_0_1 h0).2) g17 dX0_numberOf_48 ?_
            refine lv_lload_n hx hb dX0_numberOf_49 rfl (lv_at hl 3 rfl) ?_
            refine W.lcmp hx hb dX0_numberOf_50 ?_
            refine lv_if_ne (tgt := 57) hx hb dX0_numberOf_51 (by decide) (fun c18 => ?_) (fun c18 => ?_)
            · rw [if_neg c18] at h
              obtain ⟨y19, ey19, h⟩ := lt_inv h
              refine lv_iinc (v := y19) (lv' := [(4, .int y19), (5, .int y11), (0, .ref (q a0)), (1, .int a1), (2, .long a2)]) hx hb dX0_numberOf_57 hl (k := 4) rfl (by rw [ey19]; rfl) (by decide) rfl (fun ls hl => ?_)
              refine lv_goto (tgt := 3) hx hb dX0_numberOf_60 (by decide) ?_
              exact ih _ _ res _ _ _ h hP hS (lv_sub hl [2, 3, 4, 0] rfl) K3_0 K3_1
            · rw [if_pos c18] at h
              cases h
              exact K3_0 rfl _ _ _ hP hS (lv_sub hl [4] rfl)
  refine lv_iconst (v := 0) hx hb dX0_numberOf_0 (by decide) ?_
  refine lv_istore (lv' := [(4, .int (0 : Int32)), (0, .ref (q a0)), (1, .int a1), (2, .long a2)]) hx hb dX0_numberOf_1 hl (by decide) rfl (fun ls hl => ?_)
  obtain ⟨s1, M2, hc3, h⟩ := bnd_inv h
  obtain ⟨k4, x5⟩ := s1
  try dsimp only at h
  refine hL3  fz _ _ _ _ _ _ hc3 hP hS (lv_sub hl [1, 2, 3, 0] rfl) (fun hke H locs ls hP hS hl => ?_) (fun hke H locs ls hP hS hl => ?_)
  · have hke : k4 = 0 := hke
    have hl : lv_has ls 6 [(4, .int x5)] := hl
    subst hke
    rw [if_pos rfl] at h
    refine lv_iload hx hb dX0_numberOf_54 (lv_at hl 0 rfl) ?_
    exact end_i X hr hk hP hS h dX0_numberOf_56
  · have hke : k4 = 1 := hke
    have hl : lv_has ls 6 [] := hl
    subst hke
    rw [if_neg (by decide)] at h
    refine lv_iconst (v := -1) hx hb dX0_numberOf_63 (by decide) ?_
    exact end_i X hr hk hP hS h dX0_numberOf_64
theorem dX0_isTaken_0 : decode cX0_isTaken 0 = .ok (.aload_n 0, 1) := by decide +kernel
theorem dX0_isTaken_1 : decode cX0_isTaken 1 = .ok (.iconst 0, 1) := by decide +kernel
theorem dX0_isTaken_2 : decode cX0_isTaken 2 = .ok (.lload_n 1, 1) := by decide +kernel
theorem dX0_isTaken_3 : decode cX0_isTaken 3 = .ok (.invokevirtual 114, 3) := by decide +kernel
theorem dX0_isTaken_6 : decode cX0_isTaken 6 = .ok (.iconst (-1), 1) := by decide +kernel
theorem dX0_isTaken_7 : decode cX0_isTaken 7 = .ok (.if_icmp .ne 33, 3) := by decide +kernel
theorem dX0_isTaken_10 : decode cX0_isTaken 10 = .ok (.aload_n 0, 1) := by decide +kernel
theorem dX0_isTaken_11 : decode cX0_isTaken 11 = .ok (.iconst 1, 1) := by decide +kernel
theorem dX0_isTaken_12 : decode cX0_isTaken 12 = .ok (.lload_n 1, 1) := by decide +kernel
theorem dX0_isTaken_13 : decode cX0_isTaken 13 = .ok (.invokevirtual 114, 3) := by decide +kernel
theorem dX0_isTaken_16 : decode cX0_isTaken 16 = .ok (.iconst (-1), 1) := by decide +kernel
theorem dX0_isTaken_17 : decode cX0_isTaken 17 = .ok (.if_icmp .ne 23, 3) := by decide +kernel
theorem dX0_isTaken_20 : decode cX0_isTaken 20 = .ok (.aload_n 0, 1) := by decide +kernel
theorem dX0_isTaken_21 : decode cX0_isTaken 21 = .ok (.iconst 3, 1) := by decide +kernel
theorem dX0_isTaken_22 : decode cX0_isTaken 22 = .ok (.lload_n 1, 1) := by decide +kernel
theorem dX0_isTaken_23 : decode cX0_isTaken 23 = .ok (.invokevirtual 114, 3) := by decide +kernel
theorem dX0_isTaken_26 : decode cX0_isTaken 26 = .ok (.iconst (-1), 1) := by decide +kernel
theorem dX0_isTaken_27 : decode cX0_isTaken 27 = .ok (.if_icmp .ne 13, 3) := by decide +kernel
theorem dX0_isTaken_30 : decode cX0_isTaken 30 = .ok (.aload_n 0, 1) := by decide +kernel
theorem dX0_isTaken_31 : decode cX0_isTaken 31 = .ok (.iconst 4, 1) := by decide +kernel
theorem dX0_isTaken_32 : decode cX0_isTaken 32 = .ok (.lload_n 1, 1) := by decide +kernel
theorem dX0_isTaken_33 : decode cX0_isTaken 33 = .ok (.invokevirtual 114, 3) := by decide +kernel
theorem dX0_isTaken_36 : decode cX0_isTaken 36 = .ok (.iconst (-1), 1) := by decide +kernel
theorem dX0_isTaken_37 : decode cX0_isTaken 37 = .ok (.if_icmp .eq 7, 3) := by decide +kernel
theorem dX0_isTaken_40 : decode cX0_isTaken 40 = .ok (.iconst 1, 1) := by decide +kernel
theorem dX0_isTaken_41 : decode cX0_isTaken 41 = .ok (.goto 4, 3) := by decide +kernel
theorem dX0_isTaken_44 : decode cX0_isTaken 44 = .ok (.iconst 0, 1) := by decide +kernel
theorem dX0_isTaken_45 : decode cX0_isTaken 45 = .ok (.ireturn, 1) := by decide +kernel
set_option maxRecDepth 100000 in
set_option maxHeartbeats 8000000 in
theorem c_X0_isTaken (l : Launch) (D : va_G) (cA : Nat → ClassId) (q aK aV : Nat → Nat) (hq : injG 167 q) {a0 : Nat} {a1 : Int64} {M M0 : Mem} {r0 : Int32} (h0 : shC a0 = 0) (h : f_X0_isTaken a0 a1 M = some (r0, M0)) : Met l yX0_isTaken (.code yX0_isTaken cX0_isTaken 3 (some .boolean) :: BW) ({ frames := 3, cells := 0, slots := 0, locals := 59 } : Room) (va_Pc [.ref (q a0), .long a1] (CB 167 (ceC cA q) D cA q aK aV M)) (Qi 167 (ceC cA q) D q r0 M0) 0 0 (AqG 167 q) := by
  refine gMet RX0 (by decide +kernel) rfl hq (Nat.le_of_ble_eq_true rfl) ?_
  intro p e s m below meth c ls X hr hk hP hS hl
  have hx := X.1
  have hb := X.2.1
  have hl : lv_has ls 3 [(0, .ref (q a0)), (1, .long a1)] := hl
  rw [f_X0_isTaken] at h
  refine lv_aload_n hx hb dX0_isTaken_0 rfl (lv_at hl 0 rfl) ?_
  refine lv_iconst (v := 0) hx hb dX0_isTaken_1 (by decide) ?_
  refine lv_lload_n hx hb dX0_isTaken_2 rfl (lv_at hl 1 rfl) ?_
  obtain ⟨r1, M2, hc3, h⟩ := bnd_inv h
  refine gV_i (As := [.int (0 : Int32), .long a1]) X hP hS hl.1 (c_X0_numberOf l D cA q aK aV hq h0 hc3) sf_X0_numberOf bw_667 sv_X0_numberOf (rcC_0 h0) rfl ⟨rfl, rfl⟩ ⟨Nat.le_of_ble_eq_true rfl, Nat.le_of_ble_eq_true rfl⟩ rfl rfl (Nat.le_of_ble_eq_true rfl) dX0_isTaken_3 (fun H locs hP hS => ?_)
  refine lv_iconst (v := -1) hx hb dX0_isTaken_6 (by decide) ?_
  refine lv_icmp_ne (tgt := 40) hx hb dX0_isTaken_7 (by decide) (fun c4 => ?_) (fun c4 => ?_)
  · rw [if_neg c4] at h
    refine lv_iconst (v := 1) hx hb dX0_isTaken_40 (by decide) ?_
    refine lv_goto (tgt := 45) hx hb dX0_isTaken_41 (by decide) ?_
    exact end_z X hr hk hP hS (Or.inr rfl) h dX0_isTaken_45
  · rw [if_pos c4] at h
    refine lv_aload_n hx hb dX0_isTaken_10 rfl (lv_at hl 0 rfl) ?_
    refine lv_iconst (v := 1) hx hb dX0_isTaken_11 (by decide) ?_
    refine lv_lload_n hx hb dX0_isTaken_12 rfl (lv_at hl 1 rfl) ?_
    obtain ⟨r5, M6, hc7, h⟩ := bnd_inv h
    refine gV_i (As := [.int (1 : Int32), .long a1]) X hP hS hl.1 (c_X0_numberOf l D cA q aK aV hq h0 hc7) sf_X0_numberOf bw_667 sv_X0_numberOf (rcC_0 h0) rfl ⟨rfl, rfl⟩ ⟨Nat.le_of_ble_eq_true rfl, Nat.le_of_ble_eq_true rfl⟩ rfl rfl (Nat.le_of_ble_eq_true rfl) dX0_isTaken_13 (fun H locs hP hS => ?_)
    refine lv_iconst (v := -1) hx hb dX0_isTaken_16 (by decide) ?_
    refine lv_icmp_ne (tgt := 40) hx hb dX0_isTaken_17 (by decide) (fun c8 => ?_) (fun c8 => ?_)
    · rw [if_neg c8] at h
      refine lv_iconst (v := 1) hx hb dX0_isTaken_40 (by decide) ?_
      refine lv_goto (tgt := 45) hx hb dX0_isTaken_41 (by decide) ?_
      exact end_z X hr hk hP hS (Or.inr rfl) h dX0_isTaken_45
    · rw [if_pos c8] at h
      refine lv_aload_n hx hb dX0_isTaken_20 rfl (lv_at hl 0 rfl) ?_
      refine lv_iconst (v := 3) hx hb dX0_isTaken_21 (by decide) ?_
      refine lv_lload_n hx hb dX0_isTaken_22 rfl (lv_at hl 1 rfl) ?_
      obtain ⟨r9, M10, hc11, h⟩ := bnd_inv h
      refine gV_i (As := [.int (3 : Int32), .long a1]) X hP hS hl.1 (c_X0_numberOf l D cA q aK aV hq h0 hc11) sf_X0_numberOf bw_667 sv_X0_numberOf (rcC_0 h0) rfl ⟨rfl, rfl⟩ ⟨Nat.le_of_ble_eq_true rfl, Nat.le_of_ble_eq_true rfl⟩ rfl rfl (Nat.le_of_ble_eq_true rfl) dX0_isTaken_23 (fun H locs hP hS => ?_)
      refine lv_iconst (v := -1) hx hb dX0_isTaken_26 (by decide) ?_
      refine lv_icmp_ne (tgt := 40) hx hb dX0_isTaken_27 (by decide) (fun c12 => ?_) (fun c12 => ?_)
      · rw [if_neg c12] at h
        refine lv_iconst (v := 1) hx hb dX0_isTaken_40 (by decide) ?_
        refine lv_goto (tgt := 45) hx hb dX0_isTaken_41 (by decide) ?_
        exact end_z X hr hk hP hS (Or.inr rfl) h dX0_isTaken_45
      · rw [if_pos c12] at h
        refine lv_aload_n hx hb dX0_isTaken_30 rfl (lv_at hl 0 rfl) ?_
        refine lv_iconst (v := 4) hx hb dX0_isTaken_31 (by decide) ?_
        refine lv_lload_n hx hb dX0_isTaken_32 rfl (lv_at hl 1 rfl) ?_
        obtain ⟨r13, M14, hc15, h⟩ := bnd_inv h
        refine gV_i (As := [.int (4 : Int32), .long a1]) X hP hS hl.1 (c_X0_numberOf l D cA q aK aV hq h0 hc15) sf_X0_numberOf bw_667 sv_X0_numberOf (rcC_0 h0) rfl ⟨rfl, rfl⟩ ⟨Nat.le_of_ble_eq_true rfl, Nat.le_of_ble_eq_true rfl⟩ rfl rfl (Nat.le_of_ble_eq_true rfl) dX0_isTaken_33 (fun H locs hP hS => ?_)
        refine lv_iconst (v := -1) hx hb dX0_isTaken_36 (by decide) ?_
        refine lv_icmp_eq (tgt := 44) hx hb dX0_isTaken_37 (by decide) (fun c16 => ?_) (fun c16 => ?_)
        · rw [if_pos c16] at h
          refine lv_iconst (v := 0) hx hb dX0_isTaken_44 (by decide) ?_
          exact end_z X hr hk hP hS (Or.inl rfl) h dX0_isTaken_45
        · rw [if_neg c16] at h
          refine lv_iconst (v := 1) hx hb dX0_isTaken_40 (by decide) ?_
          refine lv_goto (tgt := 45) hx hb dX0_isTaken_41 (by decide) ?_
          exact end_z X hr hk hP hS (Or.inr rfl) h dX0_isTaken_45
theorem dX0_addOne_0 : decode cX0_addOne 0 = .ok (.aload_n 0, 1) := by decide +kernel
theorem dX0_addOne_1 : decode cX0_addOne 1 = .ok (.iload_n 1, 1) := by decide +kernel
theorem dX0_addOne_2 : decode cX0_addOne 2 = .ok (.invokevirtual 77, 3) := by decide +kernel
theorem dX0_addOne_5 : decode cX0_addOne 5 = .ok (.istore_n 2, 1) := by decide +kernel
theorem dX0_addOne_6 : decode cX0_addOne 6 = .ok (.aload_n 0, 1) := by decide +kernel
theorem dX0_addOne_7 : decode cX0_addOne 7 = .ok (.getfield 9, 3) := by decide +kernel
theorem dX0_addOne_10 : decode cX0_addOne 10 = .ok (.iload_n 1, 1) := by decide +kernel
theorem dX0_addOne_11 : decode cX0_addOne 11 = .ok (.iload_n 2, 1) := by decide +kernel
theorem dX0_addOne_12 : decode cX0_addOne 12 = .ok (.iconst 1, 1) := by decide +kernel
theorem dX0_addOne_13 : decode cX0_addOne 13 = .ok (.iadd, 1) := by decide +kernel
theorem dX0_addOne_14 : decode cX0_addOne 14 = .ok (.invokestatic 106, 3) := by decide +kernel
theorem dX0_addOne_17 : decode cX0_addOne 17 = .ok (.iload_n 2, 1) := by decide +kernel
theorem dX0_addOne_18 : decode cX0_addOne 18 = .ok (.ireturn, 1) := by decide +kernel
set_option maxRecDepth 100000 in
set_option maxHeartbeats 8000000 in
theorem c_X0_addOne (l : Launch) (D : va_G) (cA : Nat → ClassId) (q aK aV : Nat → Nat) (hq : injG 167 q) {a0 : Nat} {a1 : Int32} {M M0 : Mem} {r0 : Int32} (h0 : shC a0 = 0) (h : f_X0_addOne a0 a1 M = some (r0, M0)) : Met l yX0_addOne (.code yX0_addOne cX0_addOne 3 (some .int) :: BW) ({ frames := 2, cells := 0, slots := 0, locals := 36 } : Room) (va_Pc [.ref (q a0), .int a1] (CB 167 (ceC cA q) D cA q aK aV M)) (Qi 167 (ceC cA q) D q r0 M0) 0 0 (AqG 167 q) := by
  refine gMet RX0 (by decide +kernel) rfl hq (Nat.le_of_ble_eq_true rfl) ?_
  intro p e s m below meth c ls X hr hk hP hS hl
  have hx := X.1
  have hb := X.2.1
  have hl : lv_has ls 3 [(0, .ref (q a0)), (1, .int a1)] := hl
  rw [f_X0_addOne] at h
  refine lv_aload_n hx hb dX0_addOne_0 rfl (lv_at hl 0 rfl) ?_
  refine lv_iload_n hx hb dX0_addOne_1 rfl (lv_at hl 1 rfl) ?_
  obtain ⟨r1, M2, hc3, h⟩ := bnd_inv h
  refine gV_i (As := [.int a1]) X hP hS hl.1 (c_X0_countOf l D cA q aK aV hq h0 hc3) sf_X0_countOf bw_645 sv_X0_countOf (rcC_0 h0) rfl ⟨rfl, rfl⟩ ⟨Nat.le_of_ble_eq_true rfl, Nat.le_of_ble_eq_true rfl⟩ rfl rfl (Nat.le_of_ble_eq_true rfl) dX0_addOne_2 (fun H locs hP hS => ?_)
  refine lv_istore_n (lv' := [(2, .int r1), (0, .ref (q a0)), (1, .int a1)]) hx hb dX0_addOne_5 rfl hl (by decide) rfl (fun ls hl => ?_)
  refine lv_aload_n hx hb dX0_addOne_6 rfl (lv_at hl 1 rfl) ?_
  refine gfC_0_0 X hP h0 bw_143 dX0_addOne_7 ?_
  refine lv_iload_n hx hb dX0_addOne_10 rfl (lv_at hl 2 rfl) ?_
  refine lv_iload_n hx hb dX0_addOne_11 rfl (lv_at hl 0 rfl) ?_
  refine lv_iconst (v := 1) hx hb dX0_addOne_12 (by decide) ?_
  refine lv_iadd hx hb dX0_addOne_13 ?_
  obtain ⟨_, M5, hc6, h⟩ := bnd_inv h
  refine gSN_v (As := [.ref (q (a0 + 1)), .int a1, .int (r1 + (1 : Int32))]) X hP hS hl.1 (c_X11_put l D cA q aK aV hq ((kC_0_0 h0).1) hc6) sf_X11_put nw_13 ss_X11_put ⟨rfl, rfl⟩ ⟨Nat.le_of_ble_eq_true rfl, Nat.le_of_ble_eq_true rfl⟩ rfl rfl (Nat.le_of_ble_eq_true rfl) dX0_addOne_14 (fun H locs hP hS => ?_)
  refine lv_iload_n hx hb dX0_addOne_17 rfl (lv_at hl 0 rfl) ?_
  exact end_i X hr hk hP hS h dX0_addOne_18
theorem dX0_putName_0 : decode cX0_putName 0 = .ok (.iload_n 1, 1) := by decide +kernel
theorem dX0_putName_1 : decode cX0_putName 1 = .ok (.bipush 6, 2) := by decide +kernel
theorem dX0_putName_3 : decode cX0_putName 3 = .ok (.imul, 1) := by decide +kernel
theorem dX0_putName_4 : decode cX0_putName 4 = .ok (.iload_n 2, 1) := by decide +kernel
theorem dX0_putName_5 : decode cX0_putName 5 = .ok (.iadd, 1) := by decide +kernel
theorem dX0_putName_6 : decode cX0_putName 6 = .ok (.istore 5, 2) := by decide +kernel
theorem dX0_putName_8 : decode cX0_putName 8 = .ok (.iload 5, 2) := by decide +kernel
theorem dX0_putName_10 : decode cX0_putName 10 = .ok (.aload_n 0, 1) := by decide +kernel
theorem dX0_putName_11 : decode cX0_putName 11 = .ok (.getfield 15, 3) := by decide +kernel
theorem dX0_putName_14 : decode cX0_putName 14 = .ok (.arraylength, 1) := by decide +kernel
theorem dX0_putName_15 : decode cX0_putName 15 = .ok (.invokestatic 110, 3) := by decide +kernel
theorem dX0_putName_18 : decode cX0_putName 18 = .ok (.ifCond .eq 11, 3) := by decide +kernel
theorem dX0_putName_21 : decode cX0_putName 21 = .ok (.aload_n 0, 1) := by decide +kernel
theorem dX0_putName_22 : decode cX0_putName 22 = .ok (.getfield 15, 3) := by decide +kernel
theorem dX0_putName_25 : decode cX0_putName 25 = .ok (.iload 5, 2) := by decide +kernel
theorem dX0_putName_27 : decode cX0_putName 27 = .ok (.lload_n 3, 1) := by decide +kernel
theorem dX0_putName_28 : decode cX0_putName 28 = .ok (.lastore, 1) := by decide +kernel
theorem dX0_putName_29 : decode cX0_putName 29 = .ok (.return_, 1) := by decide +kernel
set_option maxRecDepth 100000 in
set_option maxHeartbeats 8000000 in
theorem c_X0_putName (l : Launch) (D : va_G) (cA : Nat → ClassId) (q aK aV : Nat → Nat) (hq : injG 167 q) {a0 : Nat} {a1 : Int32} {a2 : Int32} {a3 : Int64} {M M0 : Mem} (h0 : shC a0 = 0) (h : f_X0_putName a0 a1 a2 a3 M = some ((), M0)) : Met l yX0_putName (.code yX0_putName cX0_putName 6 none :: BW) ({ frames := 2, cells := 0, slots := 0, locals := 34 } : Room) (va_Pc [.ref (q a0), .int a1, .int a2, .long a3] (CB 167 (ceC cA q) D cA q aK aV M)) (Qv 167 (ceC cA q) D q M0) 0 0 (AqG 167 q) := by
  refine gMet RX0 (by decide +kernel) rfl hq (Nat.le_of_ble_eq_true rfl) ?_
  intro p e s m below meth c ls X hr hk hP hS hl
  have hx := X.1
  have hb := X.2.1
  have hl : lv_has ls 6 [(0, .ref (q a0)), (1, .int a1), (2, .int a2), (3, .long a3)] := hl
  rw [f_X0_putName] at h
  refine lv_iload_n hx hb dX0_putName_0 rfl (lv_at hl 1 rfl) ?_
  refine lv_bipush (v := 6) hx hb dX0_putName_1 (by decide) ?_
  refine lv_imul hx hb dX0_putName_3 ?_
  refine lv_iload_n hx hb dX0_putName_4 rfl (lv_at hl 2 rfl) ?_
  refine lv_iadd hx hb dX0_putName_5 ?_
  obtain ⟨y1, ey1, h⟩ := lt_inv h
  refine topE ey1 ?_
  refine lv_istore (lv' := [(5, .int y1), (0, .ref (q a0)), (1, .int a1), (2, .int a2), (3, .long a3)]) hx hb dX0_putName_6 hl (by decide) rfl (fun ls hl => ?_)
  refine lv_iload hx hb dX0_putName_8 (lv_at hl 0 rfl) ?_
  refine lv_aload_n hx hb dX0_putName_10 rfl (lv_at hl 1 rfl) ?_
  refine gfC_0_1 X hP h0 bw_144 dX0_putName_11 ?_
  refine alC_21 X hP ((kC_0_1 h0).1) ((kC_0_1 h0).2) (v := 36) rfl dX0_putName_14 ?_
  obtain ⟨r2, M3, hc4, h⟩ := bnd_inv h
  refine gSN_i (As := [.int y1, .int (36 : Int32)]) X hP hS hl.1 (c_X11_within l D cA q aK aV hq hc4) sf_X11_within nw_12 ss_X11_within ⟨rfl, rfl⟩ ⟨Nat.le_of_ble_eq_true rfl, Nat.le_of_ble_eq_true rfl⟩ rfl rfl (Nat.le_of_ble_eq_true rfl) dX0_putName_15 (fun H locs hP hS => ?_)
  refine lv_if_eq (tgt := 29) hx hb dX0_putName_18 (by decide) (fun c5 => ?_) (fun c5 => ?_)
  · rw [if_pos c5] at h
    exact end_v X hr hk hP hS h dX0_putName_29
  · rw [if_neg c5] at h
    refine lv_aload_n hx hb dX0_putName_21 rfl (lv_at hl 1 rfl) ?_
    refine gfC_0_1 X hP h0 bw_144 dX0_putName_22 ?_
    refine lv_iload hx hb dX0_putName_25 (lv_at hl 0 rfl) ?_
    refine lv_lload_n hx hb dX0_putName_27 rfl (lv_at hl 4 rfl) ?_
    obtain ⟨g6, h⟩ := gd_inv h
    obtain ⟨M7, eM7, h⟩ := lt_inv h
    refine stC_la X hP hS ((kC_0_1 h0).1) ((kC_0_1 h0).2) g6 eM7 dX0_putName_28 (fun H locs hP hS => ?_)
    exact end_v X hr hk hP hS h dX0_putName_29
theorem dX4_takeNewName_0 : decode cX4_takeNewName 0 = .ok (.aload_n 0, 1) := by decide +kernel
theorem dX4_takeNewName_1 : decode cX4_takeNewName 1 = .ok (.getfield 28, 3) := by decide +kernel
theorem dX4_takeNewName_4 : decode cX4_takeNewName 4 = .ok (.getfield 43, 3) := by decide +kernel
theorem dX4_takeNewName_7 : decode cX4_takeNewName 7 = .ok (.bipush 29, 2) := by decide +kernel
theorem dX4_takeNewName_9 : decode cX4_takeNewName 9 = .ok (.if_icmp .eq 12, 3) := by decide +kernel
theorem dX4_takeNewName_12 : decode cX4_takeNewName 12 = .ok (.aload_n 0, 1) := by decide +kernel
theorem dX4_takeNewName_13 : decode cX4_takeNewName 13 = .ok (.getfield 28, 3) := by decide +kernel
theorem dX4_takeNewName_16 : decode cX4_takeNewName 16 = .ok (.iconst 2, 1) := by decide +kernel
theorem dX4_takeNewName_17 : decode cX4_takeNewName 17 = .ok (.invokevirtual 57, 3) := by decide +kernel
theorem dX4_takeNewName_20 : decode cX4_takeNewName 20 = .ok (.ireturn, 1) := by decide +kernel
theorem dX4_takeNewName_21 : decode cX4_takeNewName 21 = .ok (.aload_n 2, 1) := by decide +kernel
theorem dX4_takeNewName_22 : decode cX4_takeNewName 22 = .ok (.aload_n 0, 1) := by decide +kernel
theorem dX4_takeNewName_23 : decode cX4_takeNewName 23 = .ok (.getfield 28, 3) := by decide +kernel
theorem dX4_takeNewName_26 : decode cX4_takeNewName 26 = .ok (.getfield 162, 3) := by decide +kernel
theorem dX4_takeNewName_29 : decode cX4_takeNewName 29 = .ok (.invokevirtual 226, 3) := by decide +kernel
theorem dX4_takeNewName_32 : decode cX4_takeNewName 32 = .ok (.ifCond .eq 12, 3) := by decide +kernel
theorem dX4_takeNewName_35 : decode cX4_takeNewName 35 = .ok (.aload_n 0, 1) := by decide +kernel
theorem dX4_takeNewName_36 : decode cX4_takeNewName 36 = .ok (.getfield 28, 3) := by decide +kernel
theorem dX4_takeNewName_39 : decode cX4_takeNewName 39 = .ok (.iconst 3, 1) := by decide +kernel
theorem dX4_takeNewName_40 : decode cX4_takeNewName 40 = .ok (.invokevirtual 57, 3) := by decide +kernel
theorem dX4_takeNewName_43 : decode cX4_takeNewName 43 = .ok (.ireturn, 1) := by decide +kernel
theorem dX4_takeNewName_44 : decode cX4_takeNewName 44 = .ok (.aload_n 0, 1) := by decide +kernel
theorem dX4_takeNewName_45 : decode cX4_takeNewName 45 = .ok (.aload_n 2, 1) := by decide +kernel
theorem dX4_takeNewName_46 : decode cX4_takeNewName 46 = .ok (.iload_n 1, 1) := by decide +kernel
theorem dX4_takeNewName_47 : decode cX4_takeNewName 47 = .ok (.invokevirtual 99, 3) := by decide +kernel
theorem dX4_takeNewName_50 : decode cX4_takeNewName 50 = .ok (.putfield 19, 3) := by decide +kernel
theorem dX4_takeNewName_53 : decode cX4_takeNewName 53 = .ok (.aload_n 2, 1) := by decide +kernel
theorem dX4_takeNewName_54 : decode cX4_takeNewName 54 = .ok (.iload_n 1, 1) := by decide +kernel
theorem dX4_takeNewName_55 : decode cX4_takeNewName 55 = .ok (.aload_n 0, 1) := by decide +kernel
theorem dX4_takeNewName_56 : decode cX4_takeNewName 56 = .ok (.getfield 19, 3) := by decide +kernel
theorem dX4_takeNewName_59 : decode cX4_takeNewName 59 = .ok (.aload_n 0, 1) := by decide +kernel
theorem dX4_takeNewName_60 : decode cX4_takeNewName 60 = .ok (.getfield 28, 3) := by decide +kernel
theorem dX4_takeNewName_63 : decode cX4_takeNewName 63 = .ok (.getfield 162, 3) := by decide +kernel
theorem dX4_takeNewName_66 : decode cX4_takeNewName 66 = .ok (.invokevirtual 230, 3) := by decide +kernel
theorem dX4_takeNewName_69 : decode cX4_takeNewName 69 = .ok (.aload_n 0, 1) := by decide +kernel
theorem dX4_takeNewName_70 : decode cX4_takeNewName 70 = .ok (.getfield 28, 3) := by decide +kernel
theorem dX4_takeNewName_73 : decode cX4_takeNewName 73 = .ok (.invokevirtual 63, 3) := by decide +kernel
theorem dX4_takeNewName_76 : decode cX4_takeNewName 76 = .ok (.iconst 1, 1) := by decide +kernel
theorem dX4_takeNewName_77 : decode cX4_takeNewName 77 = .ok (.ireturn, 1) := by decide +kernel
set_option maxRecDepth 100000 in
set_option maxHeartbeats 8000000 in
theorem c_X4_takeNewName (l : Launch) (D : va_G) (cA : Nat → ClassId) (q aK aV : Nat → Nat) (hq : injG 167 q) {a1 : Int32} {a2 : Nat} {M M0 : Mem} {r0 : Int32} (h2 : shC a2 = 0) (h : f_X4_takeNewName a1 a2 M = some (r0, M0)) : Met l yX4_takeNewName (.code yX4_takeNewName cX4_takeNewName 3 (some .boolean) :: BW) ({ frames := 4, cells := 0, slots := 0, locals := 81 } : Room) (va_Pc [.ref (q 16), .int a1, .ref (q a2)] (CB 167 (ceC cA q) D cA q aK aV M)) (Qi 167 (ceC cA q) D q r0 M0) 0 0 (AqG 167 q) := by
  refine gMet RX4 (by decide +kernel) rfl hq (Nat.le_of_ble_eq_true rfl) ?_
  intro p e s m below meth c ls X hr hk hP hS hl
  have hx := X.1
  have hb := X.2.1
  have hl : lv_has ls 3 [(0, .ref (q 16)), (1, .int a1), (2, .ref (q a2))] := hl
  rw [f_X4_takeNewName] at h
  refine lv_aload_n hx hb dX4_takeNewName_0 rfl (lv_at hl 0 rfl) ?_
  refine gfC_4_0 X hP sC_16 bw_329 dX4_takeNewName_1 ?_
  refine gfC_7_6 X hP sC_13 bw_290 dX4_takeNewName_4 ?_
  refine lv_bipush (v := 29) hx hb dX4_takeNewName_7 (by decide) ?_
  refine lv_icmp_eq (tgt := 21) hx hb dX4_takeNewName_9 (by decide) (fun c1 => ?_) (fun c1 => ?_)
  · rw [if_pos c1] at h
    refine lv_aload_n hx hb dX4_takeNewName_21 rfl (lv_at hl 2 rfl) ?_
    refine lv_aload_n hx hb dX4_takeNewName_22 rfl (lv_at hl 0 rfl) ?_
    refine gfC_4_0 X hP sC_16 bw_329 dX4_takeNewName_23 ?_
    refine gfC_7_7 X hP sC_13 bw_292 dX4_takeNewName_26 ?_
    obtain ⟨r2, M3, hc4, h⟩ := bnd_inv h
    refine gV_i (As := [.long (gL M 13 7)]) X hP hS hl.1 (c_X0_isTaken l D cA q aK aV hq h2 hc4) sf_X0_isTaken bw_663 sv_X0_isTaken (rcC_0 h2) rfl ⟨rfl, rfl⟩ ⟨Nat.le_of_ble_eq_true rfl, Nat.le_of_ble_eq_true rfl⟩ rfl rfl (Nat.le_of_ble_eq_true rfl) dX4_takeNewName_29 (fun H locs hP hS => ?_)
    refine lv_if_eq (tgt := 44) hx hb dX4_takeNewName_32 (by decide) (fun c5 => ?_) (fun c5 => ?_)
    · rw [if_pos c5] at h
      refine lv_aload_n hx hb dX4_takeNewName_44 rfl (lv_at hl 0 rfl) ?_
      refine lv_aload_n hx hb dX4_takeNewName_45 rfl (lv_at hl 2 rfl) ?_
      refine lv_iload_n hx hb dX4_takeNewName_46 rfl (lv_at hl 1 rfl) ?_
      obtain ⟨r6, M7, hc8, h⟩ := bnd_inv h
      refine gV_i (As := [.int a1]) X hP hS hl.1 (c_X0_addOne l D cA q aK aV hq h2 hc8) sf_X0_addOne bw_672 sv_X0_addOne (rcC_0 h2) rfl ⟨rfl, rfl⟩ ⟨Nat.le_of_ble_eq_true rfl, Nat.le_of_ble_eq_true rfl⟩ rfl rfl (Nat.le_of_ble_eq_true rfl) dX4_takeNewName_47 (fun H locs hP hS => ?_)
      obtain ⟨M9, eM9, h⟩ := lt_inv h
      refine pfC_4_3 X hP hS sC_16 bw_332 eM9 dX4_takeNewName_50 (fun H locs hP hS => ?_)
      refine lv_aload_n hx hb dX4_takeNewName_53 rfl (lv_at hl 2 rfl) ?_
      refine lv_iload_n hx hb dX4_takeNewName_54 rfl (lv_at hl 1 rfl) ?_
      refine lv_aload_n hx hb dX4_takeNewName_55 rfl (lv_at hl 0 rfl) ?_
      refine gfC_4_3 X hP sC_16 bw_332 dX4_takeNewName_56 ?_
      refine lv_aload_n hx hb dX4_takeNewName_59 rfl (lv_at hl 0 rfl) ?_
      refine gfC_4_0 X hP sC_16 bw_329 dX4_takeNewName_60 ?_
      refine gfC_7_7 X hP sC_13 bw_292 dX4_takeNewName_63 ?_
      obtain ⟨_, M11, hc12, h⟩ := bnd_inv h
      refine gV_v (As := [.int a1, .int (gI M9 16 3), .long (gL M9 13 7)]) X hP hS hl.1 (c_X0_putName l D cA q aK aV hq h2 hc12) sf_X0_putName bw_677 sv_X0_putName (rcC_0 h2) rfl ⟨rfl, rfl⟩ ⟨Nat.le_of_ble_eq_true rfl, Nat.le_of_ble_eq_true rfl⟩ rfl rfl (Nat.le_of_ble_eq_true rfl) dX4_takeNewName_66 (fun H locs hP hS => ?_)
      refine lv_aload_n hx hb dX4_takeNewName_69 rfl (lv_at hl 0 rfl) ?_
      refine gfC_4_0 X hP sC_16 bw_329 dX4_takeNewName_70 ?_
      obtain ⟨_, M14, hc15, h⟩ := bnd_inv h
      refine gV_v (As := []) X hP hS hl.1 (c_X7_goOn l D cA q aK aV hq hc15) sf_X7_goOn bw_654 sv_X7_goOn (rcC_7 sC_13) rfl ⟨rfl, rfl⟩ ⟨Nat.le_of_ble_eq_true rfl, Nat.le_of_ble_eq_true rfl⟩ rfl rfl (Nat.le_of_ble_eq_true rfl) dX4_takeNewName_73 (fun H locs hP hS => ?_)
      refine lv_iconst (v := 1) hx hb dX4_takeNewName_76 (by decide) ?_
      exact end_z X hr hk hP hS (Or.inr rfl) h dX4_takeNewName_77
    · rw [if_neg c5] at h
      refine lv_aload_n hx hb dX4_takeNewName_35 rfl (lv_at hl 0 rfl) ?_
      refine gfC_4_0 X hP sC_16 bw_329 dX4_takeNewName_36 ?_
      refine lv_iconst (v := 3) hx hb dX4_takeNewName_39 (by decide) ?_
      obtain ⟨r16, M17, hc18, h⟩ := bnd_inv h
      refine gV_i (As := [.int (3 : Int32)]) X hP hS hl.1 (c_X7_refuse l D cA q aK aV hq hc18) sf_X7_refuse bw_637 sv_X7_refuse (rcC_7 sC_13) rfl ⟨rfl, rfl⟩ ⟨Nat.le_of_ble_eq_true rfl, Nat.le_of_ble_eq_true rfl⟩ rfl rfl (Nat.le_of_ble_eq_true rfl) dX4_takeNewName_40 (fun H locs hP hS => ?_)
      obtain ⟨g19, h⟩ := gd_inv h
      exact end_z X hr hk hP hS (Decidable.not_not.mp g19) h dX4_takeNewName_43
  · rw [if_neg c1] at h
    refine lv_aload_n hx hb dX4_takeNewName_12 rfl (lv_at hl 0 rfl) ?_
    refine gfC_4_0 X hP sC_16 bw_329 dX4_takeNewName_13 ?_
    refine lv_iconst (v := 2) hx hb dX4_takeNewName_16 (by decide) ?_
    obtain ⟨r20, M21, hc22, h⟩ := bnd_inv h
    refine gV_i (As := [.int (2 : Int32)]) X hP hS hl.1 (c_X7_refuse l D cA q aK aV hq hc22) sf_X7_refuse bw_637 sv_X7_refuse (rcC_7 sC_13) rfl ⟨rfl, rfl⟩ ⟨Nat.le_of_ble_eq_true rfl, Nat.le_of_ble_eq_true rfl⟩ rfl rfl (Nat.le_of_ble_eq_true rfl) dX4_takeNewName_17 (fun H locs hP hS => ?_)
    obtain ⟨g23, h⟩ := gd_inv h
    exact end_z X hr hk hP hS (Decidable.not_not.mp g23) h dX4_takeNewName_20
theorem dX4_skip_0 : decode cX4_skip 0 = .ok (.aload_n 0, 1) := by decide +kernel
theorem dX4_skip_1 : decode cX4_skip 1 = .ok (.getfield 28, 3) := by decide +kernel
theorem dX4_skip_4 : decode cX4_skip 4 = .ok (.getfield 43, 3) := by decide +kernel
theorem dX4_skip_7 : decode cX4_skip 7 = .ok (.iload_n 1, 1) := by decide +kernel
theorem dX4_skip_8 : decode cX4_skip 8 = .ok (.if_icmp .eq 5, 3) := by decide +kernel
theorem dX4_skip_11 : decode cX4_skip 11 = .ok (.iconst 0, 1) := by decide +kernel
theorem dX4_skip_12 : decode cX4_skip 12 = .ok (.ireturn, 1) := by decide +kernel
theorem dX4_skip_13 : decode cX4_skip 13 = .ok (.aload_n 0, 1) := by decide +kernel
theorem dX4_skip_14 : decode cX4_skip 14 = .ok (.getfield 28, 3) := by decide +kernel
theorem dX4_skip_17 : decode cX4_skip 17 = .ok (.invokevirtual 63, 3) := by decide +kernel
theorem dX4_skip_20 : decode cX4_skip 20 = .ok (.iconst 1, 1) := by decide +kernel
theorem dX4_skip_21 : decode cX4_skip 21 = .ok (.ireturn, 1) := by decide +kernel
set_option maxRecDepth 100000 in
set_option maxHeartbeats 8000000 in
theorem c_X4_skip (l : Launch) (D : va_G) (cA : Nat → ClassId) (q aK aV : Nat → Nat) (hq : injG 167 q) {a1 : Int32} {M M0 : Mem} {r0 : Int32} (h : f_X4_skip a1 M = some (r0, M0)) : Met l yX4_skip (.code yX4_skip cX4_skip 2 (some .boolean) :: BW) ({ frames := 3, cells := 0, slots := 0, locals := 57 } : Room) (va_Pc [.ref (q 16), .int a1] (CB 167 (ceC cA q) D cA q aK aV M)) (Qi 167 (ceC cA q) D q r0 M0) 0 0 (AqG 167 q) := by
  refine gMet RX4 (by decide +kernel) rfl hq (Nat.le_of_ble_eq_true rfl) ?_
  intro p e s m below meth c ls X hr hk hP hS hl
  have hx := X.1
  have hb := X.2.1
  have hl : lv_has ls 2 [(0, .ref (q 16)), (1, .int a1)] := hl
  rw [f_X4_skip] at h
  refine lv_aload_n hx hb dX4_skip_0 rfl (lv_at hl 0 rfl) ?_
  refine gfC_4_0 X hP sC_16 bw_329 dX4_skip_1 ?_
  refine gfC_7_6 X hP sC_13 bw_290 dX4_skip_4 ?_
  refine lv_iload_n hx hb dX4_skip_7 rfl (lv_at hl 1 rfl) ?_
  refine lv_icmp_eq (tgt := 13) hx hb dX4_skip_8 (by decide) (fun c1 => ?_) (fun c1 => ?_)
  · rw [if_pos c1] at h
    refine lv_aload_n hx hb dX4_skip_13 rfl (lv_at hl 0 rfl) ?_
    refine gfC_4_0 X hP sC_16 bw_329 dX4_skip_14 ?_
    obtain ⟨_, M3, hc4, h⟩ := bnd_inv h
    refine gV_v (As := []) X hP hS hl.1 (c_X7_goOn l D cA q aK aV hq hc4) sf_X7_goOn bw_654 sv_X7_goOn (rcC_7 sC_13) rfl ⟨rfl, rfl⟩ ⟨Nat.le_of_ble_eq_true rfl, Nat.le_of_ble_eq_true rfl⟩ rfl rfl (Nat.le_of_ble_eq_true rfl) dX4_skip_17 (fun H locs hP hS => ?_)
    refine lv_iconst (v := 1) hx hb dX4_skip_20 (by decide) ?_
    exact end_z X hr hk hP hS (Or.inr rfl) h dX4_skip_21
  · rw [if_neg c1] at h
    refine lv_iconst (v := 0) hx hb dX4_skip_11 (by decide) ?_
    exact end_z X hr hk hP hS (Or.inl rfl) h dX4_skip_12
theorem dX4_take_0 : decode cX4_take 0 = .ok (.aload_n 0, 1) := by decide +kernel
theorem dX4_take_1 : decode cX4_take 1 = .ok (.iload_n 1, 1) := by decide +kernel
theorem dX4_take_2 : decode cX4_take 2 = .ok (.invokevirtual 115, 3) := by decide +kernel
theorem dX4_take_5 : decode cX4_take 5 = .ok (.ifCond .ne 14, 3) := by decide +kernel
theorem dX4_take_8 : decode cX4_take 8 = .ok (.aload_n 0, 1) := by decide +kernel
theorem dX4_take_9 : decode cX4_take 9 = .ok (.getfield 28, 3) := by decide +kernel
theorem dX4_take_12 : decode cX4_take 12 = .ok (.iconst 2, 1) := by decide +kernel
theorem dX4_take_13 : decode cX4_take 13 = .ok (.invokevirtual 57, 3) := by decide +kernel
theorem dX4_take_16 : decode cX4_take 16 = .ok (.ifCond .eq 7, 3) := by decide +kernel
theorem dX4_take_19 : decode cX4_take 19 = .ok (.iconst 1, 1) := by decide +kernel
theorem dX4_take_20 : decode cX4_take 20 = .ok (.goto 4, 3) := by decide +kernel
theorem dX4_take_23 : decode cX4_take 23 = .ok (.iconst 0, 1) := by decide +kernel
theorem dX4_take_24 : decode cX4_take 24 = .ok (.ireturn, 1) := by decide +kernel
set_option maxRecDepth 100000 in
set_option maxHeartbeats 8000000 in
theorem c_X4_take (l : Launch) (D : va_G) (cA : Nat → ClassId) (q aK aV : Nat → Nat) (hq : injG 167 q) {a1 : Int32} {M M0 : Mem} {r0 : Int32} (h : f_X4_take a1 M = some (r0, M0)) : Met l yX4_take (.code yX4_take cX4_take 2 (some .boolean) :: BW) ({ frames := 4, cells := 0, slots := 0, locals := 78 } : Room) (va_Pc [.ref (q 16), .int a1] (CB 167 (ceC cA q) D cA q aK aV M)) (Qi 167 (ceC cA q) D q r0 M0) 0 0 (AqG 167 q) := by
  refine gMet RX4 (by decide +kernel) rfl hq (Nat.le_of_ble_eq_true rfl) ?_
  intro p e s m below meth c ls X hr hk hP hS hl
  have hx := X.1
  have hb := X.2.1
  have hl : lv_has ls 2 [(0, .ref (q 16)), (1, .int a1)] := hl
  rw [f_X4_take] at h
  refine lv_aload_n hx hb dX4_take_0 rfl (lv_at hl 0 rfl) ?_
  refine lv_iload_n hx hb dX4_take_1 rfl (lv_at hl 1 rfl) ?_
  obtain ⟨r1, M2, hc3, h⟩ := bnd_inv h
  refine gV_i (As := [.int a1]) X hP hS hl.1 (c_X4_skip l D cA q aK aV hq hc3) sf_X4_skip bw_689 sv_X4_skip (rcC_4 sC_16) rfl ⟨rfl, rfl⟩ ⟨Nat.le_of_ble_eq_true rfl, Nat.le_of_ble_eq_true rfl⟩ rfl rfl (Nat.le_of_ble_eq_true rfl) dX4_take_2 (fun H locs hP hS => ?_)
  refine lv_if_ne (tgt := 19) hx hb dX4_take_5 (by decide) (fun c4 => ?_) (fun c4 => ?_)
  · rw [if_neg c4] at h
    refine lv_iconst (v := 1) hx hb dX4_take_19 (by decide) ?_
    refine lv_goto (tgt := 24) hx hb dX4_take_20 (by decide) ?_
    exact end_z X hr hk hP hS (Or.inr rfl) h dX4_take_24
  · rw [if_pos c4] at h
    refine lv_aload_n hx hb dX4_take_8 rfl (lv_at hl 0 rfl) ?_
    refine gfC_4_0 X hP sC_16 bw_329 dX4_take_9 ?_
    refine lv_iconst (v := 2) hx hb dX4_take_12 (by decide) ?_
    obtain ⟨r5, M6, hc7, h⟩ := bnd_inv h
    refine gV_i (As := [.int (2 : Int32)]) X hP hS hl.1 (c_X7_refuse l D cA q aK aV hq hc7) sf_X7_refuse bw_637 sv_X7_refuse (rcC_7 sC_13) rfl ⟨rfl, rfl⟩ ⟨Nat.le_of_ble_eq_true rfl, Nat.le_of_ble_eq_true rfl⟩ rfl rfl (Nat.le_of_ble_eq_true rfl) dX4_take_13 (fun H locs hP hS => ?_)
    refine lv_if_eq (tgt := 23) hx hb dX4_take_16 (by decide) (fun c8 => ?_) (fun c8 => ?_)
    · rw [if_pos c8] at h
      refine lv_iconst (v := 0) hx hb dX4_take_23 (by decide) ?_
      exact end_z X hr hk hP hS (Or.inl rfl) h dX4_take_24
    · rw [if_neg c8] at h
      refine lv_iconst (v := 1) hx hb dX4_take_19 (by decide) ?_
      refine lv_goto (tgt := 24) hx hb dX4_take_20 (by decide) ?_
      exact end_z X hr hk hP hS (Or.inr rfl) h dX4_take_24
theorem dX4_guiltHere_0 : decode cX4_guiltHere 0 = .ok (.aload_n 0, 1) := by decide +kernel
theorem dX4_guiltHere_1 : decode cX4_guiltHere 1 = .ok (.getfield 28, 3) := by decide +kernel
theorem dX4_guiltHere_4 : decode cX4_guiltHere 4 = .ok (.getfield 43, 3) := by decide +kernel
theorem dX4_guiltHere_7 : decode cX4_guiltHere 7 = .ok (.bipush 7, 2) := by decide +kernel
theorem dX4_guiltHere_9 : decode cX4_guiltHere 9 = .ok (.if_icmp .ne 7, 3) := by decide +kernel
theorem dX4_guiltHere_12 : decode cX4_guiltHere 12 = .ok (.iconst 1, 1) := by decide +kernel
theorem dX4_guiltHere_13 : decode cX4_guiltHere 13 = .ok (.goto 20, 3) := by decide +kernel
theorem dX4_guiltHere_16 : decode cX4_guiltHere 16 = .ok (.aload_n 0, 1) := by decide +kernel
theorem dX4_guiltHere_17 : decode cX4_guiltHere 17 = .ok (.getfield 28, 3) := by decide +kernel
theorem dX4_guiltHere_20 : decode cX4_guiltHere 20 = .ok (.getfield 43, 3) := by decide +kernel
theorem dX4_guiltHere_23 : decode cX4_guiltHere 23 = .ok (.bipush 8, 2) := by decide +kernel
theorem dX4_guiltHere_25 : decode cX4_guiltHere 25 = .ok (.if_icmp .ne 7, 3) := by decide +kernel
theorem dX4_guiltHere_28 : decode cX4_guiltHere 28 = .ok (.iconst 2, 1) := by decide +kernel
theorem dX4_guiltHere_29 : decode cX4_guiltHere 29 = .ok (.goto 4, 3) := by decide +kernel
theorem dX4_guiltHere_32 : decode cX4_guiltHere 32 = .ok (.iconst 0, 1) := by decide +kernel
theorem dX4_guiltHere_33 : decode cX4_guiltHere 33 = .ok (.ireturn, 1) := by decide +kernel
set_option maxRecDepth 100000 in
set_option maxHeartbeats 8000000 in
theorem c_X4_guiltHere (l : Launch) (D : va_G) (cA : Nat → ClassId) (q aK aV : Nat → Nat) (hq : injG 167 q) {M M0 : Mem} {r0 : Int32} (h : f_X4_guiltHere M = some (r0, M0)) : Met l yX4_guiltHere (.code yX4_guiltHere cX4_guiltHere 1 (some .int) :: BW) ({ frames := 1, cells := 0, slots := 0, locals := 12 } : Room) (va_Pc [.ref (q 16)] (CB 167 (ceC cA q) D cA q aK aV M)) (Qi 167 (ceC cA q) D q r0 M0) 0 0 (AqG 167 q) := by
  refine gMet RX4 (by decide +kernel) rfl hq (Nat.le_of_ble_eq_true rfl) ?_
  intro p e s m below meth c ls X hr hk hP hS hl
  have hx := X.1
  have hb := X.2.1
  have hl : lv_has ls 1 [(0, .ref (q 16))] := hl
  rw [f_X4_guiltHere] at h
  refine lv_aload_n hx hb dX4_guiltHere_0 rfl (lv_at hl 0 rfl) ?_
  refine gfC_4_0 X hP sC_16 bw_329 dX4_guiltHere_1 ?_
  refine gfC_7_6 X hP sC_13 bw_290 dX4_guiltHere_4 ?_
  refine lv_bipush (v := 7) hx hb dX4_guiltHere_7 (by decide) ?_
  refine lv_icmp_ne (tgt := 16) hx hb dX4_guiltHere_9 (by decide) (fun c1 => ?_) (fun c1 => ?_)
  · rw [if_neg c1] at h
    refine lv_aload_n hx hb dX4_guiltHere_16 rfl (lv_at hl 0 rfl) ?_
    refine gfC_4_0 X hP sC_16 bw_329 dX4_guiltHere_17 ?_
    refine gfC_7_6 X hP sC_13 bw_290 dX4_guiltHere_20 ?_
    refine lv_bipush (v := 8) hx hb dX4_guiltHere_23 (by decide) ?_
    refine lv_icmp_ne (tgt := 32) hx hb dX4_guiltHere_25 (by decide) (fun c2 => ?_) (fun c2 => ?_)
    · rw [if_neg c2] at h
      refine lv_iconst (v := 0) hx hb dX4_guiltHere_32 (by decide) ?_
      exact end_i X hr hk hP hS h dX4_guiltHere_33
    · rw [if_pos c2] at h
      refine lv_iconst (v := 2) hx hb dX4_guiltHere_28 (by decide) ?_
      refine lv_goto (tgt := 33) hx hb dX4_guiltHere_29 (by decide) ?_
      exact end_i X hr hk hP hS h dX4_guiltHere_33
  · rw [if_pos c1] at h
    refine lv_iconst (v := 1) hx hb dX4_guiltHere_12 (by decide) ?_
    refine lv_goto (tgt := 33) hx hb dX4_guiltHere_13 (by decide) ?_
    exact end_i X hr hk hP hS h dX4_guiltHere_33
theorem dX4_readSense_0 : decode cX4_readSense 0 = .ok (.aload_n 0, 1) := by decide +kernel
theorem dX4_readSense_1 : decode cX4_readSense 1 = .ok (.getfield 19, 3) := by decide +kernel
theorem dX4_readSense_4 : decode cX4_readSense 4 = .ok (.istore_n 2, 1) := by decide +kernel
theorem dX4_readSense_5 : decode cX4_readSense 5 = .ok (.aload_n 0, 1) := by decide +kernel
theorem dX4_readSense_6 : decode cX4_readSense 6 = .ok (.bipush 6, 2) := by decide +kernel
theorem dX4_readSense_8 : decode cX4_readSense 8 = .ok (.invokevirtual 53, 3) := by decide +kernel
theorem dX4_readSense_11 : decode cX4_readSense 11 = .ok (.ifCond .ne 5, 3) := by decide +kernel
theorem dX4_readSense_14 : decode cX4_readSense 14 = .ok (.iconst 0, 1) := by decide +kernel
theorem dX4_readSense_15 : decode cX4_readSense 15 = .ok (.ireturn, 1) := by decide +kernel
theorem dX4_readSense_16 : decode cX4_readSense 16 = .ok (.aload_n 0, 1) := by decide +kernel
theorem dX4_readSense_17 : decode cX4_readSense 17 = .ok (.invokevirtual 88, 3) := by decide +kernel
theorem dX4_readSense_20 : decode cX4_readSense 20 = .ok (.istore_n 3, 1) := by decide +kernel
theorem dX4_readSense_21 : decode cX4_readSense 21 = .ok (.iload_n 3, 1) := by decide +kernel
theorem dX4_readSense_22 : decode cX4_readSense 22 = .ok (.ifCond .ne 24, 3) := by decide +kernel
theorem dX4_readSense_25 : decode cX4_readSense 25 = .ok (.aload_n 0, 1) := by decide +kernel
theorem dX4_readSense_26 : decode cX4_readSense 26 = .ok (.getfield 28, 3) := by decide +kernel
theorem dX4_readSense_29 : decode cX4_readSense 29 = .ok (.getfield 43, 3) := by decide +kernel
theorem dX4_readSense_32 : decode cX4_readSense 32 = .ok (.bipush 9, 2) := by decide +kernel
theorem dX4_readSense_34 : decode cX4_readSense 34 = .ok (.if_icmp .eq 12, 3) := by decide +kernel
theorem dX4_readSense_37 : decode cX4_readSense 37 = .ok (.aload_n 0, 1) := by decide +kernel
theorem dX4_readSense_38 : decode cX4_readSense 38 = .ok (.getfield 28, 3) := by decide +kernel
theorem dX4_readSense_41 : decode cX4_readSense 41 = .ok (.iconst 2, 1) := by decide +kernel
theorem dX4_readSense_42 : decode cX4_readSense 42 = .ok (.invokevirtual 57, 3) := by decide +kernel
theorem dX4_readSense_45 : decode cX4_readSense 45 = .ok (.ireturn, 1) := by decide +kernel
theorem dX4_readSense_46 : decode cX4_readSense 46 = .ok (.aload_n 1, 1) := by decide +kernel
theorem dX4_readSense_47 : decode cX4_readSense 47 = .ok (.getfield 92, 3) := by decide +kernel
theorem dX4_readSense_50 : decode cX4_readSense 50 = .ok (.iload_n 2, 1) := by decide +kernel
theorem dX4_readSense_51 : decode cX4_readSense 51 = .ok (.iload_n 3, 1) := by decide +kernel
theorem dX4_readSense_52 : decode cX4_readSense 52 = .ok (.invokestatic 95, 3) := by decide +kernel
theorem dX4_readSense_55 : decode cX4_readSense 55 = .ok (.aload_n 0, 1) := by decide +kernel
theorem dX4_readSense_56 : decode cX4_readSense 56 = .ok (.getfield 28, 3) := by decide +kernel
theorem dX4_readSense_59 : decode cX4_readSense 59 = .ok (.invokevirtual 63, 3) := by decide +kernel
theorem dX4_readSense_62 : decode cX4_readSense 62 = .ok (.iconst 1, 1) := by decide +kernel
theorem dX4_readSense_63 : decode cX4_readSense 63 = .ok (.ireturn, 1) := by decide +kernel
set_option maxRecDepth 100000 in
set_option maxHeartbeats 8000000 in
theorem c_X4_readSense (l : Launch) (D : va_G) (cA : Nat → ClassId) (q aK aV : Nat → Nat) (hq : injG 167 q) {a1 : Nat} {M M0 : Mem} {r0 : Int32} (h1 : shC a1 = 0) (h : f_X4_readSense a1 M = some (r0, M0)) : Met l yX4_readSense (.code yX4_readSense cX4_readSense 4 (some .boolean) :: BW) ({ frames := 5, cells := 0, slots := 0, locals := 99 } : Room) (va_Pc [.ref (q 16), .ref (q a1)] (CB 167 (ceC cA q) D cA q aK aV M)) (Qi 167 (ceC cA q) D q r0 M0) 0 0 (AqG 167 q) := by
  refine gMet RX4 (by decide +kernel) rfl hq (Nat.le_of_ble_eq_true rfl) ?_
  intro p e s m below meth c ls X hr hk hP hS hl
  have hx := X.1
  have hb := X.2.1
  have hl : lv_has ls 4 [(0, .ref (q 16)), (1, .ref (q a1))] := hl
  rw [f_X4_readSense] at h
  have hJ46 : ∀ (b2 : Int32) (b3 : Int32) (M : Mem) (H : Heap) (locs : List Loc) (ls : Array Slot), f_X4_readSense_J46 a1 b2 b3 M = some (r0, M0) → va_P D vwCl (wsG 167 (ceC cA q) q M) H → va_S (AqG 167 q) s.heap H locs → lv_has ls 4 [(0, .ref (q 16)), (1, .ref (q a1)), (2, .int b2), (3, .int b3)] → W p l e ({ frames := 5, cells := 0, slots := 0, locals := 99 } : Room) s m [.ref (q 16), .ref (q a1)].toArray below meth c H locs 0 0 (MQ below (Qi 167 (ceC cA q) D q r0 M0) [.ref (q 16), .ref (q a1)].toArray s 0 0 (AqG 167 q)) (F0 m 46 ls []) := by
    intro b2 b3 M H locs ls h hP hS hl
    rw [f_X4_readSense_J46] at h
    refine lv_aload_n hx hb dX4_readSense_46 rfl (lv_at hl 1 rfl) ?_
    refine gfC_0_2 X hP h1 bw_146 dX4_readSense_47 ?_
    refine lv_iload_n hx hb dX4_readSense_50 rfl (lv_at hl 2 rfl) ?_
    refine lv_iload_n hx hb dX4_readSense_51 rfl (lv_at hl 3 rfl) ?_
    obtain ⟨_, M16, hc17, h⟩ := bnd_inv h
    refine gSN_v (As := [.ref (q (a1 + 3)), .int b2, .int b3]) X hP hS hl.1 (c_X11_put l D cA q aK aV hq ((kC_0_2 h1).1) hc17) sf_X11_put nw_14 ss_X11_put ⟨rfl, rfl⟩ ⟨Nat.le_of_ble_eq_true rfl, Nat.le_of_ble_eq_true rfl⟩ rfl rfl (Nat.le_of_ble_eq_true rfl) dX4_readSense_52 (fun H locs hP hS => ?_)
    refine lv_aload_n hx hb dX4_readSense_55 rfl (lv_at hl 0 rfl) ?_
    refine gfC_4_0 X hP sC_16 bw_329 dX4_readSense_56 ?_
    obtain ⟨_, M19, hc20, h⟩ := bnd_inv h
    refine gV_v (As := []) X hP hS hl.1 (c_X7_goOn l D cA q aK aV hq hc20) sf_X7_goOn bw_654 sv_X7_goOn (rcC_7 sC_13) rfl ⟨rfl, rfl⟩ ⟨Nat.le_of_ble_eq_true rfl, Nat.le_of_ble_eq_true rfl⟩ rfl rfl (Nat.le_of_ble_eq_true rfl) dX4_readSense_59 (fun H locs hP hS => ?_)
    refine lv_iconst (v := 1) hx hb dX4_readSense_62 (by decide) ?_
    exact end_z X hr hk hP hS (Or.inr rfl) h dX4_readSense_63
  refine lv_aload_n hx hb dX4_readSense_0 rfl (lv_at hl 0 rfl) ?_
  refine gfC_4_3 X hP sC_16 bw_332 dX4_readSense_1 ?_
  obtain ⟨y1, ey1, h⟩ := lt_inv h
  refine topE ey1 ?_
  refine lv_istore_n (lv' := [(2, .int y1), (0, .ref (q 16)), (1, .ref (q a1))]) hx hb dX4_readSense_4 rfl hl (by decide) rfl (fun ls hl => ?_)
  refine lv_aload_n hx hb dX4_readSense_5 rfl (lv_at hl 1 rfl) ?_
  refine lv_bipush (v := 6) hx hb dX4_readSense_6 (by decide) ?_
  obtain ⟨r2, M3, hc4, h⟩ := bnd_inv h
  refine gV_i (As := [.int (6 : Int32)]) X hP hS hl.1 (c_X4_take l D cA q aK aV hq hc4) sf_X4_take bw_685 sv_X4_take (rcC_4 sC_16) rfl ⟨rfl, rfl⟩ ⟨Nat.le_of_ble_eq_true rfl, Nat.le_of_ble_eq_true rfl⟩ rfl rfl (Nat.le_of_ble_eq_true rfl) dX4_readSense_8 (fun H locs hP hS => ?_)
  refine lv_if_ne (tgt := 16) hx hb dX4_readSense_11 (by decide) (fun c5 => ?_) (fun c5 => ?_)
  · rw [if_neg c5] at h
    refine lv_aload_n hx hb dX4_readSense_16 rfl (lv_at hl 1 rfl) ?_
    obtain ⟨r6, M7, hc8, h⟩ := bnd_inv h
    refine gV_i (As := []) X hP hS hl.1 (c_X4_guiltHere l D cA q aK aV hq hc8) sf_X4_guiltHere bw_693 sv_X4_guiltHere (rcC_4 sC_16) rfl ⟨rfl, rfl⟩ ⟨Nat.le_of_ble_eq_true rfl, Nat.le_of_ble_eq_true rfl⟩ rfl rfl (Nat.le_of_ble_eq_true rfl) dX4_readSense_17 (fun H locs hP hS => ?_)
    refine lv_istore_n (lv' := [(3, .int r6), (2, .int y1), (0, .ref (q 16)), (1, .ref (q a1))]) hx hb dX4_readSense_20 rfl hl (by decide) rfl (fun ls hl => ?_)
    refine lv_iload_n hx hb dX4_readSense_21 rfl (lv_at hl 0 rfl) ?_
    refine lv_if_ne (tgt := 46) hx hb dX4_readSense_22 (by decide) (fun c9 => ?_) (fun c9 => ?_)
    · rw [if_neg c9] at h
      exact hJ46 _ _ _ _ _ _ h hP hS (lv_sub hl [2, 3, 1, 0] rfl)
    · rw [if_pos c9] at h
      refine lv_aload_n hx hb dX4_readSense_25 rfl (lv_at hl 2 rfl) ?_
      refine gfC_4_0 X hP sC_16 bw_329 dX4_readSense_26 ?_
      refine gfC_7_6 X hP sC_13 bw_290 dX4_readSense_29 ?_
      refine lv_bipush (v := 9) hx hb dX4_readSense_32 (by decide) ?_
      refine lv_icmp_eq (tgt := 46) hx hb dX4_readSense_34 (by decide) (fun c10 => ?_) (fun c10 => ?_)
      · rw [if_pos c10] at h
        exact hJ46 _ _ _ _ _ _ h hP hS (lv_sub hl [2, 3, 1, 0] rfl)
      · rw [if_neg c10] at h
        refine lv_aload_n hx hb dX4_readSense_37 rfl (lv_at hl 2 rfl) ?_
        refine gfC_4_0 X hP sC_16 bw_329 dX4_readSense_38 ?_
        refine lv_iconst (v := 2) hx hb dX4_readSense_41 (by decide) ?_
        obtain ⟨r11, M12, hc13, h⟩ := bnd_inv h
        refine gV_i (As := [.int (2 : Int32)]) X hP hS hl.1 (c_X7_refuse l D cA q aK aV hq hc13) sf_X7_refuse bw_637 sv_X7_refuse (rcC_7 sC_13) rfl ⟨rfl, rfl⟩ ⟨Nat.le_of_ble_eq_true rfl, Nat.le_of_ble_eq_true rfl⟩ rfl rfl (Nat.le_of_ble_eq_true rfl) dX4_readSense_42 (fun H locs hP hS => ?_)
        obtain ⟨g14, h⟩ := gd_inv h
        exact end_z X hr hk hP hS (Decidable.not_not.mp g14) h dX4_readSense_45
  · rw [if_pos c5] at h
    refine lv_iconst (v := 0) hx hb dX4_readSense_14 (by decide) ?_
    exact end_z X hr hk hP hS (Or.inl rfl) h dX4_readSense_15
theorem dX4_takeName_0 : decode cX4_takeName 0 = .ok (.aload_n 0, 1) := by decide +kernel
theorem dX4_takeName_1 : decode cX4_takeName 1 = .ok (.getfield 28, 3) := by decide +kernel
theorem dX4_takeName_4 : decode cX4_takeName 4 = .ok (.getfield 43, 3) := by decide +kernel
theorem dX4_takeName_7 : decode cX4_takeName 7 = .ok (.bipush 29, 2) := by decide +kernel
theorem dX4_takeName_9 : decode cX4_takeName 9 = .ok (.if_icmp .eq 12, 3) := by decide +kernel
theorem dX4_takeName_12 : decode cX4_takeName 12 = .ok (.aload_n 0, 1) := by decide +kernel
theorem dX4_takeName_13 : decode cX4_takeName 13 = .ok (.getfield 28, 3) := by decide +kernel
theorem dX4_takeName_16 : decode cX4_takeName 16 = .ok (.iconst 2, 1) := by decide +kernel
theorem dX4_takeName_17 : decode cX4_takeName 17 = .ok (.invokevirtual 57, 3) := by decide +kernel
theorem dX4_takeName_20 : decode cX4_takeName 20 = .ok (.ireturn, 1) := by decide +kernel
theorem dX4_takeName_21 : decode cX4_takeName 21 = .ok (.aload_n 0, 1) := by decide +kernel
theorem dX4_takeName_22 : decode cX4_takeName 22 = .ok (.aload_n 2, 1) := by decide +kernel
theorem dX4_takeName_23 : decode cX4_takeName 23 = .ok (.iload_n 1, 1) := by decide +kernel
theorem dX4_takeName_24 : decode cX4_takeName 24 = .ok (.aload_n 0, 1) := by decide +kernel
theorem dX4_takeName_25 : decode cX4_takeName 25 = .ok (.getfield 28, 3) := by decide +kernel
theorem dX4_takeName_28 : decode cX4_takeName 28 = .ok (.getfield 162, 3) := by decide +kernel
theorem dX4_takeName_31 : decode cX4_takeName 31 = .ok (.invokevirtual 166, 3) := by decide +kernel
theorem dX4_takeName_34 : decode cX4_takeName 34 = .ok (.putfield 19, 3) := by decide +kernel
theorem dX4_takeName_37 : decode cX4_takeName 37 = .ok (.aload_n 0, 1) := by decide +kernel
theorem dX4_takeName_38 : decode cX4_takeName 38 = .ok (.getfield 19, 3) := by decide +kernel
theorem dX4_takeName_41 : decode cX4_takeName 41 = .ok (.iconst (-1), 1) := by decide +kernel
theorem dX4_takeName_42 : decode cX4_takeName 42 = .ok (.if_icmp .ne 12, 3) := by decide +kernel
theorem dX4_takeName_45 : decode cX4_takeName 45 = .ok (.aload_n 0, 1) := by decide +kernel
theorem dX4_takeName_46 : decode cX4_takeName 46 = .ok (.getfield 28, 3) := by decide +kernel
theorem dX4_takeName_49 : decode cX4_takeName 49 = .ok (.iconst 3, 1) := by decide +kernel
theorem dX4_takeName_50 : decode cX4_takeName 50 = .ok (.invokevirtual 57, 3) := by decide +kernel
theorem dX4_takeName_53 : decode cX4_takeName 53 = .ok (.ireturn, 1) := by decide +kernel
theorem dX4_takeName_54 : decode cX4_takeName 54 = .ok (.aload_n 0, 1) := by decide +kernel
theorem dX4_takeName_55 : decode cX4_takeName 55 = .ok (.getfield 28, 3) := by decide +kernel
theorem dX4_takeName_58 : decode cX4_takeName 58 = .ok (.invokevirtual 63, 3) := by decide +kernel
theorem dX4_takeName_61 : decode cX4_takeName 61 = .ok (.iconst 1, 1) := by decide +kernel
theorem dX4_takeName_62 : decode cX4_takeName 62 = .ok (.ireturn, 1) := by decide +kernel
set_option maxRecDepth 100000 in
set_option maxHeartbeats 8000000 in
theorem c_X4_takeName (l : Launch) (D : va_G) (cA : Nat → ClassId) (q aK aV : Nat → Nat) (hq : injG 167 q) {a1 : Int32} {a2 : Nat} {M M0 : Mem} {r0 : Int32} (h2 : shC a2 = 0) (h : f_X4_takeName a1 a2 M = some (r0, M0)) : Met l yX4_takeName (.code yX4_takeName cX4_takeName 3 (some .boolean) :: BW) ({ frames := 3, cells := 0, slots := 0, locals := 59 } : Room) (va_Pc [.ref (q 16), .int a1, .ref (q a2)] (CB 167 (ceC cA q) D cA q aK aV M)) (Qi 167 (ceC cA q) D q r0 M0) 0 0 (AqG 167 q) := by
  refine gMet RX4 (by decide +kernel) rfl hq (Nat.le_of_ble_eq_true rfl) ?_
  intro p e s m below meth c ls X hr hk hP hS hl
  have hx := X.1
  have hb := X.2.1
  have hl : lv_has ls 3 [(0, .ref (q 16)), (1, .int a1), (2, .ref (q a2))] := hl
  rw [f_X4_takeName] at h
  refine lv_aload_n hx hb dX4_takeName_0 rfl (lv_at hl 0 rfl) ?_
  refine gfC_4_0 X hP sC_16 bw_329 dX4_takeName_1 ?_
  refine gfC_7_6 X hP sC_13 bw_290 dX4_takeName_4 ?_
  refine lv_bipush (v := 29) hx hb dX4_takeName_7 (by decide) ?_
  refine lv_icmp_eq (tgt := 21) hx hb dX4_takeName_9 (by decide) (fun c1 => ?_) (fun c1 => ?_)
  · rw [if_pos c1] at h
    refine lv_aload_n hx hb dX4_takeName_21 rfl (lv_at hl 0 rfl) ?_
    refine lv_aload_n hx hb dX4_takeName_22 rfl (lv_at hl 2 rfl) ?_
    refine lv_iload_n hx hb dX4_takeName_23 rfl (lv_at hl 1 rfl) ?_
    refine lv_aload_n hx hb dX4_takeName_24 rfl (lv_at hl 0 rfl) ?_
    refine gfC_4_0 X hP sC_16 bw_329 dX4_takeName_25 ?_
    refine gfC_7_7 X hP sC_13 bw_292 dX4_takeName_28 ?_
    obtain ⟨r2, M3, hc4, h⟩ := bnd_inv h
    refine gV_i (As := [.int a1, .long (gL M 13 7)]) X hP hS hl.1 (c_X0_numberOf l D cA q aK aV hq h2 hc4) sf_X0_numberOf bw_702 sv_X0_numberOf (rcC_0 h2) rfl ⟨rfl, rfl⟩ ⟨Nat.le_of_ble_eq_true rfl, Nat.le_of_ble_eq_true rfl⟩ rfl rfl (Nat.le_of_ble_eq_true rfl) dX4_takeName_31 (fun H locs hP hS => ?_)
    obtain ⟨M5, eM5, h⟩ := lt_inv h
    refine pfC_4_3 X hP hS sC_16 bw_332 eM5 dX4_takeName_34 (fun H locs hP hS => ?_)
    refine lv_aload_n hx hb dX4_takeName_37 rfl (lv_at hl 0 rfl) ?_
    refine gfC_4_3 X hP sC_16 bw_332 dX4_takeName_38 ?_
    refine lv_iconst (v := -1) hx hb dX4_takeName_41 (by decide) ?_
    refine lv_icmp_ne (tgt := 54) hx hb dX4_takeName_42 (by decide) (fun c6 => ?_) (fun c6 => ?_)
    · rw [if_neg c6] at h
      refine lv_aload_n hx hb dX4_takeName_54 rfl (lv_at hl 0 rfl) ?_
      refine gfC_4_0 X hP sC_16 bw_329 dX4_takeName_55 ?_
      obtain ⟨_, M8, hc9, h⟩ := bnd_inv h
      refine gV_v (As := []) X hP hS hl.1 (c_X7_goOn l D cA q aK aV hq hc9) sf_X7_goOn bw_654 sv_X7_goOn (rcC_7 sC_13) rfl ⟨rfl, rfl⟩ ⟨Nat.le_of_ble_eq_true rfl, Nat.le_of_ble_eq_true rfl⟩ rfl rfl (Nat.le_of_ble_eq_true rfl) dX4_takeName_58 (fun H locs hP hS => ?_)
      refine lv_iconst (v := 1) hx hb dX4_takeName_61 (by decide) ?_
      exact end_z X hr hk hP hS (Or.inr rfl) h dX4_takeName_62
    · rw [if_pos c6] at h
      refine lv_aload_n hx hb dX4_takeName_45 rfl (lv_at hl 0 rfl) ?_
      refine gfC_4_0 X hP sC_16 bw_329 dX4_takeName_46 ?_
      refine lv_iconst (v := 3) hx hb dX4_takeName_49 (by decide) ?_
      obtain ⟨r10, M11, hc12, h⟩ := bnd_inv h
      refine gV_i (As := [.int (3 : Int32)]) X hP hS hl.1 (c_X7_refuse l D cA q aK aV hq hc12) sf_X7_refuse bw_637 sv_X7_refuse (rcC_7 sC_13) rfl ⟨rfl, rfl⟩ ⟨Nat.le_of_ble_eq_true rfl, Nat.le_of_ble_eq_true rfl⟩ rfl rfl (Nat.le_of_ble_eq_true rfl) dX4_takeName_50 (fun H locs hP hS => ?_)
      obtain ⟨g13, h⟩ := gd_inv h
      exact end_z X hr hk hP hS (Decidable.not_not.mp g13) h dX4_takeName_53
  · rw [if_neg c1] at h
    refine lv_aload_n hx hb dX4_takeName_12 rfl (lv_at hl 0 rfl) ?_
    refine gfC_4_0 X hP sC_16 bw_329 dX4_takeName_13 ?_
    refine lv_iconst (v := 2) hx hb dX4_takeName_16 (by decide) ?_
    obtain ⟨r14, M15, hc16, h⟩ := bnd_inv h
    refine gV_i (As := [.int (2 : Int32)]) X hP hS hl.1 (c_X7_refuse l D cA q aK aV hq hc16) sf_X7_refuse bw_637 sv_X7_refuse (rcC_7 sC_13) rfl ⟨rfl, rfl⟩ ⟨Nat.le_of_ble_eq_true rfl, Nat.le_of_ble_eq_true rfl⟩ rfl rfl (Nat.le_of_ble_eq_true rfl) dX4_takeName_17 (fun H locs hP hS => ?_)
    obtain ⟨g17, h⟩ := gd_inv h
    exact end_z X hr hk hP hS (Decidable.not_not.mp g17) h dX4_takeName_20
theorem dX0_ruleAt_0 : decode cX0_ruleAt 0 = .ok (.iload_n 1, 1) := by decide +kernel
theorem dX0_ruleAt_1 : decode cX0_ruleAt 1 = .ok (.ifCond .lt 21, 3) := by decide +kernel
theorem dX0_ruleAt_4 : decode cX0_ruleAt 4 = .ok (.iload_n 1, 1) := by decide +kernel
theorem dX0_ruleAt_5 : decode cX0_ruleAt 5 = .ok (.aload_n 0, 1) := by decide +kernel
theorem dX0_ruleAt_6 : decode cX0_ruleAt 6 = .ok (.getfield 24, 3) := by decide +kernel
theorem dX0_ruleAt_9 : decode cX0_ruleAt 9 = .ok (.arraylength, 1) := by decide +kernel
theorem dX0_ruleAt_10 : decode cX0_ruleAt 10 = .ok (.if_icmp .ge 12, 3) := by decide +kernel
theorem dX0_ruleAt_13 : decode cX0_ruleAt 13 = .ok (.aload_n 0, 1) := by decide +kernel
theorem dX0_ruleAt_14 : decode cX0_ruleAt 14 = .ok (.getfield 24, 3) := by decide +kernel
theorem dX0_ruleAt_17 : decode cX0_ruleAt 17 = .ok (.iload_n 1, 1) := by decide +kernel
theorem dX0_ruleAt_18 : decode cX0_ruleAt 18 = .ok (.aaload, 1) := by decide +kernel
theorem dX0_ruleAt_19 : decode cX0_ruleAt 19 = .ok (.goto 7, 3) := by decide +kernel
theorem dX0_ruleAt_22 : decode cX0_ruleAt 22 = .ok (.aload_n 0, 1) := by decide +kernel
theorem dX0_ruleAt_23 : decode cX0_ruleAt 23 = .ok (.getfield 54, 3) := by decide +kernel
theorem dX0_ruleAt_26 : decode cX0_ruleAt 26 = .ok (.astore_n 2, 1) := by decide +kernel
theorem dX0_ruleAt_27 : decode cX0_ruleAt 27 = .ok (.aload_n 2, 1) := by decide +kernel
theorem dX0_ruleAt_28 : decode cX0_ruleAt 28 = .ok (.ifnull 7, 3) := by decide +kernel
theorem dX0_ruleAt_31 : decode cX0_ruleAt 31 = .ok (.aload_n 2, 1) := by decide +kernel
theorem dX0_ruleAt_32 : decode cX0_ruleAt 32 = .ok (.goto 7, 3) := by decide +kernel
theorem dX0_ruleAt_35 : decode cX0_ruleAt 35 = .ok (.aload_n 0, 1) := by decide +kernel
theorem dX0_ruleAt_36 : decode cX0_ruleAt 36 = .ok (.getfield 54, 3) := by decide +kernel
theorem dX0_ruleAt_39 : decode cX0_ruleAt 39 = .ok (.areturn, 1) := by decide +kernel
set_option maxRecDepth 100000 in
set_option maxHeartbeats 8000000 in
theorem c_X0_ruleAt (l : Launch) (D : va_G) (cA : Nat → ClassId) (q aK aV : Nat → Nat) (hq : injG 167 q) {a0 : Nat} {a1 : Int32} {M M0 : Mem} {r0 : Nat} (h0 : shC a0 = 0) (h : f_X0_ruleAt a0 a1 M = some (r0, M0)) : Met l yX0_ruleAt (.code yX0_ruleAt cX0_ruleAt 3 (some (.object "CatWitness$Rule")) :: BW) ({ frames := 1, cells := 0, slots := 0, locals := 14 } : Room) (va_Pc [.ref (q a0), .int a1] (CB 167 (ceC cA q) D cA q aK aV M)) (Qr 167 (ceC cA q) D q r0 M0) 0 0 (AqG 167 q) := by
  refine gMet RX0 (by decide +kernel) rfl hq (Nat.le_of_ble_eq_true rfl) ?_
  intro p e s m below meth c ls X hr hk hP hS hl
  have hx := X.1
  have hb := X.2.1
  have hl : lv_has ls 3 [(0, .ref (q a0)), (1, .int a1)] := hl
  rw [f_X0_ruleAt] at h
  have hJ26 : ∀ (s0 : Nat) (hs0 : shC s0 = 6) (M : Mem) (H : Heap) (locs : List Loc) (ls : Array Slot), f_X0_ruleAt_J26 a0 s0 M = some (r0, M0) → va_P D vwCl (wsG 167 (ceC cA q) q M) H → va_S (AqG 167 q) s.heap H locs → lv_has ls 3 [(0, .ref (q a0))] → W p l e ({ frames := 1, cells := 0, slots := 0, locals := 14 } : Room) s m [.ref (q a0), .int a1].toArray below meth c H locs 0 0 (MQ below (Qr 167 (ceC cA q) D q r0 M0) [.ref (q a0), .int a1].toArray s 0 0 (AqG 167 q)) (F0 m 26 ls [.ref (q s0)]) := by
    intro s0 hs0 M H locs ls h hP hS hl
    rw [f_X0_ruleAt_J26] at h
    refine lv_astore_n (lv' := [(2, .ref (q s0)), (0, .ref (q a0))]) hx hb dX0_ruleAt_26 rfl hl (by decide) rfl (fun ls hl => ?_)
    refine lv_aload_n hx hb dX0_ruleAt_27 rfl (lv_at hl 0 rfl) ?_
    refine lv_ifnull hx hb dX0_ruleAt_28 ?_
    refine lv_aload_n hx hb dX0_ruleAt_31 rfl (lv_at hl 0 rfl) ?_
    refine lv_goto (tgt := 39) hx hb dX0_ruleAt_32 (by decide) ?_
    exact end_r X hr (Or.inl ⟨_, rfl⟩) hk hP hS h dX0_ruleAt_39
  have hJ22 : ∀ (M : Mem) (H : Heap) (locs : List Loc) (ls : Array Slot), f_X0_ruleAt_J22 a0 M = some (r0, M0) → va_P D vwCl (wsG 167 (ceC cA q) q M) H → va_S (AqG 167 q) s.heap H locs → lv_has ls 3 [(0, .ref (q a0))] → W p l e ({ frames := 1, cells := 0, slots := 0, locals := 14 } : Room) s m [.ref (q a0), .int a1].toArray below meth c H locs 0 0 (MQ below (Qr 167 (ceC cA q) D q r0 M0) [.ref (q a0), .int a1].toArray s 0 0 (AqG 167 q)) (F0 m 22 ls []) := by
    intro M H locs ls h hP hS hl
    rw [f_X0_ruleAt_J22] at h
    refine lv_aload_n hx hb dX0_ruleAt_22 rfl (lv_at hl 0 rfl) ?_
    refine gfC_0_10 X hP h0 bw_165 dX0_ruleAt_23 ?_
    exact hJ26 _ (kC_0_10 h0) _ _ _ _ h hP hS (lv_sub hl [0] rfl)
  refine lv_iload_n hx hb dX0_ruleAt_0 rfl (lv_at hl 1 rfl) ?_
  refine lv_if_lt (tgt := 22) hx hb dX0_ruleAt_1 (by decide) (fun c1 => ?_) (fun c1 => ?_)
  · rw [if_pos c1] at h
    exact hJ22  _ _ _ _ h hP hS (lv_sub hl [0] rfl)
  · rw [if_neg c1] at h
    refine lv_iload_n hx hb dX0_ruleAt_4 rfl (lv_at hl 1 rfl) ?_
    refine lv_aload_n hx hb dX0_ruleAt_5 rfl (lv_at hl 0 rfl) ?_
    refine gfC_0_3 X hP h0 bw_148 dX0_ruleAt_6 ?_
    refine alC_24 X hP ((kC_0_3 h0).1) ((kC_0_3 h0).2) (v := 8) rfl dX0_ruleAt_9 ?_
    refine lv_icmp_ge (tgt := 22) hx hb dX0_ruleAt_10 (by decide) (fun c2 => ?_) (fun c2 => ?_)
    · rw [if_pos c2] at h
      exact hJ22  _ _ _ _ h hP hS (lv_sub hl [0] rfl)
    · rw [if_neg c2] at h
      refine lv_aload_n hx hb dX0_ruleAt_13 rfl (lv_at hl 0 rfl) ?_
      refine gfC_0_3 X hP h0 bw_148 dX0_ruleAt_14 ?_
      refine lv_iload_n hx hb dX0_ruleAt_17 rfl (lv_at hl 1 rfl) ?_
      obtain ⟨g3, h⟩ := gd_inv h
      refine ldC_r24 X hP ((kC_0_3 h0).1) ((kC_0_3 h0).2) g3 dX0_ruleAt_18 ?_
      refine lv_goto (tgt := 26) hx hb dX0_ruleAt_19 (by decide) ?_
      exact hJ26 _ (kC_24 ((kC_0_3 h0).1) g3) _ _ _ _ h hP hS (lv_sub hl [0] rfl)
theorem dX6_renew_0 : decode cX6_renew 0 = .ok (.aload_n 0, 1) := by decide +kernel
theorem dX6_renew_1 : decode cX6_renew 1 = .ok (.iload_n 1, 1) := by decide +kernel
theorem dX6_renew_2 : decode cX6_renew 2 = .ok (.putfield 9, 3) := by decide +kernel
theorem dX6_renew_5 : decode cX6_renew 5 = .ok (.aload_n 0, 1) := by decide +kernel
theorem dX6_renew_6 : decode cX6_renew 6 = .ok (.iconst 0, 1) := by decide +kernel
theorem dX6_renew_7 : decode cX6_renew 7 = .ok (.putfield 15, 3) := by decide +kernel
theorem dX6_renew_10 : decode cX6_renew 10 = .ok (.aload_n 0, 1) := by decide +kernel
theorem dX6_renew_11 : decode cX6_renew 11 = .ok (.iconst (-1), 1) := by decide +kernel
theorem dX6_renew_12 : decode cX6_renew 12 = .ok (.putfield 18, 3) := by decide +kernel
theorem dX6_renew_15 : decode cX6_renew 15 = .ok (.aload_n 0, 1) := by decide +kernel
theorem dX6_renew_16 : decode cX6_renew 16 = .ok (.iconst (-1), 1) := by decide +kernel
theorem dX6_renew_17 : decode cX6_renew 17 = .ok (.putfield 21, 3) := by decide +kernel
theorem dX6_renew_20 : decode cX6_renew 20 = .ok (.aload_n 0, 1) := by decide +kernel
theorem dX6_renew_21 : decode cX6_renew 21 = .ok (.iconst 0, 1) := by decide +kernel
theorem dX6_renew_22 : decode cX6_renew 22 = .ok (.putfield 24, 3) := by decide +kernel
theorem dX6_renew_25 : decode cX6_renew 25 = .ok (.aload_n 0, 1) := by decide +kernel
theorem dX6_renew_26 : decode cX6_renew 26 = .ok (.bipush 99, 2) := by decide +kernel
theorem dX6_renew_28 : decode cX6_renew 28 = .ok (.putfield 27, 3) := by decide +kernel
theorem dX6_renew_31 : decode cX6_renew 31 = .ok (.aload_n 0, 1) := by decide +kernel
theorem dX6_renew_32 : decode cX6_renew 32 = .ok (.iconst (-1), 1) := by decide +kernel
theorem dX6_renew_33 : decode cX6_renew 33 = .ok (.putfield 30, 3) := by decide +kernel
theorem dX6_renew_36 : decode cX6_renew 36 = .ok (.aload_n 0, 1) := by decide +kernel
theorem dX6_renew_37 : decode cX6_renew 37 = .ok (.iconst 0, 1) := by decide +kernel
theorem dX6_renew_38 : decode cX6_renew 38 = .ok (.putfield 33, 3) := by decide +kernel
theorem dX6_renew_41 : decode cX6_renew 41 = .ok (.aload_n 0, 1) := by decide +kernel
theorem dX6_renew_42 : decode cX6_renew 42 = .ok (.bipush 9, 2) := by decide +kernel
theorem dX6_renew_44 : decode cX6_renew 44 = .ok (.putfield 36, 3) := by decide +kernel
theorem dX6_renew_47 : decode cX6_renew 47 = .ok (.return_, 1) := by decide +kernel
set_option maxRecDepth 100000 in
set_option maxHeartbeats 8000000 in
theorem c_X6_renew (l : Launch) (D : va_G) (cA : Nat → ClassId) (q aK aV : Nat → Nat) (hq : injG 167 q) {a0 : Nat} {a1 : Int32} {M M0 : Mem} (h0 : shC a0 = 6) (h : f_X6_renew a0 a1 M = some ((), M0)) : Met l yX6_renew (.code yX6_renew cX6_renew 2 none :: BW) ({ frames := 1, cells := 0, slots := 0, locals := 13 } : Room) (va_Pc [.ref (q a0), .int a1] (CB 167 (ceC cA q) D cA q aK aV M)) (Qv 167 (ceC cA q) D q M0) 0 0 (AqG 167 q) := by
  refine gMet RX6 (by decide +kernel) rfl hq (Nat.le_of_ble_eq_true rfl) ?_
  intro p e s m below meth c ls X hr hk hP hS hl
  have hx := X.1
  have hb := X.2.1
  have hl : lv_has ls 2 [(0, .ref (q a0)), (1, .int a1)] := hl
  rw [f_X6_renew] at h
  refine lv_aload_n hx hb dX6_renew_0 rfl (lv_at hl 0 rfl) ?_
  refine lv_iload_n hx hb dX6_renew_1 rfl (lv_at hl 1 rfl) ?_
  obtain ⟨M1, eM1, h⟩ := lt_inv h
  refine pfC_6_0 X hP hS h0 bw_65 eM1 dX6_renew_2 (fun H locs hP hS => ?_)
  refine lv_aload_n hx hb dX6_renew_5 rfl (lv_at hl 0 rfl) ?_
  refine lv_iconst (v := 0) hx hb dX6_renew_6 (by decide) ?_
  obtain ⟨M2, eM2, h⟩ := lt_inv h
  refine pfC_6_1 X hP hS h0 bw_68 eM2 dX6_renew_7 (fun H locs hP hS => ?_)
  refine lv_aload_n hx hb dX6_renew_10 rfl (lv_at hl 0 rfl) ?_
  refine lv_iconst (v := -1) hx hb dX6_renew_11 (by decide) ?_
  obtain ⟨M3, eM3, h⟩ := lt_inv h
  refine pfC_6_2 X hP hS h0 bw_71 eM3 dX6_renew_12 (fun H locs hP hS => ?_)
  refine lv_aload_n hx hb dX6_renew_15 rfl (lv_at hl 0 rfl) ?_
  refine lv_iconst (v := -1) hx hb dX6_renew_16 (by decide) ?_
  obtain ⟨M4, eM4, h⟩ := lt_inv h
  refine pfC_6_3 X hP hS h0 bw_75 eM4 dX6_renew_17 (fun H locs hP hS => ?_)
  refine lv_aload_n hx hb dX6_renew_20 rfl (lv_at hl 0 rfl) ?_
  refine lv_iconst (v := 0) hx hb dX6_renew_21 (by decide) ?_
  obtain ⟨M5, eM5, h⟩ := lt_inv h
  refine pfC_6_4 X hP hS h0 bw_77 eM5 dX6_renew_22 (fun H locs hP hS => ?_)
  refine lv_aload_n hx hb dX6_renew_25 rfl (lv_at hl 0 rfl) ?_
  refine lv_bipush (v := 99) hx hb dX6_renew_26 (by decide) ?_
  obtain ⟨M6, eM6, h⟩ := lt_inv h
  refine pfC_6_5 X hP hS h0 bw_79 eM6 dX6_renew_28 (fun H locs hP hS => ?_)
  refine lv_aload_n hx hb dX6_renew_31 rfl (lv_at hl 0 rfl) ?_
  refine lv_iconst (v := -1) hx hb dX6_renew_32 (by decide) ?_
  obtain ⟨M7, eM7, h⟩ := lt_inv h
  refine pfC_6_6 X hP hS h0 bw_81 eM7 dX6_renew_33 (fun H locs hP hS => ?_)
  refine lv_aload_n hx hb dX6_renew_36 rfl (lv_at hl 0 rfl) ?_
  refine lv_iconst (v := 0) hx hb dX6_renew_37 (by decide) ?_
  obtain ⟨M8, eM8, h⟩ := lt_inv h
  refine pfC_6_7 X hP hS h0 bw_83 eM8 dX6_renew_38 (fun H locs hP hS => ?_)
  refine lv_aload_n hx hb dX6_renew_41 rfl (lv_at hl 0 rfl) ?_
  refine lv_bipush (v := 9) hx hb dX6_renew_42 (by decide) ?_
  obtain ⟨M9, eM9, h⟩ := lt_inv h
  refine pfC_6_8 X hP hS h0 bw_85 eM9 dX6_renew_44 (fun H locs hP hS => ?_)
  exact end_v X hr hk hP hS h dX6_renew_47
theorem dX4_takeNumber_0 : decode cX4_takeNumber 0 = .ok (.aload_n 0, 1) := by decide +kernel
theorem dX4_takeNumber_1 : decode cX4_takeNumber 1 = .ok (.getfield 28, 3) := by decide +kernel
theorem dX4_takeNumber_4 : decode cX4_takeNumber 4 = .ok (.getfield 43, 3) := by decide +kernel
theorem dX4_takeNumber_7 : decode cX4_takeNumber 7 = .ok (.bipush 31, 2) := by decide +kernel
theorem dX4_takeNumber_9 : decode cX4_takeNumber 9 = .ok (.if_icmp .eq 12, 3) := by decide +kernel
theorem dX4_takeNumber_12 : decode cX4_takeNumber 12 = .ok (.aload_n 0, 1) := by decide +kernel
theorem dX4_takeNumber_13 : decode cX4_takeNumber 13 = .ok (.getfield 28, 3) := by decide +kernel
theorem dX4_takeNumber_16 : decode cX4_takeNumber 16 = .ok (.iconst 2, 1) := by decide +kernel
theorem dX4_takeNumber_17 : decode cX4_takeNumber 17 = .ok (.invokevirtual 57, 3) := by decide +kernel
theorem dX4_takeNumber_20 : decode cX4_takeNumber 20 = .ok (.ireturn, 1) := by decide +kernel
theorem dX4_takeNumber_21 : decode cX4_takeNumber 21 = .ok (.aload_n 0, 1) := by decide +kernel
theorem dX4_takeNumber_22 : decode cX4_takeNumber 22 = .ok (.getfield 28, 3) := by decide +kernel
theorem dX4_takeNumber_25 : decode cX4_takeNumber 25 = .ok (.getfield 234, 3) := by decide +kernel
theorem dX4_takeNumber_28 : decode cX4_takeNumber 28 = .ok (.iload_n 1, 1) := by decide +kernel
theorem dX4_takeNumber_29 : decode cX4_takeNumber 29 = .ok (.if_icmp .lt 14, 3) := by decide +kernel
theorem dX4_takeNumber_32 : decode cX4_takeNumber 32 = .ok (.aload_n 0, 1) := by decide +kernel
theorem dX4_takeNumber_33 : decode cX4_takeNumber 33 = .ok (.getfield 28, 3) := by decide +kernel
theorem dX4_takeNumber_36 : decode cX4_takeNumber 36 = .ok (.getfield 234, 3) := by decide +kernel
theorem dX4_takeNumber_39 : decode cX4_takeNumber 39 = .ok (.iload_n 2, 1) := by decide +kernel
theorem dX4_takeNumber_40 : decode cX4_takeNumber 40 = .ok (.if_icmp .le 12, 3) := by decide +kernel
theorem dX4_takeNumber_43 : decode cX4_takeNumber 43 = .ok (.aload_n 0, 1) := by decide +kernel
theorem dX4_takeNumber_44 : decode cX4_takeNumber 44 = .ok (.getfield 28, 3) := by decide +kernel
theorem dX4_takeNumber_47 : decode cX4_takeNumber 47 = .ok (.iconst 4, 1) := by decide +kernel
theorem dX4_takeNumber_48 : decode cX4_takeNumber 48 = .ok (.invokevirtual 57, 3) := by decide +kernel
theorem dX4_takeNumber_51 : decode cX4_takeNumber 51 = .ok (.ireturn, 1) := by decide +kernel
theorem dX4_takeNumber_52 : decode cX4_takeNumber 52 = .ok (.aload_n 0, 1) := by decide +kernel
theorem dX4_takeNumber_53 : decode cX4_takeNumber 53 = .ok (.aload_n 0, 1) := by decide +kernel
theorem dX4_takeNumber_54 : decode cX4_takeNumber 54 = .ok (.getfield 28, 3) := by decide +kernel
theorem dX4_takeNumber_57 : decode cX4_takeNumber 57 = .ok (.getfield 234, 3) := by decide +kernel
theorem dX4_takeNumber_60 : decode cX4_takeNumber 60 = .ok (.putfield 19, 3) := by decide +kernel
theorem dX4_takeNumber_63 : decode cX4_takeNumber 63 = .ok (.aload_n 0, 1) := by decide +kernel
theorem dX4_takeNumber_64 : decode cX4_takeNumber 64 = .ok (.getfield 28, 3) := by decide +kernel
theorem dX4_takeNumber_67 : decode cX4_takeNumber 67 = .ok (.invokevirtual 63, 3) := by decide +kernel
theorem dX4_takeNumber_70 : decode cX4_takeNumber 70 = .ok (.iconst 1, 1) := by decide +kernel
theorem dX4_takeNumber_71 : decode cX4_takeNumber 71 = .ok (.ireturn, 1) := by decide +kernel
set_option maxRecDepth 100000 in
set_option maxHeartbeats 8000000 in
theorem c_X4_takeNumber (l : Launch) (D : va_G) (cA : Nat → ClassId) (q aK aV : Nat → Nat) (hq : injG 167 q) {a1 : Int32} {a2 : Int32} {M M0 : Mem} {r0 : Int32} (h : f_X4_takeNumber a1 a2 M = some (r0, M0)) : Met l yX4_takeNumber (.code yX4_takeNumber cX4_takeNumber 3 (some .boolean) :: BW) ({ frames := 3, cells := 0, slots := 0, locals := 57 } : Room) (va_Pc [.ref (q 16), .int a1, .int a2] (CB 167 (ceC cA q) D cA q aK aV M)) (Qi 167 (ceC cA q) D q r0 M0) 0 0 (AqG 167 q) := by
  refine gMet RX4 (by decide +kernel) rfl hq (Nat.le_of_ble_eq_true rfl) ?_
  intro p e s m below meth c ls X hr hk hP hS hl
  have hx := X.1
  have hb := X.2.1
  have hl : lv_has ls 3 [(0, .ref (q 16)), (1, .int a1), (2, .int a2)] := hl
  rw [f_X4_takeNumber] at h
  refine lv_aload_n hx hb dX4_takeNumber_0 rfl (lv_at hl 0 rfl) ?_
  refine gfC_4_0 X hP sC_16 bw_329 dX4_takeNumber_1 ?_
  refine gfC_7_6 X hP sC_13 bw_290 dX4_takeNumber_4 ?_
  refine lv_bipush (v := 31) hx hb dX4_takeNumber_7 (by decide) ?_
  refine lv_icmp_eq (tgt := 21) hx hb dX4_takeNumber_9 (by decide) (fun c1 => ?_) (fun c1 => ?_)
  · rw [if_pos c1] at h
    refine lv_aload_n hx hb dX4_takeNumber_21 rfl (lv_at hl 0 rfl) ?_
    refine gfC_4_0 X hP sC_16 bw_329 dX4_takeNumber_22 ?_
    refine gfC_7_8 X hP sC_13 bw_294 dX4_takeNumber_25 ?_
    refine lv_iload_n hx hb dX4_takeNumber_28 rfl (lv_at hl 1 rfl) ?_
    refine lv_icmp_lt (tgt := 43) hx hb dX4_takeNumber_29 (by decide) (fun c2 => ?_) (fun c2 => ?_)
    · rw [if_pos c2] at h
      refine lv_aload_n hx hb dX4_takeNumber_43 rfl (lv_at hl 0 rfl) ?_
      refine gfC_4_0 X hP sC_16 bw_329 dX4_takeNumber_44 ?_
      refine lv_iconst (v := 4) hx hb dX4_takeNumber_47 (by decide) ?_
      obtain ⟨r3, M4, hc5, h⟩ := bnd_inv h
      refine gV_i (As := [.int (4 : Int32)]) X hP hS hl.1 (c_X7_refuse l D cA q aK aV hq hc5) sf_X7_refuse bw_637 sv_X7_refuse (rcC_7 sC_13) rfl ⟨rfl, rfl⟩ ⟨Nat.le_of_ble_eq_true rfl, Nat.le_of_ble_eq_true rfl⟩ rfl rfl (Nat.le_of_ble_eq_true rfl) dX4_takeNumber_48 (fun H locs hP hS => ?_)
      obtain ⟨g6, h⟩ := gd_inv h
      exact end_z X hr hk hP hS (Decidable.not_not.mp g6) h dX4_takeNumber_51
    · rw [if_neg c2] at h
      refine lv_aload_n hx hb dX4_takeNumber_32 rfl (lv_at hl 0 rfl) ?_
      refine gfC_4_0 X hP sC_16 bw_329 dX4_takeNumber_33 ?_
      refine gfC_7_8 X hP sC_13 bw_294 dX4_takeNumber_36 ?_
      refine lv_iload_n hx hb dX4_takeNumber_39 rfl (lv_at hl 2 rfl) ?_
      refine lv_icmp_le (tgt := 52) hx hb dX4_takeNumber_40 (by decide) (fun c7 => ?_) (fun c7 => ?_)
      · rw [if_pos c7] at h
        refine lv_aload_n hx hb dX4_takeNumber_52 rfl (lv_at hl 0 rfl) ?_
        refine lv_aload_n hx hb dX4_takeNumber_53 rfl (lv_at hl 0 rfl) ?_
        refine gfC_4_0 X hP sC_16 bw_329 dX4_takeNumber_54 ?_
        refine gfC_7_8 X hP sC_13 bw_294 dX4_takeNumber_57 ?_
        obtain ⟨M8, eM8, h⟩ := lt_inv h
        refine pfC_4_3 X hP hS sC_16 bw_332 eM8 dX4_takeNumber_60 (fun H locs hP hS => ?_)
        refine lv_aload_n hx hb dX4_takeNumber_63 rfl (lv_at hl 0 rfl) ?_
        refine gfC_4_0 X hP sC_16 bw_329 dX4_takeNumber_64 ?_
        obtain ⟨_, M10, hc11, h⟩ := bnd_inv h
        refine gV_v (As := []) X hP hS hl.1 (c_X7_goOn l D cA q aK aV hq hc11) sf_X7_goOn bw_654 sv_X7_goOn (rcC_7 sC_13) rfl ⟨rfl, rfl⟩ ⟨Nat.le_of_ble_eq_true rfl, Nat.le_of_ble_eq_true rfl⟩ rfl rfl (Nat.le_of_ble_eq_true rfl) dX4_takeNumber_67 (fun H locs hP hS => ?_)
        refine lv_iconst (v := 1) hx hb dX4_takeNumber_70 (by decide) ?_
        exact end_z X hr hk hP hS (Or.inr rfl) h dX4_takeNumber_71
      · rw [if_neg c7] at h
        refine lv_aload_n hx hb dX4_takeNumber_43 rfl (lv_at hl 0 rfl) ?_
        refine gfC_4_0 X hP sC_16 bw_329 dX4_takeNumber_44 ?_
        refine lv_iconst (v := 4) hx hb dX4_takeNumber_47 (by decide) ?_
        obtain ⟨r12, M13, hc14, h⟩ := bnd_inv h
        refine gV_i (As := [.int (4 : Int32)]) X hP hS hl.1 (c_X7_refuse l D cA q aK aV hq hc14) sf_X7_refuse bw_637 sv_X7_refuse (rcC_7 sC_13) rfl ⟨rfl, rfl⟩ ⟨Nat.le_of_ble_eq_true rfl, Nat.le_of_ble_eq_true rfl⟩ rfl rfl (Nat.le_of_ble_eq_true rfl) dX4_takeNumber_48 (fun H locs hP hS => ?_)
        obtain ⟨g15, h⟩ := gd_inv h
        exact end_z X hr hk hP hS (Decidable.not_not.mp g15) h dX4_takeNumber_51
  · rw [if_neg c1] at h
    refine lv_aload_n hx hb dX4_takeNumber_12 rfl (lv_at hl 0 rfl) ?_
    refine gfC_4_0 X hP sC_16 bw_329 dX4_takeNumber_13 ?_
    refine lv_iconst (v := 2) hx hb dX4_takeNumber_16 (by decide) ?_
    obtain ⟨r16, M17, hc18, h⟩ := bnd_inv h
    refine gV_i (As := [.int (2 : Int32)]) X hP hS hl.1 (c_X7_refuse l D cA q aK aV hq hc18) sf_X7_refuse bw_637 sv_X7_refuse (rcC_7 sC_13) rfl ⟨rfl, rfl⟩ ⟨Nat.le_of_ble_eq_true rfl, Nat.le_of_ble_eq_true rfl⟩ rfl rfl (Nat.le_of_ble_eq_true rfl) dX4_takeNumber_17 (fun H locs hP hS => ?_)
    obtain ⟨g19, h⟩ := gd_inv h
    exact end_z X hr hk hP hS (Decidable.not_not.mp g19) h dX4_takeNumber_20
theorem dX4_takeCompare_0 : decode cX4_takeCompare 0 = .ok (.aload_n 0, 1) := by decide +kernel
theorem dX4_takeCompare_1 : decode cX4_takeCompare 1 = .ok (.getfield 28, 3) := by decide +kernel
theorem dX4_takeCompare_4 : decode cX4_takeCompare 4 = .ok (.getfield 43, 3) := by decide +kernel
theorem dX4_takeCompare_7 : decode cX4_takeCompare 7 = .ok (.istore_n 2, 1) := by decide +kernel
theorem dX4_takeCompare_8 : decode cX4_takeCompare 8 = .ok (.iload_n 2, 1) := by decide +kernel
theorem dX4_takeCompare_9 : decode cX4_takeCompare 9 = .ok (.bipush 60, 2) := by decide +kernel
theorem dX4_takeCompare_11 : decode cX4_takeCompare 11 = .ok (.if_icmp .eq 24, 3) := by decide +kernel
theorem dX4_takeCompare_14 : decode cX4_takeCompare 14 = .ok (.iload_n 2, 1) := by decide +kernel
theorem dX4_takeCompare_15 : decode cX4_takeCompare 15 = .ok (.bipush 62, 2) := by decide +kernel
theorem dX4_takeCompare_17 : decode cX4_takeCompare 17 = .ok (.if_icmp .eq 18, 3) := by decide +kernel
theorem dX4_takeCompare_20 : decode cX4_takeCompare 20 = .ok (.iload_n 2, 1) := by decide +kernel
theorem dX4_takeCompare_21 : decode cX4_takeCompare 21 = .ok (.bipush 61, 2) := by decide +kernel
theorem dX4_takeCompare_23 : decode cX4_takeCompare 23 = .ok (.if_icmp .eq 12, 3) := by decide +kernel
theorem dX4_takeCompare_26 : decode cX4_takeCompare 26 = .ok (.aload_n 0, 1) := by decide +kernel
theorem dX4_takeCompare_27 : decode cX4_takeCompare 27 = .ok (.getfield 28, 3) := by decide +kernel
theorem dX4_takeCompare_30 : decode cX4_takeCompare 30 = .ok (.iconst 2, 1) := by decide +kernel
theorem dX4_takeCompare_31 : decode cX4_takeCompare 31 = .ok (.invokevirtual 57, 3) := by decide +kernel
theorem dX4_takeCompare_34 : decode cX4_takeCompare 34 = .ok (.ireturn, 1) := by decide +kernel
theorem dX4_takeCompare_35 : decode cX4_takeCompare 35 = .ok (.aload_n 0, 1) := by decide +kernel
theorem dX4_takeCompare_36 : decode cX4_takeCompare 36 = .ok (.getfield 28, 3) := by decide +kernel
theorem dX4_takeCompare_39 : decode cX4_takeCompare 39 = .ok (.invokevirtual 63, 3) := by decide +kernel
theorem dX4_takeCompare_42 : decode cX4_takeCompare 42 = .ok (.aload_n 0, 1) := by decide +kernel
theorem dX4_takeCompare_43 : decode cX4_takeCompare 43 = .ok (.iconst 0, 1) := by decide +kernel
theorem dX4_takeCompare_44 : decode cX4_takeCompare 44 = .ok (.iload_n 1, 1) := by decide +kernel
theorem dX4_takeCompare_45 : decode cX4_takeCompare 45 = .ok (.invokevirtual 151, 3) := by decide +kernel
theorem dX4_takeCompare_48 : decode cX4_takeCompare 48 = .ok (.ifCond .ne 5, 3) := by decide +kernel
theorem dX4_takeCompare_51 : decode cX4_takeCompare 51 = .ok (.iconst 0, 1) := by decide +kernel
theorem dX4_takeCompare_52 : decode cX4_takeCompare 52 = .ok (.ireturn, 1) := by decide +kernel
theorem dX4_takeCompare_53 : decode cX4_takeCompare 53 = .ok (.aload_n 0, 1) := by decide +kernel
theorem dX4_takeCompare_54 : decode cX4_takeCompare 54 = .ok (.iload_n 2, 1) := by decide +kernel
theorem dX4_takeCompare_55 : decode cX4_takeCompare 55 = .ok (.bipush 60, 2) := by decide +kernel
theorem dX4_takeCompare_57 : decode cX4_takeCompare 57 = .ok (.if_icmp .ne 7, 3) := by decide +kernel
theorem dX4_takeCompare_60 : decode cX4_takeCompare 60 = .ok (.iconst 0, 1) := by decide +kernel
theorem dX4_takeCompare_61 : decode cX4_takeCompare 61 = .ok (.goto 22, 3) := by decide +kernel
theorem dX4_takeCompare_64 : decode cX4_takeCompare 64 = .ok (.iload_n 2, 1) := by decide +kernel
theorem dX4_takeCompare_65 : decode cX4_takeCompare 65 = .ok (.bipush 62, 2) := by decide +kernel
theorem dX4_takeCompare_67 : decode cX4_takeCompare 67 = .ok (.if_icmp .ne 12, 3) := by decide +kernel
theorem dX4_takeCompare_70 : decode cX4_takeCompare 70 = .ok (.aload_n 0, 1) := by decide +kernel
theorem dX4_takeCompare_71 : decode cX4_takeCompare 71 = .ok (.getfield 19, 3) := by decide +kernel
theorem dX4_takeCompare_74 : decode cX4_takeCompare 74 = .ok (.iconst 1, 1) := by decide +kernel
theorem dX4_takeCompare_75 : decode cX4_takeCompare 75 = .ok (.iadd, 1) := by decide +kernel
theorem dX4_takeCompare_76 : decode cX4_takeCompare 76 = .ok (.goto 7, 3) := by decide +kernel
theorem dX4_takeCompare_79 : decode cX4_takeCompare 79 = .ok (.aload_n 0, 1) := by decide +kernel
theorem dX4_takeCompare_80 : decode cX4_takeCompare 80 = .ok (.getfield 19, 3) := by decide +kernel
theorem dX4_takeCompare_83 : decode cX4_takeCompare 83 = .ok (.putfield 22, 3) := by decide +kernel
theorem dX4_takeCompare_86 : decode cX4_takeCompare 86 = .ok (.aload_n 0, 1) := by decide +kernel
theorem dX4_takeCompare_87 : decode cX4_takeCompare 87 = .ok (.iload_n 2, 1) := by decide +kernel
theorem dX4_takeCompare_88 : decode cX4_takeCompare 88 = .ok (.bipush 60, 2) := by decide +kernel
theorem dX4_takeCompare_90 : decode cX4_takeCompare 90 = .ok (.if_icmp .ne 12, 3) := by decide +kernel
theorem dX4_takeCompare_93 : decode cX4_takeCompare 93 = .ok (.aload_n 0, 1) := by decide +kernel
theorem dX4_takeCompare_94 : decode cX4_takeCompare 94 = .ok (.getfield 19, 3) := by decide +kernel
theorem dX4_takeCompare_97 : decode cX4_takeCompare 97 = .ok (.iconst 1, 1) := by decide +kernel
theorem dX4_takeCompare_98 : decode cX4_takeCompare 98 = .ok (.isub, 1) := by decide +kernel
theorem dX4_takeCompare_99 : decode cX4_takeCompare 99 = .ok (.goto 17, 3) := by decide +kernel
theorem dX4_takeCompare_102 : decode cX4_takeCompare 102 = .ok (.iload_n 2, 1) := by decide +kernel
theorem dX4_takeCompare_103 : decode cX4_takeCompare 103 = .ok (.bipush 62, 2) := by decide +kernel
theorem dX4_takeCompare_105 : decode cX4_takeCompare 105 = .ok (.if_icmp .ne 7, 3) := by decide +kernel
theorem dX4_takeCompare_108 : decode cX4_takeCompare 108 = .ok (.iload_n 1, 1) := by decide +kernel
theorem dX4_takeCompare_109 : decode cX4_takeCompare 109 = .ok (.goto 7, 3) := by decide +kernel
theorem dX4_takeCompare_112 : decode cX4_takeCompare 112 = .ok (.aload_n 0, 1) := by decide +kernel
theorem dX4_takeCompare_113 : decode cX4_takeCompare 113 = .ok (.getfield 19, 3) := by decide +kernel
theorem dX4_takeCompare_116 : decode cX4_takeCompare 116 = .ok (.putfield 25, 3) := by decide +kernel
theorem dX4_takeCompare_119 : decode cX4_takeCompare 119 = .ok (.iconst 1, 1) := by decide +kernel
theorem dX4_takeCompare_120 : decode cX4_takeCompare 120 = .ok (.ireturn, 1) := by decide +kernel
set_option maxRecDepth 100000 in
set_option maxHeartbeats 8000000 in
theorem c_X4_takeCompare (l : Launch) (D : va_G) (cA : Nat → ClassId) (q aK aV : Nat → Nat) (hq : injG 167 q) {a1 : Int32} {M M0 : Mem} {r0 : Int32} (h : f_X4_takeCompare a1 M = some (r0, M0)) : Met l yX4_takeCompare (.code yX4_takeCompare cX4_takeCompare 3 (some .boolean) :: BW) ({ frames := 4, cells := 0, slots := 0, locals := 79 } : Room) (va_Pc [.ref (q 16), .int a1] (CB 167 (ceC cA q) D cA q aK aV M)) (Qi 167 (ceC cA q) D q r0 M0) 0 0 (AqG 167 q) := by
  refine gMet RX4 (by decide +kernel) rfl hq (Nat.le_of_ble_eq_true rfl) ?_
  intro p e s m below meth c ls X hr hk hP hS hl
  have hx := X.1
  have hb := X.2.1
  have hl : lv_has ls 3 [(0, .ref (q 16)), (1, .int a1)] := hl
  rw [f_X4_takeCompare] at h
  have hJ83 : ∀ (b2 : Int32) (s1 : Int32) (M : Mem) (H : Heap) (locs : List Loc) (ls : Array Slot), f_X4_takeCompare_J83 a1 b2 s1 M = some (r0, M0) → va_P D vwCl (wsG 167 (ceC cA q) q M) H → va_S (AqG 167 q) s.heap H locs → lv_has ls 3 [(0, .ref (q 16)), (1, .int a1), (2, .int b2)] → W p l e ({ frames := 4, cells := 0, slots := 0, locals := 79 } : Room) s m [.ref (q 16), .int a1].toArray below meth c H locs 0 0 (MQ below (Qi 167 (ceC cA q) D q r0 M0) [.ref (q 16), .int a1].toArray s 0 0 (AqG 167 q)) (F0 m 83 ls [.int s1, .ref (q 16)]) := by
    intro b2 s1 M H locs ls h hP hS hl
    rw [f_X4_takeCompare_J83] at h
    obtain ⟨M18, eM18, h⟩ := lt_inv h
    refine pfC_4_4 X hP hS sC_16 bw_333 eM18 dX4_takeCompare_83 (fun H locs hP hS => ?_)
    refine lv_aload_n hx hb dX4_takeCompare_86 rfl (lv_at hl 0 rfl) ?_
    refine lv_iload_n hx hb dX4_takeCompare_87 rfl (lv_at hl 2 rfl) ?_
    refine lv_bipush (v := 60) hx hb dX4_takeCompare_88 (by decide) ?_
    refine lv_icmp_ne (tgt := 102) hx hb dX4_takeCompare_90 (by decide) (fun c19 => ?_) (fun c19 => ?_)
    · rw [if_neg c19] at h
      refine lv_iload_n hx hb dX4_takeCompare_102 rfl (lv_at hl 2 rfl) ?_
      refine lv_bipush (v := 62) hx hb dX4_takeCompare_103 (by decide) ?_
      refine lv_icmp_ne (tgt := 112) hx hb dX4_takeCompare_105 (by decide) (fun c20 => ?_) (fun c20 => ?_)
      · rw [if_neg c20] at h
        refine lv_aload_n hx hb dX4_takeCompare_112 rfl (lv_at hl 0 rfl) ?_
        refine gfC_4_3 X hP sC_16 bw_332 dX4_takeCompare_113 ?_
        obtain ⟨M21, eM21, h⟩ := lt_inv h
        refine pfC_4_5 X hP hS sC_16 bw_334 eM21 dX4_takeCompare_116 (fun H locs hP hS => ?_)
        refine lv_iconst (v := 1) hx hb dX4_takeCompare_119 (by decide) ?_
        exact end_z X hr hk hP hS (Or.inr rfl) h dX4_takeCompare_120
      · rw [if_pos c20] at h
        refine lv_iload_n hx hb dX4_takeCompare_108 rfl (lv_at hl 1 rfl) ?_
        refine lv_goto (tgt := 116) hx hb dX4_takeCompare_109 (by decide) ?_
        obtain ⟨M22, eM22, h⟩ := lt_inv h
        refine pfC_4_5 X hP hS sC_16 bw_334 eM22 dX4_takeCompare_116 (fun H locs hP hS => ?_)
        refine lv_iconst (v := 1) hx hb dX4_takeCompare_119 (by decide) ?_
        exact end_z X hr hk hP hS (Or.inr rfl) h dX4_takeCompare_120
    · rw [if_pos c19] at h
      refine lv_aload_n hx hb dX4_takeCompare_93 rfl (lv_at hl 0 rfl) ?_
      refine gfC_4_3 X hP sC_16 bw_332 dX4_takeCompare_94 ?_
      refine lv_iconst (v := 1) hx hb dX4_takeCompare_97 (by decide) ?_
      refine lv_isub hx hb dX4_takeCompare_98 ?_
      refine lv_goto (tgt := 116) hx hb dX4_takeCompare_99 (by decide) ?_
      obtain ⟨M23, eM23, h⟩ := lt_inv h
      refine pfC_4_5 X hP hS sC_16 bw_334 eM23 dX4_takeCompare_116 (fun H locs hP hS => ?_)
      refine lv_iconst (v := 1) hx hb dX4_takeCompare_119 (by decide) ?_
      exact end_z X hr hk hP hS (Or.inr rfl) h dX4_takeCompare_120
  have hJ35 : ∀ (b2 : Int32) (M : Mem) (H : Heap) (locs : List Loc) (ls : Array Slot), f_X4_takeCompare_J35 a1 b2 M = some (r0, M0) → va_P D vwCl (wsG 167 (ceC cA q) q M) H → va_S (AqG 167 q) s.heap H locs → lv_has ls 3 [(0, .ref (q 16)), (1, .int a1), (2, .int b2)] → W p l e ({ frames := 4, cells := 0, slots := 0, locals := 79 } : Room) s m [.ref (q 16), .int a1].toArray below meth c H locs 0 0 (MQ below (Qi 167 (ceC cA q) D q r0 M0) [.ref (q 16), .int a1].toArray s 0 0 (AqG 167 q)) (F0 m 35 ls []) := by
    intro b2 M H locs ls h hP hS hl
    rw [f_X4_takeCompare_J35] at h
    refine lv_aload_n hx hb dX4_takeCompare_35 rfl (lv_at hl 0 rfl) ?_
    refine gfC_4_0 X hP sC_16 bw_329 dX4_takeCompare_36 ?_
    obtain ⟨_, M10, hc11, h⟩ := bnd_inv h
    refine gV_v (As := []) X hP hS hl.1 (c_X7_goOn l D cA q aK aV hq hc11) sf_X7_goOn bw_654 sv_X7_goOn (rcC_7 sC_13) rfl ⟨rfl, rfl⟩ ⟨Nat.le_of_ble_eq_true rfl, Nat.le_of_ble_eq_true rfl⟩ rfl rfl (Nat.le_of_ble_eq_true rfl) dX4_takeCompare_39 (fun H locs hP hS => ?_)
    refine lv_aload_n hx hb dX4_takeCompare_42 rfl (lv_at hl 0 rfl) ?_
    refine lv_iconst (v := 0) hx hb dX4_takeCompare_43 (by decide) ?_
    refine lv_iload_n hx hb dX4_takeCompare_44 rfl (lv_at hl 1 rfl) ?_
    obtain ⟨r12, M13, hc14, h⟩ := bnd_inv h
    refine gV_i (As := [.int (0 : Int32), .int a1]) X hP hS hl.1 (c_X4_takeNumber l D cA q aK aV hq hc14) sf_X4_takeNumber bw_719 sv_X4_takeNumber (rcC_4 sC_16) rfl ⟨rfl, rfl⟩ ⟨Nat.le_of_ble_eq_true rfl, Nat.le_of_ble_eq_true rfl⟩ rfl rfl (Nat.le_of_ble_eq_true rfl) dX4_takeCompare_45 (fun H locs hP hS => ?_)
    refine lv_if_ne (tgt := 53) hx hb dX4_takeCompare_48 (by decide) (fun c15 => ?_) (fun c15 => ?_)
    · rw [if_neg c15] at h
      refine lv_aload_n hx hb dX4_takeCompare_53 rfl (lv_at hl 0 rfl) ?_
      refine lv_iload_n hx hb dX4_takeCompare_54 rfl (lv_at hl 2 rfl) ?_
      refine lv_bipush (v := 60) hx hb dX4_takeCompare_55 (by decide) ?_
      refine lv_icmp_ne (tgt := 64) hx hb dX4_takeCompare_57 (by decide) (fun c16 => ?_) (fun c16 => ?_)
      · rw [if_neg c16] at h
        refine lv_iload_n hx hb dX4_takeCompare_64 rfl (lv_at hl 2 rfl) ?_
        refine lv_bipush (v := 62) hx hb dX4_takeCompare_65 (by decide) ?_
        refine lv_icmp_ne (tgt := 79) hx hb dX4_takeCompare_67 (by decide) (fun c17 => ?_) (fun c17 => ?_)
        · rw [if_neg c17] at h
          refine lv_aload_n hx hb dX4_takeCompare_79 rfl (lv_at hl 0 rfl) ?_
          refine gfC_4_3 X hP sC_16 bw_332 dX4_takeCompare_80 ?_
          exact hJ83 _ _ _ _ _ _ h hP hS (lv_sub hl [0, 1, 2] rfl)
        · rw [if_pos c17] at h
          refine lv_aload_n hx hb dX4_takeCompare_70 rfl (lv_at hl 0 rfl) ?_
          refine gfC_4_3 X hP sC_16 bw_332 dX4_takeCompare_71 ?_
          refine lv_iconst (v := 1) hx hb dX4_takeCompare_74 (by decide) ?_
          refine lv_iadd hx hb dX4_takeCompare_75 ?_
          refine lv_goto (tgt := 83) hx hb dX4_takeCompare_76 (by decide) ?_
          exact hJ83 _ _ _ _ _ _ h hP hS (lv_sub hl [0, 1, 2] rfl)
      · rw [if_pos c16] at h
        refine lv_iconst (v := 0) hx hb dX4_takeCompare_60 (by decide) ?_
        refine lv_goto (tgt := 83) hx hb dX4_takeCompare_61 (by decide) ?_
        exact hJ83 _ _ _ _ _ _ h hP hS (lv_sub hl [0, 1, 2] rfl)
    · rw [if_pos c15] at h
      refine lv_iconst (v := 0) hx hb dX4_takeCompare_51 (by decide) ?_
      exact end_z X hr hk hP hS (Or.inl rfl) h dX4_takeCompare_52
  refine lv_aload_n hx hb dX4_takeCompare_0 rfl (lv_at hl 0 rfl) ?_
  refine gfC_4_0 X hP sC_16 bw_329 dX4_takeCompare_1 ?_
  refine gfC_7_6 X hP sC_13 bw_290 dX4_takeCompare_4 ?_
  obtain ⟨y1, ey1, h⟩ := lt_inv h
  refine topE ey1 ?_
  refine lv_istore_n (lv' := [(2, .int y1), (0, .ref (q 16)), (1, .int a1)]) hx hb dX4_takeCompare_7 rfl hl (by decide) rfl (fun ls hl => ?_)
  refine lv_iload_n hx hb dX4_takeCompare_8 rfl (lv_at hl 0 rfl) ?_
  refine lv_bipush (v := 60) hx hb dX4_takeCompare_9 (by decide) ?_
  refine lv_icmp_eq (tgt := 35) hx hb dX4_takeCompare_11 (by decide) (fun c2 => ?_) (fun c2 => ?_)
  · rw [if_pos c2] at h
    exact hJ35 _ _ _ _ _ h hP hS (lv_sub hl [1, 2, 0] rfl)
  · rw [if_neg c2] at h
    refine lv_iload_n hx hb dX4_takeCompare_14 rfl (lv_at hl 0 rfl) ?_
    refine lv_bipush (v := 62) hx hb dX4_takeCompare_15 (by decide) ?_
    refine lv_icmp_eq (tgt := 35) hx hb dX4_takeCompare_17 (by decide) (fun c3 => ?_) (fun c3 => ?_)
    · rw [if_pos c3] at h
      exact hJ35 _ _ _ _ _ h hP hS (lv_sub hl [1, 2, 0] rfl)
    · rw [if_neg c3] at h
      refine lv_iload_n hx hb dX4_takeCompare_20 rfl (lv_at hl 0 rfl) ?_
      refine lv_bipush (v := 61) hx hb dX4_takeCompare_21 (by decide) ?_
      refine lv_icmp_eq (tgt := 35) hx hb dX4_takeCompare_23 (by decide) (fun c4 => ?_) (fun c4 => ?_)
      · rw [if_pos c4] at h
        exact hJ35 _ _ _ _ _ h hP hS (lv_sub hl [1, 2, 0] rfl)
      · rw [if_neg c4] at h
        refine lv_aload_n hx hb dX4_takeCompare_26 rfl (lv_at hl 1 rfl) ?_
        refine gfC_4_0 X hP sC_16 bw_329 dX4_takeCompare_27 ?_
        refine lv_iconst (v := 2) hx hb dX4_takeCompare_30 (by decide) ?_
        obtain ⟨r5, M6, hc7, h⟩ := bnd_inv h
        refine gV_i (As := [.int (2 : Int32)]) X hP hS hl.1 (c_X7_refuse l D cA q aK aV hq hc7) sf_X7_refuse bw_637 sv_X7_refuse (rcC_7 sC_13) rfl ⟨rfl, rfl⟩ ⟨Nat.le_of_ble_eq_true rfl, Nat.le_of_ble_eq_true rfl⟩ rfl rfl (Nat.le_of_ble_eq_true rfl) dX4_takeCompare_31 (fun H locs hP hS => ?_)
        obtain ⟨g8, h⟩ := gd_inv h
        exact end_z X hr hk hP hS (Decidable.not_not.mp g8) h dX4_takeCompare_34
theorem dX4_readRule_0 : decode cX4_readRule 0 = .ok (.aload_n 1, 1) := by decide +kernel
theorem dX4_readRule_1 : decode cX4_readRule 1 = .ok (.aload_n 1, 1) := by decide +kernel
theorem dX4_readRule_2 : decode cX4_readRule 2 = .ok (.iconst 2, 1) := by decide +kernel
theorem dX4_readRule_3 : decode cX4_readRule 3 = .ok (.invokevirtual 99, 3) := by decide +kernel
theorem dX4_readRule_6 : decode cX4_readRule 6 = .ok (.invokevirtual 103, 3) := by decide +kernel
theorem dX4_readRule_9 : decode cX4_readRule 9 = .ok (.astore_n 2, 1) := by decide +kernel
theorem dX4_readRule_10 : decode cX4_readRule 10 = .ok (.aload_n 2, 1) := by decide +kernel
theorem dX4_readRule_11 : decode cX4_readRule 11 = .ok (.aload_n 0, 1) := by decide +kernel
theorem dX4_readRule_12 : decode cX4_readRule 12 = .ok (.getfield 19, 3) := by decide +kernel
theorem dX4_readRule_15 : decode cX4_readRule 15 = .ok (.invokevirtual 107, 3) := by decide +kernel
theorem dX4_readRule_18 : decode cX4_readRule 18 = .ok (.aload_n 2, 1) := by decide +kernel
theorem dX4_readRule_19 : decode cX4_readRule 19 = .ok (.aload_n 0, 1) := by decide +kernel
theorem dX4_readRule_20 : decode cX4_readRule 20 = .ok (.invokevirtual 88, 3) := by decide +kernel
theorem dX4_readRule_23 : decode cX4_readRule 23 = .ok (.putfield 112, 3) := by decide +kernel
theorem dX4_readRule_26 : decode cX4_readRule 26 = .ok (.aload_n 2, 1) := by decide +kernel
theorem dX4_readRule_27 : decode cX4_readRule 27 = .ok (.getfield 112, 3) := by decide +kernel
theorem dX4_readRule_30 : decode cX4_readRule 30 = .ok (.ifCond .eq 10, 3) := by decide +kernel
theorem dX4_readRule_33 : decode cX4_readRule 33 = .ok (.aload_n 0, 1) := by decide +kernel
theorem dX4_readRule_34 : decode cX4_readRule 34 = .ok (.getfield 28, 3) := by decide +kernel
theorem dX4_readRule_37 : decode cX4_readRule 37 = .ok (.invokevirtual 63, 3) := by decide +kernel
theorem dX4_readRule_40 : decode cX4_readRule 40 = .ok (.aload_n 0, 1) := by decide +kernel
theorem dX4_readRule_41 : decode cX4_readRule 41 = .ok (.bipush 10, 2) := by decide +kernel
theorem dX4_readRule_43 : decode cX4_readRule 43 = .ok (.invokevirtual 115, 3) := by decide +kernel
theorem dX4_readRule_46 : decode cX4_readRule 46 = .ok (.ifCond .eq 38, 3) := by decide +kernel
theorem dX4_readRule_49 : decode cX4_readRule 49 = .ok (.aload_n 0, 1) := by decide +kernel
theorem dX4_readRule_50 : decode cX4_readRule 50 = .ok (.bipush 99, 2) := by decide +kernel
theorem dX4_readRule_52 : decode cX4_readRule 52 = .ok (.invokevirtual 118, 3) := by decide +kernel
theorem dX4_readRule_55 : decode cX4_readRule 55 = .ok (.ifCond .ne 5, 3) := by decide +kernel
theorem dX4_readRule_58 : decode cX4_readRule 58 = .ok (.iconst 0, 1) := by decide +kernel
theorem dX4_readRule_59 : decode cX4_readRule 59 = .ok (.ireturn, 1) := by decide +kernel
theorem dX4_readRule_60 : decode cX4_readRule 60 = .ok (.aload_n 2, 1) := by decide +kernel
theorem dX4_readRule_61 : decode cX4_readRule 61 = .ok (.aload_n 0, 1) := by decide +kernel
theorem dX4_readRule_62 : decode cX4_readRule 62 = .ok (.getfield 19, 3) := by decide +kernel
theorem dX4_readRule_65 : decode cX4_readRule 65 = .ok (.putfield 121, 3) := by decide +kernel
theorem dX4_readRule_68 : decode cX4_readRule 68 = .ok (.aload_n 2, 1) := by decide +kernel
theorem dX4_readRule_69 : decode cX4_readRule 69 = .ok (.aload_n 0, 1) := by decide +kernel
theorem dX4_readRule_70 : decode cX4_readRule 70 = .ok (.getfield 22, 3) := by decide +kernel
theorem dX4_readRule_73 : decode cX4_readRule 73 = .ok (.putfield 124, 3) := by decide +kernel
theorem dX4_readRule_76 : decode cX4_readRule 76 = .ok (.aload_n 2, 1) := by decide +kernel
theorem dX4_readRule_77 : decode cX4_readRule 77 = .ok (.aload_n 0, 1) := by decide +kernel
theorem dX4_readRule_78 : decode cX4_readRule 78 = .ok (.getfield 25, 3) := by decide +kernel
theorem dX4_readRule_81 : decode cX4_readRule 81 = .ok (.putfield 127, 3) := by decide +kernel
theorem dX4_readRule_84 : decode cX4_readRule 84 = .ok (.aload_n 0, 1) := by decide +kernel
theorem dX4_readRule_85 : decode cX4_readRule 85 = .ok (.bipush 11, 2) := by decide +kernel
theorem dX4_readRule_87 : decode cX4_readRule 87 = .ok (.invokevirtual 115, 3) := by decide +kernel
theorem dX4_readRule_90 : decode cX4_readRule 90 = .ok (.ifCond .eq 38, 3) := by decide +kernel
theorem dX4_readRule_93 : decode cX4_readRule 93 = .ok (.aload_n 0, 1) := by decide +kernel
theorem dX4_readRule_94 : decode cX4_readRule 94 = .ok (.bipush 9, 2) := by decide +kernel
theorem dX4_readRule_96 : decode cX4_readRule 96 = .ok (.invokevirtual 118, 3) := by decide +kernel
theorem dX4_readRule_99 : decode cX4_readRule 99 = .ok (.ifCond .ne 5, 3) := by decide +kernel
theorem dX4_readRule_102 : decode cX4_readRule 102 = .ok (.iconst 0, 1) := by decide +kernel
theorem dX4_readRule_103 : decode cX4_readRule 103 = .ok (.ireturn, 1) := by decide +kernel
theorem dX4_readRule_104 : decode cX4_readRule 104 = .ok (.aload_n 2, 1) := by decide +kernel
theorem dX4_readRule_105 : decode cX4_readRule 105 = .ok (.aload_n 0, 1) := by decide +kernel
theorem dX4_readRule_106 : decode cX4_readRule 106 = .ok (.getfield 19, 3) := by decide +kernel
theorem dX4_readRule_109 : decode cX4_readRule 109 = .ok (.putfield 130, 3) := by decide +kernel
theorem dX4_readRule_112 : decode cX4_readRule 112 = .ok (.aload_n 2, 1) := by decide +kernel
theorem dX4_readRule_113 : decode cX4_readRule 113 = .ok (.aload_n 0, 1) := by decide +kernel
theorem dX4_readRule_114 : decode cX4_readRule 114 = .ok (.getfield 22, 3) := by decide +kernel
theorem dX4_readRule_117 : decode cX4_readRule 117 = .ok (.putfield 133, 3) := by decide +kernel
theorem dX4_readRule_120 : decode cX4_readRule 120 = .ok (.aload_n 2, 1) := by decide +kernel
theorem dX4_readRule_121 : decode cX4_readRule 121 = .ok (.aload_n 0, 1) := by decide +kernel
theorem dX4_readRule_122 : decode cX4_readRule 122 = .ok (.getfield 25, 3) := by decide +kernel
theorem dX4_readRule_125 : decode cX4_readRule 125 = .ok (.putfield 136, 3) := by decide +kernel
theorem dX4_readRule_128 : decode cX4_readRule 128 = .ok (.aload_n 0, 1) := by decide +kernel
theorem dX4_readRule_129 : decode cX4_readRule 129 = .ok (.bipush 12, 2) := by decide +kernel
theorem dX4_readRule_131 : decode cX4_readRule 131 = .ok (.invokevirtual 115, 3) := by decide +kernel
theorem dX4_readRule_134 : decode cX4_readRule 134 = .ok (.ifCond .eq 22, 3) := by decide +kernel
theorem dX4_readRule_137 : decode cX4_readRule 137 = .ok (.aload_n 0, 1) := by decide +kernel
theorem dX4_readRule_138 : decode cX4_readRule 138 = .ok (.iconst 0, 1) := by decide +kernel
theorem dX4_readRule_139 : decode cX4_readRule 139 = .ok (.aload_n 1, 1) := by decide +kernel
theorem dX4_readRule_140 : decode cX4_readRule 140 = .ok (.invokevirtual 73, 3) := by decide +kernel
theorem dX4_readRule_143 : decode cX4_readRule 143 = .ok (.ifCond .ne 5, 3) := by decide +kernel
theorem dX4_readRule_146 : decode cX4_readRule 146 = .ok (.iconst 0, 1) := by decide +kernel
theorem dX4_readRule_147 : decode cX4_readRule 147 = .ok (.ireturn, 1) := by decide +kernel
theorem dX4_readRule_148 : decode cX4_readRule 148 = .ok (.aload_n 2, 1) := by decide +kernel
theorem dX4_readRule_149 : decode cX4_readRule 149 = .ok (.aload_n 0, 1) := by decide +kernel
theorem dX4_readRule_150 : decode cX4_readRule 150 = .ok (.getfield 19, 3) := by decide +kernel
theorem dX4_readRule_153 : decode cX4_readRule 153 = .ok (.putfield 139, 3) := by decide +kernel
theorem dX4_readRule_156 : decode cX4_readRule 156 = .ok (.iconst 1, 1) := by decide +kernel
theorem dX4_readRule_157 : decode cX4_readRule 157 = .ok (.ireturn, 1) := by decide +kernel
set_option maxRecDepth 100000 in
set_option maxHeartbeats 8000000 in
theorem c_X4_readRule (l : Launch) (D : va_G) (cA : Nat → ClassId) (q aK aV : Nat → Nat) (hq : injG 167 q) {a1 : Nat} {M M0 : Mem} {r0 : Int32} (h1 : shC a1 = 0) (h : f_X4_readRule a1 M = some (r0, M0)) : Met l yX4_readRule (.code yX4_readRule cX4_readRule 3 (some .boolean) :: BW) ({ frames := 5, cells := 0, slots := 0, locals := 101 } : Room) (va_Pc [.ref (q 16), .ref (q a1)] (CB 167 (ceC cA q) D cA q aK aV M)) (Qi 167 (ceC cA q) D q r0 M0) 0 0 (AqG 167 q) := by
  refine gMet RX4 (by decide +kernel) rfl hq (Nat.le_of_ble_eq_true rfl) ?_
  intro p e s m below meth c ls X hr hk hP hS hl
  have hx := X.1
  have hb := X.2.1
  have hl : lv_has ls 3 [(0, .ref (q 16)), (1, .ref (q a1))] := hl
  rw [f_X4_readRule] at h
  have hJ128 : ∀ (b2 : Nat) (hb2 : shC b2 = 6) (M : Mem) (H : Heap) (locs : List Loc) (ls : Array Slot), f_X4_readRule_J128 a1 b2 M = some (r0, M0) → va_P D vwCl (wsG 167 (ceC cA q) q M) H → va_S (AqG 167 q) s.heap H locs → lv_has ls 3 [(0, .ref (q 16)), (1, .ref (q a1)), (2, .ref (q b2))] → W p l e ({ frames := 5, cells := 0, slots := 0, locals := 101 } : Room) s m [.ref (q 16), .ref (q a1)].toArray below meth c H locs 0 0 (MQ below (Qi 167 (ceC cA q) D q r0 M0) [.ref (q 16), .ref (q a1)].toArray s 0 0 (AqG 167 q)) (F0 m 128 ls []) := by
    intro b2 hb2 M H locs ls h hP hS hl
    rw [f_X4_readRule_J128] at h
    refine lv_aload_n hx hb dX4_readRule_128 rfl (lv_at hl 0 rfl) ?_
    refine lv_bipush (v := 12) hx hb dX4_readRule_129 (by decide) ?_
    obtain ⟨r41, M42, hc43, h⟩ := bnd_inv h
    refine gV_i (As := [.int (12 : Int32)]) X hP hS hl.1 (c_X4_skip l D cA q aK aV hq hc43) sf_X4_skip bw_689 sv_X4_skip (rcC_4 sC_16) rfl ⟨rfl, rfl⟩ ⟨Nat.le_of_ble_eq_true rfl, Nat.le_of_ble_eq_true rfl⟩ rfl rfl (Nat.le_of_ble_eq_true rfl) dX4_readRule_131 (fun H locs hP hS => ?_)
    refine lv_if_eq (tgt := 156) hx hb dX4_readRule_134 (by decide) (fun c44 => ?_) (fun c44 => ?_)
    · rw [if_pos c44] at h
      refine lv_iconst (v := 1) hx hb dX4_readRule_156 (by decide) ?_
      exact end_z X hr hk hP hS (Or.inr rfl) h dX4_readRule_157
    · rw [if_neg c44] at h
      refine lv_aload_n hx hb dX4_readRule_137 rfl (lv_at hl 0 rfl) ?_
      refine lv_iconst (v := 0) hx hb dX4_readRule_138 (by decide) ?_
      refine lv_aload_n hx hb dX4_readRule_139 rfl (lv_at hl 1 rfl) ?_
      obtain ⟨r45, M46, hc47, h⟩ := bnd_inv h
      refine gV_i (As := [.int (0 : Int32), .ref (q a1)]) X hP hS hl.1 (c_X4_takeName l D cA q aK aV hq h1 hc47) sf_X4_takeName bw_698 sv_X4_takeName (rcC_4 sC_16) rfl ⟨rfl, rfl⟩ ⟨Nat.le_of_ble_eq_true rfl, Nat.le_of_ble_eq_true rfl⟩ rfl rfl (Nat.le_of_ble_eq_true rfl) dX4_readRule_140 (fun H locs hP hS => ?_)
      refine lv_if_ne (tgt := 148) hx hb dX4_readRule_143 (by decide) (fun c48 => ?_) (fun c48 => ?_)
      · rw [if_neg c48] at h
        refine lv_aload_n hx hb dX4_readRule_148 rfl (lv_at hl 2 rfl) ?_
        refine lv_aload_n hx hb dX4_readRule_149 rfl (lv_at hl 0 rfl) ?_
        refine gfC_4_3 X hP sC_16 bw_332 dX4_readRule_150 ?_
        obtain ⟨M49, eM49, h⟩ := lt_inv h
        refine pfC_6_2 X hP hS hb2 bw_73 eM49 dX4_readRule_153 (fun H locs hP hS => ?_)
        refine lv_iconst (v := 1) hx hb dX4_readRule_156 (by decide) ?_
        exact end_z X hr hk hP hS (Or.inr rfl) h dX4_readRule_157
      · rw [if_pos c48] at h
        refine lv_iconst (v := 0) hx hb dX4_readRule_146 (by decide) ?_
        exact end_z X hr hk hP hS (Or.inl rfl) h dX4_readRule_147
  have hJ84 : ∀ (b2 : Nat) (hb2 : shC b2 = 6) (M : Mem) (H : Heap) (locs : List Loc) (ls : Array Slot), f_X4_readRule_J84 a1 b2 M = some (r0, M0) → va_P D vwCl (wsG 167 (ceC cA q) q M) H → va_S (AqG 167 q) s.heap H locs → lv_has ls 3 [(0, .ref (q 16)), (1, .ref (q a1)), (2, .ref (q b2))] → W p l e ({ frames := 5, cells := 0, slots := 0, locals := 101 } : Room) s m [.ref (q 16), .ref (q a1)].toArray below meth c H locs 0 0 (MQ below (Qi 167 (ceC cA q) D q r0 M0) [.ref (q 16), .ref (q a1)].toArray s 0 0 (AqG 167 q)) (F0 m 84 ls []) := by
    intro b2 hb2 M H locs ls h hP hS hl
    rw [f_X4_readRule_J84] at h
    refine lv_aload_n hx hb dX4_readRule_84 rfl (lv_at hl 0 rfl) ?_
    refine lv_bipush (v := 11) hx hb dX4_readRule_85 (by decide) ?_
    obtain ⟨r30, M31, hc32, h⟩ := bnd_inv h
    refine gV_i (As := [.int (11 : Int32)]) X hP hS hl.1 (c_X4_skip l D cA q aK aV hq hc32) sf_X4_skip bw_689 sv_X4_skip (rcC_4 sC_16) rfl ⟨rfl, rfl⟩ ⟨Nat.le_of_ble_eq_true rfl, Nat.le_of_ble_eq_true rfl⟩ rfl rfl (Nat.le_of_ble_eq_true rfl) dX4_readRule_87 (fun H locs hP hS => ?_)
    refine lv_if_eq (tgt := 128) hx hb dX4_readRule_90 (by decide) (fun c33 => ?_) (fun c33 => ?_)
    · rw [if_pos c33] at h
      exact hJ128 _ hb2 _ _ _ _ h hP hS (lv_sub hl [0, 1, 2] rfl)
    · rw [if_neg c33] at h
      refine lv_aload_n hx hb dX4_readRule_93 rfl (lv_at hl 0 rfl) ?_
      refine lv_bipush (v := 9) hx hb dX4_readRule_94 (by decide) ?_
      obtain ⟨r34, M35, hc36, h⟩ := bnd_inv h
      refine gV_i (As := [.int (9 : Int32)]) X hP hS hl.1 (c_X4_takeCompare l D cA q aK aV hq hc36) sf_X4_takeCompare bw_715 sv_X4_takeCompare (rcC_4 sC_16) rfl ⟨rfl, rfl⟩ ⟨Nat.le_of_ble_eq_true rfl, Nat.le_of_ble_eq_true rfl⟩ rfl rfl (Nat.le_of_ble_eq_true rfl) dX4_readRule_96 (fun H locs hP hS => ?_)
      refine lv_if_ne (tgt := 104) hx hb dX4_readRule_99 (by decide) (fun c37 => ?_) (fun c37 => ?_)
      · rw [if_neg c37] at h
        refine lv_aload_n hx hb dX4_readRule_104 rfl (lv_at hl 2 rfl) ?_
        refine lv_aload_n hx hb dX4_readRule_105 rfl (lv_at hl 0 rfl) ?_
        refine gfC_4_3 X hP sC_16 bw_332 dX4_readRule_106 ?_
        obtain ⟨M38, eM38, h⟩ := lt_inv h
        refine pfC_6_6 X hP hS hb2 bw_82 eM38 dX4_readRule_109 (fun H locs hP hS => ?_)
        refine lv_aload_n hx hb dX4_readRule_112 rfl (lv_at hl 2 rfl) ?_
        refine lv_aload_n hx hb dX4_readRule_113 rfl (lv_at hl 0 rfl) ?_
        refine gfC_4_4 X hP sC_16 bw_333 dX4_readRule_114 ?_
        obtain ⟨M39, eM39, h⟩ := lt_inv h
        refine pfC_6_7 X hP hS hb2 bw_84 eM39 dX4_readRule_117 (fun H locs hP hS => ?_)
        refine lv_aload_n hx hb dX4_readRule_120 rfl (lv_at hl 2 rfl) ?_
        refine lv_aload_n hx hb dX4_readRule_121 rfl (lv_at hl 0 rfl) ?_
        refine gfC_4_5 X hP sC_16 bw_334 dX4_readRule_122 ?_
        obtain ⟨M40, eM40, h⟩ := lt_inv h
        refine pfC_6_8 X hP hS hb2 bw_86 eM40 dX4_readRule_125 (fun H locs hP hS => ?_)
        exact hJ128 _ hb2 _ _ _ _ h hP hS (lv_sub hl [0, 1, 2] rfl)
      · rw [if_pos c37] at h
        refine lv_iconst (v := 0) hx hb dX4_readRule_102 (by decide) ?_
        exact end_z X hr hk hP hS (Or.inl rfl) h dX4_readRule_103
  have hJ40 : ∀ (b2 : Nat) (hb2 : shC b2 = 6) (M : Mem) (H : Heap) (locs : List Loc) (ls : Array Slot), f_X4_readRule_J40 a1 b2 M = some (r0, M0) → va_P D vwCl (wsG 167 (ceC cA q) q M) H → va_S (AqG 167 q) s.heap H locs → lv_has ls 3 [(0, .ref (q 16)), (1, .ref (q a1)), (2, .ref (q b2))] → W p l e ({ frames := 5, cells := 0, slots := 0, locals := 101 } : Room) s m [.ref (q 16), .ref (q a1)].toArray below meth c H locs 0 0 (MQ below (Qi 167 (ceC cA q) D q r0 M0) [.ref (q 16), .ref (q a1)].toArray s 0 0 (AqG 167 q)) (F0 m 40 ls []) := by
    intro b2 hb2 M H locs ls h hP hS hl
    rw [f_X4_readRule_J40] at h
    refine lv_aload_n hx hb dX4_readRule_40 rfl (lv_at hl 0 rfl) ?_
    refine lv_bipush (v := 10) hx hb dX4_readRule_41 (by decide) ?_
    obtain ⟨r19, M20, hc21, h⟩ := bnd_inv h
    refine gV_i (As := [.int (10 : Int32)]) X hP hS hl.1 (c_X4_skip l D cA q aK aV hq hc21) sf_X4_skip bw_689 sv_X4_skip (rcC_4 sC_16) rfl ⟨rfl, rfl⟩ ⟨Nat.le_of_ble_eq_true rfl, Nat.le_of_ble_eq_true rfl⟩ rfl rfl (Nat.le_of_ble_eq_true rfl) dX4_readRule_43 (fun H locs hP hS => ?_)
    refine lv_if_eq (tgt := 84) hx hb dX4_readRule_46 (by decide) (fun c22 => ?_) (fun c22 => ?_)
    · rw [if_pos c22] at h
      exact hJ84 _ hb2 _ _ _ _ h hP hS (lv_sub hl [0, 1, 2] rfl)
    · rw [if_neg c22] at h
      refine lv_aload_n hx hb dX4_readRule_49 rfl (lv_at hl 0 rfl) ?_
      refine lv_bipush (v := 99) hx hb dX4_readRule_50 (by decide) ?_
      obtain ⟨r23, M24, hc25, h⟩ := bnd_inv h
      refine gV_i (As := [.int (99 : Int32)]) X hP hS hl.1 (c_X4_takeCompare l D cA q aK aV hq hc25) sf_X4_takeCompare bw_715 sv_X4_takeCompare (rcC_4 sC_16) rfl ⟨rfl, rfl⟩ ⟨Nat.le_of_ble_eq_true rfl, Nat.le_of_ble_eq_true rfl⟩ rfl rfl (Nat.le_of_ble_eq_true rfl) dX4_readRule_52 (fun H locs hP hS => ?_)
      refine lv_if_ne (tgt := 60) hx hb dX4_readRule_55 (by decide) (fun c26 => ?_) (fun c26 => ?_)
      · rw [if_neg c26] at h
        refine lv_aload_n hx hb dX4_readRule_60 rfl (lv_at hl 2 rfl) ?_
        refine lv_aload_n hx hb dX4_readRule_61 rfl (lv_at hl 0 rfl) ?_
        refine gfC_4_3 X hP sC_16 bw_332 dX4_readRule_62 ?_
        obtain ⟨M27, eM27, h⟩ := lt_inv h
        refine pfC_6_3 X hP hS hb2 bw_76 eM27 dX4_readRule_65 (fun H locs hP hS => ?_)
        refine lv_aload_n hx hb dX4_readRule_68 rfl (lv_at hl 2 rfl) ?_
        refine lv_aload_n hx hb dX4_readRule_69 rfl (lv_at hl 0 rfl) ?_
        refine gfC_4_4 X hP sC_16 bw_333 dX4_readRule_70 ?_
        obtain ⟨M28, eM28, h⟩ := lt_inv h
        refine pfC_6_4 X hP hS hb2 bw_78 eM28 dX4_readRule_73 (fun H locs hP hS => ?_)
        refine lv_aload_n hx hb dX4_readRule_76 rfl (lv_at hl 2 rfl) ?_
        refine lv_aload_n hx hb dX4_readRule_77 rfl (lv_at hl 0 rfl) ?_
        refine gfC_4_5 X hP sC_16 bw_334 dX4_readRule_78 ?_
        obtain ⟨M29, eM29, h⟩ := lt_inv h
        refine pfC_6_5 X hP hS hb2 bw_80 eM29 dX4_readRule_81 (fun H locs hP hS => ?_)
        exact hJ84 _ hb2 _ _ _ _ h hP hS (lv_sub hl [0, 1, 2] rfl)
      · rw [if_pos c26] at h
        refine lv_iconst (v := 0) hx hb dX4_readRule_58 (by decide) ?_
        exact end_z X hr hk hP hS (Or.inl rfl) h dX4_readRule_59
  refine lv_aload_n hx hb dX4_readRule_0 rfl (lv_at hl 1 rfl) ?_
  refine lv_aload_n hx hb dX4_readRule_1 rfl (lv_at hl 1 rfl) ?_
  refine lv_iconst (v := 2) hx hb dX4_readRule_2 (by decide) ?_
  obtain ⟨r1, M2, hc3, h⟩ := bnd_inv h
  refine gV_i (As := [.int (2 : Int32)]) X hP hS hl.1 (c_X0_addOne l D cA q aK aV hq h1 hc3) sf_X0_addOne bw_672 sv_X0_addOne (rcC_0 h1) rfl ⟨rfl, rfl⟩ ⟨Nat.le_of_ble_eq_true rfl, Nat.le_of_ble_eq_true rfl⟩ rfl rfl (Nat.le_of_ble_eq_true rfl) dX4_readRule_3 (fun H locs hP hS => ?_)
  obtain ⟨r4, M5, hc6, h⟩ := bnd_inv h
  refine gV_r (As := [.int r1]) X hP hS hl.1 (c_X0_ruleAt l D cA q aK aV hq h1 hc6) sf_X0_ruleAt bw_707 sv_X0_ruleAt (rcC_0 h1) rfl ⟨rfl, rfl⟩ ⟨Nat.le_of_ble_eq_true rfl, Nat.le_of_ble_eq_true rfl⟩ rfl rfl (Nat.le_of_ble_eq_true rfl) dX4_readRule_6 (fun H locs hP hS => ?_)
  obtain ⟨g7, h⟩ := gd_inv h
  have g7 := Decidable.not_not.mp g7
  refine lv_astore_n (lv' := [(2, .ref (q r4)), (0, .ref (q 16)), (1, .ref (q a1))]) hx hb dX4_readRule_9 rfl hl (by decide) rfl (fun ls hl => ?_)
  refine lv_aload_n hx hb dX4_readRule_10 rfl (lv_at hl 0 rfl) ?_
  refine lv_aload_n hx hb dX4_readRule_11 rfl (lv_at hl 1 rfl) ?_
  refine gfC_4_3 X hP sC_16 bw_332 dX4_readRule_12 ?_
  obtain ⟨_, M9, hc10, h⟩ := bnd_inv h
  refine gV_v (As := [.int (gI M5 16 3)]) X hP hS hl.1 (c_X6_renew l D cA q aK aV hq g7 hc10) sf_X6_renew bw_711 sv_X6_renew (rcC_6 g7) rfl ⟨rfl, rfl⟩ ⟨Nat.le_of_ble_eq_true rfl, Nat.le_of_ble_eq_true rfl⟩ rfl rfl (Nat.le_of_ble_eq_true rfl) dX4_readRule_15 (fun H locs hP hS => ?_)
  refine lv_aload_n hx hb dX4_readRule_18 rfl (lv_at hl 0 rfl) ?_
  refine lv_aload_n hx hb dX4_readRule_19 rfl (lv_at hl 1 rfl) ?_
  obtain ⟨r11, M12, hc13, h⟩ := bnd_inv h
  refine gV_i (As := []) X hP hS hl.1 (c_X4_guiltHere l D cA q aK aV hq hc13) sf_X4_guiltHere bw_693 sv_X4_guiltHere (rcC_4 sC_16) rfl ⟨rfl, rfl⟩ ⟨Nat.le_of_ble_eq_true rfl, Nat.le_of_ble_eq_true rfl⟩ rfl rfl (Nat.le_of_ble_eq_true rfl) dX4_readRule_20 (fun H locs hP hS => ?_)
  obtain ⟨M14, eM14, h⟩ := lt_inv h
  refine pfC_6_1 X hP hS g7 bw_69 eM14 dX4_readRule_23 (fun H locs hP hS => ?_)
  refine lv_aload_n hx hb dX4_readRule_26 rfl (lv_at hl 0 rfl) ?_
  refine gfC_6_1 X hP g7 bw_69 dX4_readRule_27 ?_
  refine lv_if_eq (tgt := 40) hx hb dX4_readRule_30 (by decide) (fun c15 => ?_) (fun c15 => ?_)
  · rw [if_pos c15] at h
    exact hJ40 _ g7 _ _ _ _ h hP hS (lv_sub hl [1, 2, 0] rfl)
  · rw [if_neg c15] at h
    refine lv_aload_n hx hb dX4_readRule_33 rfl (lv_at hl 1 rfl) ?_
    refine gfC_4_0 X hP sC_16 bw_329 dX4_readRule_34 ?_
    obtain ⟨_, M17, hc18, h⟩ := bnd_inv h
    refine gV_v (As := []) X hP hS hl.1 (c_X7_goOn l D cA q aK aV hq hc18) sf_X7_goOn bw_654 sv_X7_goOn (rcC_7 sC_13) rfl ⟨rfl, rfl⟩ ⟨Nat.le_of_ble_eq_true rfl, Nat.le_of_ble_eq_true rfl⟩ rfl rfl (Nat.le_of_ble_eq_true rfl) dX4_readRule_37 (fun H locs hP hS => ?_)
    exact hJ40 _ g7 _ _ _ _ h hP hS (lv_sub hl [1, 2, 0] rfl)
theorem dX0_personAt_0 : decode cX0_personAt 0 = .ok (.iload_n 1, 1) := by decide +kernel
theorem dX0_personAt_1 : decode cX0_personAt 1 = .ok (.ifCond .lt 21, 3) := by decide +kernel
theorem dX0_personAt_4 : decode cX0_personAt 4 = .ok (.iload_n 1, 1) := by decide +kernel
theorem dX0_personAt_5 : decode cX0_personAt 5 = .ok (.aload_n 0, 1) := by decide +kernel
theorem dX0_personAt_6 : decode cX0_personAt 6 = .ok (.getfield 30, 3) := by decide +kernel
theorem dX0_personAt_9 : decode cX0_personAt 9 = .ok (.arraylength, 1) := by decide +kernel
theorem dX0_personAt_10 : decode cX0_personAt 10 = .ok (.if_icmp .ge 12, 3) := by decide +kernel
theorem dX0_personAt_13 : decode cX0_personAt 13 = .ok (.aload_n 0, 1) := by decide +kernel
theorem dX0_personAt_14 : decode cX0_personAt 14 = .ok (.getfield 30, 3) := by decide +kernel
theorem dX0_personAt_17 : decode cX0_personAt 17 = .ok (.iload_n 1, 1) := by decide +kernel
theorem dX0_personAt_18 : decode cX0_personAt 18 = .ok (.aaload, 1) := by decide +kernel
theorem dX0_personAt_19 : decode cX0_personAt 19 = .ok (.goto 7, 3) := by decide +kernel
theorem dX0_personAt_22 : decode cX0_personAt 22 = .ok (.aload_n 0, 1) := by decide +kernel
theorem dX0_personAt_23 : decode cX0_personAt 23 = .ok (.getfield 59, 3) := by decide +kernel
theorem dX0_personAt_26 : decode cX0_personAt 26 = .ok (.astore_n 2, 1) := by decide +kernel
theorem dX0_personAt_27 : decode cX0_personAt 27 = .ok (.aload_n 2, 1) := by decide +kernel
theorem dX0_personAt_28 : decode cX0_personAt 28 = .ok (.ifnull 7, 3) := by decide +kernel
theorem dX0_personAt_31 : decode cX0_personAt 31 = .ok (.aload_n 2, 1) := by decide +kernel
theorem dX0_personAt_32 : decode cX0_personAt 32 = .ok (.goto 7, 3) := by decide +kernel
theorem dX0_personAt_35 : decode cX0_personAt 35 = .ok (.aload_n 0, 1) := by decide +kernel
theorem dX0_personAt_36 : decode cX0_personAt 36 = .ok (.getfield 59, 3) := by decide +kernel
theorem dX0_personAt_39 : decode cX0_personAt 39 = .ok (.areturn, 1) := by decide +kernel
set_option maxRecDepth 100000 in
set_option maxHeartbeats 8000000 in
theorem c_X0_personAt (l : Launch) (D : va_G) (cA : Nat → ClassId) (q aK aV : Nat → Nat) (hq : injG 167 q) {a0 : Nat} {a1 : Int32} {M M0 : Mem} {r0 : Nat} (h0 : shC a0 = 0) (h : f_X0_personAt a0 a1 M = some (r0, M0)) : Met l yX0_personAt (.code yX0_personAt cX0_personAt 3 (some (.object "CatWitness$Person")) :: BW) ({ frames := 1, cells := 0, slots := 0, locals := 14 } : Room) (va_Pc [.ref (q a0), .int a1] (CB 167 (ceC cA q) D cA q aK aV M)) (Qr 167 (ceC cA q) D q r0 M0) 0 0 (AqG 167 q) := by
  refine gMet RX0 (by decide +kernel) rfl hq (Nat.le_of_ble_eq_true rfl) ?_
  intro p e s m below meth c ls X hr hk hP hS hl
  have hx := X.1
  have hb := X.2.1
  have hl : lv_has ls 3 [(0, .ref (q a0)), (1, .int a1)] := hl
  rw [f_X0_personAt] at h
  have hJ26 : ∀ (s0 : Nat) (hs0 : shC s0 = 5) (M : Mem) (H : Heap) (locs : List Loc) (ls : Array Slot), f_X0_personAt_J26 a0 s0 M = some (r0, M0) → va_P D vwCl (wsG 167 (ceC cA q) q M) H → va_S (AqG 167 q) s.heap H locs → lv_has ls 3 [(0, .ref (q a0))] → W p l e ({ frames := 1, cells := 0, slots := 0, locals := 14 } : Room) s m [.ref (q a0), .int a1].toArray below meth c H locs 0 0 (MQ below (Qr 167 (ceC cA q) D q r0 M0) [.ref (q a0), .int a1].toArray s 0 0 (AqG 167 q)) (F0 m 26 ls [.ref (q s0)]) := by
    intro s0 hs0 M H locs ls h hP hS hl
    rw [f_X0_personAt_J26] at h
    refine lv_astore_n (lv' := [(2, .ref (q s0)), (0, .ref (q a0))]) hx hb dX0_personAt_26 rfl hl (by decide) rfl (fun ls hl => ?_)
    refine lv_aload_n hx hb dX0_personAt_27 rfl (lv_at hl 0 rfl) ?_
    refine lv_ifnull hx hb dX0_personAt_28 ?_
    refine lv_aload_n hx hb dX0_personAt_31 rfl (lv_at hl 0 rfl) ?_
    refine lv_goto (tgt := 39) hx hb dX0_personAt_32 (by decide) ?_
    exact end_r X hr (Or.inl ⟨_, rfl⟩) hk hP hS h dX0_personAt_39
  have hJ22 : ∀ (M : Mem) (H : Heap) (locs : List Loc) (ls : Array Slot), f_X0_personAt_J22 a0 M = some (r0, M0) → va_P D vwCl (wsG 167 (ceC cA q) q M) H → va_S (AqG 167 q) s.heap H locs → lv_has ls 3 [(0, .ref (q a0))] → W p l e ({ frames := 1, cells := 0, slots := 0, locals := 14 } : Room) s m [.ref (q a0), .int a1].toArray below meth c H locs 0 0 (MQ below (Qr 167 (ceC cA q) D q r0 M0) [.ref (q a0), .int a1].toArray s 0 0 (AqG 167 q)) (F0 m 22 ls []) := by
    intro M H locs ls h hP hS hl
    rw [f_X0_personAt_J22] at h
    refine lv_aload_n hx hb dX0_personAt_22 rfl (lv_at hl 0 rfl) ?_
    refine gfC_0_11 X hP h0 bw_166 dX0_personAt_23 ?_
    exact hJ26 _ (kC_0_11 h0) _ _ _ _ h hP hS (lv_sub hl [0] rfl)
  refine lv_iload_n hx hb dX0_personAt_0 rfl (lv_at hl 1 rfl) ?_
  refine lv_if_lt (tgt := 22) hx hb dX0_personAt_1 (by decide) (fun c1 => ?_) (fun c1 => ?_)
  · rw [if_pos c1] at h
    exact hJ22  _ _ _ _ h hP hS (lv_sub hl [0] rfl)
  · rw [if_neg c1] at h
    refine lv_iload_n hx hb dX0_personAt_4 rfl (lv_at hl 1 rfl) ?_
    refine lv_aload_n hx hb dX0_personAt_5 rfl (lv_at hl 0 rfl) ?_
    refine gfC_0_4 X hP h0 bw_149 dX0_personAt_6 ?_
    refine alC_25 X hP ((kC_0_4 h0).1) ((kC_0_4 h0).2) (v := 6) rfl dX0_personAt_9 ?_
    refine lv_icmp_ge (tgt := 22) hx hb dX0_personAt_10 (by decide) (fun c2 => ?_) (fun c2 => ?_)
    · rw [if_pos c2] at h
      exact hJ22  _ _ _ _ h hP hS (lv_sub hl [0] rfl)
    · rw [if_neg c2] at h
      refine lv_aload_n hx hb dX0_personAt_13 rfl (lv_at hl 0 rfl) ?_
      refine gfC_0_4 X hP h0 bw_149 dX0_personAt_14 ?_
      refine lv_iload_n hx hb dX0_personAt_17 rfl (lv_at hl 1 rfl) ?_
      obtain ⟨g3, h⟩ := gd_inv h
      refine ldC_r25 X hP ((kC_0_4 h0).1) ((kC_0_4 h0).2) g3 dX0_personAt_18 ?_
      refine lv_goto (tgt := 26) hx hb dX0_personAt_19 (by decide) ?_
      exact hJ26 _ (kC_25 ((kC_0_4 h0).1) g3) _ _ _ _ h hP hS (lv_sub hl [0] rfl)
theorem dX5_renew_0 : decode cX5_renew 0 = .ok (.aload_n 0, 1) := by decide +kernel
theorem dX5_renew_1 : decode cX5_renew 1 = .ok (.iconst 2, 1) := by decide +kernel
theorem dX5_renew_2 : decode cX5_renew 2 = .ok (.putfield 9, 3) := by decide +kernel
theorem dX5_renew_5 : decode cX5_renew 5 = .ok (.aload_n 0, 1) := by decide +kernel
theorem dX5_renew_6 : decode cX5_renew 6 = .ok (.iconst 0, 1) := by decide +kernel
theorem dX5_renew_7 : decode cX5_renew 7 = .ok (.putfield 15, 3) := by decide +kernel
theorem dX5_renew_10 : decode cX5_renew 10 = .ok (.aload_n 0, 1) := by decide +kernel
theorem dX5_renew_11 : decode cX5_renew 11 = .ok (.iconst 0, 1) := by decide +kernel
theorem dX5_renew_12 : decode cX5_renew 12 = .ok (.putfield 18, 3) := by decide +kernel
theorem dX5_renew_15 : decode cX5_renew 15 = .ok (.aload_n 0, 1) := by decide +kernel
theorem dX5_renew_16 : decode cX5_renew 16 = .ok (.iconst 0, 1) := by decide +kernel
theorem dX5_renew_17 : decode cX5_renew 17 = .ok (.putfield 21, 3) := by decide +kernel
theorem dX5_renew_20 : decode cX5_renew 20 = .ok (.aload_n 0, 1) := by decide +kernel
theorem dX5_renew_21 : decode cX5_renew 21 = .ok (.iconst 0, 1) := by decide +kernel
theorem dX5_renew_22 : decode cX5_renew 22 = .ok (.putfield 24, 3) := by decide +kernel
theorem dX5_renew_25 : decode cX5_renew 25 = .ok (.return_, 1) := by decide +kernel
set_option maxRecDepth 100000 in
set_option maxHeartbeats 8000000 in
theorem c_X5_renew (l : Launch) (D : va_G) (cA : Nat → ClassId) (q aK aV : Nat → Nat) (hq : injG 167 q) {a0 : Nat} {M M0 : Mem} (h0 : shC a0 = 5) (h : f_X5_renew a0 M = some ((), M0)) : Met l yX5_renew (.code yX5_renew cX5_renew 1 none :: BW) ({ frames := 1, cells := 0, slots := 0, locals := 12 } : Room) (va_Pc [.ref (q a0)] (CB 167 (ceC cA q) D cA q aK aV M)) (Qv 167 (ceC cA q) D q M0) 0 0 (AqG 167 q) := by
  refine gMet RX5 (by decide +kernel) rfl hq (Nat.le_of_ble_eq_true rfl) ?_
  intro p e s m below meth c ls X hr hk hP hS hl
  have hx := X.1
  have hb := X.2.1
  have hl : lv_has ls 1 [(0, .ref (q a0))] := hl
  rw [f_X5_renew] at h
  refine lv_aload_n hx hb dX5_renew_0 rfl (lv_at hl 0 rfl) ?_
  refine lv_iconst (v := 2) hx hb dX5_renew_1 (by decide) ?_
  obtain ⟨M1, eM1, h⟩ := lt_inv h
  refine pfC_5_0 X hP hS h0 bw_111 eM1 dX5_renew_2 (fun H locs hP hS => ?_)
  refine lv_aload_n hx hb dX5_renew_5 rfl (lv_at hl 0 rfl) ?_
  refine lv_iconst (v := 0) hx hb dX5_renew_6 (by decide) ?_
  obtain ⟨M2, eM2, h⟩ := lt_inv h
  refine pfC_5_1 X hP hS h0 bw_115 eM2 dX5_renew_7 (fun H locs hP hS => ?_)
  refine lv_aload_n hx hb dX5_renew_10 rfl (lv_at hl 0 rfl) ?_
  refine lv_iconst (v := 0) hx hb dX5_renew_11 (by decide) ?_
  obtain ⟨M3, eM3, h⟩ := lt_inv h
  refine pfC_5_2 X hP hS h0 bw_120 eM3 dX5_renew_12 (fun H locs hP hS => ?_)
  refine lv_aload_n hx hb dX5_renew_15 rfl (lv_at hl 0 rfl) ?_
  refine lv_iconst (v := 0) hx hb dX5_renew_16 (by decide) ?_
  obtain ⟨M4, eM4, h⟩ := lt_inv h
  refine pfC_5_3 X hP hS h0 bw_125 eM4 dX5_renew_17 (fun H locs hP hS => ?_)
  refine lv_aload_n hx hb dX5_renew_20 rfl (lv_at hl 0 rfl) ?_
  refine lv_iconst (v := 0) hx hb dX5_renew_21 (by decide) ?_
  obtain ⟨M5, eM5, h⟩ := lt_inv h
  refine pfC_5_4 X hP hS h0 bw_129 eM5 dX5_renew_22 (fun H locs hP hS => ?_)
  exact end_v X hr hk hP hS h dX5_renew_25
theorem dX11_isIn_0 : decode cX11_isIn 0 = .ok (.iload_n 0, 1) := by decide +kernel
theorem dX11_isIn_1 : decode cX11_isIn 1 = .ok (.iload_n 1, 1) := by decide +kernel
theorem dX11_isIn_2 : decode cX11_isIn 2 = .ok (.ishr, 1) := by decide +kernel
theorem dX11_isIn_3 : decode cX11_isIn 3 = .ok (.iconst 1, 1) := by decide +kernel
theorem dX11_isIn_4 : decode cX11_isIn 4 = .ok (.iand, 1) := by decide +kernel
theorem dX11_isIn_5 : decode cX11_isIn 5 = .ok (.ifCond .eq 7, 3) := by decide +kernel
theorem dX11_isIn_8 : decode cX11_isIn 8 = .ok (.iconst 1, 1) := by decide +kernel
theorem dX11_isIn_9 : decode cX11_isIn 9 = .ok (.goto 4, 3) := by decide +kernel
theorem dX11_isIn_12 : decode cX11_isIn 12 = .ok (.iconst 0, 1) := by decide +kernel
theorem dX11_isIn_13 : decode cX11_isIn 13 = .ok (.ireturn, 1) := by decide +kernel
set_option maxRecDepth 100000 in
set_option maxHeartbeats 8000000 in
theorem c_X11_isIn (l : Launch) (D : va_G) (cA : Nat → ClassId) (q aK aV : Nat → Nat) (hq : injG 167 q) {a0 : Int32} {a1 : Int32} {M M0 : Mem} {r0 : Int32} (h : f_X11_isIn a0 a1 M = some (r0, M0)) : Met l yX11_isIn (.code yX11_isIn cX11_isIn 2 (some .boolean) :: BW) ({ frames := 1, cells := 0, slots := 0, locals := 13 } : Room) (va_Pc [.int a0, .int a1] (CB 167 (ceC cA q) D cA q aK aV M)) (Qi 167 (ceC cA q) D q r0 M0) 0 0 (AqG 167 q) := by
  refine gMet RX11 (by decide +kernel) rfl hq (Nat.le_of_ble_eq_true rfl) ?_
  intro p e s m below meth c ls X hr hk hP hS hl
  have hx := X.1
  have hb := X.2.1
  have hl : lv_has ls 2 [(0, .int a0), (1, .int a1)] := hl
  rw [f_X11_isIn] at h
  refine lv_iload_n hx hb dX11_isIn_0 rfl (lv_at hl 0 rfl) ?_
  refine lv_iload_n hx hb dX11_isIn_1 rfl (lv_at hl 1 rfl) ?_
  refine lv_ishr hx hb dX11_isIn_2 ?_
  refine lv_iconst (v := 1) hx hb dX11_isIn_3 (by decide) ?_
  refine lv_iand hx hb dX11_isIn_4 ?_
  refine lv_if_eq (tgt := 12) hx hb dX11_isIn_5 (by decide) (fun c1 => ?_) (fun c1 => ?_)
  · rw [if_pos c1] at h
    refine lv_iconst (v := 0) hx hb dX11_isIn_12 (by decide) ?_
    exact end_z X hr hk hP hS (Or.inl rfl) h dX11_isIn_13
  · rw [if_neg c1] at h
    refine lv_iconst (v := 1) hx hb dX11_isIn_8 (by decide) ?_
    refine lv_goto (tgt := 13) hx hb dX11_isIn_9 (by decide) ?_
    exact end_z X hr hk hP hS (Or.inr rfl) h dX11_isIn_13
theorem dX4_readSmells_0 : decode cX4_readSmells 0 = .ok (.iconst 0, 1) := by decide +kernel
theorem dX4_readSmells_1 : decode cX4_readSmells 1 = .ok (.istore_n 3, 1) := by decide +kernel
theorem dX4_readSmells_2 : decode cX4_readSmells 2 = .ok (.iload_n 3, 1) := by decide +kernel
theorem dX4_readSmells_3 : decode cX4_readSmells 3 = .ok (.iconst 5, 1) := by decide +kernel
theorem dX4_readSmells_4 : decode cX4_readSmells 4 = .ok (.if_icmp .gt 91, 3) := by decide +kernel
theorem dX4_readSmells_7 : decode cX4_readSmells 7 = .ok (.aload_n 0, 1) := by decide +kernel
theorem dX4_readSmells_8 : decode cX4_readSmells 8 = .ok (.getfield 28, 3) := by decide +kernel
theorem dX4_readSmells_11 : decode cX4_readSmells 11 = .ok (.getfield 43, 3) := by decide +kernel
theorem dX4_readSmells_14 : decode cX4_readSmells 14 = .ok (.bipush 29, 2) := by decide +kernel
theorem dX4_readSmells_16 : decode cX4_readSmells 16 = .ok (.if_icmp .ne 79, 3) := by decide +kernel
theorem dX4_readSmells_19 : decode cX4_readSmells 19 = .ok (.aload_n 2, 1) := by decide +kernel
theorem dX4_readSmells_20 : decode cX4_readSmells 20 = .ok (.iconst 0, 1) := by decide +kernel
theorem dX4_readSmells_21 : decode cX4_readSmells 21 = .ok (.aload_n 0, 1) := by decide +kernel
theorem dX4_readSmells_22 : decode cX4_readSmells 22 = .ok (.getfield 28, 3) := by decide +kernel
theorem dX4_readSmells_25 : decode cX4_readSmells 25 = .ok (.getfield 162, 3) := by decide +kernel
theorem dX4_readSmells_28 : decode cX4_readSmells 28 = .ok (.invokevirtual 166, 3) := by decide +kernel
theorem dX4_readSmells_31 : decode cX4_readSmells 31 = .ok (.istore 4, 2) := by decide +kernel
theorem dX4_readSmells_33 : decode cX4_readSmells 33 = .ok (.iload 4, 2) := by decide +kernel
theorem dX4_readSmells_35 : decode cX4_readSmells 35 = .ok (.iconst (-1), 1) := by decide +kernel
theorem dX4_readSmells_36 : decode cX4_readSmells 36 = .ok (.if_icmp .ne 12, 3) := by decide +kernel
theorem dX4_readSmells_39 : decode cX4_readSmells 39 = .ok (.aload_n 0, 1) := by decide +kernel
theorem dX4_readSmells_40 : decode cX4_readSmells 40 = .ok (.getfield 28, 3) := by decide +kernel
theorem dX4_readSmells_43 : decode cX4_readSmells 43 = .ok (.iconst 3, 1) := by decide +kernel
theorem dX4_readSmells_44 : decode cX4_readSmells 44 = .ok (.invokevirtual 57, 3) := by decide +kernel
theorem dX4_readSmells_47 : decode cX4_readSmells 47 = .ok (.ireturn, 1) := by decide +kernel
theorem dX4_readSmells_48 : decode cX4_readSmells 48 = .ok (.aload_n 1, 1) := by decide +kernel
theorem dX4_readSmells_49 : decode cX4_readSmells 49 = .ok (.getfield 170, 3) := by decide +kernel
theorem dX4_readSmells_52 : decode cX4_readSmells 52 = .ok (.iload 4, 2) := by decide +kernel
theorem dX4_readSmells_54 : decode cX4_readSmells 54 = .ok (.invokestatic 173, 3) := by decide +kernel
theorem dX4_readSmells_57 : decode cX4_readSmells 57 = .ok (.ifCond .eq 12, 3) := by decide +kernel
theorem dX4_readSmells_60 : decode cX4_readSmells 60 = .ok (.aload_n 0, 1) := by decide +kernel
theorem dX4_readSmells_61 : decode cX4_readSmells 61 = .ok (.getfield 28, 3) := by decide +kernel
theorem dX4_readSmells_64 : decode cX4_readSmells 64 = .ok (.iconst 5, 1) := by decide +kernel
theorem dX4_readSmells_65 : decode cX4_readSmells 65 = .ok (.invokevirtual 57, 3) := by decide +kernel
theorem dX4_readSmells_68 : decode cX4_readSmells 68 = .ok (.ireturn, 1) := by decide +kernel
theorem dX4_readSmells_69 : decode cX4_readSmells 69 = .ok (.aload_n 1, 1) := by decide +kernel
theorem dX4_readSmells_70 : decode cX4_readSmells 70 = .ok (.dup, 1) := by decide +kernel
theorem dX4_readSmells_71 : decode cX4_readSmells 71 = .ok (.getfield 170, 3) := by decide +kernel
theorem dX4_readSmells_74 : decode cX4_readSmells 74 = .ok (.iconst 1, 1) := by decide +kernel
theorem dX4_readSmells_75 : decode cX4_readSmells 75 = .ok (.iload 4, 2) := by decide +kernel
theorem dX4_readSmells_77 : decode cX4_readSmells 77 = .ok (.ishl, 1) := by decide +kernel
theorem dX4_readSmells_78 : decode cX4_readSmells 78 = .ok (.ior, 1) := by decide +kernel
theorem dX4_readSmells_79 : decode cX4_readSmells 79 = .ok (.putfield 170, 3) := by decide +kernel
theorem dX4_readSmells_82 : decode cX4_readSmells 82 = .ok (.aload_n 0, 1) := by decide +kernel
theorem dX4_readSmells_83 : decode cX4_readSmells 83 = .ok (.getfield 28, 3) := by decide +kernel
theorem dX4_readSmells_86 : decode cX4_readSmells 86 = .ok (.invokevirtual 63, 3) := by decide +kernel
theorem dX4_readSmells_89 : decode cX4_readSmells 89 = .ok (.iinc 3 1, 3) := by decide +kernel
theorem dX4_readSmells_92 : decode cX4_readSmells 92 = .ok (.goto (-90), 3) := by decide +kernel
theorem dX4_readSmells_95 : decode cX4_readSmells 95 = .ok (.iconst 1, 1) := by decide +kernel
theorem dX4_readSmells_96 : decode cX4_readSmells 96 = .ok (.ireturn, 1) := by decide +kernel
set_option maxRecDepth 100000 in
set_option maxHeartbeats 8000000 in
theorem c_X4_readSmells (l : Launch) (D : va_G) (cA : Nat → ClassId) (q aK aV : Nat → Nat) (hq : injG 167 q) {a1 : Nat} {a2 : Nat} {M M0 : Mem} {r0 : Int32} (h1 : shC a1 = 5) (h2 : shC a2 = 0) (h : f_X4_readSmells a1 a2 M = some (r0, M0)) : Met l yX4_readSmells (.code yX4_readSmells cX4_readSmells 5 (some .boolean) :: BW) ({ frames := 3, cells := 0, slots := 0, locals := 59 } : Room) (va_Pc [.ref (q 16), .ref (q a1), .ref (q a2)] (CB 167 (ceC cA q) D cA q aK aV M)) (Qi 167 (ceC cA q) D q r0 M0) 0 0 (AqG 167 q) := by
  refine gMet RX4 (by decide +kernel) rfl hq (Nat.le_of_ble_eq_true rfl) ?_
  intro p e s m below meth c ls X hr hk hP hS hl
  have hx := X.1
  have hb := X.2.1
  have hl : lv_has ls 5 [(0, .ref (q 16)), (1, .ref (q a1)), (2, .ref (q a2))] := hl
  rw [f_X4_readSmells] at h
  have hL2 : ∀ (fu : Nat) (b3 : Int32) (M : Mem) (res : (Nat) × Mem) (H : Heap) (locs : List Loc) (ls : Array Slot), f_X4_readSmells_L2 a1 a2 fu b3 M = some res → va_P D vwCl (wsG 167 (ceC cA q) q M) H → va_S (AqG 167 q) s.heap H locs → lv_has ls 5 [(0, .ref (q 16)), (1, .ref (q a1)), (2, .ref (q a2)), (3, .int b3)] → (res.1 = 0 → ∀ (H : Heap) (locs : List Loc) (ls : Array Slot), va_P D vwCl (wsG 167 (ceC cA q) q res.2) H → va_S (AqG 167 q) s.heap H locs → lv_has ls 5 [(0, .ref (q 16))] → W p l e ({ frames := 3, cells := 0, slots := 0, locals := 59 } : Room) s m [.ref (q 16), .ref (q a1), .ref (q a2)].toArray below meth c H locs 0 0 (MQ below (Qi 167 (ceC cA q) D q r0 M0) [.ref (q 16), .ref (q a1), .ref (q a2)].toArray s 0 0 (AqG 167 q)) (F0 m 39 ls [])) → (res.1 = 1 → ∀ (H : Heap) (locs : List Loc) (ls : Array Slot), va_P D vwCl (wsG 167 (ceC cA q) q res.2) H → va_S (AqG 167 q) s.heap H locs → lv_has ls 5 [(0, .ref (q 16))] → W p l e ({ frames := 3, cells := 0, slots := 0, locals := 59 } : Room) s m [.ref (q 16), .ref (q a1), .ref (q a2)].toArray below meth c H locs 0 0 (MQ below (Qi 167 (ceC cA q) D q r0 M0) [.ref (q 16), .ref (q a1), .ref (q a2)].toArray s 0 0 (AqG 167 q)) (F0 m 60 ls [])) → (res.1 = 2 → ∀ (H : Heap) (locs : List Loc) (ls : Array Slot), va_P D vwCl (wsG 167 (ceC cA q) q res.2) H → va_S (AqG 167 q) s.heap H locs → lv_has ls 5 [] → W p l e ({ frames := 3, cells := 0, slots := 0, locals := 59 } : Room) s m [.ref (q 16), .ref (q a1), .ref (q a2)].toArray below meth c H locs 0 0 (MQ below (Qi 167 (ceC cA q) D q r0 M0) [.ref (q 16), .ref (q a1), .ref (q a2)].toArray s 0 0 (AqG 167 q)) (F0 m 95 ls [])) → W p l e ({ frames := 3, cells := 0, slots := 0, locals := 59 } : Room) s m [.ref (q 16), .ref (q a1), .ref (q a2)].toArray below meth c H locs 0 0 (MQ below (Qi 167 (ceC cA q) D q r0 M0) [.ref (q 16), .ref (q a1), .ref (q a2)].toArray s 0 0 (AqG 167 q)) (F0 m 2 ls []) := by
    intro fu
    induction fu with
    | zero => intro b3 M res H locs ls h; exact absurd h (by simp [f_X4_readSmells_L2])
    | succ fu ih =>
      intro b3 M res H locs ls h hP hS hl K2_0 K2_1 K2_2
      rw [f_X4_readSmells_L2] at h
      refine lv_iload_n hx hb dX4_readSmells_2 rfl (lv_at hl 3 rfl) ?_
      refine lv_iconst (v := 5) hx hb dX4_readSmells_3 (by decide) ?_
      refine lv_icmp_gt (tgt := 95) hx hb dX4_readSmells_4 (by decide) (fun c13 => ?_) (fun c13 => ?_)
      · rw [if_pos c13] at h
        cases h
        exact K2_2 rfl _ _ _ hP hS (lv_sub hl [] rfl)
      · rw [if_neg c13] at h
        refine lv_aload_n hx hb dX4_readSmells_7 rfl (lv_at hl 0 rfl) ?_
        refine gfC_4_0 X hP sC_16 bw_329 dX4_readSmells_8 ?_
        refine gfC_7_6 X hP sC_13 bw_290 dX4_readSmells_11 ?_
        refine lv_bipush (v := 29) hx hb dX4_readSmells_14 (by decide) ?_
        refine lv_icmp_ne (tgt := 95) hx hb dX4_readSmells_16 (by decide) (fun c14 => ?_) (fun c14 => ?_)
        · rw [if_neg c14] at h
          cases h
          exact K2_2 rfl _ _ _ hP hS (lv_sub hl [] rfl)
        · rw [if_pos c14] at h
          refine lv_aload_n hx hb dX4_readSmells_19 rfl (lv_at hl 2 rfl) ?_
          refine lv_iconst (v := 0) hx hb dX4_readSmells_20 (by decide) ?_
          refine lv_aload_n hx hb dX4_readSmells_21 rfl (lv_at hl 0 rfl) ?_
          refine gfC_4_0 X hP sC_16 bw_329 dX4_readSmells_22 ?_
          refine gfC_7_7 X hP sC_13 bw_292 dX4_readSmells_25 ?_
          obtain ⟨r15, M16, hc17, h⟩ := bnd_inv h
          refine gV_i (As := [.int (0 : Int32), .long (gL M 13 7)]) X hP hS hl.1 (c_X0_numberOf l D cA q aK aV hq h2 hc17) sf_X0_numberOf bw_702 sv_X0_numberOf (rcC_0 h2) rfl ⟨rfl, rfl⟩ ⟨Nat.le_of_ble_eq_true rfl, Nat.le_of_ble_eq_true rfl⟩ rfl rfl (Nat.le_of_ble_eq_true rfl) dX4_readSmells_28 (fun H locs hP hS => ?_)
          refine lv_istore (lv' := [(4, .int r15), (0, .ref (q 16)), (1, .ref (q a1)), (2, .ref (q a2)), (3, .int b3)]) hx hb dX4_readSmells_31 hl (by decide) rfl (fun ls hl => ?_)
          refine lv_iload hx hb dX4_readSmells_33 (lv_at hl 0 rfl) ?_
          refine lv_iconst (v := -1) hx hb dX4_readSmells_35 (by decide) ?_
          refine lv_icmp_ne (tgt := 48) hx hb dX4_readSmells_36 (by decide) (fun c18 => ?_) (fun c18 => ?_)
          · rw [if_neg c18] at h
            refine lv_aload_n hx hb dX4_readSmells_48 rfl (lv_at hl 2 rfl) ?_
            refine gfC_5_2 X hP h1 bw_122 dX4_readSmells_49 ?_
            refine lv_iload hx hb dX4_readSmells_52 (lv_at hl 0 rfl) ?_
            obtain ⟨r19, M20, hc21, h⟩ := bnd_inv h
            refine gSN_i (As := [.int (gI M16 a1 2), .int r15]) X hP hS hl.1 (c_X11_isIn l D cA q aK aV hq hc21) sf_X11_isIn nw_15 ss_X11_isIn ⟨rfl, rfl⟩ ⟨Nat.le_of_ble_eq_true rfl, Nat.le_of_ble_eq_true rfl⟩ rfl rfl (Nat.le_of_ble_eq_true rfl) dX4_readSmells_54 (fun H locs hP hS => ?_)
            refine lv_if_eq (tgt := 69) hx hb dX4_readSmells_57 (by decide) (fun c22 => ?_) (fun c22 => ?_)
            · rw [if_pos c22] at h
              refine lv_aload_n hx hb dX4_readSmells_69 rfl (lv_at hl 2 rfl) ?_
              refine lv_dup hx hb dX4_readSmells_70 rfl ?_
              refine gfC_5_2 X hP h1 bw_122 dX4_readSmells_71 ?_
              refine lv_iconst (v := 1) hx hb dX4_readSmells_74 (by decide) ?_
              refine lv_iload hx hb dX4_readSmells_75 (lv_at hl 0 rfl) ?_
              refine lv_ishl hx hb dX4_readSmells_77 ?_
              refine lv_ior hx hb dX4_readSmells_78 ?_
              obtain ⟨M23, eM23, h⟩ := lt_inv h
              refine pfC_5_2 X hP hS h1 bw_122 eM23 dX4_readSmells_79 (fun H locs hP hS => ?_)
              refine lv_aload_n hx hb dX4_readSmells_82 rfl (lv_at hl 1 rfl) ?_
              refine gfC_4_0 X hP sC_16 bw_329 dX4_readSmells_83 ?_
              obtain ⟨_, M25, hc26, h⟩ := bnd_inv h
              refine gV_v (As := []) X hP hS hl.1 (c_X7_goOn l D cA q aK aV hq hc26) sf_X7_goOn bw_654 sv_X7_goOn (rcC_7 sC_13) rfl ⟨rfl, rfl⟩ ⟨Nat.le_of_ble_eq_true rfl, Nat.le_of_ble_eq_true rfl⟩ rfl rfl (Nat.le_of_ble_eq_true rfl) dX4_readSmells_86 (fun H locs hP hS => ?_)
              obtain ⟨y27, ey27, h⟩ := lt_inv h
              refine lv_iinc (v := y27) (lv' := [(3, .int y27), (4, .int r15), (0, .ref (q 16)), (1, .ref (q a1)), (2, .ref (q a2))]) hx hb dX4_readSmells_89 hl (k := 4) rfl (by rw [ey27]; rfl) (by decide) rfl (fun ls hl => ?_)
              refine lv_goto (tgt := 2) hx hb dX4_readSmells_92 (by decide) ?_
              exact ih _ _ res _ _ _ h hP hS (lv_sub hl [2, 3, 4, 0] rfl) K2_0 K2_1 K2_2
            · rw [if_neg c22] at h
              cases h
              exact K2_1 rfl _ _ _ hP hS (lv_sub hl [1] rfl)
          · rw [if_pos c18] at h
            cases h
            exact K2_0 rfl _ _ _ hP hS (lv_sub hl [1] rfl)
  refine lv_iconst (v := 0) hx hb dX4_readSmells_0 (by decide) ?_
  refine lv_istore_n (lv' := [(3, .int (0 : Int32)), (0, .ref (q 16)), (1, .ref (q a1)), (2, .ref (q a2))]) hx hb dX4_readSmells_1 rfl hl (by decide) rfl (fun ls hl => ?_)
  obtain ⟨s1, M2, hc3, h⟩ := bnd_inv h
  obtain ⟨k4, rfl⟩ : ∃ z, z = s1 := ⟨_, rfl⟩
  try dsimp only at h
  refine hL2  fz _ _ _ _ _ _ hc3 hP hS (lv_sub hl [1, 2, 3, 0] rfl) (fun hke H locs ls hP hS hl => ?_) (fun hke H locs ls hP hS hl => ?_) (fun hke H locs ls hP hS hl => ?_)
  · have hke : k4 = 0 := hke
    have hl : lv_has ls 5 [(0, .ref (q 16))] := hl
    subst hke
    rw [if_pos rfl] at h
    refine lv_aload_n hx hb dX4_readSmells_39 rfl (lv_at hl 0 rfl) ?_
    refine gfC_4_0 X hP sC_16 bw_329 dX4_readSmells_40 ?_
    refine lv_iconst (v := 3) hx hb dX4_readSmells_43 (by decide) ?_
    obtain ⟨r5, M6, hc7, h⟩ := bnd_inv h
    refine gV_i (As := [.int (3 : Int32)]) X hP hS hl.1 (c_X7_refuse l D cA q aK aV hq hc7) sf_X7_refuse bw_637 sv_X7_refuse (rcC_7 sC_13) rfl ⟨rfl, rfl⟩ ⟨Nat.le_of_ble_eq_true rfl, Nat.le_of_ble_eq_true rfl⟩ rfl rfl (Nat.le_of_ble_eq_true rfl) dX4_readSmells_44 (fun H locs hP hS => ?_)
    obtain ⟨g8, h⟩ := gd_inv h
    exact end_z X hr hk hP hS (Decidable.not_not.mp g8) h dX4_readSmells_47
  · have hke : k4 = 1 := hke
    have hl : lv_has ls 5 [(0, .ref (q 16))] := hl
    subst hke
    rw [if_neg (by decide), if_pos rfl] at h
    refine lv_aload_n hx hb dX4_readSmells_60 rfl (lv_at hl 0 rfl) ?_
    refine gfC_4_0 X hP sC_16 bw_329 dX4_readSmells_61 ?_
    refine lv_iconst (v := 5) hx hb dX4_readSmells_64 (by decide) ?_
    obtain ⟨r9, M10, hc11, h⟩ := bnd_inv h
    refine gV_i (As := [.int (5 : Int32)]) X hP hS hl.1 (c_X7_refuse l D cA q aK aV hq hc11) sf_X7_refuse bw_637 sv_X7_refuse (rcC_7 sC_13) rfl ⟨rfl, rfl⟩ ⟨Nat.le_of_ble_eq_true rfl, Nat.le_of_ble_eq_true rfl⟩ rfl rfl (Nat.le_of_ble_eq_true rfl) dX4_readSmells_65 (fun H locs hP hS => ?_)
    obtain ⟨g12, h⟩ := gd_inv h
    exact end_z X hr hk hP hS (Decidable.not_not.mp g12) h dX4_readSmells_68
  · have hke : k4 = 2 := hke
    have hl : lv_has ls 5 [] := hl
    subst hke
    rw [if_neg (by decide), if_neg (by decide)] at h
    refine lv_iconst (v := 1) hx hb dX4_readSmells_95 (by decide) ?_
    exact end_z X hr hk hP hS (Or.inr rfl) h dX4_readSmells_96
theorem dX4_readPerson_0 : decode cX4_readPerson 0 = .ok (.aload_n 1, 1) := by decide +kernel
theorem dX4_readPerson_1 : decode cX4_readPerson 1 = .ok (.aload_n 0, 1) := by decide +kernel
theorem dX4_readPerson_2 : decode cX4_readPerson 2 = .ok (.getfield 19, 3) := by decide +kernel
theorem dX4_readPerson_5 : decode cX4_readPerson 5 = .ok (.invokevirtual 142, 3) := by decide +kernel
theorem dX4_readPerson_8 : decode cX4_readPerson 8 = .ok (.astore_n 2, 1) := by decide +kernel
theorem dX4_readPerson_9 : decode cX4_readPerson 9 = .ok (.aload_n 2, 1) := by decide +kernel
theorem dX4_readPerson_10 : decode cX4_readPerson 10 = .ok (.invokevirtual 146, 3) := by decide +kernel
theorem dX4_readPerson_13 : decode cX4_readPerson 13 = .ok (.aload_n 0, 1) := by decide +kernel
theorem dX4_readPerson_14 : decode cX4_readPerson 14 = .ok (.bipush 7, 2) := by decide +kernel
theorem dX4_readPerson_16 : decode cX4_readPerson 16 = .ok (.invokevirtual 115, 3) := by decide +kernel
theorem dX4_readPerson_19 : decode cX4_readPerson 19 = .ok (.ifCond .eq 8, 3) := by decide +kernel
theorem dX4_readPerson_22 : decode cX4_readPerson 22 = .ok (.aload_n 2, 1) := by decide +kernel
theorem dX4_readPerson_23 : decode cX4_readPerson 23 = .ok (.iconst 1, 1) := by decide +kernel
theorem dX4_readPerson_24 : decode cX4_readPerson 24 = .ok (.putfield 150, 3) := by decide +kernel
theorem dX4_readPerson_27 : decode cX4_readPerson 27 = .ok (.aload_n 0, 1) := by decide +kernel
theorem dX4_readPerson_28 : decode cX4_readPerson 28 = .ok (.bipush 10, 2) := by decide +kernel
theorem dX4_readPerson_30 : decode cX4_readPerson 30 = .ok (.invokevirtual 115, 3) := by decide +kernel
theorem dX4_readPerson_33 : decode cX4_readPerson 33 = .ok (.ifCond .eq 23, 3) := by decide +kernel
theorem dX4_readPerson_36 : decode cX4_readPerson 36 = .ok (.aload_n 0, 1) := by decide +kernel
theorem dX4_readPerson_37 : decode cX4_readPerson 37 = .ok (.iconst 0, 1) := by decide +kernel
theorem dX4_readPerson_38 : decode cX4_readPerson 38 = .ok (.bipush 99, 2) := by decide +kernel
theorem dX4_readPerson_40 : decode cX4_readPerson 40 = .ok (.invokevirtual 151, 3) := by decide +kernel
theorem dX4_readPerson_43 : decode cX4_readPerson 43 = .ok (.ifCond .ne 5, 3) := by decide +kernel
theorem dX4_readPerson_46 : decode cX4_readPerson 46 = .ok (.iconst 0, 1) := by decide +kernel
theorem dX4_readPerson_47 : decode cX4_readPerson 47 = .ok (.ireturn, 1) := by decide +kernel
theorem dX4_readPerson_48 : decode cX4_readPerson 48 = .ok (.aload_n 2, 1) := by decide +kernel
theorem dX4_readPerson_49 : decode cX4_readPerson 49 = .ok (.aload_n 0, 1) := by decide +kernel
theorem dX4_readPerson_50 : decode cX4_readPerson 50 = .ok (.getfield 19, 3) := by decide +kernel
theorem dX4_readPerson_53 : decode cX4_readPerson 53 = .ok (.putfield 155, 3) := by decide +kernel
theorem dX4_readPerson_56 : decode cX4_readPerson 56 = .ok (.aload_n 0, 1) := by decide +kernel
theorem dX4_readPerson_57 : decode cX4_readPerson 57 = .ok (.bipush 12, 2) := by decide +kernel
theorem dX4_readPerson_59 : decode cX4_readPerson 59 = .ok (.invokevirtual 115, 3) := by decide +kernel
theorem dX4_readPerson_62 : decode cX4_readPerson 62 = .ok (.ifCond .eq 12, 3) := by decide +kernel
theorem dX4_readPerson_65 : decode cX4_readPerson 65 = .ok (.aload_n 0, 1) := by decide +kernel
theorem dX4_readPerson_66 : decode cX4_readPerson 66 = .ok (.aload_n 2, 1) := by decide +kernel
theorem dX4_readPerson_67 : decode cX4_readPerson 67 = .ok (.aload_n 1, 1) := by decide +kernel
theorem dX4_readPerson_68 : decode cX4_readPerson 68 = .ok (.invokevirtual 158, 3) := by decide +kernel
theorem dX4_readPerson_71 : decode cX4_readPerson 71 = .ok (.ifCond .eq 7, 3) := by decide +kernel
theorem dX4_readPerson_74 : decode cX4_readPerson 74 = .ok (.iconst 1, 1) := by decide +kernel
theorem dX4_readPerson_75 : decode cX4_readPerson 75 = .ok (.goto 4, 3) := by decide +kernel
theorem dX4_readPerson_78 : decode cX4_readPerson 78 = .ok (.iconst 0, 1) := by decide +kernel
theorem dX4_readPerson_79 : decode cX4_readPerson 79 = .ok (.ireturn, 1) := by decide +kernel
set_option maxRecDepth 100000 in
set_option maxHeartbeats 8000000 in
theorem c_X4_readPerson (l : Launch) (D : va_G) (cA : Nat → ClassId) (q aK aV : Nat → Nat) (hq : injG 167 q) {a1 : Nat} {M M0 : Mem} {r0 : Int32} (h1 : shC a1 = 0) (h : f_X4_readPerson a1 M = some (r0, M0)) : Met l yX4_readPerson (.code yX4_readPerson cX4_readPerson 3 (some .boolean) :: BW) ({ frames := 4, cells := 0, slots := 0, locals := 83 } : Room) (va_Pc [.ref (q 16), .ref (q a1)] (CB 167 (ceC cA q) D cA q aK aV M)) (Qi 167 (ceC cA q) D q r0 M0) 0 0 (AqG 167 q) := by
  refine gMet RX4 (by decide +kernel) rfl hq (Nat.le_of_ble_eq_true rfl) ?_
  intro p e s m below meth c ls X hr hk hP hS hl
  have hx := X.1
  have hb := X.2.1
  have hl : lv_has ls 3 [(0, .ref (q 16)), (1, .ref (q a1))] := hl
  rw [f_X4_readPerson] at h
  have hJ56 : ∀ (b2 : Nat) (hb2 : shC b2 = 5) (M : Mem) (H : Heap) (locs : List Loc) (ls : Array Slot), f_X4_readPerson_J56 a1 b2 M = some (r0, M0) → va_P D vwCl (wsG 167 (ceC cA q) q M) H → va_S (AqG 167 q) s.heap H locs → lv_has ls 3 [(0, .ref (q 16)), (1, .ref (q a1)), (2, .ref (q b2))] → W p l e ({ frames := 4, cells := 0, slots := 0, locals := 83 } : Room) s m [.ref (q 16), .ref (q a1)].toArray below meth c H locs 0 0 (MQ below (Qi 167 (ceC cA q) D q r0 M0) [.ref (q 16), .ref (q a1)].toArray s 0 0 (AqG 167 q)) (F0 m 56 ls []) := by
    intro b2 hb2 M H locs ls h hP hS hl
    rw [f_X4_readPerson_J56] at h
    refine lv_aload_n hx hb dX4_readPerson_56 rfl (lv_at hl 0 rfl) ?_
    refine lv_bipush (v := 12) hx hb dX4_readPerson_57 (by decide) ?_
    obtain ⟨r22, M23, hc24, h⟩ := bnd_inv h
    refine gV_i (As := [.int (12 : Int32)]) X hP hS hl.1 (c_X4_skip l D cA q aK aV hq hc24) sf_X4_skip bw_689 sv_X4_skip (rcC_4 sC_16) rfl ⟨rfl, rfl⟩ ⟨Nat.le_of_ble_eq_true rfl, Nat.le_of_ble_eq_true rfl⟩ rfl rfl (Nat.le_of_ble_eq_true rfl) dX4_readPerson_59 (fun H locs hP hS => ?_)
    refine lv_if_eq (tgt := 74) hx hb dX4_readPerson_62 (by decide) (fun c25 => ?_) (fun c25 => ?_)
    · rw [if_pos c25] at h
      refine lv_iconst (v := 1) hx hb dX4_readPerson_74 (by decide) ?_
      refine lv_goto (tgt := 79) hx hb dX4_readPerson_75 (by decide) ?_
      exact end_z X hr hk hP hS (Or.inr rfl) h dX4_readPerson_79
    · rw [if_neg c25] at h
      refine lv_aload_n hx hb dX4_readPerson_65 rfl (lv_at hl 0 rfl) ?_
      refine lv_aload_n hx hb dX4_readPerson_66 rfl (lv_at hl 2 rfl) ?_
      refine lv_aload_n hx hb dX4_readPerson_67 rfl (lv_at hl 1 rfl) ?_
      obtain ⟨r26, M27, hc28, h⟩ := bnd_inv h
      refine gV_i (As := [.ref (q b2), .ref (q a1)]) X hP hS hl.1 (c_X4_readSmells l D cA q aK aV hq hb2 h1 hc28) sf_X4_readSmells bw_735 sv_X4_readSmells (rcC_4 sC_16) rfl ⟨rfl, rfl⟩ ⟨Nat.le_of_ble_eq_true rfl, Nat.le_of_ble_eq_true rfl⟩ rfl rfl (Nat.le_of_ble_eq_true rfl) dX4_readPerson_68 (fun H locs hP hS => ?_)
      refine lv_if_eq (tgt := 78) hx hb dX4_readPerson_71 (by decide) (fun c29 => ?_) (fun c29 => ?_)
      · rw [if_pos c29] at h
        refine lv_iconst (v := 0) hx hb dX4_readPerson_78 (by decide) ?_
        exact end_z X hr hk hP hS (Or.inl rfl) h dX4_readPerson_79
      · rw [if_neg c29] at h
        refine lv_iconst (v := 1) hx hb dX4_readPerson_74 (by decide) ?_
        refine lv_goto (tgt := 79) hx hb dX4_readPerson_75 (by decide) ?_
        exact end_z X hr hk hP hS (Or.inr rfl) h dX4_readPerson_79
  have hJ27 : ∀ (b2 : Nat) (hb2 : shC b2 = 5) (M : Mem) (H : Heap) (locs : List Loc) (ls : Array Slot), f_X4_readPerson_J27 a1 b2 M = some (r0, M0) → va_P D vwCl (wsG 167 (ceC cA q) q M) H → va_S (AqG 167 q) s.heap H locs → lv_has ls 3 [(0, .ref (q 16)), (1, .ref (q a1)), (2, .ref (q b2))] → W p l e ({ frames := 4, cells := 0, slots := 0, locals := 83 } : Room) s m [.ref (q 16), .ref (q a1)].toArray below meth c H locs 0 0 (MQ below (Qi 167 (ceC cA q) D q r0 M0) [.ref (q 16), .ref (q a1)].toArray s 0 0 (AqG 167 q)) (F0 m 27 ls []) := by
    intro b2 hb2 M H locs ls h hP hS hl
    rw [f_X4_readPerson_J27] at h
    refine lv_aload_n hx hb dX4_readPerson_27 rfl (lv_at hl 0 rfl) ?_
    refine lv_bipush (v := 10) hx hb dX4_readPerson_28 (by decide) ?_
    obtain ⟨r13, M14, hc15, h⟩ := bnd_inv h
    refine gV_i (As := [.int (10 : Int32)]) X hP hS hl.1 (c_X4_skip l D cA q aK aV hq hc15) sf_X4_skip bw_689 sv_X4_skip (rcC_4 sC_16) rfl ⟨rfl, rfl⟩ ⟨Nat.le_of_ble_eq_true rfl, Nat.le_of_ble_eq_true rfl⟩ rfl rfl (Nat.le_of_ble_eq_true rfl) dX4_readPerson_30 (fun H locs hP hS => ?_)
    refine lv_if_eq (tgt := 56) hx hb dX4_readPerson_33 (by decide) (fun c16 => ?_) (fun c16 => ?_)
    · rw [if_pos c16] at h
      exact hJ56 _ hb2 _ _ _ _ h hP hS (lv_sub hl [0, 1, 2] rfl)
    · rw [if_neg c16] at h
      refine lv_aload_n hx hb dX4_readPerson_36 rfl (lv_at hl 0 rfl) ?_
      refine lv_iconst (v := 0) hx hb dX4_readPerson_37 (by decide) ?_
      refine lv_bipush (v := 99) hx hb dX4_readPerson_38 (by decide) ?_
      obtain ⟨r17, M18, hc19, h⟩ := bnd_inv h
      refine gV_i (As := [.int (0 : Int32), .int (99 : Int32)]) X hP hS hl.1 (c_X4_takeNumber l D cA q aK aV hq hc19) sf_X4_takeNumber bw_719 sv_X4_takeNumber (rcC_4 sC_16) rfl ⟨rfl, rfl⟩ ⟨Nat.le_of_ble_eq_true rfl, Nat.le_of_ble_eq_true rfl⟩ rfl rfl (Nat.le_of_ble_eq_true rfl) dX4_readPerson_40 (fun H locs hP hS => ?_)
      refine lv_if_ne (tgt := 48) hx hb dX4_readPerson_43 (by decide) (fun c20 => ?_) (fun c20 => ?_)
      · rw [if_neg c20] at h
        refine lv_aload_n hx hb dX4_readPerson_48 rfl (lv_at hl 2 rfl) ?_
        refine lv_aload_n hx hb dX4_readPerson_49 rfl (lv_at hl 0 rfl) ?_
        refine gfC_4_3 X hP sC_16 bw_332 dX4_readPerson_50 ?_
        obtain ⟨M21, eM21, h⟩ := lt_inv h
        refine pfC_5_1 X hP hS hb2 bw_117 eM21 dX4_readPerson_53 (fun H locs hP hS => ?_)
        exact hJ56 _ hb2 _ _ _ _ h hP hS (lv_sub hl [0, 1, 2] rfl)
      · rw [if_pos c20] at h
        refine lv_iconst (v := 0) hx hb dX4_readPerson_46 (by decide) ?_
        exact end_z X hr hk hP hS (Or.inl rfl) h dX4_readPerson_47
  refine lv_aload_n hx hb dX4_readPerson_0 rfl (lv_at hl 1 rfl) ?_
  refine lv_aload_n hx hb dX4_readPerson_1 rfl (lv_at hl 0 rfl) ?_
  refine gfC_4_3 X hP sC_16 bw_332 dX4_readPerson_2 ?_
  obtain ⟨r1, M2, hc3, h⟩ := bnd_inv h
  refine gV_r (As := [.int (gI M 16 3)]) X hP hS hl.1 (c_X0_personAt l D cA q aK aV hq h1 hc3) sf_X0_personAt bw_727 sv_X0_personAt (rcC_0 h1) rfl ⟨rfl, rfl⟩ ⟨Nat.le_of_ble_eq_true rfl, Nat.le_of_ble_eq_true rfl⟩ rfl rfl (Nat.le_of_ble_eq_true rfl) dX4_readPerson_5 (fun H locs hP hS => ?_)
  obtain ⟨g4, h⟩ := gd_inv h
  have g4 := Decidable.not_not.mp g4
  refine lv_astore_n (lv' := [(2, .ref (q r1)), (0, .ref (q 16)), (1, .ref (q a1))]) hx hb dX4_readPerson_8 rfl hl (by decide) rfl (fun ls hl => ?_)
  refine lv_aload_n hx hb dX4_readPerson_9 rfl (lv_at hl 0 rfl) ?_
  obtain ⟨_, M6, hc7, h⟩ := bnd_inv h
  refine gV_v (As := []) X hP hS hl.1 (c_X5_renew l D cA q aK aV hq g4 hc7) sf_X5_renew bw_731 sv_X5_renew (rcC_5 g4) rfl ⟨rfl, rfl⟩ ⟨Nat.le_of_ble_eq_true rfl, Nat.le_of_ble_eq_true rfl⟩ rfl rfl (Nat.le_of_ble_eq_true rfl) dX4_readPerson_10 (fun H locs hP hS => ?_)
  refine lv_aload_n hx hb dX4_readPerson_13 rfl (lv_at hl 1 rfl) ?_
  refine lv_bipush (v := 7) hx hb dX4_readPerson_14 (by decide) ?_
  obtain ⟨r8, M9, hc10, h⟩ := bnd_inv h
  refine gV_i (As := [.int (7 : Int32)]) X hP hS hl.1 (c_X4_skip l D cA q aK aV hq hc10) sf_X4_skip bw_689 sv_X4_skip (rcC_4 sC_16) rfl ⟨rfl, rfl⟩ ⟨Nat.le_of_ble_eq_true rfl, Nat.le_of_ble_eq_true rfl⟩ rfl rfl (Nat.le_of_ble_eq_true rfl) dX4_readPerson_16 (fun H locs hP hS => ?_)
  refine lv_if_eq (tgt := 27) hx hb dX4_readPerson_19 (by decide) (fun c11 => ?_) (fun c11 => ?_)
  · rw [if_pos c11] at h
    exact hJ27 _ g4 _ _ _ _ h hP hS (lv_sub hl [1, 2, 0] rfl)
  · rw [if_neg c11] at h
    refine lv_aload_n hx hb dX4_readPerson_22 rfl (lv_at hl 0 rfl) ?_
    refine lv_iconst (v := 1) hx hb dX4_readPerson_23 (by decide) ?_
    obtain ⟨M12, eM12, h⟩ := lt_inv h
    refine pfC_5_0 X hP hS g4 bw_112 eM12 dX4_readPerson_24 (fun H locs hP hS => ?_)
    exact hJ27 _ g4 _ _ _ _ h hP hS (lv_sub hl [1, 2, 0] rfl)
theorem dX4_readReader_0 : decode cX4_readReader 0 = .ok (.aload_n 0, 1) := by decide +kernel
theorem dX4_readReader_1 : decode cX4_readReader 1 = .ok (.getfield 19, 3) := by decide +kernel
theorem dX4_readReader_4 : decode cX4_readReader 4 = .ok (.istore_n 2, 1) := by decide +kernel
theorem dX4_readReader_5 : decode cX4_readReader 5 = .ok (.aload_n 0, 1) := by decide +kernel
theorem dX4_readReader_6 : decode cX4_readReader 6 = .ok (.bipush 13, 2) := by decide +kernel
theorem dX4_readReader_8 : decode cX4_readReader 8 = .ok (.invokevirtual 53, 3) := by decide +kernel
theorem dX4_readReader_11 : decode cX4_readReader 11 = .ok (.ifCond .eq 13, 3) := by decide +kernel
theorem dX4_readReader_14 : decode cX4_readReader 14 = .ok (.aload_n 0, 1) := by decide +kernel
theorem dX4_readReader_15 : decode cX4_readReader 15 = .ok (.iconst 0, 1) := by decide +kernel
theorem dX4_readReader_16 : decode cX4_readReader 16 = .ok (.bipush 16, 2) := by decide +kernel
theorem dX4_readReader_18 : decode cX4_readReader 18 = .ok (.invokevirtual 151, 3) := by decide +kernel
theorem dX4_readReader_21 : decode cX4_readReader 21 = .ok (.ifCond .ne 5, 3) := by decide +kernel
theorem dX4_readReader_24 : decode cX4_readReader 24 = .ok (.iconst 0, 1) := by decide +kernel
theorem dX4_readReader_25 : decode cX4_readReader 25 = .ok (.ireturn, 1) := by decide +kernel
theorem dX4_readReader_26 : decode cX4_readReader 26 = .ok (.aload_n 1, 1) := by decide +kernel
theorem dX4_readReader_27 : decode cX4_readReader 27 = .ok (.getfield 176, 3) := by decide +kernel
theorem dX4_readReader_30 : decode cX4_readReader 30 = .ok (.iload_n 2, 1) := by decide +kernel
theorem dX4_readReader_31 : decode cX4_readReader 31 = .ok (.aload_n 0, 1) := by decide +kernel
theorem dX4_readReader_32 : decode cX4_readReader 32 = .ok (.getfield 19, 3) := by decide +kernel
theorem dX4_readReader_35 : decode cX4_readReader 35 = .ok (.invokestatic 95, 3) := by decide +kernel
theorem dX4_readReader_38 : decode cX4_readReader 38 = .ok (.aload_n 0, 1) := by decide +kernel
theorem dX4_readReader_39 : decode cX4_readReader 39 = .ok (.bipush 14, 2) := by decide +kernel
theorem dX4_readReader_41 : decode cX4_readReader 41 = .ok (.invokevirtual 53, 3) := by decide +kernel
theorem dX4_readReader_44 : decode cX4_readReader 44 = .ok (.ifCond .eq 13, 3) := by decide +kernel
theorem dX4_readReader_47 : decode cX4_readReader 47 = .ok (.aload_n 0, 1) := by decide +kernel
theorem dX4_readReader_48 : decode cX4_readReader 48 = .ok (.iconst 1, 1) := by decide +kernel
theorem dX4_readReader_49 : decode cX4_readReader 49 = .ok (.bipush 9, 2) := by decide +kernel
theorem dX4_readReader_51 : decode cX4_readReader 51 = .ok (.invokevirtual 151, 3) := by decide +kernel
theorem dX4_readReader_54 : decode cX4_readReader 54 = .ok (.ifCond .ne 5, 3) := by decide +kernel
theorem dX4_readReader_57 : decode cX4_readReader 57 = .ok (.iconst 0, 1) := by decide +kernel
theorem dX4_readReader_58 : decode cX4_readReader 58 = .ok (.ireturn, 1) := by decide +kernel
theorem dX4_readReader_59 : decode cX4_readReader 59 = .ok (.aload_n 1, 1) := by decide +kernel
theorem dX4_readReader_60 : decode cX4_readReader 60 = .ok (.getfield 179, 3) := by decide +kernel
theorem dX4_readReader_63 : decode cX4_readReader 63 = .ok (.iload_n 2, 1) := by decide +kernel
theorem dX4_readReader_64 : decode cX4_readReader 64 = .ok (.aload_n 0, 1) := by decide +kernel
theorem dX4_readReader_65 : decode cX4_readReader 65 = .ok (.getfield 19, 3) := by decide +kernel
theorem dX4_readReader_68 : decode cX4_readReader 68 = .ok (.invokestatic 95, 3) := by decide +kernel
theorem dX4_readReader_71 : decode cX4_readReader 71 = .ok (.iconst 1, 1) := by decide +kernel
theorem dX4_readReader_72 : decode cX4_readReader 72 = .ok (.ireturn, 1) := by decide +kernel
set_option maxRecDepth 100000 in
set_option maxHeartbeats 8000000 in
theorem c_X4_readReader (l : Launch) (D : va_G) (cA : Nat → ClassId) (q aK aV : Nat → Nat) (hq : injG 167 q) {a1 : Nat} {M M0 : Mem} {r0 : Int32} (h1 : shC a1 = 0) (h : f_X4_readReader a1 M = some (r0, M0)) : Met l yX4_readReader (.code yX4_readReader cX4_readReader 3 (some .boolean) :: BW) ({ frames := 5, cells := 0, slots := 0, locals := 99 } : Room) (va_Pc [.ref (q 16), .ref (q a1)] (CB 167 (ceC cA q) D cA q aK aV M)) (Qi 167 (ceC cA q) D q r0 M0) 0 0 (AqG 167 q) := by
  refine gMet RX4 (by decide +kernel) rfl hq (Nat.le_of_ble_eq_true rfl) ?_
  intro p e s m below meth c ls X hr hk hP hS hl
  have hx := X.1
  have hb := X.2.1
  have hl : lv_has ls 3 [(0, .ref (q 16)), (1, .ref (q a1))] := hl
  rw [f_X4_readReader] at h
  refine lv_aload_n hx hb dX4_readReader_0 rfl (lv_at hl 0 rfl) ?_
  refine gfC_4_3 X hP sC_16 bw_332 dX4_readReader_1 ?_
  obtain ⟨y1, ey1, h⟩ := lt_inv h
  refine topE ey1 ?_
  refine lv_istore_n (lv' := [(2, .int y1), (0, .ref (q 16)), (1, .ref (q a1))]) hx hb dX4_readReader_4 rfl hl (by decide) rfl (fun ls hl => ?_)
  refine lv_aload_n hx hb dX4_readReader_5 rfl (lv_at hl 1 rfl) ?_
  refine lv_bipush (v := 13) hx hb dX4_readReader_6 (by decide) ?_
  obtain ⟨r2, M3, hc4, h⟩ := bnd_inv h
  refine gV_i (As := [.int (13 : Int32)]) X hP hS hl.1 (c_X4_take l D cA q aK aV hq hc4) sf_X4_take bw_685 sv_X4_take (rcC_4 sC_16) rfl ⟨rfl, rfl⟩ ⟨Nat.le_of_ble_eq_true rfl, Nat.le_of_ble_eq_true rfl⟩ rfl rfl (Nat.le_of_ble_eq_true rfl) dX4_readReader_8 (fun H locs hP hS => ?_)
  refine lv_if_eq (tgt := 24) hx hb dX4_readReader_11 (by decide) (fun c5 => ?_) (fun c5 => ?_)
  · rw [if_pos c5] at h
    refine lv_iconst (v := 0) hx hb dX4_readReader_24 (by decide) ?_
    exact end_z X hr hk hP hS (Or.inl rfl) h dX4_readReader_25
  · rw [if_neg c5] at h
    refine lv_aload_n hx hb dX4_readReader_14 rfl (lv_at hl 1 rfl) ?_
    refine lv_iconst (v := 0) hx hb dX4_readReader_15 (by decide) ?_
    refine lv_bipush (v := 16) hx hb dX4_readReader_16 (by decide) ?_
    obtain ⟨r6, M7, hc8, h⟩ := bnd_inv h
    refine gV_i (As := [.int (0 : Int32), .int (16 : Int32)]) X hP hS hl.1 (c_X4_takeNumber l D cA q aK aV hq hc8) sf_X4_takeNumber bw_719 sv_X4_takeNumber (rcC_4 sC_16) rfl ⟨rfl, rfl⟩ ⟨Nat.le_of_ble_eq_true rfl, Nat.le_of_ble_eq_true rfl⟩ rfl rfl (Nat.le_of_ble_eq_true rfl) dX4_readReader_18 (fun H locs hP hS => ?_)
    refine lv_if_ne (tgt := 26) hx hb dX4_readReader_21 (by decide) (fun c9 => ?_) (fun c9 => ?_)
    · rw [if_neg c9] at h
      refine lv_aload_n hx hb dX4_readReader_26 rfl (lv_at hl 2 rfl) ?_
      refine gfC_0_5 X hP h1 bw_151 dX4_readReader_27 ?_
      refine lv_iload_n hx hb dX4_readReader_30 rfl (lv_at hl 0 rfl) ?_
      refine lv_aload_n hx hb dX4_readReader_31 rfl (lv_at hl 1 rfl) ?_
      refine gfC_4_3 X hP sC_16 bw_332 dX4_readReader_32 ?_
      obtain ⟨_, M11, hc12, h⟩ := bnd_inv h
      refine gSN_v (As := [.ref (q (a1 + 20)), .int y1, .int (gI M7 16 3)]) X hP hS hl.1 (c_X11_put l D cA q aK aV hq ((kC_0_5 h1).1) hc12) sf_X11_put nw_14 ss_X11_put ⟨rfl, rfl⟩ ⟨Nat.le_of_ble_eq_true rfl, Nat.le_of_ble_eq_true rfl⟩ rfl rfl (Nat.le_of_ble_eq_true rfl) dX4_readReader_35 (fun H locs hP hS => ?_)
      refine lv_aload_n hx hb dX4_readReader_38 rfl (lv_at hl 1 rfl) ?_
      refine lv_bipush (v := 14) hx hb dX4_readReader_39 (by decide) ?_
      obtain ⟨r13, M14, hc15, h⟩ := bnd_inv h
      refine gV_i (As := [.int (14 : Int32)]) X hP hS hl.1 (c_X4_take l D cA q aK aV hq hc15) sf_X4_take bw_685 sv_X4_take (rcC_4 sC_16) rfl ⟨rfl, rfl⟩ ⟨Nat.le_of_ble_eq_true rfl, Nat.le_of_ble_eq_true rfl⟩ rfl rfl (Nat.le_of_ble_eq_true rfl) dX4_readReader_41 (fun H locs hP hS => ?_)
      refine lv_if_eq (tgt := 57) hx hb dX4_readReader_44 (by decide) (fun c16 => ?_) (fun c16 => ?_)
      · rw [if_pos c16] at h
        refine lv_iconst (v := 0) hx hb dX4_readReader_57 (by decide) ?_
        exact end_z X hr hk hP hS (Or.inl rfl) h dX4_readReader_58
      · rw [if_neg c16] at h
        refine lv_aload_n hx hb dX4_readReader_47 rfl (lv_at hl 1 rfl) ?_
        refine lv_iconst (v := 1) hx hb dX4_readReader_48 (by decide) ?_
        refine lv_bipush (v := 9) hx hb dX4_readReader_49 (by decide) ?_
        obtain ⟨r17, M18, hc19, h⟩ := bnd_inv h
        refine gV_i (As := [.int (1 : Int32), .int (9 : Int32)]) X hP hS hl.1 (c_X4_takeNumber l D cA q aK aV hq hc19) sf_X4_takeNumber bw_719 sv_X4_takeNumber (rcC_4 sC_16) rfl ⟨rfl, rfl⟩ ⟨Nat.le_of_ble_eq_true rfl, Nat.le_of_ble_eq_true rfl⟩ rfl rfl (Nat.le_of_ble_eq_true rfl) dX4_readReader_51 (fun H locs hP hS => ?_)
        refine lv_if_ne (tgt := 59) hx hb dX4_readReader_54 (by decide) (fun c20 => ?_) (fun c20 => ?_)
        · rw [if_neg c20] at h
          refine lv_aload_n hx hb dX4_readReader_59 rfl (lv_at hl 2 rfl) ?_
          refine gfC_0_6 X hP h1 bw_154 dX4_readReader_60 ?_
          refine lv_iload_n hx hb dX4_readReader_63 rfl (lv_at hl 0 rfl) ?_
          refine lv_aload_n hx hb dX4_readReader_64 rfl (lv_at hl 1 rfl) ?_
          refine gfC_4_3 X hP sC_16 bw_332 dX4_readReader_65 ?_
          obtain ⟨_, M22, hc23, h⟩ := bnd_inv h
          refine gSN_v (As := [.ref (q (a1 + 21)), .int y1, .int (gI M18 16 3)]) X hP hS hl.1 (c_X11_put l D cA q aK aV hq ((kC_0_6 h1).1) hc23) sf_X11_put nw_14 ss_X11_put ⟨rfl, rfl⟩ ⟨Nat.le_of_ble_eq_true rfl, Nat.le_of_ble_eq_true rfl⟩ rfl rfl (Nat.le_of_ble_eq_true rfl) dX4_readReader_68 (fun H locs hP hS => ?_)
          refine lv_iconst (v := 1) hx hb dX4_readReader_71 (by decide) ?_
          exact end_z X hr hk hP hS (Or.inr rfl) h dX4_readReader_72
        · rw [if_pos c20] at h
          refine lv_iconst (v := 0) hx hb dX4_readReader_57 (by decide) ?_
          exact end_z X hr hk hP hS (Or.inl rfl) h dX4_readReader_58
    · rw [if_pos c9] at h
      refine lv_iconst (v := 0) hx hb dX4_readReader_24 (by decide) ?_
      exact end_z X hr hk hP hS (Or.inl rfl) h dX4_readReader_25
