theorem dX12_settles_0 : decode cX12_settles 0 = .ok (.aload_n 0, 1) := by decide +kernel
theorem dX12_settles_1 : decode cX12_settles 1 = .ok (.getfield 69, 3) := by decide +kernel
theorem dX12_settles_4 : decode cX12_settles 4 = .ok (.iload_n 1, 1) := by decide +kernel
theorem dX12_settles_5 : decode cX12_settles 5 = .ok (.iaload, 1) := by decide +kernel
theorem dX12_settles_6 : decode cX12_settles 6 = .ok (.iconst (-1), 1) := by decide +kernel
theorem dX12_settles_7 : decode cX12_settles 7 = .ok (.if_icmp .ne 7, 3) := by decide +kernel
theorem dX12_settles_10 : decode cX12_settles 10 = .ok (.iconst 1, 1) := by decide +kernel
theorem dX12_settles_11 : decode cX12_settles 11 = .ok (.goto 4, 3) := by decide +kernel
theorem dX12_settles_14 : decode cX12_settles 14 = .ok (.iconst 0, 1) := by decide +kernel
theorem dX12_settles_15 : decode cX12_settles 15 = .ok (.istore_n 3, 1) := by decide +kernel
theorem dX12_settles_16 : decode cX12_settles 16 = .ok (.iload_n 3, 1) := by decide +kernel
theorem dX12_settles_17 : decode cX12_settles 17 = .ok (.ifCond .ne 33, 3) := by decide +kernel
theorem dX12_settles_20 : decode cX12_settles 20 = .ok (.iload_n 1, 1) := by decide +kernel
theorem dX12_settles_21 : decode cX12_settles 21 = .ok (.iconst 2, 1) := by decide +kernel
theorem dX12_settles_22 : decode cX12_settles 22 = .ok (.irem, 1) := by decide +kernel
theorem dX12_settles_23 : decode cX12_settles 23 = .ok (.ifCond .ne 16, 3) := by decide +kernel
theorem dX12_settles_26 : decode cX12_settles 26 = .ok (.iload_n 2, 1) := by decide +kernel
theorem dX12_settles_27 : decode cX12_settles 27 = .ok (.aload_n 0, 1) := by decide +kernel
theorem dX12_settles_28 : decode cX12_settles 28 = .ok (.getfield 66, 3) := by decide +kernel
theorem dX12_settles_31 : decode cX12_settles 31 = .ok (.iload_n 1, 1) := by decide +kernel
theorem dX12_settles_32 : decode cX12_settles 32 = .ok (.iaload, 1) := by decide +kernel
theorem dX12_settles_33 : decode cX12_settles 33 = .ok (.if_icmp .gt 17, 3) := by decide +kernel
theorem dX12_settles_36 : decode cX12_settles 36 = .ok (.goto 13, 3) := by decide +kernel
theorem dX12_settles_39 : decode cX12_settles 39 = .ok (.iload_n 2, 1) := by decide +kernel
theorem dX12_settles_40 : decode cX12_settles 40 = .ok (.aload_n 0, 1) := by decide +kernel
theorem dX12_settles_41 : decode cX12_settles 41 = .ok (.getfield 66, 3) := by decide +kernel
theorem dX12_settles_44 : decode cX12_settles 44 = .ok (.iload_n 1, 1) := by decide +kernel
theorem dX12_settles_45 : decode cX12_settles 45 = .ok (.iaload, 1) := by decide +kernel
theorem dX12_settles_46 : decode cX12_settles 46 = .ok (.if_icmp .lt 4, 3) := by decide +kernel
theorem dX12_settles_49 : decode cX12_settles 49 = .ok (.return_, 1) := by decide +kernel
theorem dX12_settles_50 : decode cX12_settles 50 = .ok (.aload_n 0, 1) := by decide +kernel
theorem dX12_settles_51 : decode cX12_settles 51 = .ok (.getfield 66, 3) := by decide +kernel
theorem dX12_settles_54 : decode cX12_settles 54 = .ok (.iload_n 1, 1) := by decide +kernel
theorem dX12_settles_55 : decode cX12_settles 55 = .ok (.iload_n 2, 1) := by decide +kernel
theorem dX12_settles_56 : decode cX12_settles 56 = .ok (.iastore, 1) := by decide +kernel
theorem dX12_settles_57 : decode cX12_settles 57 = .ok (.aload_n 0, 1) := by decide +kernel
theorem dX12_settles_58 : decode cX12_settles 58 = .ok (.getfield 69, 3) := by decide +kernel
theorem dX12_settles_61 : decode cX12_settles 61 = .ok (.iload_n 1, 1) := by decide +kernel
theorem dX12_settles_62 : decode cX12_settles 62 = .ok (.aload_n 0, 1) := by decide +kernel
theorem dX12_settles_63 : decode cX12_settles 63 = .ok (.getfield 63, 3) := by decide +kernel
theorem dX12_settles_66 : decode cX12_settles 66 = .ok (.iload_n 1, 1) := by decide +kernel
theorem dX12_settles_67 : decode cX12_settles 67 = .ok (.iaload, 1) := by decide +kernel
theorem dX12_settles_68 : decode cX12_settles 68 = .ok (.iastore, 1) := by decide +kernel
theorem dX12_settles_69 : decode cX12_settles 69 = .ok (.return_, 1) := by decide +kernel
set_option maxRecDepth 100000 in
set_option maxHeartbeats 8000000 in
theorem c_X12_settles (l : Launch) (D : va_G) (cA : Nat → ClassId) (q aK aV : Nat → Nat) (hq : injG 20 q) {a1 : Int32} {a2 : Int32} {M M0 : Mem} (h : f_X12_settles a1 a2 M = some ((), M0)) : Met l yX12_settles (.code yX12_settles cX12_settles 4 none :: BW) ({ frames := 1, cells := 0, slots := 0, locals := 15 } : Room) (va_Pc [.ref (q 0), .int a1, .int a2] (CB 20 (ceR cA q) D cA q aK aV M)) (Qv 20 (ceR cA q) D q M0) 0 0 (AqG 20 q) := by
  refine gMet RX12 (by decide +kernel) rfl hq (Nat.le_of_ble_eq_true rfl) ?_
  intro p e s m below meth c ls X hr hk hP hS hl
  have hx := X.1
  have hb := X.2.1
  have hl : lv_has ls 4 [(0, .ref (q 0)), (1, .int a1), (2, .int a2)] := hl
  rw [f_X12_settles] at h
  have hJ50 : ∀ (M : Mem) (H : Heap) (locs : List Loc) (ls : Array Slot), f_X12_settles_J50 a1 a2 M = some ((), M0) → va_P D vwCl (wsG 20 (ceR cA q) q M) H → va_S (AqG 20 q) s.heap H locs → lv_has ls 4 [(0, .ref (q 0)), (1, .int a1), (2, .int a2)] → W p l e ({ frames := 1, cells := 0, slots := 0, locals := 15 } : Room) s m [.ref (q 0), .int a1, .int a2].toArray below meth c H locs 0 0 (MQ below (Qv 20 (ceR cA q) D q M0) [.ref (q 0), .int a1, .int a2].toArray s 0 0 (AqG 20 q)) (F0 m 50 ls []) := by
    intro M H locs ls h hP hS hl
    rw [f_X12_settles_J50] at h
    refine lv_aload_n hx hb dX12_settles_50 rfl (lv_at hl 0 rfl) ?_
    refine gfR_12_33 X hP sR_0 bw_1356 dX12_settles_51 ?_
    refine lv_iload_n hx hb dX12_settles_54 rfl (lv_at hl 1 rfl) ?_
    refine lv_iload_n hx hb dX12_settles_55 rfl (lv_at hl 2 rfl) ?_
    obtain ⟨g9, h⟩ := gd_inv h
    obtain ⟨M10, eM10, h⟩ := lt_inv h
    refine stR_ia X hP hS sR_15 zR_15 g9 eM10 dX12_settles_56 (fun H locs hP hS => ?_)
    refine lv_aload_n hx hb dX12_settles_57 rfl (lv_at hl 0 rfl) ?_
    refine gfR_12_34 X hP sR_0 bw_1357 dX12_settles_58 ?_
    refine lv_iload_n hx hb dX12_settles_61 rfl (lv_at hl 1 rfl) ?_
    refine lv_aload_n hx hb dX12_settles_62 rfl (lv_at hl 0 rfl) ?_
    refine gfR_12_32 X hP sR_0 bw_1355 dX12_settles_63 ?_
    refine lv_iload_n hx hb dX12_settles_66 rfl (lv_at hl 1 rfl) ?_
    obtain ⟨g11, h⟩ := gd_inv h
    refine ldR_ia X hP sR_14 zR_14 g11 dX12_settles_67 ?_
    obtain ⟨g12, h⟩ := gd_inv h
    obtain ⟨M13, eM13, h⟩ := lt_inv h
    refine stR_ia X hP hS sR_16 zR_16 g12 eM13 dX12_settles_68 (fun H locs hP hS => ?_)
    exact end_v X hr hk hP hS h dX12_settles_69
  have hJ15 : ∀ (s0 : Int32) (M : Mem) (H : Heap) (locs : List Loc) (ls : Array Slot), f_X12_settles_J15 a1 a2 s0 M = some ((), M0) → va_P D vwCl (wsG 20 (ceR cA q) q M) H → va_S (AqG 20 q) s.heap H locs → lv_has ls 4 [(0, .ref (q 0)), (1, .int a1), (2, .int a2)] → W p l e ({ frames := 1, cells := 0, slots := 0, locals := 15 } : Room) s m [.ref (q 0), .int a1, .int a2].toArray below meth c H locs 0 0 (MQ below (Qv 20 (ceR cA q) D q M0) [.ref (q 0), .int a1, .int a2].toArray s 0 0 (AqG 20 q)) (F0 m 15 ls [.int s0]) := by
    intro s0 M H locs ls h hP hS hl
    rw [f_X12_settles_J15] at h
    refine lv_istore_n (lv' := [(3, .int s0), (0, .ref (q 0)), (1, .int a1), (2, .int a2)]) hx hb dX12_settles_15 rfl hl (by decide) rfl (fun ls hl => ?_)
    refine lv_iload_n hx hb dX12_settles_16 rfl (lv_at hl 0 rfl) ?_
    refine lv_if_ne (tgt := 50) hx hb dX12_settles_17 (by decide) (fun c3 => ?_) (fun c3 => ?_)
    · rw [if_neg c3] at h
      exact hJ50  _ _ _ _ h hP hS (lv_sub hl [1, 2, 3] rfl)
    · rw [if_pos c3] at h
      refine lv_iload_n hx hb dX12_settles_20 rfl (lv_at hl 2 rfl) ?_
      refine lv_iconst (v := 2) hx hb dX12_settles_21 (by decide) ?_
      refine lv_irem hx hb dX12_settles_22 (by decide) ?_
      refine lv_if_ne (tgt := 39) hx hb dX12_settles_23 (by decide) (fun c4 => ?_) (fun c4 => ?_)
      · rw [if_neg c4] at h
        refine lv_iload_n hx hb dX12_settles_39 rfl (lv_at hl 3 rfl) ?_
        refine lv_aload_n hx hb dX12_settles_40 rfl (lv_at hl 1 rfl) ?_
        refine gfR_12_33 X hP sR_0 bw_1356 dX12_settles_41 ?_
        refine lv_iload_n hx hb dX12_settles_44 rfl (lv_at hl 2 rfl) ?_
        obtain ⟨g5, h⟩ := gd_inv h
        refine ldR_ia X hP sR_15 zR_15 g5 dX12_settles_45 ?_
        refine lv_icmp_lt (tgt := 50) hx hb dX12_settles_46 (by decide) (fun c6 => ?_) (fun c6 => ?_)
        · rw [if_pos c6] at h
          exact hJ50  _ _ _ _ h hP hS (lv_sub hl [1, 2, 3] rfl)
        · rw [if_neg c6] at h
          exact end_v X hr hk hP hS h dX12_settles_49
      · rw [if_pos c4] at h
        refine lv_iload_n hx hb dX12_settles_26 rfl (lv_at hl 3 rfl) ?_
        refine lv_aload_n hx hb dX12_settles_27 rfl (lv_at hl 1 rfl) ?_
        refine gfR_12_33 X hP sR_0 bw_1356 dX12_settles_28 ?_
        refine lv_iload_n hx hb dX12_settles_31 rfl (lv_at hl 2 rfl) ?_
        obtain ⟨g7, h⟩ := gd_inv h
        refine ldR_ia X hP sR_15 zR_15 g7 dX12_settles_32 ?_
        refine lv_icmp_gt (tgt := 50) hx hb dX12_settles_33 (by decide) (fun c8 => ?_) (fun c8 => ?_)
        · rw [if_pos c8] at h
          exact hJ50  _ _ _ _ h hP hS (lv_sub hl [1, 2, 3] rfl)
        · rw [if_neg c8] at h
          refine lv_goto (tgt := 49) hx hb dX12_settles_36 (by decide) ?_
          exact end_v X hr hk hP hS h dX12_settles_49
  refine lv_aload_n hx hb dX12_settles_0 rfl (lv_at hl 0 rfl) ?_
  refine gfR_12_34 X hP sR_0 bw_1357 dX12_settles_1 ?_
  refine lv_iload_n hx hb dX12_settles_4 rfl (lv_at hl 1 rfl) ?_
  obtain ⟨g1, h⟩ := gd_inv h
  refine ldR_ia X hP sR_16 zR_16 g1 dX12_settles_5 ?_
  refine lv_iconst (v := -1) hx hb dX12_settles_6 (by decide) ?_
  refine lv_icmp_ne (tgt := 14) hx hb dX12_settles_7 (by decide) (fun c2 => ?_) (fun c2 => ?_)
  · rw [if_neg c2] at h
    refine lv_iconst (v := 0) hx hb dX12_settles_14 (by decide) ?_
    exact hJ15 _ _ _ _ _ h hP hS (lv_sub hl [0, 1, 2] rfl)
  · rw [if_pos c2] at h
    refine lv_iconst (v := 1) hx hb dX12_settles_10 (by decide) ?_
    refine lv_goto (tgt := 15) hx hb dX12_settles_11 (by decide) ?_
    exact hJ15 _ _ _ _ _ h hP hS (lv_sub hl [0, 1, 2] rfl)
theorem dX12_deeds_0 : decode cX12_deeds 0 = .ok (.aload_n 0, 1) := by decide +kernel
theorem dX12_deeds_1 : decode cX12_deeds 1 = .ok (.getfield 7, 3) := by decide +kernel
theorem dX12_deeds_4 : decode cX12_deeds 4 = .ok (.iconst 3, 1) := by decide +kernel
theorem dX12_deeds_5 : decode cX12_deeds 5 = .ok (.iaload, 1) := by decide +kernel
theorem dX12_deeds_6 : decode cX12_deeds 6 = .ok (.iconst 1, 1) := by decide +kernel
theorem dX12_deeds_7 : decode cX12_deeds 7 = .ok (.aload_n 0, 1) := by decide +kernel
theorem dX12_deeds_8 : decode cX12_deeds 8 = .ok (.getfield 7, 3) := by decide +kernel
theorem dX12_deeds_11 : decode cX12_deeds 11 = .ok (.iconst 0, 1) := by decide +kernel
theorem dX12_deeds_12 : decode cX12_deeds 12 = .ok (.iaload, 1) := by decide +kernel
theorem dX12_deeds_13 : decode cX12_deeds 13 = .ok (.iadd, 1) := by decide +kernel
theorem dX12_deeds_14 : decode cX12_deeds 14 = .ok (.imul, 1) := by decide +kernel
theorem dX12_deeds_15 : decode cX12_deeds 15 = .ok (.ireturn, 1) := by decide +kernel
set_option maxRecDepth 100000 in
set_option maxHeartbeats 8000000 in
theorem c_X12_deeds (l : Launch) (D : va_G) (cA : Nat → ClassId) (q aK aV : Nat → Nat) (hq : injG 20 q) {M M0 : Mem} {r0 : Int32} (h : f_X12_deeds M = some (r0, M0)) : Met l yX12_deeds (.code yX12_deeds cX12_deeds 1 (some .int) :: BW) ({ frames := 1, cells := 0, slots := 0, locals := 12 } : Room) (va_Pc [.ref (q 0)] (CB 20 (ceR cA q) D cA q aK aV M)) (Qi 20 (ceR cA q) D q r0 M0) 0 0 (AqG 20 q) := by
  refine gMet RX12 (by decide +kernel) rfl hq (Nat.le_of_ble_eq_true rfl) ?_
  intro p e s m below meth c ls X hr hk hP hS hl
  have hx := X.1
  have hb := X.2.1
  have hl : lv_has ls 1 [(0, .ref (q 0))] := hl
  rw [f_X12_deeds] at h
  refine lv_aload_n hx hb dX12_deeds_0 rfl (lv_at hl 0 rfl) ?_
  refine gfR_12_0 X hP sR_0 bw_1323 dX12_deeds_1 ?_
  refine lv_iconst (v := 3) hx hb dX12_deeds_4 (by decide) ?_
  refine ldR_ia X hP sR_1 zR_1 (by decide) dX12_deeds_5 ?_
  refine topE (y := (gI M 1 3)) rfl ?_
  refine lv_iconst (v := 1) hx hb dX12_deeds_6 (by decide) ?_
  refine lv_aload_n hx hb dX12_deeds_7 rfl (lv_at hl 0 rfl) ?_
  refine gfR_12_0 X hP sR_0 bw_1323 dX12_deeds_8 ?_
  refine lv_iconst (v := 0) hx hb dX12_deeds_11 (by decide) ?_
  refine ldR_ia X hP sR_1 zR_1 (by decide) dX12_deeds_12 ?_
  refine topE (y := (gI M 1 0)) rfl ?_
  refine lv_iadd hx hb dX12_deeds_13 ?_
  refine lv_imul hx hb dX12_deeds_14 ?_
  exact end_i X hr hk hP hS h dX12_deeds_15
theorem dX12_doesDeed_0 : decode cX12_doesDeed 0 = .ok (.iload_n 1, 1) := by decide +kernel
theorem dX12_doesDeed_1 : decode cX12_doesDeed 1 = .ok (.aload_n 0, 1) := by decide +kernel
theorem dX12_doesDeed_2 : decode cX12_doesDeed 2 = .ok (.invokevirtual 458, 3) := by decide +kernel
theorem dX12_doesDeed_5 : decode cX12_doesDeed 5 = .ok (.if_icmp .ne 5, 3) := by decide +kernel
theorem dX12_doesDeed_8 : decode cX12_doesDeed 8 = .ok (.iconst 1, 1) := by decide +kernel
theorem dX12_doesDeed_9 : decode cX12_doesDeed 9 = .ok (.ireturn, 1) := by decide +kernel
theorem dX12_doesDeed_10 : decode cX12_doesDeed 10 = .ok (.iload_n 1, 1) := by decide +kernel
theorem dX12_doesDeed_11 : decode cX12_doesDeed 11 = .ok (.iconst 1, 1) := by decide +kernel
theorem dX12_doesDeed_12 : decode cX12_doesDeed 12 = .ok (.aload_n 0, 1) := by decide +kernel
theorem dX12_doesDeed_13 : decode cX12_doesDeed 13 = .ok (.getfield 7, 3) := by decide +kernel
theorem dX12_doesDeed_16 : decode cX12_doesDeed 16 = .ok (.iconst 0, 1) := by decide +kernel
theorem dX12_doesDeed_17 : decode cX12_doesDeed 17 = .ok (.iaload, 1) := by decide +kernel
theorem dX12_doesDeed_18 : decode cX12_doesDeed 18 = .ok (.iadd, 1) := by decide +kernel
theorem dX12_doesDeed_19 : decode cX12_doesDeed 19 = .ok (.idiv, 1) := by decide +kernel
theorem dX12_doesDeed_20 : decode cX12_doesDeed 20 = .ok (.istore_n 2, 1) := by decide +kernel
theorem dX12_doesDeed_21 : decode cX12_doesDeed 21 = .ok (.iload_n 1, 1) := by decide +kernel
theorem dX12_doesDeed_22 : decode cX12_doesDeed 22 = .ok (.iconst 1, 1) := by decide +kernel
theorem dX12_doesDeed_23 : decode cX12_doesDeed 23 = .ok (.aload_n 0, 1) := by decide +kernel
theorem dX12_doesDeed_24 : decode cX12_doesDeed 24 = .ok (.getfield 7, 3) := by decide +kernel
theorem dX12_doesDeed_27 : decode cX12_doesDeed 27 = .ok (.iconst 0, 1) := by decide +kernel
theorem dX12_doesDeed_28 : decode cX12_doesDeed 28 = .ok (.iaload, 1) := by decide +kernel
theorem dX12_doesDeed_29 : decode cX12_doesDeed 29 = .ok (.iadd, 1) := by decide +kernel
theorem dX12_doesDeed_30 : decode cX12_doesDeed 30 = .ok (.irem, 1) := by decide +kernel
theorem dX12_doesDeed_31 : decode cX12_doesDeed 31 = .ok (.iconst 1, 1) := by decide +kernel
theorem dX12_doesDeed_32 : decode cX12_doesDeed 32 = .ok (.isub, 1) := by decide +kernel
theorem dX12_doesDeed_33 : decode cX12_doesDeed 33 = .ok (.istore_n 3, 1) := by decide +kernel
theorem dX12_doesDeed_34 : decode cX12_doesDeed 34 = .ok (.iload_n 3, 1) := by decide +kernel
theorem dX12_doesDeed_35 : decode cX12_doesDeed 35 = .ok (.ifCond .ge 12, 3) := by decide +kernel
theorem dX12_doesDeed_38 : decode cX12_doesDeed 38 = .ok (.aload_n 0, 1) := by decide +kernel
theorem dX12_doesDeed_39 : decode cX12_doesDeed 39 = .ok (.iload_n 2, 1) := by decide +kernel
theorem dX12_doesDeed_40 : decode cX12_doesDeed 40 = .ok (.iconst 1, 1) := by decide +kernel
theorem dX12_doesDeed_41 : decode cX12_doesDeed 41 = .ok (.invokevirtual 355, 3) := by decide +kernel
theorem dX12_doesDeed_44 : decode cX12_doesDeed 44 = .ok (.goto 28, 3) := by decide +kernel
theorem dX12_doesDeed_47 : decode cX12_doesDeed 47 = .ok (.aload_n 0, 1) := by decide +kernel
theorem dX12_doesDeed_48 : decode cX12_doesDeed 48 = .ok (.iload_n 2, 1) := by decide +kernel
theorem dX12_doesDeed_49 : decode cX12_doesDeed 49 = .ok (.iload_n 3, 1) := by decide +kernel
theorem dX12_doesDeed_50 : decode cX12_doesDeed 50 = .ok (.aload_n 0, 1) := by decide +kernel
theorem dX12_doesDeed_51 : decode cX12_doesDeed 51 = .ok (.aload_n 0, 1) := by decide +kernel
theorem dX12_doesDeed_52 : decode cX12_doesDeed 52 = .ok (.iload_n 2, 1) := by decide +kernel
theorem dX12_doesDeed_53 : decode cX12_doesDeed 53 = .ok (.iconst 1, 1) := by decide +kernel
theorem dX12_doesDeed_54 : decode cX12_doesDeed 54 = .ok (.invokevirtual 281, 3) := by decide +kernel
theorem dX12_doesDeed_57 : decode cX12_doesDeed 57 = .ok (.iload_n 3, 1) := by decide +kernel
theorem dX12_doesDeed_58 : decode cX12_doesDeed 58 = .ok (.invokevirtual 315, 3) := by decide +kernel
theorem dX12_doesDeed_61 : decode cX12_doesDeed 61 = .ok (.ifCond .ne 7, 3) := by decide +kernel
theorem dX12_doesDeed_64 : decode cX12_doesDeed 64 = .ok (.iconst 1, 1) := by decide +kernel
theorem dX12_doesDeed_65 : decode cX12_doesDeed 65 = .ok (.goto 4, 3) := by decide +kernel
theorem dX12_doesDeed_68 : decode cX12_doesDeed 68 = .ok (.iconst 0, 1) := by decide +kernel
theorem dX12_doesDeed_69 : decode cX12_doesDeed 69 = .ok (.invokevirtual 361, 3) := by decide +kernel
theorem dX12_doesDeed_72 : decode cX12_doesDeed 72 = .ok (.ireturn, 1) := by decide +kernel
set_option maxRecDepth 100000 in
set_option maxHeartbeats 8000000 in
theorem c_X12_doesDeed (l : Launch) (D : va_G) (cA : Nat → ClassId) (q aK aV : Nat → Nat) (hq : injG 20 q) {a1 : Int32} {M M0 : Mem} {r0 : Int32} (h : f_X12_doesDeed a1 M = some (r0, M0)) : Met l yX12_doesDeed (.code yX12_doesDeed cX12_doesDeed 4 (some .boolean) :: BW) ({ frames := 4, cells := 0, slots := 0, locals := 77 } : Room) (va_Pc [.ref (q 0), .int a1] (CB 20 (ceR cA q) D cA q aK aV M)) (Qi 20 (ceR cA q) D q r0 M0) 0 0 (AqG 20 q) := by
  refine gMet RX12 (by decide +kernel) rfl hq (Nat.le_of_ble_eq_true rfl) ?_
  intro p e s m below meth c ls X hr hk hP hS hl
  have hx := X.1
  have hb := X.2.1
  have hl : lv_has ls 4 [(0, .ref (q 0)), (1, .int a1)] := hl
  rw [f_X12_doesDeed] at h
  refine lv_iload_n hx hb dX12_doesDeed_0 rfl (lv_at hl 1 rfl) ?_
  refine lv_aload_n hx hb dX12_doesDeed_1 rfl (lv_at hl 0 rfl) ?_
  obtain ⟨r1, M2, hc3, h⟩ := bnd_inv h
  refine gV_i (As := []) X hP hS hl.1 (c_X12_deeds l D cA q aK aV hq hc3) sf_X12_deeds bw_2040 sv_X12_deeds (rcR_12 sR_0) rfl ⟨rfl, rfl⟩ ⟨Nat.le_of_ble_eq_true rfl, Nat.le_of_ble_eq_true rfl⟩ rfl rfl (Nat.le_of_ble_eq_true rfl) dX12_doesDeed_2 (fun H locs hP hS => ?_)
  refine lv_icmp_ne (tgt := 10) hx hb dX12_doesDeed_5 (by decide) (fun c4 => ?_) (fun c4 => ?_)
  · rw [if_neg c4] at h
    refine lv_iload_n hx hb dX12_doesDeed_10 rfl (lv_at hl 1 rfl) ?_
    refine lv_iconst (v := 1) hx hb dX12_doesDeed_11 (by decide) ?_
    refine lv_aload_n hx hb dX12_doesDeed_12 rfl (lv_at hl 0 rfl) ?_
    refine gfR_12_0 X hP sR_0 bw_1323 dX12_doesDeed_13 ?_
    refine lv_iconst (v := 0) hx hb dX12_doesDeed_16 (by decide) ?_
    refine ldR_ia X hP sR_1 zR_1 (by decide) dX12_doesDeed_17 ?_
    refine topE (y := (gI M2 1 0)) rfl ?_
    refine lv_iadd hx hb dX12_doesDeed_18 ?_
    obtain ⟨g5, h⟩ := gd_inv h
    refine lv_idiv hx hb dX12_doesDeed_19 g5 ?_
    obtain ⟨y6, ey6, h⟩ := lt_inv h
    refine topE ey6 ?_
    refine lv_istore_n (lv' := [(2, .int y6), (0, .ref (q 0)), (1, .int a1)]) hx hb dX12_doesDeed_20 rfl hl (by decide) rfl (fun ls hl => ?_)
    refine lv_iload_n hx hb dX12_doesDeed_21 rfl (lv_at hl 2 rfl) ?_
    refine lv_iconst (v := 1) hx hb dX12_doesDeed_22 (by decide) ?_
    refine lv_aload_n hx hb dX12_doesDeed_23 rfl (lv_at hl 1 rfl) ?_
    refine gfR_12_0 X hP sR_0 bw_1323 dX12_doesDeed_24 ?_
    refine lv_iconst (v := 0) hx hb dX12_doesDeed_27 (by decide) ?_
    refine ldR_ia X hP sR_1 zR_1 (by decide) dX12_doesDeed_28 ?_
    refine topE (y := (gI M2 1 0)) rfl ?_
    refine lv_iadd hx hb dX12_doesDeed_29 ?_
    obtain ⟨g7, h⟩ := gd_inv h
    refine lv_irem hx hb dX12_doesDeed_30 g7 ?_
    refine lv_iconst (v := 1) hx hb dX12_doesDeed_31 (by decide) ?_
    refine lv_isub hx hb dX12_doesDeed_32 ?_
    obtain ⟨y8, ey8, h⟩ := lt_inv h
    refine topE ey8 ?_
    refine lv_istore_n (lv' := [(3, .int y8), (2, .int y6), (0, .ref (q 0)), (1, .int a1)]) hx hb dX12_doesDeed_33 rfl hl (by decide) rfl (fun ls hl => ?_)
    refine lv_iload_n hx hb dX12_doesDeed_34 rfl (lv_at hl 0 rfl) ?_
    refine lv_if_ge (tgt := 47) hx hb dX12_doesDeed_35 (by decide) (fun c9 => ?_) (fun c9 => ?_)
    · rw [if_pos c9] at h
      refine lv_aload_n hx hb dX12_doesDeed_47 rfl (lv_at hl 2 rfl) ?_
      refine lv_iload_n hx hb dX12_doesDeed_48 rfl (lv_at hl 1 rfl) ?_
      refine lv_iload_n hx hb dX12_doesDeed_49 rfl (lv_at hl 0 rfl) ?_
      refine lv_aload_n hx hb dX12_doesDeed_50 rfl (lv_at hl 2 rfl) ?_
      refine lv_aload_n hx hb dX12_doesDeed_51 rfl (lv_at hl 2 rfl) ?_
      refine lv_iload_n hx hb dX12_doesDeed_52 rfl (lv_at hl 1 rfl) ?_
      refine lv_iconst (v := 1) hx hb dX12_doesDeed_53 (by decide) ?_
      obtain ⟨r10, M11, hc12, h⟩ := bnd_inv h
      refine gV_i (As := [.int y6, .int (1 : Int32)]) X hP hS hl.1 (c_X12_personOf l D cA q aK aV hq hc12) sf_X12_personOf bw_1683 sv_X12_personOf (rcR_12 sR_0) rfl ⟨rfl, rfl⟩ ⟨Nat.le_of_ble_eq_true rfl, Nat.le_of_ble_eq_true rfl⟩ rfl rfl (Nat.le_of_ble_eq_true rfl) dX12_doesDeed_54 (fun H locs hP hS => ?_)
      refine lv_iload_n hx hb dX12_doesDeed_57 rfl (lv_at hl 0 rfl) ?_
      obtain ⟨r13, M14, hc15, h⟩ := bnd_inv h
      refine gV_i (As := [.int r10, .int y8]) X hP hS hl.1 (c_X12_isIn l D cA q aK aV hq hc15) sf_X12_isIn bw_1755 sv_X12_isIn (rcR_12 sR_0) rfl ⟨rfl, rfl⟩ ⟨Nat.le_of_ble_eq_true rfl, Nat.le_of_ble_eq_true rfl⟩ rfl rfl (Nat.le_of_ble_eq_true rfl) dX12_doesDeed_58 (fun H locs hP hS => ?_)
      refine lv_if_ne (tgt := 68) hx hb dX12_doesDeed_61 (by decide) (fun c16 => ?_) (fun c16 => ?_)
      · rw [if_neg c16] at h
        refine lv_iconst (v := 0) hx hb dX12_doesDeed_68 (by decide) ?_
        obtain ⟨r17, M18, hc19, h⟩ := bnd_inv h
        refine gV_i (As := [.int y6, .int y8, .int (0 : Int32)]) X hP hS hl.1 (c_X12_scents l D cA q aK aV hq hc19) sf_X12_scents bw_1822 sv_X12_scents (rcR_12 sR_0) rfl ⟨rfl, rfl⟩ ⟨Nat.le_of_ble_eq_true rfl, Nat.le_of_ble_eq_true rfl⟩ rfl rfl (Nat.le_of_ble_eq_true rfl) dX12_doesDeed_69 (fun H locs hP hS => ?_)
        obtain ⟨g20, h⟩ := gd_inv h
        exact end_z X hr hk hP hS (Decidable.not_not.mp g20) h dX12_doesDeed_72
      · rw [if_pos c16] at h
        refine lv_iconst (v := 1) hx hb dX12_doesDeed_64 (by decide) ?_
        refine lv_goto (tgt := 69) hx hb dX12_doesDeed_65 (by decide) ?_
        obtain ⟨r21, M22, hc23, h⟩ := bnd_inv h
        refine gV_i (As := [.int y6, .int y8, .int (1 : Int32)]) X hP hS hl.1 (c_X12_scents l D cA q aK aV hq hc23) sf_X12_scents bw_1822 sv_X12_scents (rcR_12 sR_0) rfl ⟨rfl, rfl⟩ ⟨Nat.le_of_ble_eq_true rfl, Nat.le_of_ble_eq_true rfl⟩ rfl rfl (Nat.le_of_ble_eq_true rfl) dX12_doesDeed_69 (fun H locs hP hS => ?_)
        obtain ⟨g24, h⟩ := gd_inv h
        exact end_z X hr hk hP hS (Decidable.not_not.mp g24) h dX12_doesDeed_72
    · rw [if_neg c9] at h
      refine lv_aload_n hx hb dX12_doesDeed_38 rfl (lv_at hl 2 rfl) ?_
      refine lv_iload_n hx hb dX12_doesDeed_39 rfl (lv_at hl 1 rfl) ?_
      refine lv_iconst (v := 1) hx hb dX12_doesDeed_40 (by decide) ?_
      obtain ⟨r25, M26, hc27, h⟩ := bnd_inv h
      refine gV_i (As := [.int y6, .int (1 : Int32)]) X hP hS hl.1 (c_X12_meals l D cA q aK aV hq hc27) sf_X12_meals bw_1810 sv_X12_meals (rcR_12 sR_0) rfl ⟨rfl, rfl⟩ ⟨Nat.le_of_ble_eq_true rfl, Nat.le_of_ble_eq_true rfl⟩ rfl rfl (Nat.le_of_ble_eq_true rfl) dX12_doesDeed_41 (fun H locs hP hS => ?_)
      refine lv_goto (tgt := 72) hx hb dX12_doesDeed_44 (by decide) ?_
      obtain ⟨g28, h⟩ := gd_inv h
      exact end_z X hr hk hP hS (Decidable.not_not.mp g28) h dX12_doesDeed_72
  · rw [if_pos c4] at h
    refine lv_iconst (v := 1) hx hb dX12_doesDeed_8 (by decide) ?_
    exact end_z X hr hk hP hS (Or.inr rfl) h dX12_doesDeed_9
theorem dX12_playing_0 : decode cX12_playing 0 = .ok (.iload_n 1, 1) := by decide +kernel
theorem dX12_playing_1 : decode cX12_playing 1 = .ok (.ifCond .ne 8, 3) := by decide +kernel
theorem dX12_playing_4 : decode cX12_playing 4 = .ok (.aload_n 0, 1) := by decide +kernel
theorem dX12_playing_5 : decode cX12_playing 5 = .ok (.invokevirtual 461, 3) := by decide +kernel
theorem dX12_playing_8 : decode cX12_playing 8 = .ok (.ireturn, 1) := by decide +kernel
theorem dX12_playing_9 : decode cX12_playing 9 = .ok (.iconst 0, 1) := by decide +kernel
theorem dX12_playing_10 : decode cX12_playing 10 = .ok (.istore_n 2, 1) := by decide +kernel
theorem dX12_playing_11 : decode cX12_playing 11 = .ok (.aload_n 0, 1) := by decide +kernel
theorem dX12_playing_12 : decode cX12_playing 12 = .ok (.iconst 0, 1) := by decide +kernel
theorem dX12_playing_13 : decode cX12_playing 13 = .ok (.invokestatic 464, 3) := by decide +kernel
theorem dX12_playing_16 : decode cX12_playing 16 = .ok (.invokevirtual 374, 3) := by decide +kernel
theorem dX12_playing_19 : decode cX12_playing 19 = .ok (.aload_n 0, 1) := by decide +kernel
theorem dX12_playing_20 : decode cX12_playing 20 = .ok (.getfield 63, 3) := by decide +kernel
theorem dX12_playing_23 : decode cX12_playing 23 = .ok (.iconst 0, 1) := by decide +kernel
theorem dX12_playing_24 : decode cX12_playing 24 = .ok (.iconst (-1), 1) := by decide +kernel
theorem dX12_playing_25 : decode cX12_playing 25 = .ok (.iastore, 1) := by decide +kernel
theorem dX12_playing_26 : decode cX12_playing 26 = .ok (.aload_n 0, 1) := by decide +kernel
theorem dX12_playing_27 : decode cX12_playing 27 = .ok (.getfield 69, 3) := by decide +kernel
theorem dX12_playing_30 : decode cX12_playing 30 = .ok (.iconst 0, 1) := by decide +kernel
theorem dX12_playing_31 : decode cX12_playing 31 = .ok (.iconst (-1), 1) := by decide +kernel
theorem dX12_playing_32 : decode cX12_playing 32 = .ok (.iastore, 1) := by decide +kernel
theorem dX12_playing_33 : decode cX12_playing 33 = .ok (.aload_n 0, 1) := by decide +kernel
theorem dX12_playing_34 : decode cX12_playing 34 = .ok (.iload_n 2, 1) := by decide +kernel
theorem dX12_playing_35 : decode cX12_playing 35 = .ok (.invokestatic 464, 3) := by decide +kernel
theorem dX12_playing_38 : decode cX12_playing 38 = .ok (.invokevirtual 377, 3) := by decide +kernel
theorem dX12_playing_41 : decode cX12_playing 41 = .ok (.aload_n 0, 1) := by decide +kernel
theorem dX12_playing_42 : decode cX12_playing 42 = .ok (.getfield 63, 3) := by decide +kernel
theorem dX12_playing_45 : decode cX12_playing 45 = .ok (.iload_n 2, 1) := by decide +kernel
theorem dX12_playing_46 : decode cX12_playing 46 = .ok (.dup2, 1) := by decide +kernel
theorem dX12_playing_47 : decode cX12_playing 47 = .ok (.iaload, 1) := by decide +kernel
theorem dX12_playing_48 : decode cX12_playing 48 = .ok (.iconst 1, 1) := by decide +kernel
theorem dX12_playing_49 : decode cX12_playing 49 = .ok (.iadd, 1) := by decide +kernel
theorem dX12_playing_50 : decode cX12_playing 50 = .ok (.iastore, 1) := by decide +kernel
theorem dX12_playing_51 : decode cX12_playing 51 = .ok (.aload_n 0, 1) := by decide +kernel
theorem dX12_playing_52 : decode cX12_playing 52 = .ok (.getfield 63, 3) := by decide +kernel
theorem dX12_playing_55 : decode cX12_playing 55 = .ok (.iload_n 2, 1) := by decide +kernel
theorem dX12_playing_56 : decode cX12_playing 56 = .ok (.iaload, 1) := by decide +kernel
theorem dX12_playing_57 : decode cX12_playing 57 = .ok (.aload_n 0, 1) := by decide +kernel
theorem dX12_playing_58 : decode cX12_playing 58 = .ok (.invokevirtual 458, 3) := by decide +kernel
theorem dX12_playing_61 : decode cX12_playing 61 = .ok (.if_icmp .le 29, 3) := by decide +kernel
theorem dX12_playing_64 : decode cX12_playing 64 = .ok (.iload_n 2, 1) := by decide +kernel
theorem dX12_playing_65 : decode cX12_playing 65 = .ok (.ifCond .ne 6, 3) := by decide +kernel
theorem dX12_playing_68 : decode cX12_playing 68 = .ok (.goto 85, 3) := by decide +kernel
theorem dX12_playing_71 : decode cX12_playing 71 = .ok (.iinc 2 (-1), 3) := by decide +kernel
theorem dX12_playing_74 : decode cX12_playing 74 = .ok (.aload_n 0, 1) := by decide +kernel
theorem dX12_playing_75 : decode cX12_playing 75 = .ok (.iload_n 2, 1) := by decide +kernel
theorem dX12_playing_76 : decode cX12_playing 76 = .ok (.aload_n 0, 1) := by decide +kernel
theorem dX12_playing_77 : decode cX12_playing 77 = .ok (.getfield 66, 3) := by decide +kernel
theorem dX12_playing_80 : decode cX12_playing 80 = .ok (.iload_n 2, 1) := by decide +kernel
theorem dX12_playing_81 : decode cX12_playing 81 = .ok (.iconst 1, 1) := by decide +kernel
theorem dX12_playing_82 : decode cX12_playing 82 = .ok (.iadd, 1) := by decide +kernel
theorem dX12_playing_83 : decode cX12_playing 83 = .ok (.iaload, 1) := by decide +kernel
theorem dX12_playing_84 : decode cX12_playing 84 = .ok (.invokevirtual 467, 3) := by decide +kernel
theorem dX12_playing_87 : decode cX12_playing 87 = .ok (.goto (-54), 3) := by decide +kernel
theorem dX12_playing_90 : decode cX12_playing 90 = .ok (.aload_n 0, 1) := by decide +kernel
theorem dX12_playing_91 : decode cX12_playing 91 = .ok (.aload_n 0, 1) := by decide +kernel
theorem dX12_playing_92 : decode cX12_playing 92 = .ok (.getfield 63, 3) := by decide +kernel
theorem dX12_playing_95 : decode cX12_playing 95 = .ok (.iload_n 2, 1) := by decide +kernel
theorem dX12_playing_96 : decode cX12_playing 96 = .ok (.iaload, 1) := by decide +kernel
theorem dX12_playing_97 : decode cX12_playing 97 = .ok (.invokevirtual 470, 3) := by decide +kernel
theorem dX12_playing_100 : decode cX12_playing 100 = .ok (.ifCond .ne 6, 3) := by decide +kernel
theorem dX12_playing_103 : decode cX12_playing 103 = .ok (.goto (-70), 3) := by decide +kernel
theorem dX12_playing_106 : decode cX12_playing 106 = .ok (.iload_n 2, 1) := by decide +kernel
theorem dX12_playing_107 : decode cX12_playing 107 = .ok (.iconst 1, 1) := by decide +kernel
theorem dX12_playing_108 : decode cX12_playing 108 = .ok (.iadd, 1) := by decide +kernel
theorem dX12_playing_109 : decode cX12_playing 109 = .ok (.iload_n 1, 1) := by decide +kernel
theorem dX12_playing_110 : decode cX12_playing 110 = .ok (.if_icmp .ne 15, 3) := by decide +kernel
theorem dX12_playing_113 : decode cX12_playing 113 = .ok (.aload_n 0, 1) := by decide +kernel
theorem dX12_playing_114 : decode cX12_playing 114 = .ok (.iload_n 2, 1) := by decide +kernel
theorem dX12_playing_115 : decode cX12_playing 115 = .ok (.aload_n 0, 1) := by decide +kernel
theorem dX12_playing_116 : decode cX12_playing 116 = .ok (.invokevirtual 461, 3) := by decide +kernel
theorem dX12_playing_119 : decode cX12_playing 119 = .ok (.invokevirtual 467, 3) := by decide +kernel
theorem dX12_playing_122 : decode cX12_playing 122 = .ok (.goto (-89), 3) := by decide +kernel
theorem dX12_playing_125 : decode cX12_playing 125 = .ok (.iinc 2 1, 3) := by decide +kernel
theorem dX12_playing_128 : decode cX12_playing 128 = .ok (.aload_n 0, 1) := by decide +kernel
theorem dX12_playing_129 : decode cX12_playing 129 = .ok (.iload_n 2, 1) := by decide +kernel
theorem dX12_playing_130 : decode cX12_playing 130 = .ok (.invokestatic 464, 3) := by decide +kernel
theorem dX12_playing_133 : decode cX12_playing 133 = .ok (.invokevirtual 374, 3) := by decide +kernel
theorem dX12_playing_136 : decode cX12_playing 136 = .ok (.aload_n 0, 1) := by decide +kernel
theorem dX12_playing_137 : decode cX12_playing 137 = .ok (.getfield 63, 3) := by decide +kernel
theorem dX12_playing_140 : decode cX12_playing 140 = .ok (.iload_n 2, 1) := by decide +kernel
theorem dX12_playing_141 : decode cX12_playing 141 = .ok (.iconst (-1), 1) := by decide +kernel
theorem dX12_playing_142 : decode cX12_playing 142 = .ok (.iastore, 1) := by decide +kernel
theorem dX12_playing_143 : decode cX12_playing 143 = .ok (.aload_n 0, 1) := by decide +kernel
theorem dX12_playing_144 : decode cX12_playing 144 = .ok (.getfield 69, 3) := by decide +kernel
theorem dX12_playing_147 : decode cX12_playing 147 = .ok (.iload_n 2, 1) := by decide +kernel
theorem dX12_playing_148 : decode cX12_playing 148 = .ok (.iconst (-1), 1) := by decide +kernel
theorem dX12_playing_149 : decode cX12_playing 149 = .ok (.iastore, 1) := by decide +kernel
theorem dX12_playing_150 : decode cX12_playing 150 = .ok (.goto (-117), 3) := by decide +kernel
theorem dX12_playing_153 : decode cX12_playing 153 = .ok (.aload_n 0, 1) := by decide +kernel
theorem dX12_playing_154 : decode cX12_playing 154 = .ok (.iconst 0, 1) := by decide +kernel
theorem dX12_playing_155 : decode cX12_playing 155 = .ok (.invokestatic 464, 3) := by decide +kernel
theorem dX12_playing_158 : decode cX12_playing 158 = .ok (.invokevirtual 377, 3) := by decide +kernel
theorem dX12_playing_161 : decode cX12_playing 161 = .ok (.aload_n 0, 1) := by decide +kernel
theorem dX12_playing_162 : decode cX12_playing 162 = .ok (.getfield 66, 3) := by decide +kernel
theorem dX12_playing_165 : decode cX12_playing 165 = .ok (.iconst 0, 1) := by decide +kernel
theorem dX12_playing_166 : decode cX12_playing 166 = .ok (.iaload, 1) := by decide +kernel
theorem dX12_playing_167 : decode cX12_playing 167 = .ok (.ireturn, 1) := by decide +kernel
set_option maxRecDepth 100000 in
set_option maxHeartbeats 8000000 in
theorem c_X12_playing (l : Launch) (D : va_G) (cA : Nat → ClassId) (q aK aV : Nat → Nat) (hq : injG 20 q) {a1 : Int32} {M M0 : Mem} {r0 : Int32} (h : f_X12_playing a1 M = some (r0, M0)) : Met l yX12_playing (.code yX12_playing cX12_playing 3 (some .int) :: BW) ({ frames := 9, cells := 0, slots := 0, locals := 197 } : Room) (va_Pc [.ref (q 0), .int a1] (CB 20 (ceR cA q) D cA q aK aV M)) (Qi 20 (ceR cA q) D q r0 M0) 0 0 (AqG 20 q) := by
  refine gMet RX12 (by decide +kernel) rfl hq (Nat.le_of_ble_eq_true rfl) ?_
  intro p e s m below meth c ls X hr hk hP hS hl
  have hx := X.1
  have hb := X.2.1
  have hl : lv_has ls 3 [(0, .ref (q 0)), (1, .int a1)] := hl
  rw [f_X12_playing] at h
  have hL33 : ∀ (fu : Nat) (b2 : Int32) (M : Mem) (res : (Unit) × Mem) (H : Heap) (locs : List Loc) (ls : Array Slot), f_X12_playing_L33 a1 fu b2 M = some res → va_P D vwCl (wsG 20 (ceR cA q) q M) H → va_S (AqG 20 q) s.heap H locs → lv_has ls 3 [(0, .ref (q 0)), (1, .int a1), (2, .int b2)] → (∀ (H : Heap) (locs : List Loc) (ls : Array Slot), va_P D vwCl (wsG 20 (ceR cA q) q res.2) H → va_S (AqG 20 q) s.heap H locs → lv_has ls 3 [(0, .ref (q 0))] → W p l e ({ frames := 9, cells := 0, slots := 0, locals := 197 } : Room) s m [.ref (q 0), .int a1].toArray below meth c H locs 0 0 (MQ below (Qi 20 (ceR cA q) D q r0 M0) [.ref (q 0), .int a1].toArray s 0 0 (AqG 20 q)) (F0 m 68 ls [])) → W p l e ({ frames := 9, cells := 0, slots := 0, locals := 197 } : Room) s m [.ref (q 0), .int a1].toArray below meth c H locs 0 0 (MQ below (Qi 20 (ceR cA q) D q r0 M0) [.ref (q 0), .int a1].toArray s 0 0 (AqG 20 q)) (F0 m 33 ls []) := by
    intro fu
    induction fu with
    | zero => intro b2 M res H locs ls h; exact absurd h (by simp [f_X12_playing_L33])
    | succ fu ih =>
      intro b2 M res H locs ls h hP hS hl K33_0
      rw [f_X12_playing_L33] at h
      refine lv_aload_n hx hb dX12_playing_33 rfl (lv_at hl 0 rfl) ?_
      refine lv_iload_n hx hb dX12_playing_34 rfl (lv_at hl 2 rfl) ?_
      obtain ⟨r22, M23, hc24, h⟩ := bnd_inv h
      refine gS_i (As := [.int b2]) X hP hS hl.1 (c_X12_levelAt l D cA q aK aV hq hc24) sf_X12_levelAt bw_2037 ss_X12_levelAt ⟨rfl, rfl⟩ ⟨Nat.le_of_ble_eq_true rfl, Nat.le_of_ble_eq_true rfl⟩ rfl rfl (Nat.le_of_ble_eq_true rfl) dX12_playing_35 (fun H locs hP hS => ?_)
      obtain ⟨_, M26, hc27, h⟩ := bnd_inv h
      refine gV_v (As := [.int r22]) X hP hS hl.1 (c_X12_restores l D cA q aK aV hq hc27) sf_X12_restores bw_1869 sv_X12_restores (rcR_12 sR_0) rfl ⟨rfl, rfl⟩ ⟨Nat.le_of_ble_eq_true rfl, Nat.le_of_ble_eq_true rfl⟩ rfl rfl (Nat.le_of_ble_eq_true rfl) dX12_playing_38 (fun H locs hP hS => ?_)
      refine lv_aload_n hx hb dX12_playing_41 rfl (lv_at hl 0 rfl) ?_
      refine gfR_12_32 X hP sR_0 bw_1355 dX12_playing_42 ?_
      refine lv_iload_n hx hb dX12_playing_45 rfl (lv_at hl 2 rfl) ?_
      refine lv_dup2_11 hx hb dX12_playing_46 rfl rfl ?_
      obtain ⟨g28, h⟩ := gd_inv h
      refine ldR_ia X hP sR_14 zR_14 g28 dX12_playing_47 ?_
      refine lv_iconst (v := 1) hx hb dX12_playing_48 (by decide) ?_
      refine lv_iadd hx hb dX12_playing_49 ?_
      obtain ⟨g29, h⟩ := gd_inv h
      obtain ⟨M30, eM30, h⟩ := lt_inv h
      refine stR_ia X hP hS sR_14 zR_14 g29 eM30 dX12_playing_50 (fun H locs hP hS => ?_)
      refine lv_aload_n hx hb dX12_playing_51 rfl (lv_at hl 0 rfl) ?_
      refine gfR_12_32 X hP sR_0 bw_1355 dX12_playing_52 ?_
      refine lv_iload_n hx hb dX12_playing_55 rfl (lv_at hl 2 rfl) ?_
      obtain ⟨g31, h⟩ := gd_inv h
      refine ldR_ia X hP sR_14 zR_14 g31 dX12_playing_56 ?_
      refine lv_aload_n hx hb dX12_playing_57 rfl (lv_at hl 0 rfl) ?_
      obtain ⟨r32, M33, hc34, h⟩ := bnd_inv h
      refine gV_i (As := []) X hP hS hl.1 (c_X12_deeds l D cA q aK aV hq hc34) sf_X12_deeds bw_2040 sv_X12_deeds (rcR_12 sR_0) rfl ⟨rfl, rfl⟩ ⟨Nat.le_of_ble_eq_true rfl, Nat.le_of_ble_eq_true rfl⟩ rfl rfl (Nat.le_of_ble_eq_true rfl) dX12_playing_58 (fun H locs hP hS => ?_)
      refine lv_icmp_le (tgt := 90) hx hb dX12_playing_61 (by decide) (fun c35 => ?_) (fun c35 => ?_)
      · rw [if_pos c35] at h
        refine lv_aload_n hx hb dX12_playing_90 rfl (lv_at hl 0 rfl) ?_
        refine lv_aload_n hx hb dX12_playing_91 rfl (lv_at hl 0 rfl) ?_
        refine gfR_12_32 X hP sR_0 bw_1355 dX12_playing_92 ?_
        refine lv_iload_n hx hb dX12_playing_95 rfl (lv_at hl 2 rfl) ?_
        obtain ⟨g36, h⟩ := gd_inv h
        refine ldR_ia X hP sR_14 zR_14 g36 dX12_playing_96 ?_
        obtain ⟨r37, M38, hc39, h⟩ := bnd_inv h
        refine gV_i (As := [.int (gI M33 14 b2.toNatClampNeg)]) X hP hS hl.1 (c_X12_doesDeed l D cA q aK aV hq hc39) sf_X12_doesDeed bw_2048 sv_X12_doesDeed (rcR_12 sR_0) rfl ⟨rfl, rfl⟩ ⟨Nat.le_of_ble_eq_true rfl, Nat.le_of_ble_eq_true rfl⟩ rfl rfl (Nat.le_of_ble_eq_true rfl) dX12_playing_97 (fun H locs hP hS => ?_)
        refine lv_if_ne (tgt := 106) hx hb dX12_playing_100 (by decide) (fun c40 => ?_) (fun c40 => ?_)
        · rw [if_neg c40] at h
          refine lv_iload_n hx hb dX12_playing_106 rfl (lv_at hl 2 rfl) ?_
          refine lv_iconst (v := 1) hx hb dX12_playing_107 (by decide) ?_
          refine lv_iadd hx hb dX12_playing_108 ?_
          refine lv_iload_n hx hb dX12_playing_109 rfl (lv_at hl 1 rfl) ?_
          refine lv_icmp_ne (tgt := 125) hx hb dX12_playing_110 (by decide) (fun c41 => ?_) (fun c41 => ?_)
          · rw [if_neg c41] at h
            obtain ⟨y42, ey42, h⟩ := lt_inv h
            refine lv_iinc (v := y42) (lv' := [(2, .int y42), (0, .ref (q 0)), (1, .int a1)]) hx hb dX12_playing_125 hl (k := 2) rfl (by rw [ey42]; rfl) (by decide) rfl (fun ls hl => ?_)
            refine lv_aload_n hx hb dX12_playing_128 rfl (lv_at hl 1 rfl) ?_
            refine lv_iload_n hx hb dX12_playing_129 rfl (lv_at hl 0 rfl) ?_
            obtain ⟨r43, M44, hc45, h⟩ := bnd_inv h
            refine gS_i (As := [.int y42]) X hP hS hl.1 (c_X12_levelAt l D cA q aK aV hq hc45) sf_X12_levelAt bw_2037 ss_X12_levelAt ⟨rfl, rfl⟩ ⟨Nat.le_of_ble_eq_true rfl, Nat.le_of_ble_eq_true rfl⟩ rfl rfl (Nat.le_of_ble_eq_true rfl) dX12_playing_130 (fun H locs hP hS => ?_)
            obtain ⟨_, M47, hc48, h⟩ := bnd_inv h
            refine gV_v (As := [.int r43]) X hP hS hl.1 (c_X12_keeps l D cA q aK aV hq hc48) sf_X12_keeps bw_1865 sv_X12_keeps (rcR_12 sR_0) rfl ⟨rfl, rfl⟩ ⟨Nat.le_of_ble_eq_true rfl, Nat.le_of_ble_eq_true rfl⟩ rfl rfl (Nat.le_of_ble_eq_true rfl) dX12_playing_133 (fun H locs hP hS => ?_)
            refine lv_aload_n hx hb dX12_playing_136 rfl (lv_at hl 1 rfl) ?_
            refine gfR_12_32 X hP sR_0 bw_1355 dX12_playing_137 ?_
            refine lv_iload_n hx hb dX12_playing_140 rfl (lv_at hl 0 rfl) ?_
            refine lv_iconst (v := -1) hx hb dX12_playing_141 (by decide) ?_
            obtain ⟨g49, h⟩ := gd_inv h
            obtain ⟨M50, eM50, h⟩ := lt_inv h
            refine stR_ia X hP hS sR_14 zR_14 g49 eM50 dX12_playing_142 (fun H locs hP hS => ?_)
            refine lv_aload_n hx hb dX12_playing_143 rfl (lv_at hl 1 rfl) ?_
            refine gfR_12_34 X hP sR_0 bw_1357 dX12_playing_144 ?_
            refine lv_iload_n hx hb dX12_playing_147 rfl (lv_at hl 0 rfl) ?_
            refine lv_iconst (v := -1) hx hb dX12_playing_148 (by decide) ?_
            obtain ⟨g51, h⟩ := gd_inv h
            obtain ⟨M52, eM52, h⟩ := lt_inv h
            refine stR_ia X hP hS sR_16 zR_16 g51 eM52 dX12_playing_149 (fun H locs hP hS => ?_)
            refine lv_goto (tgt := 33) hx hb dX12_playing_150 (by decide) ?_
            exact ih _ _ res _ _ _ h hP hS (lv_sub hl [1, 2, 0] rfl) K33_0
          · rw [if_pos c41] at h
            refine lv_aload_n hx hb dX12_playing_113 rfl (lv_at hl 0 rfl) ?_
            refine lv_iload_n hx hb dX12_playing_114 rfl (lv_at hl 2 rfl) ?_
            refine lv_aload_n hx hb dX12_playing_115 rfl (lv_at hl 0 rfl) ?_
            obtain ⟨r53, M54, hc55, h⟩ := bnd_inv h
            refine gV_i (As := []) X hP hS hl.1 (c_X12_standing l D cA q aK aV hq hc55) sf_X12_standing bw_2033 sv_X12_standing (rcR_12 sR_0) rfl ⟨rfl, rfl⟩ ⟨Nat.le_of_ble_eq_true rfl, Nat.le_of_ble_eq_true rfl⟩ rfl rfl (Nat.le_of_ble_eq_true rfl) dX12_playing_116 (fun H locs hP hS => ?_)
            obtain ⟨_, M57, hc58, h⟩ := bnd_inv h
            refine gV_v (As := [.int b2, .int r53]) X hP hS hl.1 (c_X12_settles l D cA q aK aV hq hc58) sf_X12_settles bw_2044 sv_X12_settles (rcR_12 sR_0) rfl ⟨rfl, rfl⟩ ⟨Nat.le_of_ble_eq_true rfl, Nat.le_of_ble_eq_true rfl⟩ rfl rfl (Nat.le_of_ble_eq_true rfl) dX12_playing_119 (fun H locs hP hS => ?_)
            refine lv_goto (tgt := 33) hx hb dX12_playing_122 (by decide) ?_
            exact ih _ _ res _ _ _ h hP hS (lv_sub hl [0, 1, 2] rfl) K33_0
        · rw [if_pos c40] at h
          refine lv_goto (tgt := 33) hx hb dX12_playing_103 (by decide) ?_
          exact ih _ _ res _ _ _ h hP hS (lv_sub hl [0, 1, 2] rfl) K33_0
      · rw [if_neg c35] at h
        refine lv_iload_n hx hb dX12_playing_64 rfl (lv_at hl 2 rfl) ?_
        refine lv_if_ne (tgt := 71) hx hb dX12_playing_65 (by decide) (fun c59 => ?_) (fun c59 => ?_)
        · rw [if_neg c59] at h
          obtain ⟨y60, ey60, h⟩ := lt_inv h
          refine lv_iinc (v := y60) (lv' := [(2, .int y60), (0, .ref (q 0)), (1, .int a1)]) hx hb dX12_playing_71 hl (k := 2) rfl (by rw [ey60]; rfl) (by decide) rfl (fun ls hl => ?_)
          refine lv_aload_n hx hb dX12_playing_74 rfl (lv_at hl 1 rfl) ?_
          refine lv_iload_n hx hb dX12_playing_75 rfl (lv_at hl 0 rfl) ?_
          refine lv_aload_n hx hb dX12_playing_76 rfl (lv_at hl 1 rfl) ?_
          refine gfR_12_33 X hP sR_0 bw_1356 dX12_playing_77 ?_
          refine lv_iload_n hx hb dX12_playing_80 rfl (lv_at hl 0 rfl) ?_
          refine lv_iconst (v := 1) hx hb dX12_playing_81 (by decide) ?_
          refine lv_iadd hx hb dX12_playing_82 ?_
          obtain ⟨g61, h⟩ := gd_inv h
          refine ldR_ia X hP sR_15 zR_15 g61 dX12_playing_83 ?_
          obtain ⟨_, M63, hc64, h⟩ := bnd_inv h
          refine gV_v (As := [.int y60, .int (gI M33 15 ((y60 + (1 : Int32))).toNatClampNeg)]) X hP hS hl.1 (c_X12_settles l D cA q aK aV hq hc64) sf_X12_settles bw_2044 sv_X12_settles (rcR_12 sR_0) rfl ⟨rfl, rfl⟩ ⟨Nat.le_of_ble_eq_true rfl, Nat.le_of_ble_eq_true rfl⟩ rfl rfl (Nat.le_of_ble_eq_true rfl) dX12_playing_84 (fun H locs hP hS => ?_)
          refine lv_goto (tgt := 33) hx hb dX12_playing_87 (by decide) ?_
          exact ih _ _ res _ _ _ h hP hS (lv_sub hl [1, 2, 0] rfl) K33_0
        · rw [if_pos c59] at h
          cases h
          exact K33_0 _ _ _ hP hS (lv_sub hl [0] rfl)
  refine lv_iload_n hx hb dX12_playing_0 rfl (lv_at hl 1 rfl) ?_
  refine lv_if_ne (tgt := 9) hx hb dX12_playing_1 (by decide) (fun c1 => ?_) (fun c1 => ?_)
  · rw [if_neg c1] at h
    refine lv_iconst (v := 0) hx hb dX12_playing_9 (by decide) ?_
    refine lv_istore_n (lv' := [(2, .int (0 : Int32)), (0, .ref (q 0)), (1, .int a1)]) hx hb dX12_playing_10 rfl hl (by decide) rfl (fun ls hl => ?_)
    refine lv_aload_n hx hb dX12_playing_11 rfl (lv_at hl 1 rfl) ?_
    refine lv_iconst (v := 0) hx hb dX12_playing_12 (by decide) ?_
    obtain ⟨r2, M3, hc4, h⟩ := bnd_inv h
    refine gS_i (As := [.int (0 : Int32)]) X hP hS hl.1 (c_X12_levelAt l D cA q aK aV hq hc4) sf_X12_levelAt bw_2037 ss_X12_levelAt ⟨rfl, rfl⟩ ⟨Nat.le_of_ble_eq_true rfl, Nat.le_of_ble_eq_true rfl⟩ rfl rfl (Nat.le_of_ble_eq_true rfl) dX12_playing_13 (fun H locs hP hS => ?_)
    obtain ⟨_, M6, hc7, h⟩ := bnd_inv h
    refine gV_v (As := [.int r2]) X hP hS hl.1 (c_X12_keeps l D cA q aK aV hq hc7) sf_X12_keeps bw_1865 sv_X12_keeps (rcR_12 sR_0) rfl ⟨rfl, rfl⟩ ⟨Nat.le_of_ble_eq_true rfl, Nat.le_of_ble_eq_true rfl⟩ rfl rfl (Nat.le_of_ble_eq_true rfl) dX12_playing_16 (fun H locs hP hS => ?_)
    refine lv_aload_n hx hb dX12_playing_19 rfl (lv_at hl 1 rfl) ?_
    refine gfR_12_32 X hP sR_0 bw_1355 dX12_playing_20 ?_
    refine lv_iconst (v := 0) hx hb dX12_playing_23 (by decide) ?_
    refine lv_iconst (v := -1) hx hb dX12_playing_24 (by decide) ?_
    obtain ⟨M8, eM8, h⟩ := lt_inv h
    refine stR_ia X hP hS sR_14 zR_14 (by decide) eM8 dX12_playing_25 (fun H locs hP hS => ?_)
    refine lv_aload_n hx hb dX12_playing_26 rfl (lv_at hl 1 rfl) ?_
    refine gfR_12_34 X hP sR_0 bw_1357 dX12_playing_27 ?_
    refine lv_iconst (v := 0) hx hb dX12_playing_30 (by decide) ?_
    refine lv_iconst (v := -1) hx hb dX12_playing_31 (by decide) ?_
    obtain ⟨M9, eM9, h⟩ := lt_inv h
    refine stR_ia X hP hS sR_16 zR_16 (by decide) eM9 dX12_playing_32 (fun H locs hP hS => ?_)
    obtain ⟨s10, M11, hc12, h⟩ := bnd_inv h
    try dsimp only at h
    refine hL33  fz _ _ _ _ _ _ hc12 hP hS (lv_sub hl [1, 2, 0] rfl) (fun H locs ls hP hS hl => ?_)
    have hl : lv_has ls 3 [(0, .ref (q 0))] := hl
    refine lv_goto (tgt := 153) hx hb dX12_playing_68 (by decide) ?_
    refine lv_aload_n hx hb dX12_playing_153 rfl (lv_at hl 0 rfl) ?_
    refine lv_iconst (v := 0) hx hb dX12_playing_154 (by decide) ?_
    obtain ⟨r13, M14, hc15, h⟩ := bnd_inv h
    refine gS_i (As := [.int (0 : Int32)]) X hP hS hl.1 (c_X12_levelAt l D cA q aK aV hq hc15) sf_X12_levelAt bw_2037 ss_X12_levelAt ⟨rfl, rfl⟩ ⟨Nat.le_of_ble_eq_true rfl, Nat.le_of_ble_eq_true rfl⟩ rfl rfl (Nat.le_of_ble_eq_true rfl) dX12_playing_155 (fun H locs hP hS => ?_)
    obtain ⟨_, M17, hc18, h⟩ := bnd_inv h
    refine gV_v (As := [.int r13]) X hP hS hl.1 (c_X12_restores l D cA q aK aV hq hc18) sf_X12_restores bw_1869 sv_X12_restores (rcR_12 sR_0) rfl ⟨rfl, rfl⟩ ⟨Nat.le_of_ble_eq_true rfl, Nat.le_of_ble_eq_true rfl⟩ rfl rfl (Nat.le_of_ble_eq_true rfl) dX12_playing_158 (fun H locs hP hS => ?_)
    refine lv_aload_n hx hb dX12_playing_161 rfl (lv_at hl 0 rfl) ?_
    refine gfR_12_33 X hP sR_0 bw_1356 dX12_playing_162 ?_
    refine lv_iconst (v := 0) hx hb dX12_playing_165 (by decide) ?_
    refine ldR_ia X hP sR_15 zR_15 (by decide) dX12_playing_166 ?_
    refine topE (y := (gI M17 15 0)) rfl ?_
    exact end_i X hr hk hP hS h dX12_playing_167
  · rw [if_pos c1] at h
    refine lv_aload_n hx hb dX12_playing_4 rfl (lv_at hl 0 rfl) ?_
    obtain ⟨r19, M20, hc21, h⟩ := bnd_inv h
    refine gV_i (As := []) X hP hS hl.1 (c_X12_standing l D cA q aK aV hq hc21) sf_X12_standing bw_2033 sv_X12_standing (rcR_12 sR_0) rfl ⟨rfl, rfl⟩ ⟨Nat.le_of_ble_eq_true rfl, Nat.le_of_ble_eq_true rfl⟩ rfl rfl (Nat.le_of_ble_eq_true rfl) dX12_playing_5 (fun H locs hP hS => ?_)
    exact end_i X hr hk hP hS h dX12_playing_8
theorem dX12_game_0 : decode cX12_game 0 = .ok (.iload_n 1, 1) := by decide +kernel
theorem dX12_game_1 : decode cX12_game 1 = .ok (.i2l, 1) := by decide +kernel
theorem dX12_game_2 : decode cX12_game 2 = .ok (.lconst 0, 1) := by decide +kernel
theorem dX12_game_3 : decode cX12_game 3 = .ok (.ldc2_w 473, 3) := by decide +kernel
theorem dX12_game_6 : decode cX12_game 6 = .ok (.invokestatic 337, 3) := by decide +kernel
theorem dX12_game_9 : decode cX12_game 9 = .ok (.ifCond .eq 15, 3) := by decide +kernel
theorem dX12_game_12 : decode cX12_game 12 = .ok (.aload_n 0, 1) := by decide +kernel
theorem dX12_game_13 : decode cX12_game 13 = .ok (.aload_n 0, 1) := by decide +kernel
theorem dX12_game_14 : decode cX12_game 14 = .ok (.iload_n 1, 1) := by decide +kernel
theorem dX12_game_15 : decode cX12_game 15 = .ok (.invokevirtual 475, 3) := by decide +kernel
theorem dX12_game_18 : decode cX12_game 18 = .ok (.invokevirtual 95, 3) := by decide +kernel
theorem dX12_game_21 : decode cX12_game 21 = .ok (.goto 8, 3) := by decide +kernel
theorem dX12_game_24 : decode cX12_game 24 = .ok (.aload_n 0, 1) := by decide +kernel
theorem dX12_game_25 : decode cX12_game 25 = .ok (.iconst 1, 1) := by decide +kernel
theorem dX12_game_26 : decode cX12_game 26 = .ok (.invokevirtual 91, 3) := by decide +kernel
theorem dX12_game_29 : decode cX12_game 29 = .ok (.ireturn, 1) := by decide +kernel
set_option maxRecDepth 100000 in
set_option maxHeartbeats 8000000 in
theorem c_X12_game (l : Launch) (D : va_G) (cA : Nat → ClassId) (q aK aV : Nat → Nat) (hq : injG 20 q) {a1 : Int32} {M M0 : Mem} {r0 : Int32} (h : f_X12_game a1 M = some (r0, M0)) : Met l yX12_game (.code yX12_game cX12_game 2 (some .int) :: BW) ({ frames := 10, cells := 0, slots := 0, locals := 219 } : Room) (va_Pc [.ref (q 0), .int a1] (CB 20 (ceR cA q) D cA q aK aV M)) (Qi 20 (ceR cA q) D q r0 M0) 0 0 (AqG 20 q) := by
  refine gMet RX12 (by decide +kernel) rfl hq (Nat.le_of_ble_eq_true rfl) ?_
  intro p e s m below meth c ls X hr hk hP hS hl
  have hx := X.1
  have hb := X.2.1
  have hl : lv_has ls 2 [(0, .ref (q 0)), (1, .int a1)] := hl
  rw [f_X12_game] at h
  refine lv_iload_n hx hb dX12_game_0 rfl (lv_at hl 1 rfl) ?_
  refine lv_i2l hx hb dX12_game_1 rfl ?_
  refine lv_lconst (v := 0) hx hb dX12_game_2 (by decide) ?_
  refine lv_ldc2 hx hb X.2.2.2.1 (X.2.2.2.2.1 _ bw_2028) dX12_game_3 ?_
  obtain ⟨r1, M2, hc3, h⟩ := bnd_inv h
  refine gS_i (As := [.long (a1.toInt64), .long (0 : Int64), .long (3 : Int64)]) X hP hS hl.1 (c_X12_isFrom l D cA q aK aV hq hc3) sf_X12_isFrom bw_1767 ss_X12_isFrom ⟨rfl, rfl⟩ ⟨Nat.le_of_ble_eq_true rfl, Nat.le_of_ble_eq_true rfl⟩ rfl rfl (Nat.le_of_ble_eq_true rfl) dX12_game_6 (fun H locs hP hS => ?_)
  refine lv_if_eq (tgt := 24) hx hb dX12_game_9 (by decide) (fun c4 => ?_) (fun c4 => ?_)
  · rw [if_pos c4] at h
    refine lv_aload_n hx hb dX12_game_24 rfl (lv_at hl 0 rfl) ?_
    refine lv_iconst (v := 1) hx hb dX12_game_25 (by decide) ?_
    obtain ⟨r5, M6, hc7, h⟩ := bnd_inv h
    refine gV_i (As := [.int (1 : Int32)]) X hP hS hl.1 (c_X12_refuse l D cA q aK aV hq hc7) sf_X12_refuse bw_1530 sv_X12_refuse (rcR_12 sR_0) rfl ⟨rfl, rfl⟩ ⟨Nat.le_of_ble_eq_true rfl, Nat.le_of_ble_eq_true rfl⟩ rfl rfl (Nat.le_of_ble_eq_true rfl) dX12_game_26 (fun H locs hP hS => ?_)
    exact end_i X hr hk hP hS h dX12_game_29
  · rw [if_neg c4] at h
    refine lv_aload_n hx hb dX12_game_12 rfl (lv_at hl 0 rfl) ?_
    refine lv_aload_n hx hb dX12_game_13 rfl (lv_at hl 0 rfl) ?_
    refine lv_iload_n hx hb dX12_game_14 rfl (lv_at hl 1 rfl) ?_
    obtain ⟨r8, M9, hc10, h⟩ := bnd_inv h
    refine gV_i (As := [.int a1]) X hP hS hl.1 (c_X12_playing l D cA q aK aV hq hc10) sf_X12_playing bw_2029 sv_X12_playing (rcR_12 sR_0) rfl ⟨rfl, rfl⟩ ⟨Nat.le_of_ble_eq_true rfl, Nat.le_of_ble_eq_true rfl⟩ rfl rfl (Nat.le_of_ble_eq_true rfl) dX12_game_15 (fun H locs hP hS => ?_)
    obtain ⟨r11, M12, hc13, h⟩ := bnd_inv h
    refine gV_i (As := [.int r8]) X hP hS hl.1 (c_X12_gives l D cA q aK aV hq hc13) sf_X12_gives bw_1639 sv_X12_gives (rcR_12 sR_0) rfl ⟨rfl, rfl⟩ ⟨Nat.le_of_ble_eq_true rfl, Nat.le_of_ble_eq_true rfl⟩ rfl rfl (Nat.le_of_ble_eq_true rfl) dX12_game_18 (fun H locs hP hS => ?_)
    refine lv_goto (tgt := 29) hx hb dX12_game_21 (by decide) ?_
    exact end_i X hr hk hP hS h dX12_game_29
theorem dX12_moveOf_0 : decode cX12_moveOf 0 = .ok (.iload_n 1, 1) := by decide +kernel
theorem dX12_moveOf_1 : decode cX12_moveOf 1 = .ok (.i2l, 1) := by decide +kernel
theorem dX12_moveOf_2 : decode cX12_moveOf 2 = .ok (.lconst 1, 1) := by decide +kernel
theorem dX12_moveOf_3 : decode cX12_moveOf 3 = .ok (.ldc2_w 473, 3) := by decide +kernel
theorem dX12_moveOf_6 : decode cX12_moveOf 6 = .ok (.invokestatic 337, 3) := by decide +kernel
theorem dX12_moveOf_9 : decode cX12_moveOf 9 = .ok (.ifCond .eq 13, 3) := by decide +kernel
theorem dX12_moveOf_12 : decode cX12_moveOf 12 = .ok (.iload_n 2, 1) := by decide +kernel
theorem dX12_moveOf_13 : decode cX12_moveOf 13 = .ok (.i2l, 1) := by decide +kernel
theorem dX12_moveOf_14 : decode cX12_moveOf 14 = .ok (.lconst 0, 1) := by decide +kernel
theorem dX12_moveOf_15 : decode cX12_moveOf 15 = .ok (.lconst 1, 1) := by decide +kernel
theorem dX12_moveOf_16 : decode cX12_moveOf 16 = .ok (.invokestatic 337, 3) := by decide +kernel
theorem dX12_moveOf_19 : decode cX12_moveOf 19 = .ok (.ifCond .ne 9, 3) := by decide +kernel
theorem dX12_moveOf_22 : decode cX12_moveOf 22 = .ok (.aload_n 0, 1) := by decide +kernel
theorem dX12_moveOf_23 : decode cX12_moveOf 23 = .ok (.iconst 1, 1) := by decide +kernel
theorem dX12_moveOf_24 : decode cX12_moveOf 24 = .ok (.invokevirtual 91, 3) := by decide +kernel
theorem dX12_moveOf_27 : decode cX12_moveOf 27 = .ok (.ireturn, 1) := by decide +kernel
theorem dX12_moveOf_28 : decode cX12_moveOf 28 = .ok (.aload_n 0, 1) := by decide +kernel
theorem dX12_moveOf_29 : decode cX12_moveOf 29 = .ok (.iload_n 1, 1) := by decide +kernel
theorem dX12_moveOf_30 : decode cX12_moveOf 30 = .ok (.invokevirtual 475, 3) := by decide +kernel
theorem dX12_moveOf_33 : decode cX12_moveOf 33 = .ok (.pop, 1) := by decide +kernel
theorem dX12_moveOf_34 : decode cX12_moveOf 34 = .ok (.aload_n 0, 1) := by decide +kernel
theorem dX12_moveOf_35 : decode cX12_moveOf 35 = .ok (.getfield 69, 3) := by decide +kernel
theorem dX12_moveOf_38 : decode cX12_moveOf 38 = .ok (.iconst 0, 1) := by decide +kernel
theorem dX12_moveOf_39 : decode cX12_moveOf 39 = .ok (.iaload, 1) := by decide +kernel
theorem dX12_moveOf_40 : decode cX12_moveOf 40 = .ok (.istore_n 3, 1) := by decide +kernel
theorem dX12_moveOf_41 : decode cX12_moveOf 41 = .ok (.iload_n 3, 1) := by decide +kernel
theorem dX12_moveOf_42 : decode cX12_moveOf 42 = .ok (.aload_n 0, 1) := by decide +kernel
theorem dX12_moveOf_43 : decode cX12_moveOf 43 = .ok (.invokevirtual 458, 3) := by decide +kernel
theorem dX12_moveOf_46 : decode cX12_moveOf 46 = .ok (.if_icmp .ne 10, 3) := by decide +kernel
theorem dX12_moveOf_49 : decode cX12_moveOf 49 = .ok (.aload_n 0, 1) := by decide +kernel
theorem dX12_moveOf_50 : decode cX12_moveOf 50 = .ok (.bipush 6, 2) := by decide +kernel
theorem dX12_moveOf_52 : decode cX12_moveOf 52 = .ok (.invokevirtual 91, 3) := by decide +kernel
theorem dX12_moveOf_55 : decode cX12_moveOf 55 = .ok (.ireturn, 1) := by decide +kernel
theorem dX12_moveOf_56 : decode cX12_moveOf 56 = .ok (.aload_n 0, 1) := by decide +kernel
theorem dX12_moveOf_57 : decode cX12_moveOf 57 = .ok (.iload_n 2, 1) := by decide +kernel
theorem dX12_moveOf_58 : decode cX12_moveOf 58 = .ok (.ifCond .ne 16, 3) := by decide +kernel
theorem dX12_moveOf_61 : decode cX12_moveOf 61 = .ok (.iload_n 3, 1) := by decide +kernel
theorem dX12_moveOf_62 : decode cX12_moveOf 62 = .ok (.iconst 1, 1) := by decide +kernel
theorem dX12_moveOf_63 : decode cX12_moveOf 63 = .ok (.aload_n 0, 1) := by decide +kernel
theorem dX12_moveOf_64 : decode cX12_moveOf 64 = .ok (.getfield 7, 3) := by decide +kernel
theorem dX12_moveOf_67 : decode cX12_moveOf 67 = .ok (.iconst 0, 1) := by decide +kernel
theorem dX12_moveOf_68 : decode cX12_moveOf 68 = .ok (.iaload, 1) := by decide +kernel
theorem dX12_moveOf_69 : decode cX12_moveOf 69 = .ok (.iadd, 1) := by decide +kernel
theorem dX12_moveOf_70 : decode cX12_moveOf 70 = .ok (.idiv, 1) := by decide +kernel
theorem dX12_moveOf_71 : decode cX12_moveOf 71 = .ok (.goto 13, 3) := by decide +kernel
theorem dX12_moveOf_74 : decode cX12_moveOf 74 = .ok (.iload_n 3, 1) := by decide +kernel
theorem dX12_moveOf_75 : decode cX12_moveOf 75 = .ok (.iconst 1, 1) := by decide +kernel
theorem dX12_moveOf_76 : decode cX12_moveOf 76 = .ok (.aload_n 0, 1) := by decide +kernel
theorem dX12_moveOf_77 : decode cX12_moveOf 77 = .ok (.getfield 7, 3) := by decide +kernel
theorem dX12_moveOf_80 : decode cX12_moveOf 80 = .ok (.iconst 0, 1) := by decide +kernel
theorem dX12_moveOf_81 : decode cX12_moveOf 81 = .ok (.iaload, 1) := by decide +kernel
theorem dX12_moveOf_82 : decode cX12_moveOf 82 = .ok (.iadd, 1) := by decide +kernel
theorem dX12_moveOf_83 : decode cX12_moveOf 83 = .ok (.irem, 1) := by decide +kernel
theorem dX12_moveOf_84 : decode cX12_moveOf 84 = .ok (.invokevirtual 95, 3) := by decide +kernel
theorem dX12_moveOf_87 : decode cX12_moveOf 87 = .ok (.ireturn, 1) := by decide +kernel
set_option maxRecDepth 100000 in
set_option maxHeartbeats 8000000 in
theorem c_X12_moveOf (l : Launch) (D : va_G) (cA : Nat → ClassId) (q aK aV : Nat → Nat) (hq : injG 20 q) {a1 : Int32} {a2 : Int32} {M M0 : Mem} {r0 : Int32} (h : f_X12_moveOf a1 a2 M = some (r0, M0)) : Met l yX12_moveOf (.code yX12_moveOf cX12_moveOf 4 (some .int) :: BW) ({ frames := 10, cells := 0, slots := 0, locals := 219 } : Room) (va_Pc [.ref (q 0), .int a1, .int a2] (CB 20 (ceR cA q) D cA q aK aV M)) (Qi 20 (ceR cA q) D q r0 M0) 0 0 (AqG 20 q) := by
  refine gMet RX12 (by decide +kernel) rfl hq (Nat.le_of_ble_eq_true rfl) ?_
  intro p e s m below meth c ls X hr hk hP hS hl
  have hx := X.1
  have hb := X.2.1
  have hl : lv_has ls 4 [(0, .ref (q 0)), (1, .int a1), (2, .int a2)] := hl
  rw [f_X12_moveOf] at h
  refine lv_iload_n hx hb dX12_moveOf_0 rfl (lv_at hl 1 rfl) ?_
  refine lv_i2l hx hb dX12_moveOf_1 rfl ?_
  refine lv_lconst (v := 1) hx hb dX12_moveOf_2 (by decide) ?_
  refine lv_ldc2 hx hb X.2.2.2.1 (X.2.2.2.2.1 _ bw_2028) dX12_moveOf_3 ?_
  obtain ⟨r1, M2, hc3, h⟩ := bnd_inv h
  refine gS_i (As := [.long (a1.toInt64), .long (1 : Int64), .long (3 : Int64)]) X hP hS hl.1 (c_X12_isFrom l D cA q aK aV hq hc3) sf_X12_isFrom bw_1767 ss_X12_isFrom ⟨rfl, rfl⟩ ⟨Nat.le_of_ble_eq_true rfl, Nat.le_of_ble_eq_true rfl⟩ rfl rfl (Nat.le_of_ble_eq_true rfl) dX12_moveOf_6 (fun H locs hP hS => ?_)
  refine lv_if_eq (tgt := 22) hx hb dX12_moveOf_9 (by decide) (fun c4 => ?_) (fun c4 => ?_)
  · rw [if_pos c4] at h
    refine lv_aload_n hx hb dX12_moveOf_22 rfl (lv_at hl 0 rfl) ?_
    refine lv_iconst (v := 1) hx hb dX12_moveOf_23 (by decide) ?_
    obtain ⟨r5, M6, hc7, h⟩ := bnd_inv h
    refine gV_i (As := [.int (1 : Int32)]) X hP hS hl.1 (c_X12_refuse l D cA q aK aV hq hc7) sf_X12_refuse bw_1530 sv_X12_refuse (rcR_12 sR_0) rfl ⟨rfl, rfl⟩ ⟨Nat.le_of_ble_eq_true rfl, Nat.le_of_ble_eq_true rfl⟩ rfl rfl (Nat.le_of_ble_eq_true rfl) dX12_moveOf_24 (fun H locs hP hS => ?_)
    exact end_i X hr hk hP hS h dX12_moveOf_27
  · rw [if_neg c4] at h
    refine lv_iload_n hx hb dX12_moveOf_12 rfl (lv_at hl 2 rfl) ?_
    refine lv_i2l hx hb dX12_moveOf_13 rfl ?_
    refine lv_lconst (v := 0) hx hb dX12_moveOf_14 (by decide) ?_
    refine lv_lconst (v := 1) hx hb dX12_moveOf_15 (by decide) ?_
    obtain ⟨r8, M9, hc10, h⟩ := bnd_inv h
    refine gS_i (As := [.long (a2.toInt64), .long (0 : Int64), .long (1 : Int64)]) X hP hS hl.1 (c_X12_isFrom l D cA q aK aV hq hc10) sf_X12_isFrom bw_1767 ss_X12_isFrom ⟨rfl, rfl⟩ ⟨Nat.le_of_ble_eq_true rfl, Nat.le_of_ble_eq_true rfl⟩ rfl rfl (Nat.le_of_ble_eq_true rfl) dX12_moveOf_16 (fun H locs hP hS => ?_)
    refine lv_if_ne (tgt := 28) hx hb dX12_moveOf_19 (by decide) (fun c11 => ?_) (fun c11 => ?_)
    · rw [if_neg c11] at h
      refine lv_aload_n hx hb dX12_moveOf_28 rfl (lv_at hl 0 rfl) ?_
      refine lv_iload_n hx hb dX12_moveOf_29 rfl (lv_at hl 1 rfl) ?_
      obtain ⟨r12, M13, hc14, h⟩ := bnd_inv h
      refine gV_i (As := [.int a1]) X hP hS hl.1 (c_X12_playing l D cA q aK aV hq hc14) sf_X12_playing bw_2029 sv_X12_playing (rcR_12 sR_0) rfl ⟨rfl, rfl⟩ ⟨Nat.le_of_ble_eq_true rfl, Nat.le_of_ble_eq_true rfl⟩ rfl rfl (Nat.le_of_ble_eq_true rfl) dX12_moveOf_30 (fun H locs hP hS => ?_)
      refine lv_pop hx hb dX12_moveOf_33 rfl ?_
      refine lv_aload_n hx hb dX12_moveOf_34 rfl (lv_at hl 0 rfl) ?_
      refine gfR_12_34 X hP sR_0 bw_1357 dX12_moveOf_35 ?_
      refine lv_iconst (v := 0) hx hb dX12_moveOf_38 (by decide) ?_
      refine ldR_ia X hP sR_16 zR_16 (by decide) dX12_moveOf_39 ?_
      refine topE (y := (gI M13 16 0)) rfl ?_
      obtain ⟨y15, ey15, h⟩ := lt_inv h
      refine topE ey15 ?_
      refine lv_istore_n (lv' := [(3, .int y15), (0, .ref (q 0)), (1, .int a1), (2, .int a2)]) hx hb dX12_moveOf_40 rfl hl (by decide) rfl (fun ls hl => ?_)
      refine lv_iload_n hx hb dX12_moveOf_41 rfl (lv_at hl 0 rfl) ?_
      refine lv_aload_n hx hb dX12_moveOf_42 rfl (lv_at hl 1 rfl) ?_
      obtain ⟨r16, M17, hc18, h⟩ := bnd_inv h
      refine gV_i (As := []) X hP hS hl.1 (c_X12_deeds l D cA q aK aV hq hc18) sf_X12_deeds bw_2040 sv_X12_deeds (rcR_12 sR_0) rfl ⟨rfl, rfl⟩ ⟨Nat.le_of_ble_eq_true rfl, Nat.le_of_ble_eq_true rfl⟩ rfl rfl (Nat.le_of_ble_eq_true rfl) dX12_moveOf_43 (fun H locs hP hS => ?_)
      refine lv_icmp_ne (tgt := 56) hx hb dX12_moveOf_46 (by decide) (fun c19 => ?_) (fun c19 => ?_)
      · rw [if_neg c19] at h
        refine lv_aload_n hx hb dX12_moveOf_56 rfl (lv_at hl 1 rfl) ?_
        refine lv_iload_n hx hb dX12_moveOf_57 rfl (lv_at hl 3 rfl) ?_
        refine lv_if_ne (tgt := 74) hx hb dX12_moveOf_58 (by decide) (fun c20 => ?_) (fun c20 => ?_)
        · rw [if_neg c20] at h
          refine lv_iload_n hx hb dX12_moveOf_74 rfl (lv_at hl 0 rfl) ?_
          refine lv_iconst (v := 1) hx hb dX12_moveOf_75 (by decide) ?_
          refine lv_aload_n hx hb dX12_moveOf_76 rfl (lv_at hl 1 rfl) ?_
          refine gfR_12_0 X hP sR_0 bw_1323 dX12_moveOf_77 ?_
          refine lv_iconst (v := 0) hx hb dX12_moveOf_80 (by decide) ?_
          refine ldR_ia X hP sR_1 zR_1 (by decide) dX12_moveOf_81 ?_
          refine topE (y := (gI M17 1 0)) rfl ?_
          refine lv_iadd hx hb dX12_moveOf_82 ?_
          obtain ⟨g21, h⟩ := gd_inv h
          refine lv_irem hx hb dX12_moveOf_83 g21 ?_
          obtain ⟨r22, M23, hc24, h⟩ := bnd_inv h
          refine gV_i (As := [.int (y15 - y15 / ((1 : Int32) + (gI M17 1 0)) * ((1 : Int32) + (gI M17 1 0)))]) X hP hS hl.1 (c_X12_gives l D cA q aK aV hq hc24) sf_X12_gives bw_1639 sv_X12_gives (rcR_12 sR_0) rfl ⟨rfl, rfl⟩ ⟨Nat.le_of_ble_eq_true rfl, Nat.le_of_ble_eq_true rfl⟩ rfl rfl (Nat.le_of_ble_eq_true rfl) dX12_moveOf_84 (fun H locs hP hS => ?_)
          exact end_i X hr hk hP hS h dX12_moveOf_87
        · rw [if_pos c20] at h
          refine lv_iload_n hx hb dX12_moveOf_61 rfl (lv_at hl 0 rfl) ?_
          refine lv_iconst (v := 1) hx hb dX12_moveOf_62 (by decide) ?_
          refine lv_aload_n hx hb dX12_moveOf_63 rfl (lv_at hl 1 rfl) ?_
          refine gfR_12_0 X hP sR_0 bw_1323 dX12_moveOf_64 ?_
          refine lv_iconst (v := 0) hx hb dX12_moveOf_67 (by decide) ?_
          refine ldR_ia X hP sR_1 zR_1 (by decide) dX12_moveOf_68 ?_
          refine topE (y := (gI M17 1 0)) rfl ?_
          refine lv_iadd hx hb dX12_moveOf_69 ?_
          obtain ⟨g25, h⟩ := gd_inv h
          refine lv_idiv hx hb dX12_moveOf_70 g25 ?_
          refine lv_goto (tgt := 84) hx hb dX12_moveOf_71 (by decide) ?_
          obtain ⟨r26, M27, hc28, h⟩ := bnd_inv h
          refine gV_i (As := [.int (y15 / ((1 : Int32) + (gI M17 1 0)))]) X hP hS hl.1 (c_X12_gives l D cA q aK aV hq hc28) sf_X12_gives bw_1639 sv_X12_gives (rcR_12 sR_0) rfl ⟨rfl, rfl⟩ ⟨Nat.le_of_ble_eq_true rfl, Nat.le_of_ble_eq_true rfl⟩ rfl rfl (Nat.le_of_ble_eq_true rfl) dX12_moveOf_84 (fun H locs hP hS => ?_)
          exact end_i X hr hk hP hS h dX12_moveOf_87
      · rw [if_pos c19] at h
        refine lv_aload_n hx hb dX12_moveOf_49 rfl (lv_at hl 1 rfl) ?_
        refine lv_bipush (v := 6) hx hb dX12_moveOf_50 (by decide) ?_
        obtain ⟨r29, M30, hc31, h⟩ := bnd_inv h
        refine gV_i (As := [.int (6 : Int32)]) X hP hS hl.1 (c_X12_refuse l D cA q aK aV hq hc31) sf_X12_refuse bw_1530 sv_X12_refuse (rcR_12 sR_0) rfl ⟨rfl, rfl⟩ ⟨Nat.le_of_ble_eq_true rfl, Nat.le_of_ble_eq_true rfl⟩ rfl rfl (Nat.le_of_ble_eq_true rfl) dX12_moveOf_52 (fun H locs hP hS => ?_)
        exact end_i X hr hk hP hS h dX12_moveOf_55
    · rw [if_pos c11] at h
      refine lv_aload_n hx hb dX12_moveOf_22 rfl (lv_at hl 0 rfl) ?_
      refine lv_iconst (v := 1) hx hb dX12_moveOf_23 (by decide) ?_
      obtain ⟨r32, M33, hc34, h⟩ := bnd_inv h
      refine gV_i (As := [.int (1 : Int32)]) X hP hS hl.1 (c_X12_refuse l D cA q aK aV hq hc34) sf_X12_refuse bw_1530 sv_X12_refuse (rcR_12 sR_0) rfl ⟨rfl, rfl⟩ ⟨Nat.le_of_ble_eq_true rfl, Nat.le_of_ble_eq_true rfl⟩ rfl rfl (Nat.le_of_ble_eq_true rfl) dX12_moveOf_24 (fun H locs hP hS => ?_)
      exact end_i X hr hk hP hS h dX12_moveOf_27
theorem dX12_copyFed_0 : decode cX12_copyFed 0 = .ok (.iload_n 1, 1) := by decide +kernel
theorem dX12_copyFed_1 : decode cX12_copyFed 1 = .ok (.invokestatic 102, 3) := by decide +kernel
theorem dX12_copyFed_4 : decode cX12_copyFed 4 = .ok (.ifCond .ne 9, 3) := by decide +kernel
theorem dX12_copyFed_7 : decode cX12_copyFed 7 = .ok (.aload_n 0, 1) := by decide +kernel
theorem dX12_copyFed_8 : decode cX12_copyFed 8 = .ok (.iconst 1, 1) := by decide +kernel
theorem dX12_copyFed_9 : decode cX12_copyFed 9 = .ok (.invokevirtual 91, 3) := by decide +kernel
theorem dX12_copyFed_12 : decode cX12_copyFed 12 = .ok (.ireturn, 1) := by decide +kernel
theorem dX12_copyFed_13 : decode cX12_copyFed 13 = .ok (.aload_n 0, 1) := by decide +kernel
theorem dX12_copyFed_14 : decode cX12_copyFed 14 = .ok (.getfield 24, 3) := by decide +kernel
theorem dX12_copyFed_17 : decode cX12_copyFed 17 = .ok (.iload_n 1, 1) := by decide +kernel
theorem dX12_copyFed_18 : decode cX12_copyFed 18 = .ok (.iaload, 1) := by decide +kernel
theorem dX12_copyFed_19 : decode cX12_copyFed 19 = .ok (.iconst (-1), 1) := by decide +kernel
theorem dX12_copyFed_20 : decode cX12_copyFed 20 = .ok (.if_icmp .ne 9, 3) := by decide +kernel
theorem dX12_copyFed_23 : decode cX12_copyFed 23 = .ok (.aload_n 0, 1) := by decide +kernel
theorem dX12_copyFed_24 : decode cX12_copyFed 24 = .ok (.iconst 2, 1) := by decide +kernel
theorem dX12_copyFed_25 : decode cX12_copyFed 25 = .ok (.invokevirtual 91, 3) := by decide +kernel
theorem dX12_copyFed_28 : decode cX12_copyFed 28 = .ok (.ireturn, 1) := by decide +kernel
theorem dX12_copyFed_29 : decode cX12_copyFed 29 = .ok (.aload_n 0, 1) := by decide +kernel
theorem dX12_copyFed_30 : decode cX12_copyFed 30 = .ok (.getfield 24, 3) := by decide +kernel
theorem dX12_copyFed_33 : decode cX12_copyFed 33 = .ok (.iload_n 1, 1) := by decide +kernel
theorem dX12_copyFed_34 : decode cX12_copyFed 34 = .ok (.iaload, 1) := by decide +kernel
theorem dX12_copyFed_35 : decode cX12_copyFed 35 = .ok (.aload_n 0, 1) := by decide +kernel
theorem dX12_copyFed_36 : decode cX12_copyFed 36 = .ok (.getfield 7, 3) := by decide +kernel
theorem dX12_copyFed_39 : decode cX12_copyFed 39 = .ok (.iconst 3, 1) := by decide +kernel
theorem dX12_copyFed_40 : decode cX12_copyFed 40 = .ok (.iaload, 1) := by decide +kernel
theorem dX12_copyFed_41 : decode cX12_copyFed 41 = .ok (.if_icmp .ge 9, 3) := by decide +kernel
theorem dX12_copyFed_44 : decode cX12_copyFed 44 = .ok (.aload_n 0, 1) := by decide +kernel
theorem dX12_copyFed_45 : decode cX12_copyFed 45 = .ok (.iconst 3, 1) := by decide +kernel
theorem dX12_copyFed_46 : decode cX12_copyFed 46 = .ok (.invokevirtual 91, 3) := by decide +kernel
theorem dX12_copyFed_49 : decode cX12_copyFed 49 = .ok (.ireturn, 1) := by decide +kernel
theorem dX12_copyFed_50 : decode cX12_copyFed 50 = .ok (.iconst 0, 1) := by decide +kernel
theorem dX12_copyFed_51 : decode cX12_copyFed 51 = .ok (.istore_n 2, 1) := by decide +kernel
theorem dX12_copyFed_52 : decode cX12_copyFed 52 = .ok (.iload_n 2, 1) := by decide +kernel
theorem dX12_copyFed_53 : decode cX12_copyFed 53 = .ok (.aload_n 0, 1) := by decide +kernel
theorem dX12_copyFed_54 : decode cX12_copyFed 54 = .ok (.getfield 7, 3) := by decide +kernel
theorem dX12_copyFed_57 : decode cX12_copyFed 57 = .ok (.iconst 3, 1) := by decide +kernel
theorem dX12_copyFed_58 : decode cX12_copyFed 58 = .ok (.iaload, 1) := by decide +kernel
theorem dX12_copyFed_59 : decode cX12_copyFed 59 = .ok (.if_icmp .ge 36, 3) := by decide +kernel
theorem dX12_copyFed_62 : decode cX12_copyFed 62 = .ok (.aload_n 0, 1) := by decide +kernel
theorem dX12_copyFed_63 : decode cX12_copyFed 63 = .ok (.getfield 27, 3) := by decide +kernel
theorem dX12_copyFed_66 : decode cX12_copyFed 66 = .ok (.bipush 60, 2) := by decide +kernel
theorem dX12_copyFed_68 : decode cX12_copyFed 68 = .ok (.iload_n 1, 1) := by decide +kernel
theorem dX12_copyFed_69 : decode cX12_copyFed 69 = .ok (.imul, 1) := by decide +kernel
theorem dX12_copyFed_70 : decode cX12_copyFed 70 = .ok (.iload_n 2, 1) := by decide +kernel
theorem dX12_copyFed_71 : decode cX12_copyFed 71 = .ok (.iadd, 1) := by decide +kernel
theorem dX12_copyFed_72 : decode cX12_copyFed 72 = .ok (.aload_n 0, 1) := by decide +kernel
theorem dX12_copyFed_73 : decode cX12_copyFed 73 = .ok (.iload_n 2, 1) := by decide +kernel
theorem dX12_copyFed_74 : decode cX12_copyFed 74 = .ok (.iconst 0, 1) := by decide +kernel
theorem dX12_copyFed_75 : decode cX12_copyFed 75 = .ok (.invokevirtual 281, 3) := by decide +kernel
theorem dX12_copyFed_78 : decode cX12_copyFed 78 = .ok (.i2l, 1) := by decide +kernel
theorem dX12_copyFed_79 : decode cX12_copyFed 79 = .ok (.aload_n 0, 1) := by decide +kernel
theorem dX12_copyFed_80 : decode cX12_copyFed 80 = .ok (.getfield 21, 3) := by decide +kernel
theorem dX12_copyFed_83 : decode cX12_copyFed 83 = .ok (.iload_n 1, 1) := by decide +kernel
theorem dX12_copyFed_84 : decode cX12_copyFed 84 = .ok (.iaload, 1) := by decide +kernel
theorem dX12_copyFed_85 : decode cX12_copyFed 85 = .ok (.invokestatic 109, 3) := by decide +kernel
theorem dX12_copyFed_88 : decode cX12_copyFed 88 = .ok (.lastore, 1) := by decide +kernel
theorem dX12_copyFed_89 : decode cX12_copyFed 89 = .ok (.iinc 2 1, 3) := by decide +kernel
theorem dX12_copyFed_92 : decode cX12_copyFed 92 = .ok (.goto (-40), 3) := by decide +kernel
theorem dX12_copyFed_95 : decode cX12_copyFed 95 = .ok (.aload_n 0, 1) := by decide +kernel
theorem dX12_copyFed_96 : decode cX12_copyFed 96 = .ok (.aload_n 0, 1) := by decide +kernel
theorem dX12_copyFed_97 : decode cX12_copyFed 97 = .ok (.getfield 7, 3) := by decide +kernel
theorem dX12_copyFed_100 : decode cX12_copyFed 100 = .ok (.iconst 3, 1) := by decide +kernel
theorem dX12_copyFed_101 : decode cX12_copyFed 101 = .ok (.iaload, 1) := by decide +kernel
theorem dX12_copyFed_102 : decode cX12_copyFed 102 = .ok (.invokevirtual 95, 3) := by decide +kernel
theorem dX12_copyFed_105 : decode cX12_copyFed 105 = .ok (.ireturn, 1) := by decide +kernel
set_option maxRecDepth 100000 in
set_option maxHeartbeats 8000000 in
theorem c_X12_copyFed (l : Launch) (D : va_G) (cA : Nat → ClassId) (q aK aV : Nat → Nat) (hq : injG 20 q) {a1 : Int32} {M M0 : Mem} {r0 : Int32} (h : f_X12_copyFed a1 M = some (r0, M0)) : Met l yX12_copyFed (.code yX12_copyFed cX12_copyFed 3 (some .int) :: BW) ({ frames := 3, cells := 0, slots := 0, locals := 54 } : Room) (va_Pc [.ref (q 0), .int a1] (CB 20 (ceR cA q) D cA q aK aV M)) (Qi 20 (ceR cA q) D q r0 M0) 0 0 (AqG 20 q) := by
  refine gMet RX12 (by decide +kernel) rfl hq (Nat.le_of_ble_eq_true rfl) ?_
  intro p e s m below meth c ls X hr hk hP hS hl
  have hx := X.1
  have hb := X.2.1
  have hl : lv_has ls 3 [(0, .ref (q 0)), (1, .int a1)] := hl
  rw [f_X12_copyFed] at h
  have hL52 : ∀ (fu : Nat) (b2 : Int32) (M : Mem) (res : (Unit) × Mem) (H : Heap) (locs : List Loc) (ls : Array Slot), f_X12_copyFed_L52 a1 fu b2 M = some res → va_P D vwCl (wsG 20 (ceR cA q) q M) H → va_S (AqG 20 q) s.heap H locs → lv_has ls 3 [(0, .ref (q 0)), (1, .int a1), (2, .int b2)] → (∀ (H : Heap) (locs : List Loc) (ls : Array Slot), va_P D vwCl (wsG 20 (ceR cA q) q res.2) H → va_S (AqG 20 q) s.heap H locs → lv_has ls 3 [(0, .ref (q 0))] → W p l e ({ frames := 3, cells := 0, slots := 0, locals := 54 } : Room) s m [.ref (q 0), .int a1].toArray below meth c H locs 0 0 (MQ below (Qi 20 (ceR cA q) D q r0 M0) [.ref (q 0), .int a1].toArray s 0 0 (AqG 20 q)) (F0 m 95 ls [])) → W p l e ({ frames := 3, cells := 0, slots := 0, locals := 54 } : Room) s m [.ref (q 0), .int a1].toArray below meth c H locs 0 0 (MQ below (Qi 20 (ceR cA q) D q r0 M0) [.ref (q 0), .int a1].toArray s 0 0 (AqG 20 q)) (F0 m 52 ls []) := by
    intro fu
    induction fu with
    | zero => intro b2 M res H locs ls h; exact absurd h (by simp [f_X12_copyFed_L52])
    | succ fu ih =>
      intro b2 M res H locs ls h hP hS hl K52_0
      rw [f_X12_copyFed_L52] at h
      refine lv_iload_n hx hb dX12_copyFed_52 rfl (lv_at hl 2 rfl) ?_
      refine lv_aload_n hx hb dX12_copyFed_53 rfl (lv_at hl 0 rfl) ?_
      refine gfR_12_0 X hP sR_0 bw_1323 dX12_copyFed_54 ?_
      refine lv_iconst (v := 3) hx hb dX12_copyFed_57 (by decide) ?_
      refine ldR_ia X hP sR_1 zR_1 (by decide) dX12_copyFed_58 ?_
      refine topE (y := (gI M 1 3)) rfl ?_
      refine lv_icmp_ge (tgt := 95) hx hb dX12_copyFed_59 (by decide) (fun c24 => ?_) (fun c24 => ?_)
      · rw [if_pos c24] at h
        cases h
        exact K52_0 _ _ _ hP hS (lv_sub hl [0] rfl)
      · rw [if_neg c24] at h
        refine lv_aload_n hx hb dX12_copyFed_62 rfl (lv_at hl 0 rfl) ?_
        refine gfR_12_7 X hP sR_0 bw_1330 dX12_copyFed_63 ?_
        refine lv_bipush (v := 60) hx hb dX12_copyFed_66 (by decide) ?_
        refine lv_iload_n hx hb dX12_copyFed_68 rfl (lv_at hl 1 rfl) ?_
        refine lv_imul hx hb dX12_copyFed_69 ?_
        refine lv_iload_n hx hb dX12_copyFed_70 rfl (lv_at hl 2 rfl) ?_
        refine lv_iadd hx hb dX12_copyFed_71 ?_
        refine lv_aload_n hx hb dX12_copyFed_72 rfl (lv_at hl 0 rfl) ?_
        refine lv_iload_n hx hb dX12_copyFed_73 rfl (lv_at hl 2 rfl) ?_
        refine lv_iconst (v := 0) hx hb dX12_copyFed_74 (by decide) ?_
        obtain ⟨r25, M26, hc27, h⟩ := bnd_inv h
        refine gV_i (As := [.int b2, .int (0 : Int32)]) X hP hS hl.1 (c_X12_personOf l D cA q aK aV hq hc27) sf_X12_personOf bw_1683 sv_X12_personOf (rcR_12 sR_0) rfl ⟨rfl, rfl⟩ ⟨Nat.le_of_ble_eq_true rfl, Nat.le_of_ble_eq_true rfl⟩ rfl rfl (Nat.le_of_ble_eq_true rfl) dX12_copyFed_75 (fun H locs hP hS => ?_)
        refine lv_i2l hx hb dX12_copyFed_78 rfl ?_
        refine lv_aload_n hx hb dX12_copyFed_79 rfl (lv_at hl 0 rfl) ?_
        refine gfR_12_5 X hP sR_0 bw_1328 dX12_copyFed_80 ?_
        refine lv_iload_n hx hb dX12_copyFed_83 rfl (lv_at hl 1 rfl) ?_
        obtain ⟨g28, h⟩ := gd_inv h
        refine ldR_ia X hP sR_3 zR_3 g28 dX12_copyFed_84 ?_
        obtain ⟨r29, M30, hc31, h⟩ := bnd_inv h
        refine gS_l (As := [.long (r25.toInt64), .int (gI M26 3 a1.toNatClampNeg)]) X hP hS hl.1 (c_X12_cut l D cA q aK aV hq hc31) sf_X12_cut bw_1482 ss_X12_cut ⟨rfl, rfl⟩ ⟨Nat.le_of_ble_eq_true rfl, Nat.le_of_ble_eq_true rfl⟩ rfl rfl (Nat.le_of_ble_eq_true rfl) dX12_copyFed_85 (fun H locs hP hS => ?_)
        obtain ⟨g32, h⟩ := gd_inv h
        obtain ⟨M33, eM33, h⟩ := lt_inv h
        refine stR_la X hP hS sR_5 zR_5 g32 eM33 dX12_copyFed_88 (fun H locs hP hS => ?_)
        obtain ⟨y34, ey34, h⟩ := lt_inv h
        refine lv_iinc (v := y34) (lv' := [(2, .int y34), (0, .ref (q 0)), (1, .int a1)]) hx hb dX12_copyFed_89 hl (k := 2) rfl (by rw [ey34]; rfl) (by decide) rfl (fun ls hl => ?_)
        refine lv_goto (tgt := 52) hx hb dX12_copyFed_92 (by decide) ?_
        exact ih _ _ res _ _ _ h hP hS (lv_sub hl [1, 2, 0] rfl) K52_0
  refine lv_iload_n hx hb dX12_copyFed_0 rfl (lv_at hl 1 rfl) ?_
  obtain ⟨r1, M2, hc3, h⟩ := bnd_inv h
  refine gS_i (As := [.int a1]) X hP hS hl.1 (c_X12_isTray l D cA q aK aV hq hc3) sf_X12_isTray bw_1467 ss_X12_isTray ⟨rfl, rfl⟩ ⟨Nat.le_of_ble_eq_true rfl, Nat.le_of_ble_eq_true rfl⟩ rfl rfl (Nat.le_of_ble_eq_true rfl) dX12_copyFed_1 (fun H locs hP hS => ?_)
  refine lv_if_ne (tgt := 13) hx hb dX12_copyFed_4 (by decide) (fun c4 => ?_) (fun c4 => ?_)
  · rw [if_neg c4] at h
    refine lv_aload_n hx hb dX12_copyFed_13 rfl (lv_at hl 0 rfl) ?_
    refine gfR_12_6 X hP sR_0 bw_1329 dX12_copyFed_14 ?_
    refine lv_iload_n hx hb dX12_copyFed_17 rfl (lv_at hl 1 rfl) ?_
    obtain ⟨g5, h⟩ := gd_inv h
    refine ldR_ia X hP sR_4 zR_4 g5 dX12_copyFed_18 ?_
    refine lv_iconst (v := -1) hx hb dX12_copyFed_19 (by decide) ?_
    refine lv_icmp_ne (tgt := 29) hx hb dX12_copyFed_20 (by decide) (fun c6 => ?_) (fun c6 => ?_)
    · rw [if_neg c6] at h
      refine lv_aload_n hx hb dX12_copyFed_29 rfl (lv_at hl 0 rfl) ?_
      refine gfR_12_6 X hP sR_0 bw_1329 dX12_copyFed_30 ?_
      refine lv_iload_n hx hb dX12_copyFed_33 rfl (lv_at hl 1 rfl) ?_
      obtain ⟨g7, h⟩ := gd_inv h
      refine ldR_ia X hP sR_4 zR_4 g7 dX12_copyFed_34 ?_
      refine lv_aload_n hx hb dX12_copyFed_35 rfl (lv_at hl 0 rfl) ?_
      refine gfR_12_0 X hP sR_0 bw_1323 dX12_copyFed_36 ?_
      refine lv_iconst (v := 3) hx hb dX12_copyFed_39 (by decide) ?_
      refine ldR_ia X hP sR_1 zR_1 (by decide) dX12_copyFed_40 ?_
      refine topE (y := (gI M2 1 3)) rfl ?_
      refine lv_icmp_ge (tgt := 50) hx hb dX12_copyFed_41 (by decide) (fun c8 => ?_) (fun c8 => ?_)
      · rw [if_pos c8] at h
        refine lv_iconst (v := 0) hx hb dX12_copyFed_50 (by decide) ?_
        refine lv_istore_n (lv' := [(2, .int (0 : Int32)), (0, .ref (q 0)), (1, .int a1)]) hx hb dX12_copyFed_51 rfl hl (by decide) rfl (fun ls hl => ?_)
        obtain ⟨s9, M10, hc11, h⟩ := bnd_inv h
        try dsimp only at h
        refine hL52  fz _ _ _ _ _ _ hc11 hP hS (lv_sub hl [1, 2, 0] rfl) (fun H locs ls hP hS hl => ?_)
        have hl : lv_has ls 3 [(0, .ref (q 0))] := hl
        refine lv_aload_n hx hb dX12_copyFed_95 rfl (lv_at hl 0 rfl) ?_
        refine lv_aload_n hx hb dX12_copyFed_96 rfl (lv_at hl 0 rfl) ?_
        refine gfR_12_0 X hP sR_0 bw_1323 dX12_copyFed_97 ?_
        refine lv_iconst (v := 3) hx hb dX12_copyFed_100 (by decide) ?_
        refine ldR_ia X hP sR_1 zR_1 (by decide) dX12_copyFed_101 ?_
        refine topE (y := (gI M10 1 3)) rfl ?_
        obtain ⟨r12, M13, hc14, h⟩ := bnd_inv h
        refine gV_i (As := [.int (gI M10 1 3)]) X hP hS hl.1 (c_X12_gives l D cA q aK aV hq hc14) sf_X12_gives bw_1639 sv_X12_gives (rcR_12 sR_0) rfl ⟨rfl, rfl⟩ ⟨Nat.le_of_ble_eq_true rfl, Nat.le_of_ble_eq_true rfl⟩ rfl rfl (Nat.le_of_ble_eq_true rfl) dX12_copyFed_102 (fun H locs hP hS => ?_)
        exact end_i X hr hk hP hS h dX12_copyFed_105
      · rw [if_neg c8] at h
        refine lv_aload_n hx hb dX12_copyFed_44 rfl (lv_at hl 0 rfl) ?_
        refine lv_iconst (v := 3) hx hb dX12_copyFed_45 (by decide) ?_
        obtain ⟨r15, M16, hc17, h⟩ := bnd_inv h
        refine gV_i (As := [.int (3 : Int32)]) X hP hS hl.1 (c_X12_refuse l D cA q aK aV hq hc17) sf_X12_refuse bw_1530 sv_X12_refuse (rcR_12 sR_0) rfl ⟨rfl, rfl⟩ ⟨Nat.le_of_ble_eq_true rfl, Nat.le_of_ble_eq_true rfl⟩ rfl rfl (Nat.le_of_ble_eq_true rfl) dX12_copyFed_46 (fun H locs hP hS => ?_)
        exact end_i X hr hk hP hS h dX12_copyFed_49
    · rw [if_pos c6] at h
      refine lv_aload_n hx hb dX12_copyFed_23 rfl (lv_at hl 0 rfl) ?_
      refine lv_iconst (v := 2) hx hb dX12_copyFed_24 (by decide) ?_
      obtain ⟨r18, M19, hc20, h⟩ := bnd_inv h
      refine gV_i (As := [.int (2 : Int32)]) X hP hS hl.1 (c_X12_refuse l D cA q aK aV hq hc20) sf_X12_refuse bw_1530 sv_X12_refuse (rcR_12 sR_0) rfl ⟨rfl, rfl⟩ ⟨Nat.le_of_ble_eq_true rfl, Nat.le_of_ble_eq_true rfl⟩ rfl rfl (Nat.le_of_ble_eq_true rfl) dX12_copyFed_25 (fun H locs hP hS => ?_)
      exact end_i X hr hk hP hS h dX12_copyFed_28
  · rw [if_pos c4] at h
    refine lv_aload_n hx hb dX12_copyFed_7 rfl (lv_at hl 0 rfl) ?_
    refine lv_iconst (v := 1) hx hb dX12_copyFed_8 (by decide) ?_
    obtain ⟨r21, M22, hc23, h⟩ := bnd_inv h
    refine gV_i (As := [.int (1 : Int32)]) X hP hS hl.1 (c_X12_refuse l D cA q aK aV hq hc23) sf_X12_refuse bw_1530 sv_X12_refuse (rcR_12 sR_0) rfl ⟨rfl, rfl⟩ ⟨Nat.le_of_ble_eq_true rfl, Nat.le_of_ble_eq_true rfl⟩ rfl rfl (Nat.le_of_ble_eq_true rfl) dX12_copyFed_9 (fun H locs hP hS => ?_)
    exact end_i X hr hk hP hS h dX12_copyFed_12
theorem dX12_draw_0 : decode cX12_draw 0 = .ok (.aload_n 0, 1) := by decide +kernel
theorem dX12_draw_1 : decode cX12_draw 1 = .ok (.aload_n 0, 1) := by decide +kernel
theorem dX12_draw_2 : decode cX12_draw 2 = .ok (.getfield 478, 3) := by decide +kernel
theorem dX12_draw_5 : decode cX12_draw 5 = .ok (.sipush 3181, 3) := by decide +kernel
theorem dX12_draw_8 : decode cX12_draw 8 = .ok (.imul, 1) := by decide +kernel
theorem dX12_draw_9 : decode cX12_draw 9 = .ok (.sipush 11399, 3) := by decide +kernel
theorem dX12_draw_12 : decode cX12_draw 12 = .ok (.iadd, 1) := by decide +kernel
theorem dX12_draw_13 : decode cX12_draw 13 = .ok (.ldc_w 481, 3) := by decide +kernel
theorem dX12_draw_16 : decode cX12_draw 16 = .ok (.irem, 1) := by decide +kernel
theorem dX12_draw_17 : decode cX12_draw 17 = .ok (.putfield 478, 3) := by decide +kernel
theorem dX12_draw_20 : decode cX12_draw 20 = .ok (.aload_n 0, 1) := by decide +kernel
theorem dX12_draw_21 : decode cX12_draw 21 = .ok (.getfield 478, 3) := by decide +kernel
theorem dX12_draw_24 : decode cX12_draw 24 = .ok (.bipush 8, 2) := by decide +kernel
theorem dX12_draw_26 : decode cX12_draw 26 = .ok (.idiv, 1) := by decide +kernel
theorem dX12_draw_27 : decode cX12_draw 27 = .ok (.iload_n 1, 1) := by decide +kernel
theorem dX12_draw_28 : decode cX12_draw 28 = .ok (.irem, 1) := by decide +kernel
theorem dX12_draw_29 : decode cX12_draw 29 = .ok (.ireturn, 1) := by decide +kernel
set_option maxRecDepth 100000 in
set_option maxHeartbeats 8000000 in
theorem c_X12_draw (l : Launch) (D : va_G) (cA : Nat → ClassId) (q aK aV : Nat → Nat) (hq : injG 20 q) {a1 : Int32} {M M0 : Mem} {r0 : Int32} (h : f_X12_draw a1 M = some (r0, M0)) : Met l yX12_draw (.code yX12_draw cX12_draw 2 (some .int) :: BW) ({ frames := 1, cells := 0, slots := 0, locals := 13 } : Room) (va_Pc [.ref (q 0), .int a1] (CB 20 (ceR cA q) D cA q aK aV M)) (Qi 20 (ceR cA q) D q r0 M0) 0 0 (AqG 20 q) := by
  refine gMet RX12 (by decide +kernel) rfl hq (Nat.le_of_ble_eq_true rfl) ?_
  intro p e s m below meth c ls X hr hk hP hS hl
  have hx := X.1
  have hb := X.2.1
  have hl : lv_has ls 2 [(0, .ref (q 0)), (1, .int a1)] := hl
  rw [f_X12_draw] at h
  refine lv_aload_n hx hb dX12_draw_0 rfl (lv_at hl 0 rfl) ?_
  refine lv_aload_n hx hb dX12_draw_1 rfl (lv_at hl 0 rfl) ?_
  refine gfR_12_35 X hP sR_0 bw_1358 dX12_draw_2 ?_
  refine lv_sipush (v := 3181) hx hb dX12_draw_5 (by decide) ?_
  refine lv_imul hx hb dX12_draw_8 ?_
  refine lv_sipush (v := 11399) hx hb dX12_draw_9 (by decide) ?_
  refine lv_iadd hx hb dX12_draw_12 ?_
  refine lv_ldcw hx hb X.2.2.2.1 (X.2.2.2.2.1 _ bw_2089) dX12_draw_13 ?_
  refine lv_irem hx hb dX12_draw_16 (by decide) ?_
  obtain ⟨M1, eM1, h⟩ := lt_inv h
  refine pfR_12_35 X hP hS sR_0 bw_1358 eM1 dX12_draw_17 (fun H locs hP hS => ?_)
  refine lv_aload_n hx hb dX12_draw_20 rfl (lv_at hl 0 rfl) ?_
  refine gfR_12_35 X hP sR_0 bw_1358 dX12_draw_21 ?_
  refine lv_bipush (v := 8) hx hb dX12_draw_24 (by decide) ?_
  refine lv_idiv hx hb dX12_draw_26 (by decide) ?_
  refine lv_iload_n hx hb dX12_draw_27 rfl (lv_at hl 1 rfl) ?_
  obtain ⟨g2, h⟩ := gd_inv h
  refine lv_irem hx hb dX12_draw_28 g2 ?_
  exact end_i X hr hk hP hS h dX12_draw_29
theorem dX12_sitsBy_0 : decode cX12_sitsBy 0 = .ok (.aload_n 0, 1) := by decide +kernel
theorem dX12_sitsBy_1 : decode cX12_sitsBy 1 = .ok (.getfield 7, 3) := by decide +kernel
theorem dX12_sitsBy_4 : decode cX12_sitsBy 4 = .ok (.bipush 7, 2) := by decide +kernel
theorem dX12_sitsBy_6 : decode cX12_sitsBy 6 = .ok (.iaload, 1) := by decide +kernel
theorem dX12_sitsBy_7 : decode cX12_sitsBy 7 = .ok (.sipush 9999, 3) := by decide +kernel
theorem dX12_sitsBy_10 : decode cX12_sitsBy 10 = .ok (.if_icmp .ne 5, 3) := by decide +kernel
theorem dX12_sitsBy_13 : decode cX12_sitsBy 13 = .ok (.iconst 0, 1) := by decide +kernel
theorem dX12_sitsBy_14 : decode cX12_sitsBy 14 = .ok (.ireturn, 1) := by decide +kernel
theorem dX12_sitsBy_15 : decode cX12_sitsBy 15 = .ok (.aload_n 0, 1) := by decide +kernel
theorem dX12_sitsBy_16 : decode cX12_sitsBy 16 = .ok (.iload_n 1, 1) := by decide +kernel
theorem dX12_sitsBy_17 : decode cX12_sitsBy 17 = .ok (.invokevirtual 341, 3) := by decide +kernel
theorem dX12_sitsBy_20 : decode cX12_sitsBy 20 = .ok (.pop, 1) := by decide +kernel
theorem dX12_sitsBy_21 : decode cX12_sitsBy 21 = .ok (.aload_n 0, 1) := by decide +kernel
theorem dX12_sitsBy_22 : decode cX12_sitsBy 22 = .ok (.getfield 75, 3) := by decide +kernel
theorem dX12_sitsBy_25 : decode cX12_sitsBy 25 = .ok (.iconst 1, 1) := by decide +kernel
theorem dX12_sitsBy_26 : decode cX12_sitsBy 26 = .ok (.dup2, 1) := by decide +kernel
theorem dX12_sitsBy_27 : decode cX12_sitsBy 27 = .ok (.iaload, 1) := by decide +kernel
theorem dX12_sitsBy_28 : decode cX12_sitsBy 28 = .ok (.iconst 1, 1) := by decide +kernel
theorem dX12_sitsBy_29 : decode cX12_sitsBy 29 = .ok (.iadd, 1) := by decide +kernel
theorem dX12_sitsBy_30 : decode cX12_sitsBy 30 = .ok (.iastore, 1) := by decide +kernel
theorem dX12_sitsBy_31 : decode cX12_sitsBy 31 = .ok (.iconst 1, 1) := by decide +kernel
theorem dX12_sitsBy_32 : decode cX12_sitsBy 32 = .ok (.ireturn, 1) := by decide +kernel
set_option maxRecDepth 100000 in
set_option maxHeartbeats 8000000 in
theorem c_X12_sitsBy (l : Launch) (D : va_G) (cA : Nat → ClassId) (q aK aV : Nat → Nat) (hq : injG 20 q) {a1 : Int32} {M M0 : Mem} {r0 : Int32} (h : f_X12_sitsBy a1 M = some (r0, M0)) : Met l yX12_sitsBy (.code yX12_sitsBy cX12_sitsBy 2 (some .boolean) :: BW) ({ frames := 8, cells := 0, slots := 0, locals := 173 } : Room) (va_Pc [.ref (q 0), .int a1] (CB 20 (ceR cA q) D cA q aK aV M)) (Qi 20 (ceR cA q) D q r0 M0) 0 0 (AqG 20 q) := by
  refine gMet RX12 (by decide +kernel) rfl hq (Nat.le_of_ble_eq_true rfl) ?_
  intro p e s m below meth c ls X hr hk hP hS hl
  have hx := X.1
  have hb := X.2.1
  have hl : lv_has ls 2 [(0, .ref (q 0)), (1, .int a1)] := hl
  rw [f_X12_sitsBy] at h
  refine lv_aload_n hx hb dX12_sitsBy_0 rfl (lv_at hl 0 rfl) ?_
  refine gfR_12_0 X hP sR_0 bw_1323 dX12_sitsBy_1 ?_
  refine lv_bipush (v := 7) hx hb dX12_sitsBy_4 (by decide) ?_
  refine ldR_ia X hP sR_1 zR_1 (by decide) dX12_sitsBy_6 ?_
  refine topE (y := (gI M 1 7)) rfl ?_
  refine lv_sipush (v := 9999) hx hb dX12_sitsBy_7 (by decide) ?_
  refine lv_icmp_ne (tgt := 15) hx hb dX12_sitsBy_10 (by decide) (fun c1 => ?_) (fun c1 => ?_)
  · rw [if_neg c1] at h
    refine lv_aload_n hx hb dX12_sitsBy_15 rfl (lv_at hl 0 rfl) ?_
    refine lv_iload_n hx hb dX12_sitsBy_16 rfl (lv_at hl 1 rfl) ?_
    obtain ⟨r2, M3, hc4, h⟩ := bnd_inv h
    refine gV_i (As := [.int a1]) X hP hS hl.1 (c_X12_sits l D cA q aK aV hq hc4) sf_X12_sits bw_1786 sv_X12_sits (rcR_12 sR_0) rfl ⟨rfl, rfl⟩ ⟨Nat.le_of_ble_eq_true rfl, Nat.le_of_ble_eq_true rfl⟩ rfl rfl (Nat.le_of_ble_eq_true rfl) dX12_sitsBy_17 (fun H locs hP hS => ?_)
    refine lv_pop hx hb dX12_sitsBy_20 rfl ?_
    refine lv_aload_n hx hb dX12_sitsBy_21 rfl (lv_at hl 0 rfl) ?_
    refine gfR_12_38 X hP sR_0 bw_1361 dX12_sitsBy_22 ?_
    refine lv_iconst (v := 1) hx hb dX12_sitsBy_25 (by decide) ?_
    refine lv_dup2_11 hx hb dX12_sitsBy_26 rfl rfl ?_
    refine ldR_ia X hP sR_18 zR_18 (by decide) dX12_sitsBy_27 ?_
    refine topE (y := (gI M3 18 1)) rfl ?_
    refine lv_iconst (v := 1) hx hb dX12_sitsBy_28 (by decide) ?_
    refine lv_iadd hx hb dX12_sitsBy_29 ?_
    obtain ⟨M5, eM5, h⟩ := lt_inv h
    refine stR_ia X hP hS sR_18 zR_18 (by decide) eM5 dX12_sitsBy_30 (fun H locs hP hS => ?_)
    refine lv_iconst (v := 1) hx hb dX12_sitsBy_31 (by decide) ?_
    exact end_z X hr hk hP hS (Or.inr rfl) h dX12_sitsBy_32
  · rw [if_pos c1] at h
    refine lv_iconst (v := 0) hx hb dX12_sitsBy_13 (by decide) ?_
    exact end_z X hr hk hP hS (Or.inl rfl) h dX12_sitsBy_14
theorem dX12_termsBy_0 : decode cX12_termsBy 0 = .ok (.aload_n 0, 1) := by decide +kernel
theorem dX12_termsBy_1 : decode cX12_termsBy 1 = .ok (.iconst 0, 1) := by decide +kernel
theorem dX12_termsBy_2 : decode cX12_termsBy 2 = .ok (.invokevirtual 290, 3) := by decide +kernel
theorem dX12_termsBy_5 : decode cX12_termsBy 5 = .ok (.istore_n 1, 1) := by decide +kernel
theorem dX12_termsBy_6 : decode cX12_termsBy 6 = .ok (.iload_n 1, 1) := by decide +kernel
theorem dX12_termsBy_7 : decode cX12_termsBy 7 = .ok (.ifCond .eq 10, 3) := by decide +kernel
theorem dX12_termsBy_10 : decode cX12_termsBy 10 = .ok (.aload_n 0, 1) := by decide +kernel
theorem dX12_termsBy_11 : decode cX12_termsBy 11 = .ok (.invokevirtual 347, 3) := by decide +kernel
theorem dX12_termsBy_14 : decode cX12_termsBy 14 = .ok (.ifCond .eq 5, 3) := by decide +kernel
theorem dX12_termsBy_17 : decode cX12_termsBy 17 = .ok (.iconst 0, 1) := by decide +kernel
theorem dX12_termsBy_18 : decode cX12_termsBy 18 = .ok (.ireturn, 1) := by decide +kernel
theorem dX12_termsBy_19 : decode cX12_termsBy 19 = .ok (.aload_n 0, 1) := by decide +kernel
theorem dX12_termsBy_20 : decode cX12_termsBy 20 = .ok (.getfield 75, 3) := by decide +kernel
theorem dX12_termsBy_23 : decode cX12_termsBy 23 = .ok (.iconst 1, 1) := by decide +kernel
theorem dX12_termsBy_24 : decode cX12_termsBy 24 = .ok (.dup2, 1) := by decide +kernel
theorem dX12_termsBy_25 : decode cX12_termsBy 25 = .ok (.iaload, 1) := by decide +kernel
theorem dX12_termsBy_26 : decode cX12_termsBy 26 = .ok (.iload_n 1, 1) := by decide +kernel
theorem dX12_termsBy_27 : decode cX12_termsBy 27 = .ok (.invokestatic 344, 3) := by decide +kernel
theorem dX12_termsBy_30 : decode cX12_termsBy 30 = .ok (.iadd, 1) := by decide +kernel
theorem dX12_termsBy_31 : decode cX12_termsBy 31 = .ok (.iastore, 1) := by decide +kernel
theorem dX12_termsBy_32 : decode cX12_termsBy 32 = .ok (.aload_n 0, 1) := by decide +kernel
theorem dX12_termsBy_33 : decode cX12_termsBy 33 = .ok (.getfield 75, 3) := by decide +kernel
theorem dX12_termsBy_36 : decode cX12_termsBy 36 = .ok (.iconst 2, 1) := by decide +kernel
theorem dX12_termsBy_37 : decode cX12_termsBy 37 = .ok (.dup2, 1) := by decide +kernel
theorem dX12_termsBy_38 : decode cX12_termsBy 38 = .ok (.iaload, 1) := by decide +kernel
theorem dX12_termsBy_39 : decode cX12_termsBy 39 = .ok (.aload_n 0, 1) := by decide +kernel
theorem dX12_termsBy_40 : decode cX12_termsBy 40 = .ok (.invokevirtual 350, 3) := by decide +kernel
theorem dX12_termsBy_43 : decode cX12_termsBy 43 = .ok (.invokestatic 344, 3) := by decide +kernel
theorem dX12_termsBy_46 : decode cX12_termsBy 46 = .ok (.iadd, 1) := by decide +kernel
theorem dX12_termsBy_47 : decode cX12_termsBy 47 = .ok (.iastore, 1) := by decide +kernel
theorem dX12_termsBy_48 : decode cX12_termsBy 48 = .ok (.aload_n 0, 1) := by decide +kernel
theorem dX12_termsBy_49 : decode cX12_termsBy 49 = .ok (.getfield 75, 3) := by decide +kernel
theorem dX12_termsBy_52 : decode cX12_termsBy 52 = .ok (.iconst 3, 1) := by decide +kernel
theorem dX12_termsBy_53 : decode cX12_termsBy 53 = .ok (.dup2, 1) := by decide +kernel
theorem dX12_termsBy_54 : decode cX12_termsBy 54 = .ok (.iaload, 1) := by decide +kernel
theorem dX12_termsBy_55 : decode cX12_termsBy 55 = .ok (.iload_n 1, 1) := by decide +kernel
theorem dX12_termsBy_56 : decode cX12_termsBy 56 = .ok (.aload_n 0, 1) := by decide +kernel
theorem dX12_termsBy_57 : decode cX12_termsBy 57 = .ok (.iconst 2, 1) := by decide +kernel
theorem dX12_termsBy_58 : decode cX12_termsBy 58 = .ok (.invokevirtual 290, 3) := by decide +kernel
theorem dX12_termsBy_61 : decode cX12_termsBy 61 = .ok (.iand, 1) := by decide +kernel
theorem dX12_termsBy_62 : decode cX12_termsBy 62 = .ok (.invokestatic 344, 3) := by decide +kernel
theorem dX12_termsBy_65 : decode cX12_termsBy 65 = .ok (.iadd, 1) := by decide +kernel
theorem dX12_termsBy_66 : decode cX12_termsBy 66 = .ok (.iastore, 1) := by decide +kernel
theorem dX12_termsBy_67 : decode cX12_termsBy 67 = .ok (.iconst 1, 1) := by decide +kernel
theorem dX12_termsBy_68 : decode cX12_termsBy 68 = .ok (.ireturn, 1) := by decide +kernel
set_option maxRecDepth 100000 in
set_option maxHeartbeats 8000000 in
theorem c_X12_termsBy (l : Launch) (D : va_G) (cA : Nat → ClassId) (q aK aV : Nat → Nat) (hq : injG 20 q) {M M0 : Mem} {r0 : Int32} (h : f_X12_termsBy M = some (r0, M0)) : Met l yX12_termsBy (.code yX12_termsBy cX12_termsBy 2 (some .boolean) :: BW) ({ frames := 9, cells := 0, slots := 0, locals := 198 } : Room) (va_Pc [.ref (q 0)] (CB 20 (ceR cA q) D cA q aK aV M)) (Qi 20 (ceR cA q) D q r0 M0) 0 0 (AqG 20 q) := by
  refine gMet RX12 (by decide +kernel) rfl hq (Nat.le_of_ble_eq_true rfl) ?_
  intro p e s m below meth c ls X hr hk hP hS hl
  have hx := X.1
  have hb := X.2.1
  have hl : lv_has ls 2 [(0, .ref (q 0))] := hl
  rw [f_X12_termsBy] at h
  refine lv_aload_n hx hb dX12_termsBy_0 rfl (lv_at hl 0 rfl) ?_
  refine lv_iconst (v := 0) hx hb dX12_termsBy_1 (by decide) ?_
  obtain ⟨r1, M2, hc3, h⟩ := bnd_inv h
  refine gV_i (As := [.int (0 : Int32)]) X hP hS hl.1 (c_X12_peopleThat l D cA q aK aV hq hc3) sf_X12_peopleThat bw_1679 sv_X12_peopleThat (rcR_12 sR_0) rfl ⟨rfl, rfl⟩ ⟨Nat.le_of_ble_eq_true rfl, Nat.le_of_ble_eq_true rfl⟩ rfl rfl (Nat.le_of_ble_eq_true rfl) dX12_termsBy_2 (fun H locs hP hS => ?_)
  refine lv_istore_n (lv' := [(1, .int r1), (0, .ref (q 0))]) hx hb dX12_termsBy_5 rfl hl (by decide) rfl (fun ls hl => ?_)
  refine lv_iload_n hx hb dX12_termsBy_6 rfl (lv_at hl 0 rfl) ?_
  refine lv_if_eq (tgt := 17) hx hb dX12_termsBy_7 (by decide) (fun c4 => ?_) (fun c4 => ?_)
  · rw [if_pos c4] at h
    refine lv_iconst (v := 0) hx hb dX12_termsBy_17 (by decide) ?_
    exact end_z X hr hk hP hS (Or.inl rfl) h dX12_termsBy_18
  · rw [if_neg c4] at h
    refine lv_aload_n hx hb dX12_termsBy_10 rfl (lv_at hl 1 rfl) ?_
    obtain ⟨r5, M6, hc7, h⟩ := bnd_inv h
    refine gV_i (As := []) X hP hS hl.1 (c_X12_isTooMuch l D cA q aK aV hq hc7) sf_X12_isTooMuch bw_1794 sv_X12_isTooMuch (rcR_12 sR_0) rfl ⟨rfl, rfl⟩ ⟨Nat.le_of_ble_eq_true rfl, Nat.le_of_ble_eq_true rfl⟩ rfl rfl (Nat.le_of_ble_eq_true rfl) dX12_termsBy_11 (fun H locs hP hS => ?_)
    refine lv_if_eq (tgt := 19) hx hb dX12_termsBy_14 (by decide) (fun c8 => ?_) (fun c8 => ?_)
    · rw [if_pos c8] at h
      refine lv_aload_n hx hb dX12_termsBy_19 rfl (lv_at hl 1 rfl) ?_
      refine gfR_12_38 X hP sR_0 bw_1361 dX12_termsBy_20 ?_
      refine lv_iconst (v := 1) hx hb dX12_termsBy_23 (by decide) ?_
      refine lv_dup2_11 hx hb dX12_termsBy_24 rfl rfl ?_
      refine ldR_ia X hP sR_18 zR_18 (by decide) dX12_termsBy_25 ?_
      refine topE (y := (gI M6 18 1)) rfl ?_
      refine lv_iload_n hx hb dX12_termsBy_26 rfl (lv_at hl 0 rfl) ?_
      obtain ⟨r9, M10, hc11, h⟩ := bnd_inv h
      refine gS_i (As := [.int r1]) X hP hS hl.1 (c_X12_bits l D cA q aK aV hq hc11) sf_X12_bits bw_1798 ss_X12_bits ⟨rfl, rfl⟩ ⟨Nat.le_of_ble_eq_true rfl, Nat.le_of_ble_eq_true rfl⟩ rfl rfl (Nat.le_of_ble_eq_true rfl) dX12_termsBy_27 (fun H locs hP hS => ?_)
      refine lv_iadd hx hb dX12_termsBy_30 ?_
      obtain ⟨M12, eM12, h⟩ := lt_inv h
      refine stR_ia X hP hS sR_18 zR_18 (by decide) eM12 dX12_termsBy_31 (fun H locs hP hS => ?_)
      refine lv_aload_n hx hb dX12_termsBy_32 rfl (lv_at hl 1 rfl) ?_
      refine gfR_12_38 X hP sR_0 bw_1361 dX12_termsBy_33 ?_
      refine lv_iconst (v := 2) hx hb dX12_termsBy_36 (by decide) ?_
      refine lv_dup2_11 hx hb dX12_termsBy_37 rfl rfl ?_
      refine ldR_ia X hP sR_18 zR_18 (by decide) dX12_termsBy_38 ?_
      refine topE (y := (gI M12 18 2)) rfl ?_
      refine lv_aload_n hx hb dX12_termsBy_39 rfl (lv_at hl 1 rfl) ?_
      obtain ⟨r13, M14, hc15, h⟩ := bnd_inv h
      refine gV_i (As := []) X hP hS hl.1 (c_X12_terms l D cA q aK aV hq hc15) sf_X12_terms bw_1801 sv_X12_terms (rcR_12 sR_0) rfl ⟨rfl, rfl⟩ ⟨Nat.le_of_ble_eq_true rfl, Nat.le_of_ble_eq_true rfl⟩ rfl rfl (Nat.le_of_ble_eq_true rfl) dX12_termsBy_40 (fun H locs hP hS => ?_)
      obtain ⟨r16, M17, hc18, h⟩ := bnd_inv h
      refine gS_i (As := [.int r13]) X hP hS hl.1 (c_X12_bits l D cA q aK aV hq hc18) sf_X12_bits bw_1798 ss_X12_bits ⟨rfl, rfl⟩ ⟨Nat.le_of_ble_eq_true rfl, Nat.le_of_ble_eq_true rfl⟩ rfl rfl (Nat.le_of_ble_eq_true rfl) dX12_termsBy_43 (fun H locs hP hS => ?_)
      refine lv_iadd hx hb dX12_termsBy_46 ?_
      obtain ⟨M19, eM19, h⟩ := lt_inv h
      refine stR_ia X hP hS sR_18 zR_18 (by decide) eM19 dX12_termsBy_47 (fun H locs hP hS => ?_)
      refine lv_aload_n hx hb dX12_termsBy_48 rfl (lv_at hl 1 rfl) ?_
      refine gfR_12_38 X hP sR_0 bw_1361 dX12_termsBy_49 ?_
      refine lv_iconst (v := 3) hx hb dX12_termsBy_52 (by decide) ?_
      refine lv_dup2_11 hx hb dX12_termsBy_53 rfl rfl ?_
      refine ldR_ia X hP sR_18 zR_18 (by decide) dX12_termsBy_54 ?_
      refine topE (y := (gI M19 18 3)) rfl ?_
      refine lv_iload_n hx hb dX12_termsBy_55 rfl (lv_at hl 0 rfl) ?_
      refine lv_aload_n hx hb dX12_termsBy_56 rfl (lv_at hl 1 rfl) ?_
      refine lv_iconst (v := 2) hx hb dX12_termsBy_57 (by decide) ?_
      obtain ⟨r20, M21, hc22, h⟩ := bnd_inv h
      refine gV_i (As := [.int (2 : Int32)]) X hP hS hl.1 (c_X12_peopleThat l D cA q aK aV hq hc22) sf_X12_peopleThat bw_1679 sv_X12_peopleThat (rcR_12 sR_0) rfl ⟨rfl, rfl⟩ ⟨Nat.le_of_ble_eq_true rfl, Nat.le_of_ble_eq_true rfl⟩ rfl rfl (Nat.le_of_ble_eq_true rfl) dX12_termsBy_58 (fun H locs hP hS => ?_)
      refine lv_iand hx hb dX12_termsBy_61 ?_
      obtain ⟨r23, M24, hc25, h⟩ := bnd_inv h
      refine gS_i (As := [.int (r1 &&& r20)]) X hP hS hl.1 (c_X12_bits l D cA q aK aV hq hc25) sf_X12_bits bw_1798 ss_X12_bits ⟨rfl, rfl⟩ ⟨Nat.le_of_ble_eq_true rfl, Nat.le_of_ble_eq_true rfl⟩ rfl rfl (Nat.le_of_ble_eq_true rfl) dX12_termsBy_62 (fun H locs hP hS => ?_)
      refine lv_iadd hx hb dX12_termsBy_65 ?_
      obtain ⟨M26, eM26, h⟩ := lt_inv h
      refine stR_ia X hP hS sR_18 zR_18 (by decide) eM26 dX12_termsBy_66 (fun H locs hP hS => ?_)
      refine lv_iconst (v := 1) hx hb dX12_termsBy_67 (by decide) ?_
      exact end_z X hr hk hP hS (Or.inr rfl) h dX12_termsBy_68
    · rw [if_neg c8] at h
      refine lv_iconst (v := 0) hx hb dX12_termsBy_17 (by decide) ?_
      exact end_z X hr hk hP hS (Or.inl rfl) h dX12_termsBy_18
theorem dX12_feedsAny_0 : decode cX12_feedsAny 0 = .ok (.aload_n 0, 1) := by decide +kernel
theorem dX12_feedsAny_1 : decode cX12_feedsAny 1 = .ok (.getfield 7, 3) := by decide +kernel
theorem dX12_feedsAny_4 : decode cX12_feedsAny 4 = .ok (.iconst 3, 1) := by decide +kernel
theorem dX12_feedsAny_5 : decode cX12_feedsAny 5 = .ok (.iaload, 1) := by decide +kernel
theorem dX12_feedsAny_6 : decode cX12_feedsAny 6 = .ok (.ifCond .ne 5, 3) := by decide +kernel
theorem dX12_feedsAny_9 : decode cX12_feedsAny 9 = .ok (.iconst 0, 1) := by decide +kernel
theorem dX12_feedsAny_10 : decode cX12_feedsAny 10 = .ok (.ireturn, 1) := by decide +kernel
theorem dX12_feedsAny_11 : decode cX12_feedsAny 11 = .ok (.aload_n 0, 1) := by decide +kernel
theorem dX12_feedsAny_12 : decode cX12_feedsAny 12 = .ok (.aload_n 0, 1) := by decide +kernel
theorem dX12_feedsAny_13 : decode cX12_feedsAny 13 = .ok (.getfield 7, 3) := by decide +kernel
theorem dX12_feedsAny_16 : decode cX12_feedsAny 16 = .ok (.iconst 3, 1) := by decide +kernel
theorem dX12_feedsAny_17 : decode cX12_feedsAny 17 = .ok (.iaload, 1) := by decide +kernel
theorem dX12_feedsAny_18 : decode cX12_feedsAny 18 = .ok (.invokevirtual 482, 3) := by decide +kernel
theorem dX12_feedsAny_21 : decode cX12_feedsAny 21 = .ok (.istore_n 1, 1) := by decide +kernel
theorem dX12_feedsAny_22 : decode cX12_feedsAny 22 = .ok (.aload_n 0, 1) := by decide +kernel
theorem dX12_feedsAny_23 : decode cX12_feedsAny 23 = .ok (.iconst 4, 1) := by decide +kernel
theorem dX12_feedsAny_24 : decode cX12_feedsAny 24 = .ok (.invokevirtual 482, 3) := by decide +kernel
theorem dX12_feedsAny_27 : decode cX12_feedsAny 27 = .ok (.istore_n 2, 1) := by decide +kernel
theorem dX12_feedsAny_28 : decode cX12_feedsAny 28 = .ok (.iload_n 2, 1) := by decide +kernel
theorem dX12_feedsAny_29 : decode cX12_feedsAny 29 = .ok (.ifCond .le 16, 3) := by decide +kernel
theorem dX12_feedsAny_32 : decode cX12_feedsAny 32 = .ok (.aload_n 0, 1) := by decide +kernel
theorem dX12_feedsAny_33 : decode cX12_feedsAny 33 = .ok (.iload_n 1, 1) := by decide +kernel
theorem dX12_feedsAny_34 : decode cX12_feedsAny 34 = .ok (.iload_n 2, 1) := by decide +kernel
theorem dX12_feedsAny_35 : decode cX12_feedsAny 35 = .ok (.invokevirtual 355, 3) := by decide +kernel
theorem dX12_feedsAny_38 : decode cX12_feedsAny 38 = .ok (.ifCond .eq 7, 3) := by decide +kernel
theorem dX12_feedsAny_41 : decode cX12_feedsAny 41 = .ok (.iconst 1, 1) := by decide +kernel
theorem dX12_feedsAny_42 : decode cX12_feedsAny 42 = .ok (.goto 4, 3) := by decide +kernel
theorem dX12_feedsAny_45 : decode cX12_feedsAny 45 = .ok (.iconst 0, 1) := by decide +kernel
theorem dX12_feedsAny_46 : decode cX12_feedsAny 46 = .ok (.ireturn, 1) := by decide +kernel
set_option maxRecDepth 100000 in
set_option maxHeartbeats 8000000 in
theorem c_X12_feedsAny (l : Launch) (D : va_G) (cA : Nat → ClassId) (q aK aV : Nat → Nat) (hq : injG 20 q) {M M0 : Mem} {r0 : Int32} (h : f_X12_feedsAny M = some (r0, M0)) : Met l yX12_feedsAny (.code yX12_feedsAny cX12_feedsAny 3 (some .boolean) :: BW) ({ frames := 3, cells := 0, slots := 0, locals := 63 } : Room) (va_Pc [.ref (q 0)] (CB 20 (ceR cA q) D cA q aK aV M)) (Qi 20 (ceR cA q) D q r0 M0) 0 0 (AqG 20 q) := by
  refine gMet RX12 (by decide +kernel) rfl hq (Nat.le_of_ble_eq_true rfl) ?_
  intro p e s m below meth c ls X hr hk hP hS hl
  have hx := X.1
  have hb := X.2.1
  have hl : lv_has ls 3 [(0, .ref (q 0))] := hl
  rw [f_X12_feedsAny] at h
  refine lv_aload_n hx hb dX12_feedsAny_0 rfl (lv_at hl 0 rfl) ?_
  refine gfR_12_0 X hP sR_0 bw_1323 dX12_feedsAny_1 ?_
  refine lv_iconst (v := 3) hx hb dX12_feedsAny_4 (by decide) ?_
  refine ldR_ia X hP sR_1 zR_1 (by decide) dX12_feedsAny_5 ?_
  refine topE (y := (gI M 1 3)) rfl ?_
  refine lv_if_ne (tgt := 11) hx hb dX12_feedsAny_6 (by decide) (fun c1 => ?_) (fun c1 => ?_)
  · rw [if_neg c1] at h
    refine lv_aload_n hx hb dX12_feedsAny_11 rfl (lv_at hl 0 rfl) ?_
    refine lv_aload_n hx hb dX12_feedsAny_12 rfl (lv_at hl 0 rfl) ?_
    refine gfR_12_0 X hP sR_0 bw_1323 dX12_feedsAny_13 ?_
    refine lv_iconst (v := 3) hx hb dX12_feedsAny_16 (by decide) ?_
    refine ldR_ia X hP sR_1 zR_1 (by decide) dX12_feedsAny_17 ?_
    refine topE (y := (gI M 1 3)) rfl ?_
    obtain ⟨r2, M3, hc4, h⟩ := bnd_inv h
    refine gV_i (As := [.int (gI M 1 3)]) X hP hS hl.1 (c_X12_draw l D cA q aK aV hq hc4) sf_X12_draw bw_2085 sv_X12_draw (rcR_12 sR_0) rfl ⟨rfl, rfl⟩ ⟨Nat.le_of_ble_eq_true rfl, Nat.le_of_ble_eq_true rfl⟩ rfl rfl (Nat.le_of_ble_eq_true rfl) dX12_feedsAny_18 (fun H locs hP hS => ?_)
    refine lv_istore_n (lv' := [(1, .int r2), (0, .ref (q 0))]) hx hb dX12_feedsAny_21 rfl hl (by decide) rfl (fun ls hl => ?_)
    refine lv_aload_n hx hb dX12_feedsAny_22 rfl (lv_at hl 1 rfl) ?_
    refine lv_iconst (v := 4) hx hb dX12_feedsAny_23 (by decide) ?_
    obtain ⟨r5, M6, hc7, h⟩ := bnd_inv h
    refine gV_i (As := [.int (4 : Int32)]) X hP hS hl.1 (c_X12_draw l D cA q aK aV hq hc7) sf_X12_draw bw_2085 sv_X12_draw (rcR_12 sR_0) rfl ⟨rfl, rfl⟩ ⟨Nat.le_of_ble_eq_true rfl, Nat.le_of_ble_eq_true rfl⟩ rfl rfl (Nat.le_of_ble_eq_true rfl) dX12_feedsAny_24 (fun H locs hP hS => ?_)
    refine lv_istore_n (lv' := [(2, .int r5), (1, .int r2), (0, .ref (q 0))]) hx hb dX12_feedsAny_27 rfl hl (by decide) rfl (fun ls hl => ?_)
    refine lv_iload_n hx hb dX12_feedsAny_28 rfl (lv_at hl 0 rfl) ?_
    refine lv_if_le (tgt := 45) hx hb dX12_feedsAny_29 (by decide) (fun c8 => ?_) (fun c8 => ?_)
    · rw [if_pos c8] at h
      refine lv_iconst (v := 0) hx hb dX12_feedsAny_45 (by decide) ?_
      exact end_z X hr hk hP hS (Or.inl rfl) h dX12_feedsAny_46
    · rw [if_neg c8] at h
      refine lv_aload_n hx hb dX12_feedsAny_32 rfl (lv_at hl 2 rfl) ?_
      refine lv_iload_n hx hb dX12_feedsAny_33 rfl (lv_at hl 1 rfl) ?_
      refine lv_iload_n hx hb dX12_feedsAny_34 rfl (lv_at hl 0 rfl) ?_
      obtain ⟨r9, M10, hc11, h⟩ := bnd_inv h
      refine gV_i (As := [.int r2, .int r5]) X hP hS hl.1 (c_X12_meals l D cA q aK aV hq hc11) sf_X12_meals bw_1810 sv_X12_meals (rcR_12 sR_0) rfl ⟨rfl, rfl⟩ ⟨Nat.le_of_ble_eq_true rfl, Nat.le_of_ble_eq_true rfl⟩ rfl rfl (Nat.le_of_ble_eq_true rfl) dX12_feedsAny_35 (fun H locs hP hS => ?_)
      refine lv_if_eq (tgt := 45) hx hb dX12_feedsAny_38 (by decide) (fun c12 => ?_) (fun c12 => ?_)
      · rw [if_pos c12] at h
        refine lv_iconst (v := 0) hx hb dX12_feedsAny_45 (by decide) ?_
        exact end_z X hr hk hP hS (Or.inl rfl) h dX12_feedsAny_46
      · rw [if_neg c12] at h
        refine lv_iconst (v := 1) hx hb dX12_feedsAny_41 (by decide) ?_
        refine lv_goto (tgt := 46) hx hb dX12_feedsAny_42 (by decide) ?_
        exact end_z X hr hk hP hS (Or.inr rfl) h dX12_feedsAny_46
  · rw [if_pos c1] at h
    refine lv_iconst (v := 0) hx hb dX12_feedsAny_9 (by decide) ?_
    exact end_z X hr hk hP hS (Or.inl rfl) h dX12_feedsAny_10
theorem dX12_does_0 : decode cX12_does 0 = .ok (.aload_n 0, 1) := by decide +kernel
theorem dX12_does_1 : decode cX12_does 1 = .ok (.getfield 7, 3) := by decide +kernel
theorem dX12_does_4 : decode cX12_does 4 = .ok (.iload_n 1, 1) := by decide +kernel
theorem dX12_does_5 : decode cX12_does 5 = .ok (.iconst 1, 1) := by decide +kernel
theorem dX12_does_6 : decode cX12_does 6 = .ok (.iadd, 1) := by decide +kernel
theorem dX12_does_7 : decode cX12_does 7 = .ok (.iaload, 1) := by decide +kernel
theorem dX12_does_8 : decode cX12_does 8 = .ok (.istore_n 2, 1) := by decide +kernel
theorem dX12_does_9 : decode cX12_does 9 = .ok (.aload_n 0, 1) := by decide +kernel
theorem dX12_does_10 : decode cX12_does 10 = .ok (.getfield 7, 3) := by decide +kernel
theorem dX12_does_13 : decode cX12_does 13 = .ok (.iload_n 1, 1) := by decide +kernel
theorem dX12_does_14 : decode cX12_does 14 = .ok (.iconst 2, 1) := by decide +kernel
theorem dX12_does_15 : decode cX12_does 15 = .ok (.iadd, 1) := by decide +kernel
theorem dX12_does_16 : decode cX12_does 16 = .ok (.iaload, 1) := by decide +kernel
theorem dX12_does_17 : decode cX12_does 17 = .ok (.istore_n 3, 1) := by decide +kernel
theorem dX12_does_18 : decode cX12_does 18 = .ok (.aload_n 0, 1) := by decide +kernel
theorem dX12_does_19 : decode cX12_does 19 = .ok (.getfield 7, 3) := by decide +kernel
theorem dX12_does_22 : decode cX12_does 22 = .ok (.iload_n 1, 1) := by decide +kernel
theorem dX12_does_23 : decode cX12_does 23 = .ok (.iaload, 1) := by decide +kernel
theorem dX12_does_24 : decode cX12_does 24 = .ok (.tableswitch 88 15 21 #[44, 50, 55, 62, 70, 78, 83], 44) := by decide +kernel
theorem dX12_does_68 : decode cX12_does 68 = .ok (.aload_n 0, 1) := by decide +kernel
theorem dX12_does_69 : decode cX12_does 69 = .ok (.iload_n 2, 1) := by decide +kernel
theorem dX12_does_70 : decode cX12_does 70 = .ok (.invokevirtual 485, 3) := by decide +kernel
theorem dX12_does_73 : decode cX12_does 73 = .ok (.ireturn, 1) := by decide +kernel
theorem dX12_does_74 : decode cX12_does 74 = .ok (.aload_n 0, 1) := by decide +kernel
theorem dX12_does_75 : decode cX12_does 75 = .ok (.invokevirtual 488, 3) := by decide +kernel
theorem dX12_does_78 : decode cX12_does 78 = .ok (.ireturn, 1) := by decide +kernel
theorem dX12_does_79 : decode cX12_does 79 = .ok (.aload_n 0, 1) := by decide +kernel
theorem dX12_does_80 : decode cX12_does 80 = .ok (.iload_n 2, 1) := by decide +kernel
theorem dX12_does_81 : decode cX12_does 81 = .ok (.iload_n 3, 1) := by decide +kernel
theorem dX12_does_82 : decode cX12_does 82 = .ok (.invokevirtual 355, 3) := by decide +kernel
theorem dX12_does_85 : decode cX12_does 85 = .ok (.ireturn, 1) := by decide +kernel
theorem dX12_does_86 : decode cX12_does 86 = .ok (.aload_n 0, 1) := by decide +kernel
theorem dX12_does_87 : decode cX12_does 87 = .ok (.iload_n 2, 1) := by decide +kernel
theorem dX12_does_88 : decode cX12_does 88 = .ok (.iload_n 3, 1) := by decide +kernel
theorem dX12_does_89 : decode cX12_does 89 = .ok (.iconst 1, 1) := by decide +kernel
theorem dX12_does_90 : decode cX12_does 90 = .ok (.invokevirtual 361, 3) := by decide +kernel
theorem dX12_does_93 : decode cX12_does 93 = .ok (.ireturn, 1) := by decide +kernel
theorem dX12_does_94 : decode cX12_does 94 = .ok (.aload_n 0, 1) := by decide +kernel
theorem dX12_does_95 : decode cX12_does 95 = .ok (.iload_n 2, 1) := by decide +kernel
theorem dX12_does_96 : decode cX12_does 96 = .ok (.iload_n 3, 1) := by decide +kernel
theorem dX12_does_97 : decode cX12_does 97 = .ok (.iconst 0, 1) := by decide +kernel
theorem dX12_does_98 : decode cX12_does 98 = .ok (.invokevirtual 361, 3) := by decide +kernel
theorem dX12_does_101 : decode cX12_does 101 = .ok (.ireturn, 1) := by decide +kernel
theorem dX12_does_102 : decode cX12_does 102 = .ok (.aload_n 0, 1) := by decide +kernel
theorem dX12_does_103 : decode cX12_does 103 = .ok (.invokevirtual 365, 3) := by decide +kernel
theorem dX12_does_106 : decode cX12_does 106 = .ok (.ireturn, 1) := by decide +kernel
theorem dX12_does_107 : decode cX12_does 107 = .ok (.aload_n 0, 1) := by decide +kernel
theorem dX12_does_108 : decode cX12_does 108 = .ok (.invokevirtual 491, 3) := by decide +kernel
theorem dX12_does_111 : decode cX12_does 111 = .ok (.ireturn, 1) := by decide +kernel
theorem dX12_does_112 : decode cX12_does 112 = .ok (.iconst 1, 1) := by decide +kernel
theorem dX12_does_113 : decode cX12_does 113 = .ok (.ireturn, 1) := by decide +kernel
set_option maxRecDepth 100000 in
set_option maxHeartbeats 8000000 in
theorem c_X12_does (l : Launch) (D : va_G) (cA : Nat → ClassId) (q aK aV : Nat → Nat) (hq : injG 20 q) {a1 : Int32} {M M0 : Mem} {r0 : Int32} (h : f_X12_does a1 M = some (r0, M0)) : Met l yX12_does (.code yX12_does cX12_does 4 (some .boolean) :: BW) ({ frames := 10, cells := 0, slots := 0, locals := 219 } : Room) (va_Pc [.ref (q 0), .int a1] (CB 20 (ceR cA q) D cA q aK aV M)) (Qi 20 (ceR cA q) D q r0 M0) 0 0 (AqG 20 q) := by
  refine gMet RX12 (by decide +kernel) rfl hq (Nat.le_of_ble_eq_true rfl) ?_
  intro p e s m below meth c ls X hr hk hP hS hl
  have hx := X.1
  have hb := X.2.1
  have hl : lv_has ls 4 [(0, .ref (q 0)), (1, .int a1)] := hl
  rw [f_X12_does] at h
  refine lv_aload_n hx hb dX12_does_0 rfl (lv_at hl 0 rfl) ?_
  refine gfR_12_0 X hP sR_0 bw_1323 dX12_does_1 ?_
  refine lv_iload_n hx hb dX12_does_4 rfl (lv_at hl 1 rfl) ?_
  refine lv_iconst (v := 1) hx hb dX12_does_5 (by decide) ?_
  refine lv_iadd hx hb dX12_does_6 ?_
  obtain ⟨g1, h⟩ := gd_inv h
  refine ldR_ia X hP sR_1 zR_1 g1 dX12_does_7 ?_
  obtain ⟨y2, ey2, h⟩ := lt_inv h
  refine topE ey2 ?_
  refine lv_istore_n (lv' := [(2, .int y2), (0, .ref (q 0)), (1, .int a1)]) hx hb dX12_does_8 rfl hl (by decide) rfl (fun ls hl => ?_)
  refine lv_aload_n hx hb dX12_does_9 rfl (lv_at hl 1 rfl) ?_
  refine gfR_12_0 X hP sR_0 bw_1323 dX12_does_10 ?_
  refine lv_iload_n hx hb dX12_does_13 rfl (lv_at hl 2 rfl) ?_
  refine lv_iconst (v := 2) hx hb dX12_does_14 (by decide) ?_
  refine lv_iadd hx hb dX12_does_15 ?_
  obtain ⟨g3, h⟩ := gd_inv h
  refine ldR_ia X hP sR_1 zR_1 g3 dX12_does_16 ?_
  obtain ⟨y4, ey4, h⟩ := lt_inv h
  refine topE ey4 ?_
  refine lv_istore_n (lv' := [(3, .int y4), (2, .int y2), (0, .ref (q 0)), (1, .int a1)]) hx hb dX12_does_17 rfl hl (by decide) rfl (fun ls hl => ?_)
  refine lv_aload_n hx hb dX12_does_18 rfl (lv_at hl 2 rfl) ?_
  refine gfR_12_0 X hP sR_0 bw_1323 dX12_does_19 ?_
  refine lv_iload_n hx hb dX12_does_22 rfl (lv_at hl 3 rfl) ?_
  obtain ⟨g5, h⟩ := gd_inv h
  refine ldR_ia X hP sR_1 zR_1 g5 dX12_does_23 ?_
  obtain ⟨y6, ey6, h⟩ := lt_inv h
  refine topE ey6 ?_
  by_cases c11 : y6 = 15
  · rw [if_pos c11] at h
    refine lv_tableIn (tgt := 68) hx hb dX12_does_24 (by rw [c11]; decide) (by rw [c11]; decide) (by rw [c11]; rfl) (by decide) ?_
    refine lv_aload_n hx hb dX12_does_68 rfl (lv_at hl 2 rfl) ?_
    refine lv_iload_n hx hb dX12_does_69 rfl (lv_at hl 1 rfl) ?_
    obtain ⟨r7, M8, hc9, h⟩ := bnd_inv h
    refine gV_i (As := [.int y2]) X hP hS hl.1 (c_X12_sitsBy l D cA q aK aV hq hc9) sf_X12_sitsBy bw_2073 sv_X12_sitsBy (rcR_12 sR_0) rfl ⟨rfl, rfl⟩ ⟨Nat.le_of_ble_eq_true rfl, Nat.le_of_ble_eq_true rfl⟩ rfl rfl (Nat.le_of_ble_eq_true rfl) dX12_does_70 (fun H locs hP hS => ?_)
    obtain ⟨g10, h⟩ := gd_inv h
    exact end_z X hr hk hP hS (Decidable.not_not.mp g10) h dX12_does_73
  rw [if_neg c11] at h
  by_cases c16 : y6 = 16
  · rw [if_pos c16] at h
    refine lv_tableIn (tgt := 74) hx hb dX12_does_24 (by rw [c16]; decide) (by rw [c16]; decide) (by rw [c16]; rfl) (by decide) ?_
    refine lv_aload_n hx hb dX12_does_74 rfl (lv_at hl 2 rfl) ?_
    obtain ⟨r12, M13, hc14, h⟩ := bnd_inv h
    refine gV_i (As := []) X hP hS hl.1 (c_X12_termsBy l D cA q aK aV hq hc14) sf_X12_termsBy bw_2077 sv_X12_termsBy (rcR_12 sR_0) rfl ⟨rfl, rfl⟩ ⟨Nat.le_of_ble_eq_true rfl, Nat.le_of_ble_eq_true rfl⟩ rfl rfl (Nat.le_of_ble_eq_true rfl) dX12_does_75 (fun H locs hP hS => ?_)
    obtain ⟨g15, h⟩ := gd_inv h
    exact end_z X hr hk hP hS (Decidable.not_not.mp g15) h dX12_does_78
  rw [if_neg c16] at h
  by_cases c21 : y6 = 17
  · rw [if_pos c21] at h
    refine lv_tableIn (tgt := 79) hx hb dX12_does_24 (by rw [c21]; decide) (by rw [c21]; decide) (by rw [c21]; rfl) (by decide) ?_
    refine lv_aload_n hx hb dX12_does_79 rfl (lv_at hl 2 rfl) ?_
    refine lv_iload_n hx hb dX12_does_80 rfl (lv_at hl 1 rfl) ?_
    refine lv_iload_n hx hb dX12_does_81 rfl (lv_at hl 0 rfl) ?_
    obtain ⟨r17, M18, hc19, h⟩ := bnd_inv h
    refine gV_i (As := [.int y2, .int y4]) X hP hS hl.1 (c_X12_meals l D cA q aK aV hq hc19) sf_X12_meals bw_1810 sv_X12_meals (rcR_12 sR_0) rfl ⟨rfl, rfl⟩ ⟨Nat.le_of_ble_eq_true rfl, Nat.le_of_ble_eq_true rfl⟩ rfl rfl (Nat.le_of_ble_eq_true rfl) dX12_does_82 (fun H locs hP hS => ?_)
    obtain ⟨g20, h⟩ := gd_inv h
    exact end_z X hr hk hP hS (Decidable.not_not.mp g20) h dX12_does_85
  rw [if_neg c21] at h
  by_cases c26 : y6 = 18
  · rw [if_pos c26] at h
    refine lv_tableIn (tgt := 86) hx hb dX12_does_24 (by rw [c26]; decide) (by rw [c26]; decide) (by rw [c26]; rfl) (by decide) ?_
    refine lv_aload_n hx hb dX12_does_86 rfl (lv_at hl 2 rfl) ?_
    refine lv_iload_n hx hb dX12_does_87 rfl (lv_at hl 1 rfl) ?_
    refine lv_iload_n hx hb dX12_does_88 rfl (lv_at hl 0 rfl) ?_
    refine lv_iconst (v := 1) hx hb dX12_does_89 (by decide) ?_
    obtain ⟨r22, M23, hc24, h⟩ := bnd_inv h
    refine gV_i (As := [.int y2, .int y4, .int (1 : Int32)]) X hP hS hl.1 (c_X12_scents l D cA q aK aV hq hc24) sf_X12_scents bw_1822 sv_X12_scents (rcR_12 sR_0) rfl ⟨rfl, rfl⟩ ⟨Nat.le_of_ble_eq_true rfl, Nat.le_of_ble_eq_true rfl⟩ rfl rfl (Nat.le_of_ble_eq_true rfl) dX12_does_90 (fun H locs hP hS => ?_)
    obtain ⟨g25, h⟩ := gd_inv h
    exact end_z X hr hk hP hS (Decidable.not_not.mp g25) h dX12_does_93
  rw [if_neg c26] at h
  by_cases c31 : y6 = 19
  · rw [if_pos c31] at h
    refine lv_tableIn (tgt := 94) hx hb dX12_does_24 (by rw [c31]; decide) (by rw [c31]; decide) (by rw [c31]; rfl) (by decide) ?_
    refine lv_aload_n hx hb dX12_does_94 rfl (lv_at hl 2 rfl) ?_
    refine lv_iload_n hx hb dX12_does_95 rfl (lv_at hl 1 rfl) ?_
    refine lv_iload_n hx hb dX12_does_96 rfl (lv_at hl 0 rfl) ?_
    refine lv_iconst (v := 0) hx hb dX12_does_97 (by decide) ?_
    obtain ⟨r27, M28, hc29, h⟩ := bnd_inv h
    refine gV_i (As := [.int y2, .int y4, .int (0 : Int32)]) X hP hS hl.1 (c_X12_scents l D cA q aK aV hq hc29) sf_X12_scents bw_1822 sv_X12_scents (rcR_12 sR_0) rfl ⟨rfl, rfl⟩ ⟨Nat.le_of_ble_eq_true rfl, Nat.le_of_ble_eq_true rfl⟩ rfl rfl (Nat.le_of_ble_eq_true rfl) dX12_does_98 (fun H locs hP hS => ?_)
    obtain ⟨g30, h⟩ := gd_inv h
    exact end_z X hr hk hP hS (Decidable.not_not.mp g30) h dX12_does_101
  rw [if_neg c31] at h
  by_cases c36 : y6 = 20
  · rw [if_pos c36] at h
    refine lv_tableIn (tgt := 102) hx hb dX12_does_24 (by rw [c36]; decide) (by rw [c36]; decide) (by rw [c36]; rfl) (by decide) ?_
    refine lv_aload_n hx hb dX12_does_102 rfl (lv_at hl 2 rfl) ?_
    obtain ⟨r32, M33, hc34, h⟩ := bnd_inv h
    refine gV_i (As := []) X hP hS hl.1 (c_X12_nights l D cA q aK aV hq hc34) sf_X12_nights bw_1830 sv_X12_nights (rcR_12 sR_0) rfl ⟨rfl, rfl⟩ ⟨Nat.le_of_ble_eq_true rfl, Nat.le_of_ble_eq_true rfl⟩ rfl rfl (Nat.le_of_ble_eq_true rfl) dX12_does_103 (fun H locs hP hS => ?_)
    obtain ⟨g35, h⟩ := gd_inv h
    exact end_z X hr hk hP hS (Decidable.not_not.mp g35) h dX12_does_106
  rw [if_neg c36] at h
  by_cases c41 : y6 = 21
  · rw [if_pos c41] at h
    refine lv_tableIn (tgt := 107) hx hb dX12_does_24 (by rw [c41]; decide) (by rw [c41]; decide) (by rw [c41]; rfl) (by decide) ?_
    refine lv_aload_n hx hb dX12_does_107 rfl (lv_at hl 2 rfl) ?_
    obtain ⟨r37, M38, hc39, h⟩ := bnd_inv h
    refine gV_i (As := []) X hP hS hl.1 (c_X12_feedsAny l D cA q aK aV hq hc39) sf_X12_feedsAny bw_2081 sv_X12_feedsAny (rcR_12 sR_0) rfl ⟨rfl, rfl⟩ ⟨Nat.le_of_ble_eq_true rfl, Nat.le_of_ble_eq_true rfl⟩ rfl rfl (Nat.le_of_ble_eq_true rfl) dX12_does_108 (fun H locs hP hS => ?_)
    obtain ⟨g40, h⟩ := gd_inv h
    exact end_z X hr hk hP hS (Decidable.not_not.mp g40) h dX12_does_111
  rw [if_neg c41] at h
  refine lv_tableOut (tgt := 112) hx hb dX12_does_24 (by have nc11 := lv_neT (a := 15) c11 (by decide); have nc16 := lv_neT (a := 16) c16 (by decide); have nc21 := lv_neT (a := 17) c21 (by decide); have nc26 := lv_neT (a := 18) c26 (by decide); have nc31 := lv_neT (a := 19) c31 (by decide); have nc36 := lv_neT (a := 20) c36 (by decide); have nc41 := lv_neT (a := 21) c41 (by decide); omega) (by decide) ?_
  refine lv_iconst (v := 1) hx hb dX12_does_112 (by decide) ?_
  exact end_z X hr hk hP hS (Or.inr rfl) h dX12_does_113
theorem dX12_holds_0 : decode cX12_holds 0 = .ok (.aload_n 0, 1) := by decide +kernel
theorem dX12_holds_1 : decode cX12_holds 1 = .ok (.getfield 7, 3) := by decide +kernel
theorem dX12_holds_4 : decode cX12_holds 4 = .ok (.iload_n 1, 1) := by decide +kernel
theorem dX12_holds_5 : decode cX12_holds 5 = .ok (.iaload, 1) := by decide +kernel
theorem dX12_holds_6 : decode cX12_holds 6 = .ok (.sipush 2200, 3) := by decide +kernel
theorem dX12_holds_9 : decode cX12_holds 9 = .ok (.isub, 1) := by decide +kernel
theorem dX12_holds_10 : decode cX12_holds 10 = .ok (.istore_n 2, 1) := by decide +kernel
theorem dX12_holds_11 : decode cX12_holds 11 = .ok (.aload_n 0, 1) := by decide +kernel
theorem dX12_holds_12 : decode cX12_holds 12 = .ok (.getfield 7, 3) := by decide +kernel
theorem dX12_holds_15 : decode cX12_holds 15 = .ok (.iload_n 1, 1) := by decide +kernel
theorem dX12_holds_16 : decode cX12_holds 16 = .ok (.iconst 1, 1) := by decide +kernel
theorem dX12_holds_17 : decode cX12_holds 17 = .ok (.iadd, 1) := by decide +kernel
theorem dX12_holds_18 : decode cX12_holds 18 = .ok (.iaload, 1) := by decide +kernel
theorem dX12_holds_19 : decode cX12_holds 19 = .ok (.istore_n 3, 1) := by decide +kernel
theorem dX12_holds_20 : decode cX12_holds 20 = .ok (.iload_n 2, 1) := by decide +kernel
theorem dX12_holds_21 : decode cX12_holds 21 = .ok (.bipush 26, 2) := by decide +kernel
theorem dX12_holds_23 : decode cX12_holds 23 = .ok (.if_icmp .ne 32, 3) := by decide +kernel
theorem dX12_holds_26 : decode cX12_holds 26 = .ok (.aload_n 0, 1) := by decide +kernel
theorem dX12_holds_27 : decode cX12_holds 27 = .ok (.iload_n 3, 1) := by decide +kernel
theorem dX12_holds_28 : decode cX12_holds 28 = .ok (.aload_n 0, 1) := by decide +kernel
theorem dX12_holds_29 : decode cX12_holds 29 = .ok (.getfield 7, 3) := by decide +kernel
theorem dX12_holds_32 : decode cX12_holds 32 = .ok (.bipush 6, 2) := by decide +kernel
theorem dX12_holds_34 : decode cX12_holds 34 = .ok (.iaload, 1) := by decide +kernel
theorem dX12_holds_35 : decode cX12_holds 35 = .ok (.invokevirtual 332, 3) := by decide +kernel
theorem dX12_holds_38 : decode cX12_holds 38 = .ok (.aload_n 0, 1) := by decide +kernel
theorem dX12_holds_39 : decode cX12_holds 39 = .ok (.getfield 7, 3) := by decide +kernel
theorem dX12_holds_42 : decode cX12_holds 42 = .ok (.iload_n 1, 1) := by decide +kernel
theorem dX12_holds_43 : decode cX12_holds 43 = .ok (.iconst 2, 1) := by decide +kernel
theorem dX12_holds_44 : decode cX12_holds 44 = .ok (.iadd, 1) := by decide +kernel
theorem dX12_holds_45 : decode cX12_holds 45 = .ok (.iaload, 1) := by decide +kernel
theorem dX12_holds_46 : decode cX12_holds 46 = .ok (.if_icmp .ne 7, 3) := by decide +kernel
theorem dX12_holds_49 : decode cX12_holds 49 = .ok (.iconst 1, 1) := by decide +kernel
theorem dX12_holds_50 : decode cX12_holds 50 = .ok (.goto 4, 3) := by decide +kernel
theorem dX12_holds_53 : decode cX12_holds 53 = .ok (.iconst 0, 1) := by decide +kernel
theorem dX12_holds_54 : decode cX12_holds 54 = .ok (.ireturn, 1) := by decide +kernel
theorem dX12_holds_55 : decode cX12_holds 55 = .ok (.iload_n 2, 1) := by decide +kernel
theorem dX12_holds_56 : decode cX12_holds 56 = .ok (.bipush 27, 2) := by decide +kernel
theorem dX12_holds_58 : decode cX12_holds 58 = .ok (.if_icmp .ne 19, 3) := by decide +kernel
theorem dX12_holds_61 : decode cX12_holds 61 = .ok (.aload_n 0, 1) := by decide +kernel
theorem dX12_holds_62 : decode cX12_holds 62 = .ok (.iload_n 3, 1) := by decide +kernel
theorem dX12_holds_63 : decode cX12_holds 63 = .ok (.iconst 2, 1) := by decide +kernel
theorem dX12_holds_64 : decode cX12_holds 64 = .ok (.invokevirtual 281, 3) := by decide +kernel
theorem dX12_holds_67 : decode cX12_holds 67 = .ok (.iconst 2, 1) := by decide +kernel
theorem dX12_holds_68 : decode cX12_holds 68 = .ok (.if_icmp .ne 7, 3) := by decide +kernel
theorem dX12_holds_71 : decode cX12_holds 71 = .ok (.iconst 1, 1) := by decide +kernel
theorem dX12_holds_72 : decode cX12_holds 72 = .ok (.goto 4, 3) := by decide +kernel
theorem dX12_holds_75 : decode cX12_holds 75 = .ok (.iconst 0, 1) := by decide +kernel
theorem dX12_holds_76 : decode cX12_holds 76 = .ok (.ireturn, 1) := by decide +kernel
theorem dX12_holds_77 : decode cX12_holds 77 = .ok (.iload_n 2, 1) := by decide +kernel
theorem dX12_holds_78 : decode cX12_holds 78 = .ok (.bipush 28, 2) := by decide +kernel
theorem dX12_holds_80 : decode cX12_holds 80 = .ok (.if_icmp .ne 19, 3) := by decide +kernel
theorem dX12_holds_83 : decode cX12_holds 83 = .ok (.aload_n 0, 1) := by decide +kernel
theorem dX12_holds_84 : decode cX12_holds 84 = .ok (.iload_n 3, 1) := by decide +kernel
theorem dX12_holds_85 : decode cX12_holds 85 = .ok (.iconst 2, 1) := by decide +kernel
theorem dX12_holds_86 : decode cX12_holds 86 = .ok (.invokevirtual 281, 3) := by decide +kernel
theorem dX12_holds_89 : decode cX12_holds 89 = .ok (.iconst 1, 1) := by decide +kernel
theorem dX12_holds_90 : decode cX12_holds 90 = .ok (.if_icmp .ne 7, 3) := by decide +kernel
theorem dX12_holds_93 : decode cX12_holds 93 = .ok (.iconst 1, 1) := by decide +kernel
theorem dX12_holds_94 : decode cX12_holds 94 = .ok (.goto 4, 3) := by decide +kernel
theorem dX12_holds_97 : decode cX12_holds 97 = .ok (.iconst 0, 1) := by decide +kernel
theorem dX12_holds_98 : decode cX12_holds 98 = .ok (.ireturn, 1) := by decide +kernel
theorem dX12_holds_99 : decode cX12_holds 99 = .ok (.aload_n 0, 1) := by decide +kernel
theorem dX12_holds_100 : decode cX12_holds 100 = .ok (.getfield 7, 3) := by decide +kernel
theorem dX12_holds_103 : decode cX12_holds 103 = .ok (.iload_n 1, 1) := by decide +kernel
theorem dX12_holds_104 : decode cX12_holds 104 = .ok (.iconst 5, 1) := by decide +kernel
theorem dX12_holds_105 : decode cX12_holds 105 = .ok (.iadd, 1) := by decide +kernel
theorem dX12_holds_106 : decode cX12_holds 106 = .ok (.iaload, 1) := by decide +kernel
theorem dX12_holds_107 : decode cX12_holds 107 = .ok (.aload_n 0, 1) := by decide +kernel
theorem dX12_holds_108 : decode cX12_holds 108 = .ok (.getfield 7, 3) := by decide +kernel
theorem dX12_holds_111 : decode cX12_holds 111 = .ok (.bipush 6, 2) := by decide +kernel
theorem dX12_holds_113 : decode cX12_holds 113 = .ok (.iaload, 1) := by decide +kernel
theorem dX12_holds_114 : decode cX12_holds 114 = .ok (.aload_n 0, 1) := by decide +kernel
theorem dX12_holds_115 : decode cX12_holds 115 = .ok (.getfield 7, 3) := by decide +kernel
theorem dX12_holds_118 : decode cX12_holds 118 = .ok (.iload_n 1, 1) := by decide +kernel
theorem dX12_holds_119 : decode cX12_holds 119 = .ok (.iconst 2, 1) := by decide +kernel
theorem dX12_holds_120 : decode cX12_holds 120 = .ok (.iadd, 1) := by decide +kernel
theorem dX12_holds_121 : decode cX12_holds 121 = .ok (.iaload, 1) := by decide +kernel
theorem dX12_holds_122 : decode cX12_holds 122 = .ok (.invokestatic 318, 3) := by decide +kernel
theorem dX12_holds_125 : decode cX12_holds 125 = .ok (.ireturn, 1) := by decide +kernel
set_option maxRecDepth 100000 in
set_option maxHeartbeats 8000000 in
theorem c_X12_holds (l : Launch) (D : va_G) (cA : Nat → ClassId) (q aK aV : Nat → Nat) (hq : injG 20 q) {a1 : Int32} {M M0 : Mem} {r0 : Int32} (h : f_X12_holds a1 M = some (r0, M0)) : Met l yX12_holds (.code yX12_holds cX12_holds 4 (some .boolean) :: BW) ({ frames := 7, cells := 0, slots := 0, locals := 151 } : Room) (va_Pc [.ref (q 0), .int a1] (CB 20 (ceR cA q) D cA q aK aV M)) (Qi 20 (ceR cA q) D q r0 M0) 0 0 (AqG 20 q) := by
  refine gMet RX12 (by decide +kernel) rfl hq (Nat.le_of_ble_eq_true rfl) ?_
  intro p e s m below meth c ls X hr hk hP hS hl
  have hx := X.1
  have hb := X.2.1
  have hl : lv_has ls 4 [(0, .ref (q 0)), (1, .int a1)] := hl
  rw [f_X12_holds] at h
  refine lv_aload_n hx hb dX12_holds_0 rfl (lv_at hl 0 rfl) ?_
  refine gfR_12_0 X hP sR_0 bw_1323 dX12_holds_1 ?_
  refine lv_iload_n hx hb dX12_holds_4 rfl (lv_at hl 1 rfl) ?_
  obtain ⟨g1, h⟩ := gd_inv h
  refine ldR_ia X hP sR_1 zR_1 g1 dX12_holds_5 ?_
  refine lv_sipush (v := 2200) hx hb dX12_holds_6 (by decide) ?_
  refine lv_isub hx hb dX12_holds_9 ?_
  obtain ⟨y2, ey2, h⟩ := lt_inv h
  refine topE ey2 ?_
  refine lv_istore_n (lv' := [(2, .int y2), (0, .ref (q 0)), (1, .int a1)]) hx hb dX12_holds_10 rfl hl (by decide) rfl (fun ls hl => ?_)
  refine lv_aload_n hx hb dX12_holds_11 rfl (lv_at hl 1 rfl) ?_
  refine gfR_12_0 X hP sR_0 bw_1323 dX12_holds_12 ?_
  refine lv_iload_n hx hb dX12_holds_15 rfl (lv_at hl 2 rfl) ?_
  refine lv_iconst (v := 1) hx hb dX12_holds_16 (by decide) ?_
  refine lv_iadd hx hb dX12_holds_17 ?_
  obtain ⟨g3, h⟩ := gd_inv h
  refine ldR_ia X hP sR_1 zR_1 g3 dX12_holds_18 ?_
  obtain ⟨y4, ey4, h⟩ := lt_inv h
  refine topE ey4 ?_
  refine lv_istore_n (lv' := [(3, .int y4), (2, .int y2), (0, .ref (q 0)), (1, .int a1)]) hx hb dX12_holds_19 rfl hl (by decide) rfl (fun ls hl => ?_)
  refine lv_iload_n hx hb dX12_holds_20 rfl (lv_at hl 1 rfl) ?_
  refine lv_bipush (v := 26) hx hb dX12_holds_21 (by decide) ?_
  refine lv_icmp_ne (tgt := 55) hx hb dX12_holds_23 (by decide) (fun c5 => ?_) (fun c5 => ?_)
  · rw [if_neg c5] at h
    refine lv_iload_n hx hb dX12_holds_55 rfl (lv_at hl 1 rfl) ?_
    refine lv_bipush (v := 27) hx hb dX12_holds_56 (by decide) ?_
    refine lv_icmp_ne (tgt := 77) hx hb dX12_holds_58 (by decide) (fun c6 => ?_) (fun c6 => ?_)
    · rw [if_neg c6] at h
      refine lv_iload_n hx hb dX12_holds_77 rfl (lv_at hl 1 rfl) ?_
      refine lv_bipush (v := 28) hx hb dX12_holds_78 (by decide) ?_
      refine lv_icmp_ne (tgt := 99) hx hb dX12_holds_80 (by decide) (fun c7 => ?_) (fun c7 => ?_)
      · rw [if_neg c7] at h
        refine lv_aload_n hx hb dX12_holds_99 rfl (lv_at hl 2 rfl) ?_
        refine gfR_12_0 X hP sR_0 bw_1323 dX12_holds_100 ?_
        refine lv_iload_n hx hb dX12_holds_103 rfl (lv_at hl 3 rfl) ?_
        refine lv_iconst (v := 5) hx hb dX12_holds_104 (by decide) ?_
        refine lv_iadd hx hb dX12_holds_105 ?_
        obtain ⟨g8, h⟩ := gd_inv h
        refine ldR_ia X hP sR_1 zR_1 g8 dX12_holds_106 ?_
        refine lv_aload_n hx hb dX12_holds_107 rfl (lv_at hl 2 rfl) ?_
        refine gfR_12_0 X hP sR_0 bw_1323 dX12_holds_108 ?_
        refine lv_bipush (v := 6) hx hb dX12_holds_111 (by decide) ?_
        refine ldR_ia X hP sR_1 zR_1 (by decide) dX12_holds_113 ?_
        refine topE (y := (gI M 1 6)) rfl ?_
        refine lv_aload_n hx hb dX12_holds_114 rfl (lv_at hl 2 rfl) ?_
        refine gfR_12_0 X hP sR_0 bw_1323 dX12_holds_115 ?_
        refine lv_iload_n hx hb dX12_holds_118 rfl (lv_at hl 3 rfl) ?_
        refine lv_iconst (v := 2) hx hb dX12_holds_119 (by decide) ?_
        refine lv_iadd hx hb dX12_holds_120 ?_
        obtain ⟨g9, h⟩ := gd_inv h
        refine ldR_ia X hP sR_1 zR_1 g9 dX12_holds_121 ?_
        obtain ⟨r10, M11, hc12, h⟩ := bnd_inv h
        refine gS_i (As := [.int (gI M 1 ((a1 + (5 : Int32))).toNatClampNeg), .int (gI M 1 6), .int (gI M 1 ((a1 + (2 : Int32))).toNatClampNeg)]) X hP hS hl.1 (c_X12_isSo l D cA q aK aV hq hc12) sf_X12_isSo bw_1759 ss_X12_isSo ⟨rfl, rfl⟩ ⟨Nat.le_of_ble_eq_true rfl, Nat.le_of_ble_eq_true rfl⟩ rfl rfl (Nat.le_of_ble_eq_true rfl) dX12_holds_122 (fun H locs hP hS => ?_)
        obtain ⟨g13, h⟩ := gd_inv h
        exact end_z X hr hk hP hS (Decidable.not_not.mp g13) h dX12_holds_125
      · rw [if_pos c7] at h
        refine lv_aload_n hx hb dX12_holds_83 rfl (lv_at hl 2 rfl) ?_
        refine lv_iload_n hx hb dX12_holds_84 rfl (lv_at hl 0 rfl) ?_
        refine lv_iconst (v := 2) hx hb dX12_holds_85 (by decide) ?_
        obtain ⟨r14, M15, hc16, h⟩ := bnd_inv h
        refine gV_i (As := [.int y4, .int (2 : Int32)]) X hP hS hl.1 (c_X12_personOf l D cA q aK aV hq hc16) sf_X12_personOf bw_1683 sv_X12_personOf (rcR_12 sR_0) rfl ⟨rfl, rfl⟩ ⟨Nat.le_of_ble_eq_true rfl, Nat.le_of_ble_eq_true rfl⟩ rfl rfl (Nat.le_of_ble_eq_true rfl) dX12_holds_86 (fun H locs hP hS => ?_)
        refine lv_iconst (v := 1) hx hb dX12_holds_89 (by decide) ?_
        refine lv_icmp_ne (tgt := 97) hx hb dX12_holds_90 (by decide) (fun c17 => ?_) (fun c17 => ?_)
        · rw [if_neg c17] at h
          refine lv_iconst (v := 0) hx hb dX12_holds_97 (by decide) ?_
          exact end_z X hr hk hP hS (Or.inl rfl) h dX12_holds_98
        · rw [if_pos c17] at h
          refine lv_iconst (v := 1) hx hb dX12_holds_93 (by decide) ?_
          refine lv_goto (tgt := 98) hx hb dX12_holds_94 (by decide) ?_
          exact end_z X hr hk hP hS (Or.inr rfl) h dX12_holds_98
    · rw [if_pos c6] at h
      refine lv_aload_n hx hb dX12_holds_61 rfl (lv_at hl 2 rfl) ?_
      refine lv_iload_n hx hb dX12_holds_62 rfl (lv_at hl 0 rfl) ?_
      refine lv_iconst (v := 2) hx hb dX12_holds_63 (by decide) ?_
      obtain ⟨r18, M19, hc20, h⟩ := bnd_inv h
      refine gV_i (As := [.int y4, .int (2 : Int32)]) X hP hS hl.1 (c_X12_personOf l D cA q aK aV hq hc20) sf_X12_personOf bw_1683 sv_X12_personOf (rcR_12 sR_0) rfl ⟨rfl, rfl⟩ ⟨Nat.le_of_ble_eq_true rfl, Nat.le_of_ble_eq_true rfl⟩ rfl rfl (Nat.le_of_ble_eq_true rfl) dX12_holds_64 (fun H locs hP hS => ?_)
      refine lv_iconst (v := 2) hx hb dX12_holds_67 (by decide) ?_
      refine lv_icmp_ne (tgt := 75) hx hb dX12_holds_68 (by decide) (fun c21 => ?_) (fun c21 => ?_)
      · rw [if_neg c21] at h
        refine lv_iconst (v := 0) hx hb dX12_holds_75 (by decide) ?_
        exact end_z X hr hk hP hS (Or.inl rfl) h dX12_holds_76
      · rw [if_pos c21] at h
        refine lv_iconst (v := 1) hx hb dX12_holds_71 (by decide) ?_
        refine lv_goto (tgt := 76) hx hb dX12_holds_72 (by decide) ?_
        exact end_z X hr hk hP hS (Or.inr rfl) h dX12_holds_76
  · rw [if_pos c5] at h
    refine lv_aload_n hx hb dX12_holds_26 rfl (lv_at hl 2 rfl) ?_
    refine lv_iload_n hx hb dX12_holds_27 rfl (lv_at hl 0 rfl) ?_
    refine lv_aload_n hx hb dX12_holds_28 rfl (lv_at hl 2 rfl) ?_
    refine gfR_12_0 X hP sR_0 bw_1323 dX12_holds_29 ?_
    refine lv_bipush (v := 6) hx hb dX12_holds_32 (by decide) ?_
    refine ldR_ia X hP sR_1 zR_1 (by decide) dX12_holds_34 ?_
    refine topE (y := (gI M 1 6)) rfl ?_
    obtain ⟨r22, M23, hc24, h⟩ := bnd_inv h
    refine gV_i (As := [.int y4, .int (gI M 1 6)]) X hP hS hl.1 (c_X12_cueFor l D cA q aK aV hq hc24) sf_X12_cueFor bw_1739 sv_X12_cueFor (rcR_12 sR_0) rfl ⟨rfl, rfl⟩ ⟨Nat.le_of_ble_eq_true rfl, Nat.le_of_ble_eq_true rfl⟩ rfl rfl (Nat.le_of_ble_eq_true rfl) dX12_holds_35 (fun H locs hP hS => ?_)
    refine lv_aload_n hx hb dX12_holds_38 rfl (lv_at hl 2 rfl) ?_
    refine gfR_12_0 X hP sR_0 bw_1323 dX12_holds_39 ?_
    refine lv_iload_n hx hb dX12_holds_42 rfl (lv_at hl 3 rfl) ?_
    refine lv_iconst (v := 2) hx hb dX12_holds_43 (by decide) ?_
    refine lv_iadd hx hb dX12_holds_44 ?_
    obtain ⟨g25, h⟩ := gd_inv h
    refine ldR_ia X hP sR_1 zR_1 g25 dX12_holds_45 ?_
    refine lv_icmp_ne (tgt := 53) hx hb dX12_holds_46 (by decide) (fun c26 => ?_) (fun c26 => ?_)
    · rw [if_neg c26] at h
      refine lv_iconst (v := 0) hx hb dX12_holds_53 (by decide) ?_
      exact end_z X hr hk hP hS (Or.inl rfl) h dX12_holds_54
    · rw [if_pos c26] at h
      refine lv_iconst (v := 1) hx hb dX12_holds_49 (by decide) ?_
      refine lv_goto (tgt := 54) hx hb dX12_holds_50 (by decide) ?_
      exact end_z X hr hk hP hS (Or.inr rfl) h dX12_holds_54
theorem dX12_behindEnds_0 : decode cX12_behindEnds 0 = .ok (.iload_n 1, 1) := by decide +kernel
theorem dX12_behindEnds_1 : decode cX12_behindEnds 1 = .ok (.istore_n 2, 1) := by decide +kernel
theorem dX12_behindEnds_2 : decode cX12_behindEnds 2 = .ok (.iload_n 2, 1) := by decide +kernel
theorem dX12_behindEnds_3 : decode cX12_behindEnds 3 = .ok (.aload_n 0, 1) := by decide +kernel
theorem dX12_behindEnds_4 : decode cX12_behindEnds 4 = .ok (.getfield 7, 3) := by decide +kernel
theorem dX12_behindEnds_7 : decode cX12_behindEnds 7 = .ok (.bipush 8, 2) := by decide +kernel
theorem dX12_behindEnds_9 : decode cX12_behindEnds 9 = .ok (.iaload, 1) := by decide +kernel
theorem dX12_behindEnds_10 : decode cX12_behindEnds 10 = .ok (.if_icmp .ge 108, 3) := by decide +kernel
theorem dX12_behindEnds_13 : decode cX12_behindEnds 13 = .ok (.aload_n 0, 1) := by decide +kernel
theorem dX12_behindEnds_14 : decode cX12_behindEnds 14 = .ok (.getfield 7, 3) := by decide +kernel
theorem dX12_behindEnds_17 : decode cX12_behindEnds 17 = .ok (.sipush 134, 3) := by decide +kernel
theorem dX12_behindEnds_20 : decode cX12_behindEnds 20 = .ok (.bipush 6, 2) := by decide +kernel
theorem dX12_behindEnds_22 : decode cX12_behindEnds 22 = .ok (.iload_n 2, 1) := by decide +kernel
theorem dX12_behindEnds_23 : decode cX12_behindEnds 23 = .ok (.imul, 1) := by decide +kernel
theorem dX12_behindEnds_24 : decode cX12_behindEnds 24 = .ok (.iadd, 1) := by decide +kernel
theorem dX12_behindEnds_25 : decode cX12_behindEnds 25 = .ok (.iaload, 1) := by decide +kernel
theorem dX12_behindEnds_26 : decode cX12_behindEnds 26 = .ok (.bipush 24, 2) := by decide +kernel
theorem dX12_behindEnds_28 : decode cX12_behindEnds 28 = .ok (.if_icmp .ne 90, 3) := by decide +kernel
theorem dX12_behindEnds_31 : decode cX12_behindEnds 31 = .ok (.aload_n 0, 1) := by decide +kernel
theorem dX12_behindEnds_32 : decode cX12_behindEnds 32 = .ok (.getfield 7, 3) := by decide +kernel
theorem dX12_behindEnds_35 : decode cX12_behindEnds 35 = .ok (.sipush 134, 3) := by decide +kernel
theorem dX12_behindEnds_38 : decode cX12_behindEnds 38 = .ok (.bipush 6, 2) := by decide +kernel
theorem dX12_behindEnds_40 : decode cX12_behindEnds 40 = .ok (.iload_n 2, 1) := by decide +kernel
theorem dX12_behindEnds_41 : decode cX12_behindEnds 41 = .ok (.imul, 1) := by decide +kernel
theorem dX12_behindEnds_42 : decode cX12_behindEnds 42 = .ok (.iadd, 1) := by decide +kernel
theorem dX12_behindEnds_43 : decode cX12_behindEnds 43 = .ok (.iconst 4, 1) := by decide +kernel
theorem dX12_behindEnds_44 : decode cX12_behindEnds 44 = .ok (.iadd, 1) := by decide +kernel
theorem dX12_behindEnds_45 : decode cX12_behindEnds 45 = .ok (.iaload, 1) := by decide +kernel
theorem dX12_behindEnds_46 : decode cX12_behindEnds 46 = .ok (.istore_n 3, 1) := by decide +kernel
theorem dX12_behindEnds_47 : decode cX12_behindEnds 47 = .ok (.aload_n 0, 1) := by decide +kernel
theorem dX12_behindEnds_48 : decode cX12_behindEnds 48 = .ok (.getfield 7, 3) := by decide +kernel
theorem dX12_behindEnds_51 : decode cX12_behindEnds 51 = .ok (.sipush 134, 3) := by decide +kernel
theorem dX12_behindEnds_54 : decode cX12_behindEnds 54 = .ok (.bipush 6, 2) := by decide +kernel
theorem dX12_behindEnds_56 : decode cX12_behindEnds 56 = .ok (.iload_n 3, 1) := by decide +kernel
theorem dX12_behindEnds_57 : decode cX12_behindEnds 57 = .ok (.imul, 1) := by decide +kernel
theorem dX12_behindEnds_58 : decode cX12_behindEnds 58 = .ok (.iadd, 1) := by decide +kernel
theorem dX12_behindEnds_59 : decode cX12_behindEnds 59 = .ok (.iaload, 1) := by decide +kernel
theorem dX12_behindEnds_60 : decode cX12_behindEnds 60 = .ok (.bipush 23, 2) := by decide +kernel
theorem dX12_behindEnds_62 : decode cX12_behindEnds 62 = .ok (.if_icmp .ne 16, 3) := by decide +kernel
theorem dX12_behindEnds_65 : decode cX12_behindEnds 65 = .ok (.aload_n 0, 1) := by decide +kernel
theorem dX12_behindEnds_66 : decode cX12_behindEnds 66 = .ok (.getfield 72, 3) := by decide +kernel
theorem dX12_behindEnds_69 : decode cX12_behindEnds 69 = .ok (.iload_n 3, 1) := by decide +kernel
theorem dX12_behindEnds_70 : decode cX12_behindEnds 70 = .ok (.iaload, 1) := by decide +kernel
theorem dX12_behindEnds_71 : decode cX12_behindEnds 71 = .ok (.ifCond .le 7, 3) := by decide +kernel
theorem dX12_behindEnds_74 : decode cX12_behindEnds 74 = .ok (.iconst 1, 1) := by decide +kernel
theorem dX12_behindEnds_75 : decode cX12_behindEnds 75 = .ok (.goto 4, 3) := by decide +kernel
theorem dX12_behindEnds_78 : decode cX12_behindEnds 78 = .ok (.iconst 0, 1) := by decide +kernel
theorem dX12_behindEnds_79 : decode cX12_behindEnds 79 = .ok (.istore 4, 2) := by decide +kernel
theorem dX12_behindEnds_81 : decode cX12_behindEnds 81 = .ok (.aload_n 0, 1) := by decide +kernel
theorem dX12_behindEnds_82 : decode cX12_behindEnds 82 = .ok (.getfield 72, 3) := by decide +kernel
theorem dX12_behindEnds_85 : decode cX12_behindEnds 85 = .ok (.iload_n 3, 1) := by decide +kernel
theorem dX12_behindEnds_86 : decode cX12_behindEnds 86 = .ok (.dup2, 1) := by decide +kernel
theorem dX12_behindEnds_87 : decode cX12_behindEnds 87 = .ok (.iaload, 1) := by decide +kernel
theorem dX12_behindEnds_88 : decode cX12_behindEnds 88 = .ok (.iload 4, 2) := by decide +kernel
theorem dX12_behindEnds_90 : decode cX12_behindEnds 90 = .ok (.ifCond .eq 7, 3) := by decide +kernel
theorem dX12_behindEnds_93 : decode cX12_behindEnds 93 = .ok (.iconst 1, 1) := by decide +kernel
theorem dX12_behindEnds_94 : decode cX12_behindEnds 94 = .ok (.goto 4, 3) := by decide +kernel
theorem dX12_behindEnds_97 : decode cX12_behindEnds 97 = .ok (.iconst 0, 1) := by decide +kernel
theorem dX12_behindEnds_98 : decode cX12_behindEnds 98 = .ok (.isub, 1) := by decide +kernel
theorem dX12_behindEnds_99 : decode cX12_behindEnds 99 = .ok (.iastore, 1) := by decide +kernel
theorem dX12_behindEnds_100 : decode cX12_behindEnds 100 = .ok (.iload 4, 2) := by decide +kernel
theorem dX12_behindEnds_102 : decode cX12_behindEnds 102 = .ok (.ifCond .eq 9, 3) := by decide +kernel
theorem dX12_behindEnds_105 : decode cX12_behindEnds 105 = .ok (.iload_n 3, 1) := by decide +kernel
theorem dX12_behindEnds_106 : decode cX12_behindEnds 106 = .ok (.iconst 1, 1) := by decide +kernel
theorem dX12_behindEnds_107 : decode cX12_behindEnds 107 = .ok (.iadd, 1) := by decide +kernel
theorem dX12_behindEnds_108 : decode cX12_behindEnds 108 = .ok (.goto 6, 3) := by decide +kernel
theorem dX12_behindEnds_111 : decode cX12_behindEnds 111 = .ok (.iload_n 2, 1) := by decide +kernel
theorem dX12_behindEnds_112 : decode cX12_behindEnds 112 = .ok (.iconst 1, 1) := by decide +kernel
theorem dX12_behindEnds_113 : decode cX12_behindEnds 113 = .ok (.iadd, 1) := by decide +kernel
theorem dX12_behindEnds_114 : decode cX12_behindEnds 114 = .ok (.istore_n 2, 1) := by decide +kernel
theorem dX12_behindEnds_115 : decode cX12_behindEnds 115 = .ok (.goto (-113), 3) := by decide +kernel
theorem dX12_behindEnds_118 : decode cX12_behindEnds 118 = .ok (.iload_n 2, 1) := by decide +kernel
theorem dX12_behindEnds_119 : decode cX12_behindEnds 119 = .ok (.ireturn, 1) := by decide +kernel
set_option maxRecDepth 100000 in
set_option maxHeartbeats 8000000 in
theorem c_X12_behindEnds (l : Launch) (D : va_G) (cA : Nat → ClassId) (q aK aV : Nat → Nat) (hq : injG 20 q) {a1 : Int32} {M M0 : Mem} {r0 : Int32} (h : f_X12_behindEnds a1 M = some (r0, M0)) : Met l yX12_behindEnds (.code yX12_behindEnds cX12_behindEnds 5 (some .int) :: BW) ({ frames := 1, cells := 0, slots := 0, locals := 16 } : Room) (va_Pc [.ref (q 0), .int a1] (CB 20 (ceR cA q) D cA q aK aV M)) (Qi 20 (ceR cA q) D q r0 M0) 0 0 (AqG 20 q) := by
  refine gMet RX12 (by decide +kernel) rfl hq (Nat.le_of_ble_eq_true rfl) ?_
  intro p e s m below meth c ls X hr hk hP hS hl
  have hx := X.1
  have hb := X.2.1
  have hl : lv_has ls 5 [(0, .ref (q 0)), (1, .int a1)] := hl
  rw [f_X12_behindEnds] at h
  have hL2 : ∀ (fu : Nat) (b2 : Int32) (M : Mem) (res : (Int32) × Mem) (H : Heap) (locs : List Loc) (ls : Array Slot), f_X12_behindEnds_L2 fu b2 M = some res → va_P D vwCl (wsG 20 (ceR cA q) q M) H → va_S (AqG 20 q) s.heap H locs → lv_has ls 5 [(0, .ref (q 0)), (2, .int b2)] → (∀ (H : Heap) (locs : List Loc) (ls : Array Slot), va_P D vwCl (wsG 20 (ceR cA q) q res.2) H → va_S (AqG 20 q) s.heap H locs → lv_has ls 5 [(2, .int (res.1))] → W p l e ({ frames := 1, cells := 0, slots := 0, locals := 16 } : Room) s m [.ref (q 0), .int a1].toArray below meth c H locs 0 0 (MQ below (Qi 20 (ceR cA q) D q r0 M0) [.ref (q 0), .int a1].toArray s 0 0 (AqG 20 q)) (F0 m 118 ls [])) → W p l e ({ frames := 1, cells := 0, slots := 0, locals := 16 } : Room) s m [.ref (q 0), .int a1].toArray below meth c H locs 0 0 (MQ below (Qi 20 (ceR cA q) D q r0 M0) [.ref (q 0), .int a1].toArray s 0 0 (AqG 20 q)) (F0 m 2 ls []) := by
    intro fu
    induction fu with
    | zero => intro b2 M res H locs ls h; exact absurd h (by simp [f_X12_behindEnds_L2])
    | succ fu ih =>
      intro b2 M res H locs ls h hP hS hl K2_0
      rw [f_X12_behindEnds_L2] at h
      have hJ98 : ∀ (b2 : Int32) (b3 : Int32) (b4 : Int32) (s1 : Int32) (s2 : Int32) (s3 : Int32) (M : Mem) (H : Heap) (locs : List Loc) (ls : Array Slot), f_X12_behindEnds_J98 (f_X12_behindEnds_L2 fu) b2 b3 b4 s1 s2 s3 M = some res → va_P D vwCl (wsG 20 (ceR cA q) q M) H → va_S (AqG 20 q) s.heap H locs → lv_has ls 5 [(0, .ref (q 0)), (2, .int b2), (3, .int b3), (4, .int b4)] → W p l e ({ frames := 1, cells := 0, slots := 0, locals := 16 } : Room) s m [.ref (q 0), .int a1].toArray below meth c H locs 0 0 (MQ below (Qi 20 (ceR cA q) D q r0 M0) [.ref (q 0), .int a1].toArray s 0 0 (AqG 20 q)) (F0 m 98 ls [.int s3, .int s2, .int s1, .ref (q 17)]) := by
        intro b2 b3 b4 s1 s2 s3 M H locs ls h hP hS hl
        rw [f_X12_behindEnds_J98] at h
        refine lv_isub hx hb dX12_behindEnds_98 ?_
        obtain ⟨g16, h⟩ := gd_inv h
        obtain ⟨M17, eM17, h⟩ := lt_inv h
        refine stR_ia X hP hS sR_17 zR_17 g16 eM17 dX12_behindEnds_99 (fun H locs hP hS => ?_)
        refine lv_iload hx hb dX12_behindEnds_100 (lv_at hl 3 rfl) ?_
        refine lv_if_eq (tgt := 111) hx hb dX12_behindEnds_102 (by decide) (fun c18 => ?_) (fun c18 => ?_)
        · rw [if_pos c18] at h
          refine lv_iload_n hx hb dX12_behindEnds_111 rfl (lv_at hl 1 rfl) ?_
          refine lv_iconst (v := 1) hx hb dX12_behindEnds_112 (by decide) ?_
          refine lv_iadd hx hb dX12_behindEnds_113 ?_
          obtain ⟨y19, ey19, h⟩ := lt_inv h
          refine topE ey19 ?_
          refine lv_istore_n (lv' := [(2, .int y19), (0, .ref (q 0)), (3, .int b3), (4, .int b4)]) hx hb dX12_behindEnds_114 rfl hl (by decide) rfl (fun ls hl => ?_)
          refine lv_goto (tgt := 2) hx hb dX12_behindEnds_115 (by decide) ?_
          exact ih _ _ res _ _ _ h hP hS (lv_sub hl [1, 0] rfl) K2_0
        · rw [if_neg c18] at h
          refine lv_iload_n hx hb dX12_behindEnds_105 rfl (lv_at hl 2 rfl) ?_
          refine lv_iconst (v := 1) hx hb dX12_behindEnds_106 (by decide) ?_
          refine lv_iadd hx hb dX12_behindEnds_107 ?_
          refine lv_goto (tgt := 114) hx hb dX12_behindEnds_108 (by decide) ?_
          obtain ⟨y20, ey20, h⟩ := lt_inv h
          refine topE ey20 ?_
          refine lv_istore_n (lv' := [(2, .int y20), (0, .ref (q 0)), (3, .int b3), (4, .int b4)]) hx hb dX12_behindEnds_114 rfl hl (by decide) rfl (fun ls hl => ?_)
          refine lv_goto (tgt := 2) hx hb dX12_behindEnds_115 (by decide) ?_
          exact ih _ _ res _ _ _ h hP hS (lv_sub hl [1, 0] rfl) K2_0
      have hJ79 : ∀ (b2 : Int32) (b3 : Int32) (s0 : Int32) (M : Mem) (H : Heap) (locs : List Loc) (ls : Array Slot), f_X12_behindEnds_J79 (f_X12_behindEnds_L2 fu) b2 b3 s0 M = some res → va_P D vwCl (wsG 20 (ceR cA q) q M) H → va_S (AqG 20 q) s.heap H locs → lv_has ls 5 [(0, .ref (q 0)), (2, .int b2), (3, .int b3)] → W p l e ({ frames := 1, cells := 0, slots := 0, locals := 16 } : Room) s m [.ref (q 0), .int a1].toArray below meth c H locs 0 0 (MQ below (Qi 20 (ceR cA q) D q r0 M0) [.ref (q 0), .int a1].toArray s 0 0 (AqG 20 q)) (F0 m 79 ls [.int s0]) := by
        intro b2 b3 s0 M H locs ls h hP hS hl
        rw [f_X12_behindEnds_J79] at h
        refine lv_istore (lv' := [(4, .int s0), (0, .ref (q 0)), (2, .int b2), (3, .int b3)]) hx hb dX12_behindEnds_79 hl (by decide) rfl (fun ls hl => ?_)
        refine lv_aload_n hx hb dX12_behindEnds_81 rfl (lv_at hl 1 rfl) ?_
        refine gfR_12_37 X hP sR_0 bw_1360 dX12_behindEnds_82 ?_
        refine lv_iload_n hx hb dX12_behindEnds_85 rfl (lv_at hl 3 rfl) ?_
        refine lv_dup2_11 hx hb dX12_behindEnds_86 rfl rfl ?_
        obtain ⟨g14, h⟩ := gd_inv h
        refine ldR_ia X hP sR_17 zR_17 g14 dX12_behindEnds_87 ?_
        refine lv_iload hx hb dX12_behindEnds_88 (lv_at hl 0 rfl) ?_
        refine lv_if_eq (tgt := 97) hx hb dX12_behindEnds_90 (by decide) (fun c15 => ?_) (fun c15 => ?_)
        · rw [if_pos c15] at h
          refine lv_iconst (v := 0) hx hb dX12_behindEnds_97 (by decide) ?_
          exact hJ98 _ _ _ _ _ _ _ _ _ _ h hP hS (lv_sub hl [1, 2, 3, 0] rfl)
        · rw [if_neg c15] at h
          refine lv_iconst (v := 1) hx hb dX12_behindEnds_93 (by decide) ?_
          refine lv_goto (tgt := 98) hx hb dX12_behindEnds_94 (by decide) ?_
          exact hJ98 _ _ _ _ _ _ _ _ _ _ h hP hS (lv_sub hl [1, 2, 3, 0] rfl)
      have hJ78 : ∀ (b2 : Int32) (b3 : Int32) (M : Mem) (H : Heap) (locs : List Loc) (ls : Array Slot), f_X12_behindEnds_J78 (f_X12_behindEnds_L2 fu) b2 b3 M = some res → va_P D vwCl (wsG 20 (ceR cA q) q M) H → va_S (AqG 20 q) s.heap H locs → lv_has ls 5 [(0, .ref (q 0)), (2, .int b2), (3, .int b3)] → W p l e ({ frames := 1, cells := 0, slots := 0, locals := 16 } : Room) s m [.ref (q 0), .int a1].toArray below meth c H locs 0 0 (MQ below (Qi 20 (ceR cA q) D q r0 M0) [.ref (q 0), .int a1].toArray s 0 0 (AqG 20 q)) (F0 m 78 ls []) := by
        intro b2 b3 M H locs ls h hP hS hl
        rw [f_X12_behindEnds_J78] at h
        refine lv_iconst (v := 0) hx hb dX12_behindEnds_78 (by decide) ?_
        exact hJ79 _ _ _ _ _ _ _ h hP hS (lv_sub hl [0, 1, 2] rfl)
      refine lv_iload_n hx hb dX12_behindEnds_2 rfl (lv_at hl 1 rfl) ?_
      refine lv_aload_n hx hb dX12_behindEnds_3 rfl (lv_at hl 0 rfl) ?_
      refine gfR_12_0 X hP sR_0 bw_1323 dX12_behindEnds_4 ?_
      refine lv_bipush (v := 8) hx hb dX12_behindEnds_7 (by decide) ?_
      refine ldR_ia X hP sR_1 zR_1 (by decide) dX12_behindEnds_9 ?_
      refine topE (y := (gI M 1 8)) rfl ?_
      refine lv_icmp_ge (tgt := 118) hx hb dX12_behindEnds_10 (by decide) (fun c5 => ?_) (fun c5 => ?_)
      · rw [if_pos c5] at h
        cases h
        exact K2_0 _ _ _ hP hS (lv_sub hl [1] rfl)
      · rw [if_neg c5] at h
        refine lv_aload_n hx hb dX12_behindEnds_13 rfl (lv_at hl 0 rfl) ?_
        refine gfR_12_0 X hP sR_0 bw_1323 dX12_behindEnds_14 ?_
        refine lv_sipush (v := 134) hx hb dX12_behindEnds_17 (by decide) ?_
        refine lv_bipush (v := 6) hx hb dX12_behindEnds_20 (by decide) ?_
        refine lv_iload_n hx hb dX12_behindEnds_22 rfl (lv_at hl 1 rfl) ?_
        refine lv_imul hx hb dX12_behindEnds_23 ?_
        refine lv_iadd hx hb dX12_behindEnds_24 ?_
        obtain ⟨g6, h⟩ := gd_inv h
        refine ldR_ia X hP sR_1 zR_1 g6 dX12_behindEnds_25 ?_
        refine lv_bipush (v := 24) hx hb dX12_behindEnds_26 (by decide) ?_
        refine lv_icmp_ne (tgt := 118) hx hb dX12_behindEnds_28 (by decide) (fun c7 => ?_) (fun c7 => ?_)
        · rw [if_neg c7] at h
          cases h
          exact K2_0 _ _ _ hP hS (lv_sub hl [1] rfl)
        · rw [if_pos c7] at h
          refine lv_aload_n hx hb dX12_behindEnds_31 rfl (lv_at hl 0 rfl) ?_
          refine gfR_12_0 X hP sR_0 bw_1323 dX12_behindEnds_32 ?_
          refine lv_sipush (v := 134) hx hb dX12_behindEnds_35 (by decide) ?_
          refine lv_bipush (v := 6) hx hb dX12_behindEnds_38 (by decide) ?_
          refine lv_iload_n hx hb dX12_behindEnds_40 rfl (lv_at hl 1 rfl) ?_
          refine lv_imul hx hb dX12_behindEnds_41 ?_
          refine lv_iadd hx hb dX12_behindEnds_42 ?_
          refine lv_iconst (v := 4) hx hb dX12_behindEnds_43 (by decide) ?_
          refine lv_iadd hx hb dX12_behindEnds_44 ?_
          obtain ⟨g8, h⟩ := gd_inv h
          refine ldR_ia X hP sR_1 zR_1 g8 dX12_behindEnds_45 ?_
          obtain ⟨y9, ey9, h⟩ := lt_inv h
          refine topE ey9 ?_
          refine lv_istore_n (lv' := [(3, .int y9), (0, .ref (q 0)), (2, .int b2)]) hx hb dX12_behindEnds_46 rfl hl (by decide) rfl (fun ls hl => ?_)
          refine lv_aload_n hx hb dX12_behindEnds_47 rfl (lv_at hl 1 rfl) ?_
          refine gfR_12_0 X hP sR_0 bw_1323 dX12_behindEnds_48 ?_
          refine lv_sipush (v := 134) hx hb dX12_behindEnds_51 (by decide) ?_
          refine lv_bipush (v := 6) hx hb dX12_behindEnds_54 (by decide) ?_
          refine lv_iload_n hx hb dX12_behindEnds_56 rfl (lv_at hl 0 rfl) ?_
          refine lv_imul hx hb dX12_behindEnds_57 ?_
          refine lv_iadd hx hb dX12_behindEnds_58 ?_
          obtain ⟨g10, h⟩ := gd_inv h
          refine ldR_ia X hP sR_1 zR_1 g10 dX12_behindEnds_59 ?_
          refine lv_bipush (v := 23) hx hb dX12_behindEnds_60 (by decide) ?_
          refine lv_icmp_ne (tgt := 78) hx hb dX12_behindEnds_62 (by decide) (fun c11 => ?_) (fun c11 => ?_)
          · rw [if_neg c11] at h
            exact hJ78 _ _ _ _ _ _ h hP hS (lv_sub hl [1, 2, 0] rfl)
          · rw [if_pos c11] at h
            refine lv_aload_n hx hb dX12_behindEnds_65 rfl (lv_at hl 1 rfl) ?_
            refine gfR_12_37 X hP sR_0 bw_1360 dX12_behindEnds_66 ?_
            refine lv_iload_n hx hb dX12_behindEnds_69 rfl (lv_at hl 0 rfl) ?_
            obtain ⟨g12, h⟩ := gd_inv h
            refine ldR_ia X hP sR_17 zR_17 g12 dX12_behindEnds_70 ?_
            refine lv_if_le (tgt := 78) hx hb dX12_behindEnds_71 (by decide) (fun c13 => ?_) (fun c13 => ?_)
            · rw [if_pos c13] at h
              exact hJ78 _ _ _ _ _ _ h hP hS (lv_sub hl [1, 2, 0] rfl)
            · rw [if_neg c13] at h
              refine lv_iconst (v := 1) hx hb dX12_behindEnds_74 (by decide) ?_
              refine lv_goto (tgt := 79) hx hb dX12_behindEnds_75 (by decide) ?_
              exact hJ79 _ _ _ _ _ _ _ h hP hS (lv_sub hl [1, 2, 0] rfl)
  refine lv_iload_n hx hb dX12_behindEnds_0 rfl (lv_at hl 1 rfl) ?_
  refine lv_istore_n (lv' := [(2, .int a1), (0, .ref (q 0)), (1, .int a1)]) hx hb dX12_behindEnds_1 rfl hl (by decide) rfl (fun ls hl => ?_)
  obtain ⟨s1, M2, hc3, h⟩ := bnd_inv h
  obtain ⟨x4, rfl⟩ : ∃ z, z = s1 := ⟨_, rfl⟩
  try dsimp only at h
  refine hL2  fz _ _ _ _ _ _ hc3 hP hS (lv_sub hl [1, 0] rfl) (fun H locs ls hP hS hl => ?_)
  have hl : lv_has ls 5 [(2, .int x4)] := hl
  refine lv_iload_n hx hb dX12_behindEnds_118 rfl (lv_at hl 0 rfl) ?_
  exact end_i X hr hk hP hS h dX12_behindEnds_119
theorem dX12_lives_0 : decode cX12_lives 0 = .ok (.aload_n 0, 1) := by decide +kernel
theorem dX12_lives_1 : decode cX12_lives 1 = .ok (.iload_n 1, 1) := by decide +kernel
theorem dX12_lives_2 : decode cX12_lives 2 = .ok (.putfield 478, 3) := by decide +kernel
theorem dX12_lives_5 : decode cX12_lives 5 = .ok (.aload_n 0, 1) := by decide +kernel
theorem dX12_lives_6 : decode cX12_lives 6 = .ok (.iconst 0, 1) := by decide +kernel
theorem dX12_lives_7 : decode cX12_lives 7 = .ok (.putfield 494, 3) := by decide +kernel
theorem dX12_lives_10 : decode cX12_lives 10 = .ok (.iconst 0, 1) := by decide +kernel
theorem dX12_lives_11 : decode cX12_lives 11 = .ok (.istore_n 2, 1) := by decide +kernel
theorem dX12_lives_12 : decode cX12_lives 12 = .ok (.iload_n 2, 1) := by decide +kernel
theorem dX12_lives_13 : decode cX12_lives 13 = .ok (.iconst 5, 1) := by decide +kernel
theorem dX12_lives_14 : decode cX12_lives 14 = .ok (.if_icmp .ge 16, 3) := by decide +kernel
theorem dX12_lives_17 : decode cX12_lives 17 = .ok (.aload_n 0, 1) := by decide +kernel
theorem dX12_lives_18 : decode cX12_lives 18 = .ok (.getfield 75, 3) := by decide +kernel
theorem dX12_lives_21 : decode cX12_lives 21 = .ok (.iload_n 2, 1) := by decide +kernel
theorem dX12_lives_22 : decode cX12_lives 22 = .ok (.iconst 0, 1) := by decide +kernel
theorem dX12_lives_23 : decode cX12_lives 23 = .ok (.iastore, 1) := by decide +kernel
theorem dX12_lives_24 : decode cX12_lives 24 = .ok (.iinc 2 1, 3) := by decide +kernel
theorem dX12_lives_27 : decode cX12_lives 27 = .ok (.goto (-15), 3) := by decide +kernel
theorem dX12_lives_30 : decode cX12_lives 30 = .ok (.iconst 0, 1) := by decide +kernel
theorem dX12_lives_31 : decode cX12_lives 31 = .ok (.istore_n 2, 1) := by decide +kernel
theorem dX12_lives_32 : decode cX12_lives 32 = .ok (.iload_n 2, 1) := by decide +kernel
theorem dX12_lives_33 : decode cX12_lives 33 = .ok (.aload_n 0, 1) := by decide +kernel
theorem dX12_lives_34 : decode cX12_lives 34 = .ok (.getfield 7, 3) := by decide +kernel
theorem dX12_lives_37 : decode cX12_lives 37 = .ok (.bipush 8, 2) := by decide +kernel
theorem dX12_lives_39 : decode cX12_lives 39 = .ok (.iaload, 1) := by decide +kernel
theorem dX12_lives_40 : decode cX12_lives 40 = .ok (.if_icmp .ge 145, 3) := by decide +kernel
theorem dX12_lives_43 : decode cX12_lives 43 = .ok (.aload_n 0, 1) := by decide +kernel
theorem dX12_lives_44 : decode cX12_lives 44 = .ok (.getfield 494, 3) := by decide +kernel
theorem dX12_lives_47 : decode cX12_lives 47 = .ok (.sipush 300, 3) := by decide +kernel
theorem dX12_lives_50 : decode cX12_lives 50 = .ok (.if_icmp .ne 11, 3) := by decide +kernel
theorem dX12_lives_53 : decode cX12_lives 53 = .ok (.aload_n 0, 1) := by decide +kernel
theorem dX12_lives_54 : decode cX12_lives 54 = .ok (.getfield 75, 3) := by decide +kernel
theorem dX12_lives_57 : decode cX12_lives 57 = .ok (.iconst 4, 1) := by decide +kernel
theorem dX12_lives_58 : decode cX12_lives 58 = .ok (.iconst 1, 1) := by decide +kernel
theorem dX12_lives_59 : decode cX12_lives 59 = .ok (.iastore, 1) := by decide +kernel
theorem dX12_lives_60 : decode cX12_lives 60 = .ok (.return_, 1) := by decide +kernel
theorem dX12_lives_61 : decode cX12_lives 61 = .ok (.sipush 134, 3) := by decide +kernel
theorem dX12_lives_64 : decode cX12_lives 64 = .ok (.bipush 6, 2) := by decide +kernel
theorem dX12_lives_66 : decode cX12_lives 66 = .ok (.iload_n 2, 1) := by decide +kernel
theorem dX12_lives_67 : decode cX12_lives 67 = .ok (.imul, 1) := by decide +kernel
theorem dX12_lives_68 : decode cX12_lives 68 = .ok (.iadd, 1) := by decide +kernel
theorem dX12_lives_69 : decode cX12_lives 69 = .ok (.istore_n 3, 1) := by decide +kernel
theorem dX12_lives_70 : decode cX12_lives 70 = .ok (.aload_n 0, 1) := by decide +kernel
theorem dX12_lives_71 : decode cX12_lives 71 = .ok (.dup, 1) := by decide +kernel
theorem dX12_lives_72 : decode cX12_lives 72 = .ok (.getfield 494, 3) := by decide +kernel
theorem dX12_lives_75 : decode cX12_lives 75 = .ok (.iconst 1, 1) := by decide +kernel
theorem dX12_lives_76 : decode cX12_lives 76 = .ok (.iadd, 1) := by decide +kernel
theorem dX12_lives_77 : decode cX12_lives 77 = .ok (.putfield 494, 3) := by decide +kernel
theorem dX12_lives_80 : decode cX12_lives 80 = .ok (.aload_n 0, 1) := by decide +kernel
theorem dX12_lives_81 : decode cX12_lives 81 = .ok (.getfield 7, 3) := by decide +kernel
theorem dX12_lives_84 : decode cX12_lives 84 = .ok (.iload_n 3, 1) := by decide +kernel
theorem dX12_lives_85 : decode cX12_lives 85 = .ok (.iaload, 1) := by decide +kernel
theorem dX12_lives_86 : decode cX12_lives 86 = .ok (.bipush 25, 2) := by decide +kernel
theorem dX12_lives_88 : decode cX12_lives 88 = .ok (.if_icmp .ne 4, 3) := by decide +kernel
theorem dX12_lives_91 : decode cX12_lives 91 = .ok (.return_, 1) := by decide +kernel
theorem dX12_lives_92 : decode cX12_lives 92 = .ok (.aload_n 0, 1) := by decide +kernel
theorem dX12_lives_93 : decode cX12_lives 93 = .ok (.getfield 75, 3) := by decide +kernel
theorem dX12_lives_96 : decode cX12_lives 96 = .ok (.iconst 0, 1) := by decide +kernel
theorem dX12_lives_97 : decode cX12_lives 97 = .ok (.dup2, 1) := by decide +kernel
theorem dX12_lives_98 : decode cX12_lives 98 = .ok (.iaload, 1) := by decide +kernel
theorem dX12_lives_99 : decode cX12_lives 99 = .ok (.aload_n 0, 1) := by decide +kernel
theorem dX12_lives_100 : decode cX12_lives 100 = .ok (.iload_n 3, 1) := by decide +kernel
theorem dX12_lives_101 : decode cX12_lives 101 = .ok (.invokevirtual 497, 3) := by decide +kernel
theorem dX12_lives_104 : decode cX12_lives 104 = .ok (.ifCond .eq 7, 3) := by decide +kernel
theorem dX12_lives_107 : decode cX12_lives 107 = .ok (.iconst 0, 1) := by decide +kernel
theorem dX12_lives_108 : decode cX12_lives 108 = .ok (.goto 4, 3) := by decide +kernel
theorem dX12_lives_111 : decode cX12_lives 111 = .ok (.iconst 1, 1) := by decide +kernel
theorem dX12_lives_112 : decode cX12_lives 112 = .ok (.iadd, 1) := by decide +kernel
theorem dX12_lives_113 : decode cX12_lives 113 = .ok (.iastore, 1) := by decide +kernel
theorem dX12_lives_114 : decode cX12_lives 114 = .ok (.aload_n 0, 1) := by decide +kernel
theorem dX12_lives_115 : decode cX12_lives 115 = .ok (.getfield 7, 3) := by decide +kernel
theorem dX12_lives_118 : decode cX12_lives 118 = .ok (.iload_n 3, 1) := by decide +kernel
theorem dX12_lives_119 : decode cX12_lives 119 = .ok (.iaload, 1) := by decide +kernel
theorem dX12_lives_120 : decode cX12_lives 120 = .ok (.bipush 23, 2) := by decide +kernel
theorem dX12_lives_122 : decode cX12_lives 122 = .ok (.if_icmp .ne 19, 3) := by decide +kernel
theorem dX12_lives_125 : decode cX12_lives 125 = .ok (.aload_n 0, 1) := by decide +kernel
theorem dX12_lives_126 : decode cX12_lives 126 = .ok (.getfield 72, 3) := by decide +kernel
theorem dX12_lives_129 : decode cX12_lives 129 = .ok (.iload_n 2, 1) := by decide +kernel
theorem dX12_lives_130 : decode cX12_lives 130 = .ok (.aload_n 0, 1) := by decide +kernel
theorem dX12_lives_131 : decode cX12_lives 131 = .ok (.getfield 7, 3) := by decide +kernel
theorem dX12_lives_134 : decode cX12_lives 134 = .ok (.iload_n 3, 1) := by decide +kernel
theorem dX12_lives_135 : decode cX12_lives 135 = .ok (.iconst 1, 1) := by decide +kernel
theorem dX12_lives_136 : decode cX12_lives 136 = .ok (.iadd, 1) := by decide +kernel
theorem dX12_lives_137 : decode cX12_lives 137 = .ok (.iaload, 1) := by decide +kernel
theorem dX12_lives_138 : decode cX12_lives 138 = .ok (.iconst 1, 1) := by decide +kernel
theorem dX12_lives_139 : decode cX12_lives 139 = .ok (.isub, 1) := by decide +kernel
theorem dX12_lives_140 : decode cX12_lives 140 = .ok (.iastore, 1) := by decide +kernel
theorem dX12_lives_141 : decode cX12_lives 141 = .ok (.aload_n 0, 1) := by decide +kernel
theorem dX12_lives_142 : decode cX12_lives 142 = .ok (.aload_n 0, 1) := by decide +kernel
theorem dX12_lives_143 : decode cX12_lives 143 = .ok (.getfield 7, 3) := by decide +kernel
theorem dX12_lives_146 : decode cX12_lives 146 = .ok (.iload_n 3, 1) := by decide +kernel
theorem dX12_lives_147 : decode cX12_lives 147 = .ok (.iaload, 1) := by decide +kernel
theorem dX12_lives_148 : decode cX12_lives 148 = .ok (.sipush 2200, 3) := by decide +kernel
theorem dX12_lives_151 : decode cX12_lives 151 = .ok (.if_icmp .lt 24, 3) := by decide +kernel
theorem dX12_lives_154 : decode cX12_lives 154 = .ok (.aload_n 0, 1) := by decide +kernel
theorem dX12_lives_155 : decode cX12_lives 155 = .ok (.iload_n 3, 1) := by decide +kernel
theorem dX12_lives_156 : decode cX12_lives 156 = .ok (.invokevirtual 500, 3) := by decide +kernel
theorem dX12_lives_159 : decode cX12_lives 159 = .ok (.ifCond .ne 16, 3) := by decide +kernel
theorem dX12_lives_162 : decode cX12_lives 162 = .ok (.aload_n 0, 1) := by decide +kernel
theorem dX12_lives_163 : decode cX12_lives 163 = .ok (.getfield 7, 3) := by decide +kernel
theorem dX12_lives_166 : decode cX12_lives 166 = .ok (.iload_n 3, 1) := by decide +kernel
theorem dX12_lives_167 : decode cX12_lives 167 = .ok (.iconst 4, 1) := by decide +kernel
theorem dX12_lives_168 : decode cX12_lives 168 = .ok (.iadd, 1) := by decide +kernel
theorem dX12_lives_169 : decode cX12_lives 169 = .ok (.iaload, 1) := by decide +kernel
theorem dX12_lives_170 : decode cX12_lives 170 = .ok (.iconst 1, 1) := by decide +kernel
theorem dX12_lives_171 : decode cX12_lives 171 = .ok (.iadd, 1) := by decide +kernel
theorem dX12_lives_172 : decode cX12_lives 172 = .ok (.goto 6, 3) := by decide +kernel
theorem dX12_lives_175 : decode cX12_lives 175 = .ok (.iload_n 2, 1) := by decide +kernel
theorem dX12_lives_176 : decode cX12_lives 176 = .ok (.iconst 1, 1) := by decide +kernel
theorem dX12_lives_177 : decode cX12_lives 177 = .ok (.iadd, 1) := by decide +kernel
theorem dX12_lives_178 : decode cX12_lives 178 = .ok (.invokevirtual 503, 3) := by decide +kernel
theorem dX12_lives_181 : decode cX12_lives 181 = .ok (.istore_n 2, 1) := by decide +kernel
theorem dX12_lives_182 : decode cX12_lives 182 = .ok (.goto (-150), 3) := by decide +kernel
theorem dX12_lives_185 : decode cX12_lives 185 = .ok (.return_, 1) := by decide +kernel
set_option maxRecDepth 100000 in
set_option maxHeartbeats 8000000 in
theorem c_X12_lives (l : Launch) (D : va_G) (cA : Nat → ClassId) (q aK aV : Nat → Nat) (hq : injG 20 q) {a1 : Int32} {M M0 : Mem} (h : f_X12_lives a1 M = some ((), M0)) : Met l yX12_lives (.code yX12_lives cX12_lives 4 none :: BW) ({ frames := 11, cells := 0, slots := 0, locals := 242 } : Room) (va_Pc [.ref (q 0), .int a1] (CB 20 (ceR cA q) D cA q aK aV M)) (Qv 20 (ceR cA q) D q M0) 0 0 (AqG 20 q) := by
  refine gMet RX12 (by decide +kernel) rfl hq (Nat.le_of_ble_eq_true rfl) ?_
  intro p e s m below meth c ls X hr hk hP hS hl
  have hx := X.1
  have hb := X.2.1
  have hl : lv_has ls 4 [(0, .ref (q 0)), (1, .int a1)] := hl
  rw [f_X12_lives] at h
  have hL32 : ∀ (fu : Nat) (b2 : Int32) (M : Mem) (res : (Nat) × Mem) (H : Heap) (locs : List Loc) (ls : Array Slot), f_X12_lives_L32 fu b2 M = some res → va_P D vwCl (wsG 20 (ceR cA q) q M) H → va_S (AqG 20 q) s.heap H locs → lv_has ls 4 [(0, .ref (q 0)), (2, .int b2)] → (res.1 = 0 → ∀ (H : Heap) (locs : List Loc) (ls : Array Slot), va_P D vwCl (wsG 20 (ceR cA q) q res.2) H → va_S (AqG 20 q) s.heap H locs → lv_has ls 4 [(0, .ref (q 0))] → W p l e ({ frames := 11, cells := 0, slots := 0, locals := 242 } : Room) s m [.ref (q 0), .int a1].toArray below meth c H locs 0 0 (MQ below (Qv 20 (ceR cA q) D q M0) [.ref (q 0), .int a1].toArray s 0 0 (AqG 20 q)) (F0 m 53 ls [])) → (res.1 = 1 → ∀ (H : Heap) (locs : List Loc) (ls : Array Slot), va_P D vwCl (wsG 20 (ceR cA q) q res.2) H → va_S (AqG 20 q) s.heap H locs → lv_has ls 4 [] → W p l e ({ frames := 11, cells := 0, slots := 0, locals := 242 } : Room) s m [.ref (q 0), .int a1].toArray below meth c H locs 0 0 (MQ below (Qv 20 (ceR cA q) D q M0) [.ref (q 0), .int a1].toArray s 0 0 (AqG 20 q)) (F0 m 91 ls [])) → (res.1 = 2 → ∀ (H : Heap) (locs : List Loc) (ls : Array Slot), va_P D vwCl (wsG 20 (ceR cA q) q res.2) H → va_S (AqG 20 q) s.heap H locs → lv_has ls 4 [] → W p l e ({ frames := 11, cells := 0, slots := 0, locals := 242 } : Room) s m [.ref (q 0), .int a1].toArray below meth c H locs 0 0 (MQ below (Qv 20 (ceR cA q) D q M0) [.ref (q 0), .int a1].toArray s 0 0 (AqG 20 q)) (F0 m 185 ls [])) → W p l e ({ frames := 11, cells := 0, slots := 0, locals := 242 } : Room) s m [.ref (q 0), .int a1].toArray below meth c H locs 0 0 (MQ below (Qv 20 (ceR cA q) D q M0) [.ref (q 0), .int a1].toArray s 0 0 (AqG 20 q)) (F0 m 32 ls []) := by
    intro fu
    induction fu with
    | zero => intro b2 M res H locs ls h; exact absurd h (by simp [f_X12_lives_L32])
    | succ fu ih =>
      intro b2 M res H locs ls h hP hS hl K32_0 K32_1 K32_2
      rw [f_X12_lives_L32] at h
      have hJ141 : ∀ (b2 : Int32) (b3 : Int32) (M : Mem) (H : Heap) (locs : List Loc) (ls : Array Slot), f_X12_lives_J141 (f_X12_lives_L32 fu) b2 b3 M = some res → va_P D vwCl (wsG 20 (ceR cA q) q M) H → va_S (AqG 20 q) s.heap H locs → lv_has ls 4 [(0, .ref (q 0)), (2, .int b2), (3, .int b3)] → W p l e ({ frames := 11, cells := 0, slots := 0, locals := 242 } : Room) s m [.ref (q 0), .int a1].toArray below meth c H locs 0 0 (MQ below (Qv 20 (ceR cA q) D q M0) [.ref (q 0), .int a1].toArray s 0 0 (AqG 20 q)) (F0 m 141 ls []) := by
        intro b2 b3 M H locs ls h hP hS hl
        rw [f_X12_lives_J141] at h
        refine lv_aload_n hx hb dX12_lives_141 rfl (lv_at hl 0 rfl) ?_
        refine lv_aload_n hx hb dX12_lives_142 rfl (lv_at hl 0 rfl) ?_
        refine gfR_12_0 X hP sR_0 bw_1323 dX12_lives_143 ?_
        refine lv_iload_n hx hb dX12_lives_146 rfl (lv_at hl 2 rfl) ?_
        obtain ⟨g32, h⟩ := gd_inv h
        refine ldR_ia X hP sR_1 zR_1 g32 dX12_lives_147 ?_
        refine lv_sipush (v := 2200) hx hb dX12_lives_148 (by decide) ?_
        refine lv_icmp_lt (tgt := 175) hx hb dX12_lives_151 (by decide) (fun c33 => ?_) (fun c33 => ?_)
        · rw [if_pos c33] at h
          refine lv_iload_n hx hb dX12_lives_175 rfl (lv_at hl 1 rfl) ?_
          refine lv_iconst (v := 1) hx hb dX12_lives_176 (by decide) ?_
          refine lv_iadd hx hb dX12_lives_177 ?_
          obtain ⟨r34, M35, hc36, h⟩ := bnd_inv h
          refine gV_i (As := [.int (b2 + (1 : Int32))]) X hP hS hl.1 (c_X12_behindEnds l D cA q aK aV hq hc36) sf_X12_behindEnds bw_2094 sv_X12_behindEnds (rcR_12 sR_0) rfl ⟨rfl, rfl⟩ ⟨Nat.le_of_ble_eq_true rfl, Nat.le_of_ble_eq_true rfl⟩ rfl rfl (Nat.le_of_ble_eq_true rfl) dX12_lives_178 (fun H locs hP hS => ?_)
          refine lv_istore_n (lv' := [(2, .int r34), (0, .ref (q 0)), (3, .int b3)]) hx hb dX12_lives_181 rfl hl (by decide) rfl (fun ls hl => ?_)
          refine lv_goto (tgt := 32) hx hb dX12_lives_182 (by decide) ?_
          exact ih _ _ res _ _ _ h hP hS (lv_sub hl [1, 0] rfl) K32_0 K32_1 K32_2
        · rw [if_neg c33] at h
          refine lv_aload_n hx hb dX12_lives_154 rfl (lv_at hl 0 rfl) ?_
          refine lv_iload_n hx hb dX12_lives_155 rfl (lv_at hl 2 rfl) ?_
          obtain ⟨r37, M38, hc39, h⟩ := bnd_inv h
          refine gV_i (As := [.int b3]) X hP hS hl.1 (c_X12_holds l D cA q aK aV hq hc39) sf_X12_holds bw_2090 sv_X12_holds (rcR_12 sR_0) rfl ⟨rfl, rfl⟩ ⟨Nat.le_of_ble_eq_true rfl, Nat.le_of_ble_eq_true rfl⟩ rfl rfl (Nat.le_of_ble_eq_true rfl) dX12_lives_156 (fun H locs hP hS => ?_)
          refine lv_if_ne (tgt := 175) hx hb dX12_lives_159 (by decide) (fun c40 => ?_) (fun c40 => ?_)
          · rw [if_neg c40] at h
            refine lv_iload_n hx hb dX12_lives_175 rfl (lv_at hl 1 rfl) ?_
            refine lv_iconst (v := 1) hx hb dX12_lives_176 (by decide) ?_
            refine lv_iadd hx hb dX12_lives_177 ?_
            obtain ⟨r41, M42, hc43, h⟩ := bnd_inv h
            refine gV_i (As := [.int (b2 + (1 : Int32))]) X hP hS hl.1 (c_X12_behindEnds l D cA q aK aV hq hc43) sf_X12_behindEnds bw_2094 sv_X12_behindEnds (rcR_12 sR_0) rfl ⟨rfl, rfl⟩ ⟨Nat.le_of_ble_eq_true rfl, Nat.le_of_ble_eq_true rfl⟩ rfl rfl (Nat.le_of_ble_eq_true rfl) dX12_lives_178 (fun H locs hP hS => ?_)
            refine lv_istore_n (lv' := [(2, .int r41), (0, .ref (q 0)), (3, .int b3)]) hx hb dX12_lives_181 rfl hl (by decide) rfl (fun ls hl => ?_)
            refine lv_goto (tgt := 32) hx hb dX12_lives_182 (by decide) ?_
            exact ih _ _ res _ _ _ h hP hS (lv_sub hl [1, 0] rfl) K32_0 K32_1 K32_2
          · rw [if_pos c40] at h
            refine lv_aload_n hx hb dX12_lives_162 rfl (lv_at hl 0 rfl) ?_
            refine gfR_12_0 X hP sR_0 bw_1323 dX12_lives_163 ?_
            refine lv_iload_n hx hb dX12_lives_166 rfl (lv_at hl 2 rfl) ?_
            refine lv_iconst (v := 4) hx hb dX12_lives_167 (by decide) ?_
            refine lv_iadd hx hb dX12_lives_168 ?_
            obtain ⟨g44, h⟩ := gd_inv h
            refine ldR_ia X hP sR_1 zR_1 g44 dX12_lives_169 ?_
            refine lv_iconst (v := 1) hx hb dX12_lives_170 (by decide) ?_
            refine lv_iadd hx hb dX12_lives_171 ?_
            refine lv_goto (tgt := 178) hx hb dX12_lives_172 (by decide) ?_
            obtain ⟨r45, M46, hc47, h⟩ := bnd_inv h
            refine gV_i (As := [.int ((gI M38 1 ((b3 + (4 : Int32))).toNatClampNeg) + (1 : Int32))]) X hP hS hl.1 (c_X12_behindEnds l D cA q aK aV hq hc47) sf_X12_behindEnds bw_2094 sv_X12_behindEnds (rcR_12 sR_0) rfl ⟨rfl, rfl⟩ ⟨Nat.le_of_ble_eq_true rfl, Nat.le_of_ble_eq_true rfl⟩ rfl rfl (Nat.le_of_ble_eq_true rfl) dX12_lives_178 (fun H locs hP hS => ?_)
            refine lv_istore_n (lv' := [(2, .int r45), (0, .ref (q 0)), (3, .int b3)]) hx hb dX12_lives_181 rfl hl (by decide) rfl (fun ls hl => ?_)
            refine lv_goto (tgt := 32) hx hb dX12_lives_182 (by decide) ?_
            exact ih _ _ res _ _ _ h hP hS (lv_sub hl [1, 0] rfl) K32_0 K32_1 K32_2
      have hJ112 : ∀ (b2 : Int32) (b3 : Int32) (s1 : Int32) (s2 : Int32) (s3 : Int32) (M : Mem) (H : Heap) (locs : List Loc) (ls : Array Slot), f_X12_lives_J112 (f_X12_lives_L32 fu) b2 b3 s1 s2 s3 M = some res → va_P D vwCl (wsG 20 (ceR cA q) q M) H → va_S (AqG 20 q) s.heap H locs → lv_has ls 4 [(0, .ref (q 0)), (2, .int b2), (3, .int b3)] → W p l e ({ frames := 11, cells := 0, slots := 0, locals := 242 } : Room) s m [.ref (q 0), .int a1].toArray below meth c H locs 0 0 (MQ below (Qv 20 (ceR cA q) D q M0) [.ref (q 0), .int a1].toArray s 0 0 (AqG 20 q)) (F0 m 112 ls [.int s3, .int s2, .int s1, .ref (q 18)]) := by
        intro b2 b3 s1 s2 s3 M H locs ls h hP hS hl
        rw [f_X12_lives_J112] at h
        refine lv_iadd hx hb dX12_lives_112 ?_
        obtain ⟨g25, h⟩ := gd_inv h
        obtain ⟨M26, eM26, h⟩ := lt_inv h
        refine stR_ia X hP hS sR_18 zR_18 g25 eM26 dX12_lives_113 (fun H locs hP hS => ?_)
        refine lv_aload_n hx hb dX12_lives_114 rfl (lv_at hl 0 rfl) ?_
        refine gfR_12_0 X hP sR_0 bw_1323 dX12_lives_115 ?_
        refine lv_iload_n hx hb dX12_lives_118 rfl (lv_at hl 2 rfl) ?_
        obtain ⟨g27, h⟩ := gd_inv h
        refine ldR_ia X hP sR_1 zR_1 g27 dX12_lives_119 ?_
        refine lv_bipush (v := 23) hx hb dX12_lives_120 (by decide) ?_
        refine lv_icmp_ne (tgt := 141) hx hb dX12_lives_122 (by decide) (fun c28 => ?_) (fun c28 => ?_)
        · rw [if_neg c28] at h
          exact hJ141 _ _ _ _ _ _ h hP hS (lv_sub hl [0, 1, 2] rfl)
        · rw [if_pos c28] at h
          refine lv_aload_n hx hb dX12_lives_125 rfl (lv_at hl 0 rfl) ?_
          refine gfR_12_37 X hP sR_0 bw_1360 dX12_lives_126 ?_
          refine lv_iload_n hx hb dX12_lives_129 rfl (lv_at hl 1 rfl) ?_
          refine lv_aload_n hx hb dX12_lives_130 rfl (lv_at hl 0 rfl) ?_
          refine gfR_12_0 X hP sR_0 bw_1323 dX12_lives_131 ?_
          refine lv_iload_n hx hb dX12_lives_134 rfl (lv_at hl 2 rfl) ?_
          refine lv_iconst (v := 1) hx hb dX12_lives_135 (by decide) ?_
          refine lv_iadd hx hb dX12_lives_136 ?_
          obtain ⟨g29, h⟩ := gd_inv h
          refine ldR_ia X hP sR_1 zR_1 g29 dX12_lives_137 ?_
          refine lv_iconst (v := 1) hx hb dX12_lives_138 (by decide) ?_
          refine lv_isub hx hb dX12_lives_139 ?_
          obtain ⟨g30, h⟩ := gd_inv h
          obtain ⟨M31, eM31, h⟩ := lt_inv h
          refine stR_ia X hP hS sR_17 zR_17 g30 eM31 dX12_lives_140 (fun H locs hP hS => ?_)
          exact hJ141 _ _ _ _ _ _ h hP hS (lv_sub hl [0, 1, 2] rfl)
      refine lv_iload_n hx hb dX12_lives_32 rfl (lv_at hl 1 rfl) ?_
      refine lv_aload_n hx hb dX12_lives_33 rfl (lv_at hl 0 rfl) ?_
      refine gfR_12_0 X hP sR_0 bw_1323 dX12_lives_34 ?_
      refine lv_bipush (v := 8) hx hb dX12_lives_37 (by decide) ?_
      refine ldR_ia X hP sR_1 zR_1 (by decide) dX12_lives_39 ?_
      refine topE (y := (gI M 1 8)) rfl ?_
      refine lv_icmp_ge (tgt := 185) hx hb dX12_lives_40 (by decide) (fun c15 => ?_) (fun c15 => ?_)
      · rw [if_pos c15] at h
        cases h
        exact K32_2 rfl _ _ _ hP hS (lv_sub hl [] rfl)
      · rw [if_neg c15] at h
        refine lv_aload_n hx hb dX12_lives_43 rfl (lv_at hl 0 rfl) ?_
        refine gfR_12_36 X hP sR_0 bw_1359 dX12_lives_44 ?_
        refine lv_sipush (v := 300) hx hb dX12_lives_47 (by decide) ?_
        refine lv_icmp_ne (tgt := 61) hx hb dX12_lives_50 (by decide) (fun c16 => ?_) (fun c16 => ?_)
        · rw [if_neg c16] at h
          refine lv_sipush (v := 134) hx hb dX12_lives_61 (by decide) ?_
          refine lv_bipush (v := 6) hx hb dX12_lives_64 (by decide) ?_
          refine lv_iload_n hx hb dX12_lives_66 rfl (lv_at hl 1 rfl) ?_
          refine lv_imul hx hb dX12_lives_67 ?_
          refine lv_iadd hx hb dX12_lives_68 ?_
          obtain ⟨y17, ey17, h⟩ := lt_inv h
          refine topE ey17 ?_
          refine lv_istore_n (lv' := [(3, .int y17), (0, .ref (q 0)), (2, .int b2)]) hx hb dX12_lives_69 rfl hl (by decide) rfl (fun ls hl => ?_)
          refine lv_aload_n hx hb dX12_lives_70 rfl (lv_at hl 1 rfl) ?_
          refine lv_dup hx hb dX12_lives_71 rfl ?_
          refine gfR_12_36 X hP sR_0 bw_1359 dX12_lives_72 ?_
          refine lv_iconst (v := 1) hx hb dX12_lives_75 (by decide) ?_
          refine lv_iadd hx hb dX12_lives_76 ?_
          obtain ⟨M18, eM18, h⟩ := lt_inv h
          refine pfR_12_36 X hP hS sR_0 bw_1359 eM18 dX12_lives_77 (fun H locs hP hS => ?_)
          refine lv_aload_n hx hb dX12_lives_80 rfl (lv_at hl 1 rfl) ?_
          refine gfR_12_0 X hP sR_0 bw_1323 dX12_lives_81 ?_
          refine lv_iload_n hx hb dX12_lives_84 rfl (lv_at hl 0 rfl) ?_
          obtain ⟨g19, h⟩ := gd_inv h
          refine ldR_ia X hP sR_1 zR_1 g19 dX12_lives_85 ?_
          refine lv_bipush (v := 25) hx hb dX12_lives_86 (by decide) ?_
          refine lv_icmp_ne (tgt := 92) hx hb dX12_lives_88 (by decide) (fun c20 => ?_) (fun c20 => ?_)
          · rw [if_neg c20] at h
            refine lv_aload_n hx hb dX12_lives_92 rfl (lv_at hl 1 rfl) ?_
            refine gfR_12_38 X hP sR_0 bw_1361 dX12_lives_93 ?_
            refine lv_iconst (v := 0) hx hb dX12_lives_96 (by decide) ?_
            refine lv_dup2_11 hx hb dX12_lives_97 rfl rfl ?_
            refine ldR_ia X hP sR_18 zR_18 (by decide) dX12_lives_98 ?_
            refine topE (y := (gI M18 18 0)) rfl ?_
            refine lv_aload_n hx hb dX12_lives_99 rfl (lv_at hl 1 rfl) ?_
            refine lv_iload_n hx hb dX12_lives_100 rfl (lv_at hl 0 rfl) ?_
            obtain ⟨r21, M22, hc23, h⟩ := bnd_inv h
            refine gV_i (As := [.int y17]) X hP hS hl.1 (c_X12_does l D cA q aK aV hq hc23) sf_X12_does bw_2069 sv_X12_does (rcR_12 sR_0) rfl ⟨rfl, rfl⟩ ⟨Nat.le_of_ble_eq_true rfl, Nat.le_of_ble_eq_true rfl⟩ rfl rfl (Nat.le_of_ble_eq_true rfl) dX12_lives_101 (fun H locs hP hS => ?_)
            refine lv_if_eq (tgt := 111) hx hb dX12_lives_104 (by decide) (fun c24 => ?_) (fun c24 => ?_)
            · rw [if_pos c24] at h
              refine lv_iconst (v := 1) hx hb dX12_lives_111 (by decide) ?_
              exact hJ112 _ _ _ _ _ _ _ _ _ h hP hS (lv_sub hl [1, 2, 0] rfl)
            · rw [if_neg c24] at h
              refine lv_iconst (v := 0) hx hb dX12_lives_107 (by decide) ?_
              refine lv_goto (tgt := 112) hx hb dX12_lives_108 (by decide) ?_
              exact hJ112 _ _ _ _ _ _ _ _ _ h hP hS (lv_sub hl [1, 2, 0] rfl)
          · rw [if_pos c20] at h
            cases h
            exact K32_1 rfl _ _ _ hP hS (lv_sub hl [] rfl)
        · rw [if_pos c16] at h
          cases h
          exact K32_0 rfl _ _ _ hP hS (lv_sub hl [0] rfl)
  have hL12 : ∀ (fu : Nat) (b2 : Int32) (M : Mem) (res : (Unit) × Mem) (H : Heap) (locs : List Loc) (ls : Array Slot), f_X12_lives_L12 fu b2 M = some res → va_P D vwCl (wsG 20 (ceR cA q) q M) H → va_S (AqG 20 q) s.heap H locs → lv_has ls 4 [(0, .ref (q 0)), (2, .int b2)] → (∀ (H : Heap) (locs : List Loc) (ls : Array Slot), va_P D vwCl (wsG 20 (ceR cA q) q res.2) H → va_S (AqG 20 q) s.heap H locs → lv_has ls 4 [(0, .ref (q 0))] → W p l e ({ frames := 11, cells := 0, slots := 0, locals := 242 } : Room) s m [.ref (q 0), .int a1].toArray below meth c H locs 0 0 (MQ below (Qv 20 (ceR cA q) D q M0) [.ref (q 0), .int a1].toArray s 0 0 (AqG 20 q)) (F0 m 30 ls [])) → W p l e ({ frames := 11, cells := 0, slots := 0, locals := 242 } : Room) s m [.ref (q 0), .int a1].toArray below meth c H locs 0 0 (MQ below (Qv 20 (ceR cA q) D q M0) [.ref (q 0), .int a1].toArray s 0 0 (AqG 20 q)) (F0 m 12 ls []) := by
    intro fu
    induction fu with
    | zero => intro b2 M res H locs ls h; exact absurd h (by simp [f_X12_lives_L12])
    | succ fu ih =>
      intro b2 M res H locs ls h hP hS hl K12_0
      rw [f_X12_lives_L12] at h
      refine lv_iload_n hx hb dX12_lives_12 rfl (lv_at hl 1 rfl) ?_
      refine lv_iconst (v := 5) hx hb dX12_lives_13 (by decide) ?_
      refine lv_icmp_ge (tgt := 30) hx hb dX12_lives_14 (by decide) (fun c11 => ?_) (fun c11 => ?_)
      · rw [if_pos c11] at h
        cases h
        exact K12_0 _ _ _ hP hS (lv_sub hl [0] rfl)
      · rw [if_neg c11] at h
        refine lv_aload_n hx hb dX12_lives_17 rfl (lv_at hl 0 rfl) ?_
        refine gfR_12_38 X hP sR_0 bw_1361 dX12_lives_18 ?_
        refine lv_iload_n hx hb dX12_lives_21 rfl (lv_at hl 1 rfl) ?_
        refine lv_iconst (v := 0) hx hb dX12_lives_22 (by decide) ?_
        obtain ⟨g12, h⟩ := gd_inv h
        obtain ⟨M13, eM13, h⟩ := lt_inv h
        refine stR_ia X hP hS sR_18 zR_18 g12 eM13 dX12_lives_23 (fun H locs hP hS => ?_)
        obtain ⟨y14, ey14, h⟩ := lt_inv h
        refine lv_iinc (v := y14) (lv' := [(2, .int y14), (0, .ref (q 0))]) hx hb dX12_lives_24 hl (k := 1) rfl (by rw [ey14]; rfl) (by decide) rfl (fun ls hl => ?_)
        refine lv_goto (tgt := 12) hx hb dX12_lives_27 (by decide) ?_
        exact ih _ _ res _ _ _ h hP hS (lv_sub hl [1, 0] rfl) K12_0
  refine lv_aload_n hx hb dX12_lives_0 rfl (lv_at hl 0 rfl) ?_
  refine lv_iload_n hx hb dX12_lives_1 rfl (lv_at hl 1 rfl) ?_
  obtain ⟨M1, eM1, h⟩ := lt_inv h
  refine pfR_12_35 X hP hS sR_0 bw_1358 eM1 dX12_lives_2 (fun H locs hP hS => ?_)
  refine lv_aload_n hx hb dX12_lives_5 rfl (lv_at hl 0 rfl) ?_
  refine lv_iconst (v := 0) hx hb dX12_lives_6 (by decide) ?_
  obtain ⟨M2, eM2, h⟩ := lt_inv h
  refine pfR_12_36 X hP hS sR_0 bw_1359 eM2 dX12_lives_7 (fun H locs hP hS => ?_)
  refine lv_iconst (v := 0) hx hb dX12_lives_10 (by decide) ?_
  refine lv_istore_n (lv' := [(2, .int (0 : Int32)), (0, .ref (q 0)), (1, .int a1)]) hx hb dX12_lives_11 rfl hl (by decide) rfl (fun ls hl => ?_)
  obtain ⟨s3, M4, hc5, h⟩ := bnd_inv h
  try dsimp only at h
  refine hL12  fz _ _ _ _ _ _ hc5 hP hS (lv_sub hl [1, 0] rfl) (fun H locs ls hP hS hl => ?_)
  have hl : lv_has ls 4 [(0, .ref (q 0))] := hl
  refine lv_iconst (v := 0) hx hb dX12_lives_30 (by decide) ?_
  refine lv_istore_n (lv' := [(2, .int (0 : Int32)), (0, .ref (q 0))]) hx hb dX12_lives_31 rfl hl (by decide) rfl (fun ls hl => ?_)
  obtain ⟨s6, M7, hc8, h⟩ := bnd_inv h
  obtain ⟨k9, rfl⟩ : ∃ z, z = s6 := ⟨_, rfl⟩
  try dsimp only at h
  refine hL32  fz _ _ _ _ _ _ hc8 hP hS (lv_sub hl [1, 0] rfl) (fun hke H locs ls hP hS hl => ?_) (fun hke H locs ls hP hS hl => ?_) (fun hke H locs ls hP hS hl => ?_)
  · have hke : k9 = 0 := hke
    have hl : lv_has ls 4 [(0, .ref (q 0))] := hl
    subst hke
    rw [if_pos rfl] at h
    refine lv_aload_n hx hb dX12_lives_53 rfl (lv_at hl 0 rfl) ?_
    refine gfR_12_38 X hP sR_0 bw_1361 dX12_lives_54 ?_
    refine lv_iconst (v := 4) hx hb dX12_lives_57 (by decide) ?_
    refine lv_iconst (v := 1) hx hb dX12_lives_58 (by decide) ?_
    obtain ⟨M10, eM10, h⟩ := lt_inv h
    refine stR_ia X hP hS sR_18 zR_18 (by decide) eM10 dX12_lives_59 (fun H locs hP hS => ?_)
    exact end_v X hr hk hP hS h dX12_lives_60
  · have hke : k9 = 1 := hke
    have hl : lv_has ls 4 [] := hl
    subst hke
    rw [if_neg (by decide), if_pos rfl] at h
    exact end_v X hr hk hP hS h dX12_lives_91
  · have hke : k9 = 2 := hke
    have hl : lv_has ls 4 [] := hl
    subst hke
    rw [if_neg (by decide), if_neg (by decide)] at h
    exact end_v X hr hk hP hS h dX12_lives_185
