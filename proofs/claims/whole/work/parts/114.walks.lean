theorem dX12_tells_0 : decode cX12_tells 0 = .ok (.aload_n 0, 1) := by decide +kernel
theorem dX12_tells_1 : decode cX12_tells 1 = .ok (.iload_n 1, 1) := by decide +kernel
theorem dX12_tells_2 : decode cX12_tells 2 = .ok (.invokevirtual 293, 3) := by decide +kernel
theorem dX12_tells_5 : decode cX12_tells 5 = .ok (.ifCond .ne 9, 3) := by decide +kernel
theorem dX12_tells_8 : decode cX12_tells 8 = .ok (.aload_n 0, 1) := by decide +kernel
theorem dX12_tells_9 : decode cX12_tells 9 = .ok (.iconst 1, 1) := by decide +kernel
theorem dX12_tells_10 : decode cX12_tells 10 = .ok (.invokevirtual 98, 3) := by decide +kernel
theorem dX12_tells_13 : decode cX12_tells 13 = .ok (.ireturn, 1) := by decide +kernel
theorem dX12_tells_14 : decode cX12_tells 14 = .ok (.aload_n 0, 1) := by decide +kernel
theorem dX12_tells_15 : decode cX12_tells 15 = .ok (.invokevirtual 428, 3) := by decide +kernel
theorem dX12_tells_18 : decode cX12_tells 18 = .ok (.iconst 0, 1) := by decide +kernel
theorem dX12_tells_19 : decode cX12_tells 19 = .ok (.istore_n 2, 1) := by decide +kernel
theorem dX12_tells_20 : decode cX12_tells 20 = .ok (.iconst 0, 1) := by decide +kernel
theorem dX12_tells_21 : decode cX12_tells 21 = .ok (.istore_n 3, 1) := by decide +kernel
theorem dX12_tells_22 : decode cX12_tells 22 = .ok (.iconst 0, 1) := by decide +kernel
theorem dX12_tells_23 : decode cX12_tells 23 = .ok (.istore 4, 2) := by decide +kernel
theorem dX12_tells_25 : decode cX12_tells 25 = .ok (.iload 4, 2) := by decide +kernel
theorem dX12_tells_27 : decode cX12_tells 27 = .ok (.aload_n 0, 1) := by decide +kernel
theorem dX12_tells_28 : decode cX12_tells 28 = .ok (.getfield 7, 3) := by decide +kernel
theorem dX12_tells_31 : decode cX12_tells 31 = .ok (.iconst 2, 1) := by decide +kernel
theorem dX12_tells_32 : decode cX12_tells 32 = .ok (.iaload, 1) := by decide +kernel
theorem dX12_tells_33 : decode cX12_tells 33 = .ok (.if_icmp .ge 43, 3) := by decide +kernel
theorem dX12_tells_36 : decode cX12_tells 36 = .ok (.aload_n 0, 1) := by decide +kernel
theorem dX12_tells_37 : decode cX12_tells 37 = .ok (.iload 4, 2) := by decide +kernel
theorem dX12_tells_39 : decode cX12_tells 39 = .ok (.iconst 0, 1) := by decide +kernel
theorem dX12_tells_40 : decode cX12_tells 40 = .ok (.invokevirtual 299, 3) := by decide +kernel
theorem dX12_tells_43 : decode cX12_tells 43 = .ok (.iload_n 1, 1) := by decide +kernel
theorem dX12_tells_44 : decode cX12_tells 44 = .ok (.if_icmp .eq 6, 3) := by decide +kernel
theorem dX12_tells_47 : decode cX12_tells 47 = .ok (.goto 23, 3) := by decide +kernel
theorem dX12_tells_50 : decode cX12_tells 50 = .ok (.iload_n 2, 1) := by decide +kernel
theorem dX12_tells_51 : decode cX12_tells 51 = .ok (.aload_n 0, 1) := by decide +kernel
theorem dX12_tells_52 : decode cX12_tells 52 = .ok (.getfield 54, 3) := by decide +kernel
theorem dX12_tells_55 : decode cX12_tells 55 = .ok (.iload 4, 2) := by decide +kernel
theorem dX12_tells_57 : decode cX12_tells 57 = .ok (.iaload, 1) := by decide +kernel
theorem dX12_tells_58 : decode cX12_tells 58 = .ok (.iadd, 1) := by decide +kernel
theorem dX12_tells_59 : decode cX12_tells 59 = .ok (.istore_n 2, 1) := by decide +kernel
theorem dX12_tells_60 : decode cX12_tells 60 = .ok (.iload_n 3, 1) := by decide +kernel
theorem dX12_tells_61 : decode cX12_tells 61 = .ok (.aload_n 0, 1) := by decide +kernel
theorem dX12_tells_62 : decode cX12_tells 62 = .ok (.getfield 57, 3) := by decide +kernel
theorem dX12_tells_65 : decode cX12_tells 65 = .ok (.iload 4, 2) := by decide +kernel
theorem dX12_tells_67 : decode cX12_tells 67 = .ok (.iaload, 1) := by decide +kernel
theorem dX12_tells_68 : decode cX12_tells 68 = .ok (.iadd, 1) := by decide +kernel
theorem dX12_tells_69 : decode cX12_tells 69 = .ok (.istore_n 3, 1) := by decide +kernel
theorem dX12_tells_70 : decode cX12_tells 70 = .ok (.iinc 4 1, 3) := by decide +kernel
theorem dX12_tells_73 : decode cX12_tells 73 = .ok (.goto (-48), 3) := by decide +kernel
theorem dX12_tells_76 : decode cX12_tells 76 = .ok (.iload_n 2, 1) := by decide +kernel
theorem dX12_tells_77 : decode cX12_tells 77 = .ok (.ifCond .ne 12, 3) := by decide +kernel
theorem dX12_tells_80 : decode cX12_tells 80 = .ok (.aload_n 0, 1) := by decide +kernel
theorem dX12_tells_81 : decode cX12_tells 81 = .ok (.bipush 6, 2) := by decide +kernel
theorem dX12_tells_83 : decode cX12_tells 83 = .ok (.invokevirtual 98, 3) := by decide +kernel
theorem dX12_tells_86 : decode cX12_tells 86 = .ok (.goto 11, 3) := by decide +kernel
theorem dX12_tells_89 : decode cX12_tells 89 = .ok (.aload_n 0, 1) := by decide +kernel
theorem dX12_tells_90 : decode cX12_tells 90 = .ok (.iload_n 3, 1) := by decide +kernel
theorem dX12_tells_91 : decode cX12_tells 91 = .ok (.i2l, 1) := by decide +kernel
theorem dX12_tells_92 : decode cX12_tells 92 = .ok (.iload_n 2, 1) := by decide +kernel
theorem dX12_tells_93 : decode cX12_tells 93 = .ok (.i2l, 1) := by decide +kernel
theorem dX12_tells_94 : decode cX12_tells 94 = .ok (.invokevirtual 405, 3) := by decide +kernel
theorem dX12_tells_97 : decode cX12_tells 97 = .ok (.ireturn, 1) := by decide +kernel
set_option maxRecDepth 100000 in
set_option maxHeartbeats 8000000 in
theorem c_X12_tells (l : Launch) (D : va_G) (cA : Nat → ClassId) (q aK aV : Nat → Nat) (hq : injG 20 q) {a1 : Int32} {M M0 : Mem} {r0 : Int32} (h : f_X12_tells a1 M = some (r0, M0)) : Met l yX12_tells (.code yX12_tells cX12_tells 5 (some .boolean) :: BW) ({ frames := 6, cells := 0, slots := 0, locals := 129 } : Room) (va_Pc [.ref (q 0), .int a1] (CB 20 (ceR cA q) D cA q aK aV M)) (Qi 20 (ceR cA q) D q r0 M0) 0 0 (AqG 20 q) := by
  refine gMet RX12 (by decide +kernel) rfl hq (Nat.le_of_ble_eq_true rfl) ?_
  intro p e s m below meth c ls X hr hk hP hS hl
  have hx := X.1
  have hb := X.2.1
  have hl : lv_has ls 5 [(0, .ref (q 0)), (1, .int a1)] := hl
  rw [f_X12_tells] at h
  have hL25 : ∀ (fu : Nat) (b2 : Int32) (b3 : Int32) (b4 : Int32) (M : Mem) (res : (Int32 × Int32) × Mem) (H : Heap) (locs : List Loc) (ls : Array Slot), f_X12_tells_L25 a1 fu b2 b3 b4 M = some res → va_P D vwCl (wsG 20 (ceR cA q) q M) H → va_S (AqG 20 q) s.heap H locs → lv_has ls 5 [(0, .ref (q 0)), (1, .int a1), (2, .int b2), (3, .int b3), (4, .int b4)] → (∀ (H : Heap) (locs : List Loc) (ls : Array Slot), va_P D vwCl (wsG 20 (ceR cA q) q res.2) H → va_S (AqG 20 q) s.heap H locs → lv_has ls 5 [(0, .ref (q 0)), (2, .int (res.1.1)), (3, .int (res.1.2))] → W p l e ({ frames := 6, cells := 0, slots := 0, locals := 129 } : Room) s m [.ref (q 0), .int a1].toArray below meth c H locs 0 0 (MQ below (Qi 20 (ceR cA q) D q r0 M0) [.ref (q 0), .int a1].toArray s 0 0 (AqG 20 q)) (F0 m 76 ls [])) → W p l e ({ frames := 6, cells := 0, slots := 0, locals := 129 } : Room) s m [.ref (q 0), .int a1].toArray below meth c H locs 0 0 (MQ below (Qi 20 (ceR cA q) D q r0 M0) [.ref (q 0), .int a1].toArray s 0 0 (AqG 20 q)) (F0 m 25 ls []) := by
    intro fu
    induction fu with
    | zero => intro b2 b3 b4 M res H locs ls h; exact absurd h (by simp [f_X12_tells_L25])
    | succ fu ih =>
      intro b2 b3 b4 M res H locs ls h hP hS hl K25_0
      rw [f_X12_tells_L25] at h
      refine lv_iload hx hb dX12_tells_25 (lv_at hl 4 rfl) ?_
      refine lv_aload_n hx hb dX12_tells_27 rfl (lv_at hl 0 rfl) ?_
      refine gfR_12_0 X hP sR_0 bw_1323 dX12_tells_28 ?_
      refine lv_iconst (v := 2) hx hb dX12_tells_31 (by decide) ?_
      refine ldR_ia X hP sR_1 zR_1 (by decide) dX12_tells_32 ?_
      refine topE (y := (gI M 1 2)) rfl ?_
      refine lv_icmp_ge (tgt := 76) hx hb dX12_tells_33 (by decide) (fun c26 => ?_) (fun c26 => ?_)
      · rw [if_pos c26] at h
        cases h
        exact K25_0 _ _ _ hP hS (lv_sub hl [0, 2, 3] rfl)
      · rw [if_neg c26] at h
        refine lv_aload_n hx hb dX12_tells_36 rfl (lv_at hl 0 rfl) ?_
        refine lv_iload hx hb dX12_tells_37 (lv_at hl 4 rfl) ?_
        refine lv_iconst (v := 0) hx hb dX12_tells_39 (by decide) ?_
        obtain ⟨r27, M28, hc29, h⟩ := bnd_inv h
        refine gV_i (As := [.int b4, .int (0 : Int32)]) X hP hS hl.1 (c_X12_ruleOf l D cA q aK aV hq hc29) sf_X12_ruleOf bw_1703 sv_X12_ruleOf (rcR_12 sR_0) rfl ⟨rfl, rfl⟩ ⟨Nat.le_of_ble_eq_true rfl, Nat.le_of_ble_eq_true rfl⟩ rfl rfl (Nat.le_of_ble_eq_true rfl) dX12_tells_40 (fun H locs hP hS => ?_)
        refine lv_iload_n hx hb dX12_tells_43 rfl (lv_at hl 1 rfl) ?_
        refine lv_icmp_eq (tgt := 50) hx hb dX12_tells_44 (by decide) (fun c30 => ?_) (fun c30 => ?_)
        · rw [if_pos c30] at h
          refine lv_iload_n hx hb dX12_tells_50 rfl (lv_at hl 2 rfl) ?_
          refine lv_aload_n hx hb dX12_tells_51 rfl (lv_at hl 0 rfl) ?_
          refine gfR_12_29 X hP sR_0 bw_1352 dX12_tells_52 ?_
          refine lv_iload hx hb dX12_tells_55 (lv_at hl 4 rfl) ?_
          obtain ⟨g31, h⟩ := gd_inv h
          refine ldR_ia X hP sR_11 zR_11 g31 dX12_tells_57 ?_
          refine lv_iadd hx hb dX12_tells_58 ?_
          obtain ⟨y32, ey32, h⟩ := lt_inv h
          refine topE ey32 ?_
          refine lv_istore_n (lv' := [(2, .int y32), (0, .ref (q 0)), (1, .int a1), (3, .int b3), (4, .int b4)]) hx hb dX12_tells_59 rfl hl (by decide) rfl (fun ls hl => ?_)
          refine lv_iload_n hx hb dX12_tells_60 rfl (lv_at hl 3 rfl) ?_
          refine lv_aload_n hx hb dX12_tells_61 rfl (lv_at hl 1 rfl) ?_
          refine gfR_12_30 X hP sR_0 bw_1353 dX12_tells_62 ?_
          refine lv_iload hx hb dX12_tells_65 (lv_at hl 4 rfl) ?_
          obtain ⟨g33, h⟩ := gd_inv h
          refine ldR_ia X hP sR_12 zR_12 g33 dX12_tells_67 ?_
          refine lv_iadd hx hb dX12_tells_68 ?_
          obtain ⟨y34, ey34, h⟩ := lt_inv h
          refine topE ey34 ?_
          refine lv_istore_n (lv' := [(3, .int y34), (2, .int y32), (0, .ref (q 0)), (1, .int a1), (4, .int b4)]) hx hb dX12_tells_69 rfl hl (by decide) rfl (fun ls hl => ?_)
          obtain ⟨y35, ey35, h⟩ := lt_inv h
          refine lv_iinc (v := y35) (lv' := [(4, .int y35), (3, .int y34), (2, .int y32), (0, .ref (q 0)), (1, .int a1)]) hx hb dX12_tells_70 hl (k := 4) rfl (by rw [ey35]; rfl) (by decide) rfl (fun ls hl => ?_)
          refine lv_goto (tgt := 25) hx hb dX12_tells_73 (by decide) ?_
          exact ih _ _ _ _ res _ _ _ h hP hS (lv_sub hl [3, 4, 2, 1, 0] rfl) K25_0
        · rw [if_neg c30] at h
          refine lv_goto (tgt := 70) hx hb dX12_tells_47 (by decide) ?_
          obtain ⟨y36, ey36, h⟩ := lt_inv h
          refine lv_iinc (v := y36) (lv' := [(4, .int y36), (0, .ref (q 0)), (1, .int a1), (2, .int b2), (3, .int b3)]) hx hb dX12_tells_70 hl (k := 4) rfl (by rw [ey36]; rfl) (by decide) rfl (fun ls hl => ?_)
          refine lv_goto (tgt := 25) hx hb dX12_tells_73 (by decide) ?_
          exact ih _ _ _ _ res _ _ _ h hP hS (lv_sub hl [1, 2, 3, 4, 0] rfl) K25_0
  refine lv_aload_n hx hb dX12_tells_0 rfl (lv_at hl 0 rfl) ?_
  refine lv_iload_n hx hb dX12_tells_1 rfl (lv_at hl 1 rfl) ?_
  obtain ⟨r1, M2, hc3, h⟩ := bnd_inv h
  refine gV_i (As := [.int a1]) X hP hS hl.1 (c_X12_isCue l D cA q aK aV hq hc3) sf_X12_isCue bw_1691 sv_X12_isCue (rcR_12 sR_0) rfl ⟨rfl, rfl⟩ ⟨Nat.le_of_ble_eq_true rfl, Nat.le_of_ble_eq_true rfl⟩ rfl rfl (Nat.le_of_ble_eq_true rfl) dX12_tells_2 (fun H locs hP hS => ?_)
  refine lv_if_ne (tgt := 14) hx hb dX12_tells_5 (by decide) (fun c4 => ?_) (fun c4 => ?_)
  · rw [if_neg c4] at h
    refine lv_aload_n hx hb dX12_tells_14 rfl (lv_at hl 0 rfl) ?_
    obtain ⟨_, M6, hc7, h⟩ := bnd_inv h
    refine gV_v (As := []) X hP hS hl.1 (c_X12_laysWorlds l D cA q aK aV hq hc7) sf_X12_laysWorlds bw_1944 sv_X12_laysWorlds (rcR_12 sR_0) rfl ⟨rfl, rfl⟩ ⟨Nat.le_of_ble_eq_true rfl, Nat.le_of_ble_eq_true rfl⟩ rfl rfl (Nat.le_of_ble_eq_true rfl) dX12_tells_15 (fun H locs hP hS => ?_)
    refine lv_iconst (v := 0) hx hb dX12_tells_18 (by decide) ?_
    refine lv_istore_n (lv' := [(2, .int (0 : Int32)), (0, .ref (q 0)), (1, .int a1)]) hx hb dX12_tells_19 rfl hl (by decide) rfl (fun ls hl => ?_)
    refine lv_iconst (v := 0) hx hb dX12_tells_20 (by decide) ?_
    refine lv_istore_n (lv' := [(3, .int (0 : Int32)), (2, .int (0 : Int32)), (0, .ref (q 0)), (1, .int a1)]) hx hb dX12_tells_21 rfl hl (by decide) rfl (fun ls hl => ?_)
    refine lv_iconst (v := 0) hx hb dX12_tells_22 (by decide) ?_
    refine lv_istore (lv' := [(4, .int (0 : Int32)), (3, .int (0 : Int32)), (2, .int (0 : Int32)), (0, .ref (q 0)), (1, .int a1)]) hx hb dX12_tells_23 hl (by decide) rfl (fun ls hl => ?_)
    obtain ⟨s8, M9, hc10, h⟩ := bnd_inv h
    obtain ⟨x11, x12⟩ := s8
    try dsimp only at h
    refine hL25  fz _ _ _ _ _ _ _ _ hc10 hP hS (lv_sub hl [3, 4, 2, 1, 0] rfl) (fun H locs ls hP hS hl => ?_)
    have hl : lv_has ls 5 [(0, .ref (q 0)), (2, .int x11), (3, .int x12)] := hl
    refine lv_iload_n hx hb dX12_tells_76 rfl (lv_at hl 1 rfl) ?_
    refine lv_if_ne (tgt := 89) hx hb dX12_tells_77 (by decide) (fun c13 => ?_) (fun c13 => ?_)
    · rw [if_neg c13] at h
      refine lv_aload_n hx hb dX12_tells_89 rfl (lv_at hl 0 rfl) ?_
      refine lv_iload_n hx hb dX12_tells_90 rfl (lv_at hl 2 rfl) ?_
      refine lv_i2l hx hb dX12_tells_91 rfl ?_
      refine lv_iload_n hx hb dX12_tells_92 rfl (lv_at hl 1 rfl) ?_
      refine lv_i2l hx hb dX12_tells_93 rfl ?_
      obtain ⟨r14, M15, hc16, h⟩ := bnd_inv h
      refine gV_i (As := [.long (x12.toInt64), .long (x11.toInt64)]) X hP hS hl.1 (c_X12_tellsBy l D cA q aK aV hq hc16) sf_X12_tellsBy bw_1914 sv_X12_tellsBy (rcR_12 sR_0) rfl ⟨rfl, rfl⟩ ⟨Nat.le_of_ble_eq_true rfl, Nat.le_of_ble_eq_true rfl⟩ rfl rfl (Nat.le_of_ble_eq_true rfl) dX12_tells_94 (fun H locs hP hS => ?_)
      obtain ⟨g17, h⟩ := gd_inv h
      exact end_z X hr hk hP hS (Decidable.not_not.mp g17) h dX12_tells_97
    · rw [if_pos c13] at h
      refine lv_aload_n hx hb dX12_tells_80 rfl (lv_at hl 0 rfl) ?_
      refine lv_bipush (v := 6) hx hb dX12_tells_81 (by decide) ?_
      obtain ⟨r18, M19, hc20, h⟩ := bnd_inv h
      refine gV_i (As := [.int (6 : Int32)]) X hP hS hl.1 (c_X12_is l D cA q aK aV hq hc20) sf_X12_is bw_1470 sv_X12_is (rcR_12 sR_0) rfl ⟨rfl, rfl⟩ ⟨Nat.le_of_ble_eq_true rfl, Nat.le_of_ble_eq_true rfl⟩ rfl rfl (Nat.le_of_ble_eq_true rfl) dX12_tells_83 (fun H locs hP hS => ?_)
      refine lv_goto (tgt := 97) hx hb dX12_tells_86 (by decide) ?_
      obtain ⟨g21, h⟩ := gd_inv h
      exact end_z X hr hk hP hS (Decidable.not_not.mp g21) h dX12_tells_97
  · rw [if_pos c4] at h
    refine lv_aload_n hx hb dX12_tells_8 rfl (lv_at hl 0 rfl) ?_
    refine lv_iconst (v := 1) hx hb dX12_tells_9 (by decide) ?_
    obtain ⟨r22, M23, hc24, h⟩ := bnd_inv h
    refine gV_i (As := [.int (1 : Int32)]) X hP hS hl.1 (c_X12_is l D cA q aK aV hq hc24) sf_X12_is bw_1470 sv_X12_is (rcR_12 sR_0) rfl ⟨rfl, rfl⟩ ⟨Nat.le_of_ble_eq_true rfl, Nat.le_of_ble_eq_true rfl⟩ rfl rfl (Nat.le_of_ble_eq_true rfl) dX12_tells_10 (fun H locs hP hS => ?_)
    obtain ⟨g25, h⟩ := gd_inv h
    exact end_z X hr hk hP hS (Decidable.not_not.mp g25) h dX12_tells_13
theorem dX12_mute_0 : decode cX12_mute 0 = .ok (.aload_n 0, 1) := by decide +kernel
theorem dX12_mute_1 : decode cX12_mute 1 = .ok (.invokevirtual 428, 3) := by decide +kernel
theorem dX12_mute_4 : decode cX12_mute 4 = .ok (.aload_n 0, 1) := by decide +kernel
theorem dX12_mute_5 : decode cX12_mute 5 = .ok (.aload_n 0, 1) := by decide +kernel
theorem dX12_mute_6 : decode cX12_mute 6 = .ok (.getfield 54, 3) := by decide +kernel
theorem dX12_mute_9 : decode cX12_mute 9 = .ok (.bipush 8, 2) := by decide +kernel
theorem dX12_mute_11 : decode cX12_mute 11 = .ok (.iaload, 1) := by decide +kernel
theorem dX12_mute_12 : decode cX12_mute 12 = .ok (.invokevirtual 95, 3) := by decide +kernel
theorem dX12_mute_15 : decode cX12_mute 15 = .ok (.ireturn, 1) := by decide +kernel
set_option maxRecDepth 100000 in
set_option maxHeartbeats 8000000 in
theorem c_X12_mute (l : Launch) (D : va_G) (cA : Nat → ClassId) (q aK aV : Nat → Nat) (hq : injG 20 q) {M M0 : Mem} {r0 : Int32} (h : f_X12_mute M = some (r0, M0)) : Met l yX12_mute (.code yX12_mute cX12_mute 1 (some .int) :: BW) ({ frames := 6, cells := 0, slots := 0, locals := 129 } : Room) (va_Pc [.ref (q 0)] (CB 20 (ceR cA q) D cA q aK aV M)) (Qi 20 (ceR cA q) D q r0 M0) 0 0 (AqG 20 q) := by
  refine gMet RX12 (by decide +kernel) rfl hq (Nat.le_of_ble_eq_true rfl) ?_
  intro p e s m below meth c ls X hr hk hP hS hl
  have hx := X.1
  have hb := X.2.1
  have hl : lv_has ls 1 [(0, .ref (q 0))] := hl
  rw [f_X12_mute] at h
  refine lv_aload_n hx hb dX12_mute_0 rfl (lv_at hl 0 rfl) ?_
  obtain ⟨_, M2, hc3, h⟩ := bnd_inv h
  refine gV_v (As := []) X hP hS hl.1 (c_X12_laysWorlds l D cA q aK aV hq hc3) sf_X12_laysWorlds bw_1944 sv_X12_laysWorlds (rcR_12 sR_0) rfl ⟨rfl, rfl⟩ ⟨Nat.le_of_ble_eq_true rfl, Nat.le_of_ble_eq_true rfl⟩ rfl rfl (Nat.le_of_ble_eq_true rfl) dX12_mute_1 (fun H locs hP hS => ?_)
  refine lv_aload_n hx hb dX12_mute_4 rfl (lv_at hl 0 rfl) ?_
  refine lv_aload_n hx hb dX12_mute_5 rfl (lv_at hl 0 rfl) ?_
  refine gfR_12_29 X hP sR_0 bw_1352 dX12_mute_6 ?_
  refine lv_bipush (v := 8) hx hb dX12_mute_9 (by decide) ?_
  refine ldR_ia X hP sR_11 zR_11 (by decide) dX12_mute_11 ?_
  refine topE (y := (gI M2 11 8)) rfl ?_
  obtain ⟨r4, M5, hc6, h⟩ := bnd_inv h
  refine gV_i (As := [.int (gI M2 11 8)]) X hP hS hl.1 (c_X12_gives l D cA q aK aV hq hc6) sf_X12_gives bw_1639 sv_X12_gives (rcR_12 sR_0) rfl ⟨rfl, rfl⟩ ⟨Nat.le_of_ble_eq_true rfl, Nat.le_of_ble_eq_true rfl⟩ rfl rfl (Nat.le_of_ble_eq_true rfl) dX12_mute_12 (fun H locs hP hS => ?_)
  exact end_i X hr hk hP hS h dX12_mute_15
theorem dX12_rightOf_0 : decode cX12_rightOf 0 = .ok (.lconst 0, 1) := by decide +kernel
theorem dX12_rightOf_1 : decode cX12_rightOf 1 = .ok (.lstore_n 2, 1) := by decide +kernel
theorem dX12_rightOf_2 : decode cX12_rightOf 2 = .ok (.iconst 0, 1) := by decide +kernel
theorem dX12_rightOf_3 : decode cX12_rightOf 3 = .ok (.istore 4, 2) := by decide +kernel
theorem dX12_rightOf_5 : decode cX12_rightOf 5 = .ok (.iload 4, 2) := by decide +kernel
theorem dX12_rightOf_7 : decode cX12_rightOf 7 = .ok (.iconst 1, 1) := by decide +kernel
theorem dX12_rightOf_8 : decode cX12_rightOf 8 = .ok (.aload_n 0, 1) := by decide +kernel
theorem dX12_rightOf_9 : decode cX12_rightOf 9 = .ok (.getfield 7, 3) := by decide +kernel
theorem dX12_rightOf_12 : decode cX12_rightOf 12 = .ok (.iconst 4, 1) := by decide +kernel
theorem dX12_rightOf_13 : decode cX12_rightOf 13 = .ok (.iaload, 1) := by decide +kernel
theorem dX12_rightOf_14 : decode cX12_rightOf 14 = .ok (.ishl, 1) := by decide +kernel
theorem dX12_rightOf_15 : decode cX12_rightOf 15 = .ok (.if_icmp .ge 140, 3) := by decide +kernel
theorem dX12_rightOf_18 : decode cX12_rightOf 18 = .ok (.iload 4, 2) := by decide +kernel
theorem dX12_rightOf_20 : decode cX12_rightOf 20 = .ok (.iload_n 1, 1) := by decide +kernel
theorem dX12_rightOf_21 : decode cX12_rightOf 21 = .ok (.iconst (-1), 1) := by decide +kernel
theorem dX12_rightOf_22 : decode cX12_rightOf 22 = .ok (.ixor, 1) := by decide +kernel
theorem dX12_rightOf_23 : decode cX12_rightOf 23 = .ok (.iand, 1) := by decide +kernel
theorem dX12_rightOf_24 : decode cX12_rightOf 24 = .ok (.ifCond .eq 6, 3) := by decide +kernel
theorem dX12_rightOf_27 : decode cX12_rightOf 27 = .ok (.goto 122, 3) := by decide +kernel
theorem dX12_rightOf_30 : decode cX12_rightOf 30 = .ok (.lconst 1, 1) := by decide +kernel
theorem dX12_rightOf_31 : decode cX12_rightOf 31 = .ok (.lstore 5, 2) := by decide +kernel
theorem dX12_rightOf_33 : decode cX12_rightOf 33 = .ok (.iconst 0, 1) := by decide +kernel
theorem dX12_rightOf_34 : decode cX12_rightOf 34 = .ok (.istore 7, 2) := by decide +kernel
theorem dX12_rightOf_36 : decode cX12_rightOf 36 = .ok (.iconst 0, 1) := by decide +kernel
theorem dX12_rightOf_37 : decode cX12_rightOf 37 = .ok (.istore 8, 2) := by decide +kernel
theorem dX12_rightOf_39 : decode cX12_rightOf 39 = .ok (.iload 8, 2) := by decide +kernel
theorem dX12_rightOf_41 : decode cX12_rightOf 41 = .ok (.aload_n 0, 1) := by decide +kernel
theorem dX12_rightOf_42 : decode cX12_rightOf 42 = .ok (.getfield 7, 3) := by decide +kernel
theorem dX12_rightOf_45 : decode cX12_rightOf 45 = .ok (.iconst 4, 1) := by decide +kernel
theorem dX12_rightOf_46 : decode cX12_rightOf 46 = .ok (.iaload, 1) := by decide +kernel
theorem dX12_rightOf_47 : decode cX12_rightOf 47 = .ok (.if_icmp .ge 88, 3) := by decide +kernel
theorem dX12_rightOf_50 : decode cX12_rightOf 50 = .ok (.aload_n 0, 1) := by decide +kernel
theorem dX12_rightOf_51 : decode cX12_rightOf 51 = .ok (.iload_n 1, 1) := by decide +kernel
theorem dX12_rightOf_52 : decode cX12_rightOf 52 = .ok (.iload 8, 2) := by decide +kernel
theorem dX12_rightOf_54 : decode cX12_rightOf 54 = .ok (.invokevirtual 315, 3) := by decide +kernel
theorem dX12_rightOf_57 : decode cX12_rightOf 57 = .ok (.ifCond .ne 6, 3) := by decide +kernel
theorem dX12_rightOf_60 : decode cX12_rightOf 60 = .ok (.goto 69, 3) := by decide +kernel
theorem dX12_rightOf_63 : decode cX12_rightOf 63 = .ok (.aload_n 0, 1) := by decide +kernel
theorem dX12_rightOf_64 : decode cX12_rightOf 64 = .ok (.iload 4, 2) := by decide +kernel
theorem dX12_rightOf_66 : decode cX12_rightOf 66 = .ok (.iload 8, 2) := by decide +kernel
theorem dX12_rightOf_68 : decode cX12_rightOf 68 = .ok (.invokevirtual 315, 3) := by decide +kernel
theorem dX12_rightOf_71 : decode cX12_rightOf 71 = .ok (.istore 9, 2) := by decide +kernel
theorem dX12_rightOf_73 : decode cX12_rightOf 73 = .ok (.lload 5, 2) := by decide +kernel
theorem dX12_rightOf_75 : decode cX12_rightOf 75 = .ok (.iload 9, 2) := by decide +kernel
theorem dX12_rightOf_77 : decode cX12_rightOf 77 = .ok (.ifCond .eq 16, 3) := by decide +kernel
theorem dX12_rightOf_80 : decode cX12_rightOf 80 = .ok (.bipush 16, 2) := by decide +kernel
theorem dX12_rightOf_82 : decode cX12_rightOf 82 = .ok (.aload_n 0, 1) := by decide +kernel
theorem dX12_rightOf_83 : decode cX12_rightOf 83 = .ok (.iload 8, 2) := by decide +kernel
theorem dX12_rightOf_85 : decode cX12_rightOf 85 = .ok (.invokevirtual 312, 3) := by decide +kernel
theorem dX12_rightOf_88 : decode cX12_rightOf 88 = .ok (.isub, 1) := by decide +kernel
theorem dX12_rightOf_89 : decode cX12_rightOf 89 = .ok (.i2l, 1) := by decide +kernel
theorem dX12_rightOf_90 : decode cX12_rightOf 90 = .ok (.goto 10, 3) := by decide +kernel
theorem dX12_rightOf_93 : decode cX12_rightOf 93 = .ok (.aload_n 0, 1) := by decide +kernel
theorem dX12_rightOf_94 : decode cX12_rightOf 94 = .ok (.iload 8, 2) := by decide +kernel
theorem dX12_rightOf_96 : decode cX12_rightOf 96 = .ok (.invokevirtual 312, 3) := by decide +kernel
theorem dX12_rightOf_99 : decode cX12_rightOf 99 = .ok (.i2l, 1) := by decide +kernel
theorem dX12_rightOf_100 : decode cX12_rightOf 100 = .ok (.lmul, 1) := by decide +kernel
theorem dX12_rightOf_101 : decode cX12_rightOf 101 = .ok (.lstore 5, 2) := by decide +kernel
theorem dX12_rightOf_103 : decode cX12_rightOf 103 = .ok (.iload 7, 2) := by decide +kernel
theorem dX12_rightOf_105 : decode cX12_rightOf 105 = .ok (.iload 9, 2) := by decide +kernel
theorem dX12_rightOf_107 : decode cX12_rightOf 107 = .ok (.ifCond .eq 12, 3) := by decide +kernel
theorem dX12_rightOf_110 : decode cX12_rightOf 110 = .ok (.aload_n 0, 1) := by decide +kernel
theorem dX12_rightOf_111 : decode cX12_rightOf 111 = .ok (.iload 8, 2) := by decide +kernel
theorem dX12_rightOf_113 : decode cX12_rightOf 113 = .ok (.invokevirtual 284, 3) := by decide +kernel
theorem dX12_rightOf_116 : decode cX12_rightOf 116 = .ok (.goto 10, 3) := by decide +kernel
theorem dX12_rightOf_119 : decode cX12_rightOf 119 = .ok (.aload_n 0, 1) := by decide +kernel
theorem dX12_rightOf_120 : decode cX12_rightOf 120 = .ok (.iload 8, 2) := by decide +kernel
theorem dX12_rightOf_122 : decode cX12_rightOf 122 = .ok (.invokevirtual 284, 3) := by decide +kernel
theorem dX12_rightOf_125 : decode cX12_rightOf 125 = .ok (.ineg, 1) := by decide +kernel
theorem dX12_rightOf_126 : decode cX12_rightOf 126 = .ok (.iadd, 1) := by decide +kernel
theorem dX12_rightOf_127 : decode cX12_rightOf 127 = .ok (.istore 7, 2) := by decide +kernel
theorem dX12_rightOf_129 : decode cX12_rightOf 129 = .ok (.iinc 8 1, 3) := by decide +kernel
theorem dX12_rightOf_132 : decode cX12_rightOf 132 = .ok (.goto (-93), 3) := by decide +kernel
theorem dX12_rightOf_135 : decode cX12_rightOf 135 = .ok (.lload_n 2, 1) := by decide +kernel
theorem dX12_rightOf_136 : decode cX12_rightOf 136 = .ok (.iload 7, 2) := by decide +kernel
theorem dX12_rightOf_138 : decode cX12_rightOf 138 = .ok (.ifCond .le 8, 3) := by decide +kernel
theorem dX12_rightOf_141 : decode cX12_rightOf 141 = .ok (.lload 5, 2) := by decide +kernel
theorem dX12_rightOf_143 : decode cX12_rightOf 143 = .ok (.goto 4, 3) := by decide +kernel
theorem dX12_rightOf_146 : decode cX12_rightOf 146 = .ok (.lconst 0, 1) := by decide +kernel
theorem dX12_rightOf_147 : decode cX12_rightOf 147 = .ok (.ladd, 1) := by decide +kernel
theorem dX12_rightOf_148 : decode cX12_rightOf 148 = .ok (.lstore_n 2, 1) := by decide +kernel
theorem dX12_rightOf_149 : decode cX12_rightOf 149 = .ok (.iinc 4 1, 3) := by decide +kernel
theorem dX12_rightOf_152 : decode cX12_rightOf 152 = .ok (.goto (-147), 3) := by decide +kernel
theorem dX12_rightOf_155 : decode cX12_rightOf 155 = .ok (.lload_n 2, 1) := by decide +kernel
theorem dX12_rightOf_156 : decode cX12_rightOf 156 = .ok (.lreturn, 1) := by decide +kernel
set_option maxRecDepth 100000 in
set_option maxHeartbeats 8000000 in
theorem c_X12_rightOf (l : Launch) (D : va_G) (cA : Nat → ClassId) (q aK aV : Nat → Nat) (hq : injG 20 q) {a1 : Int32} {M M0 : Mem} {r0 : Int64} (h : f_X12_rightOf a1 M = some (r0, M0)) : Met l yX12_rightOf (.code yX12_rightOf cX12_rightOf 10 (some .long) :: BW) ({ frames := 2, cells := 0, slots := 0, locals := 36 } : Room) (va_Pc [.ref (q 0), .int a1] (CB 20 (ceR cA q) D cA q aK aV M)) (Ql 20 (ceR cA q) D q r0 M0) 0 0 (AqG 20 q) := by
  refine gMet RX12 (by decide +kernel) rfl hq (Nat.le_of_ble_eq_true rfl) ?_
  intro p e s m below meth c ls X hr hk hP hS hl
  have hx := X.1
  have hb := X.2.1
  have hl : lv_has ls 10 [(0, .ref (q 0)), (1, .int a1)] := hl
  rw [f_X12_rightOf] at h
  have hL5 : ∀ (fu : Nat) (b2 : Int64) (b4 : Int32) (M : Mem) (res : (Int64) × Mem) (H : Heap) (locs : List Loc) (ls : Array Slot), f_X12_rightOf_L5 a1 fu b2 b4 M = some res → va_P D vwCl (wsG 20 (ceR cA q) q M) H → va_S (AqG 20 q) s.heap H locs → lv_has ls 10 [(0, .ref (q 0)), (1, .int a1), (2, .long b2), (4, .int b4)] → (∀ (H : Heap) (locs : List Loc) (ls : Array Slot), va_P D vwCl (wsG 20 (ceR cA q) q res.2) H → va_S (AqG 20 q) s.heap H locs → lv_has ls 10 [(2, .long (res.1))] → W p l e ({ frames := 2, cells := 0, slots := 0, locals := 36 } : Room) s m [.ref (q 0), .int a1].toArray below meth c H locs 0 0 (MQ below (Ql 20 (ceR cA q) D q r0 M0) [.ref (q 0), .int a1].toArray s 0 0 (AqG 20 q)) (F0 m 155 ls [])) → W p l e ({ frames := 2, cells := 0, slots := 0, locals := 36 } : Room) s m [.ref (q 0), .int a1].toArray below meth c H locs 0 0 (MQ below (Ql 20 (ceR cA q) D q r0 M0) [.ref (q 0), .int a1].toArray s 0 0 (AqG 20 q)) (F0 m 5 ls []) := by
    intro fu
    induction fu with
    | zero => intro b2 b4 M res H locs ls h; exact absurd h (by simp [f_X12_rightOf_L5])
    | succ fu ih =>
      intro b2 b4 M res H locs ls h hP hS hl K5_0
      rw [f_X12_rightOf_L5] at h
      have hL39 : ∀ (b2 : Int64) (b4 : Int32) (fu : Nat) (b5 : Int64) (b7 : Int32) (b8 : Int32) (M : Mem) (res : (Int64 × Int32) × Mem) (H : Heap) (locs : List Loc) (ls : Array Slot), f_X12_rightOf_L39 a1 b2 b4 fu b5 b7 b8 M = some res → va_P D vwCl (wsG 20 (ceR cA q) q M) H → va_S (AqG 20 q) s.heap H locs → lv_has ls 10 [(0, .ref (q 0)), (1, .int a1), (2, .long b2), (4, .int b4), (5, .long b5), (7, .int b7), (8, .int b8)] → (∀ (H : Heap) (locs : List Loc) (ls : Array Slot), va_P D vwCl (wsG 20 (ceR cA q) q res.2) H → va_S (AqG 20 q) s.heap H locs → lv_has ls 10 [(0, .ref (q 0)), (1, .int a1), (2, .long b2), (4, .int b4), (5, .long (res.1.1)), (7, .int (res.1.2))] → W p l e ({ frames := 2, cells := 0, slots := 0, locals := 36 } : Room) s m [.ref (q 0), .int a1].toArray below meth c H locs 0 0 (MQ below (Ql 20 (ceR cA q) D q r0 M0) [.ref (q 0), .int a1].toArray s 0 0 (AqG 20 q)) (F0 m 135 ls [])) → W p l e ({ frames := 2, cells := 0, slots := 0, locals := 36 } : Room) s m [.ref (q 0), .int a1].toArray below meth c H locs 0 0 (MQ below (Ql 20 (ceR cA q) D q r0 M0) [.ref (q 0), .int a1].toArray s 0 0 (AqG 20 q)) (F0 m 39 ls []) := by
        intro b2 b4 fu
        induction fu with
        | zero => intro b5 b7 b8 M res H locs ls h; exact absurd h (by simp [f_X12_rightOf_L39])
        | succ fu ih =>
          intro b5 b7 b8 M res H locs ls h hP hS hl K39_0
          rw [f_X12_rightOf_L39] at h
          have hJ100 : ∀ (b7 : Int32) (b8 : Int32) (b9 : Int32) (s0 : Int64) (s1 : Int64) (M : Mem) (H : Heap) (locs : List Loc) (ls : Array Slot), f_X12_rightOf_J100 (f_X12_rightOf_L39 a1 b2 b4 fu) a1 b2 b4 b7 b8 b9 s0 s1 M = some res → va_P D vwCl (wsG 20 (ceR cA q) q M) H → va_S (AqG 20 q) s.heap H locs → lv_has ls 10 [(0, .ref (q 0)), (1, .int a1), (2, .long b2), (4, .int b4), (7, .int b7), (8, .int b8), (9, .int b9)] → W p l e ({ frames := 2, cells := 0, slots := 0, locals := 36 } : Room) s m [.ref (q 0), .int a1].toArray below meth c H locs 0 0 (MQ below (Ql 20 (ceR cA q) D q r0 M0) [.ref (q 0), .int a1].toArray s 0 0 (AqG 20 q)) (F0 m 100 ls [.long s1, .long s0]) := by
            intro b7 b8 b9 s0 s1 M H locs ls h hP hS hl
            rw [f_X12_rightOf_J100] at h
            refine lv_lmul hx hb dX12_rightOf_100 ?_
            obtain ⟨y34, ey34, h⟩ := lt_inv h
            refine topL ey34 ?_
            refine lv_lstore (lv' := [(5, .long y34), (0, .ref (q 0)), (1, .int a1), (2, .long b2), (4, .int b4), (7, .int b7), (8, .int b8), (9, .int b9)]) hx hb dX12_rightOf_101 hl (by decide) rfl (fun ls hl => ?_)
            refine lv_iload hx hb dX12_rightOf_103 (lv_at hl 5 rfl) ?_
            refine lv_iload hx hb dX12_rightOf_105 (lv_at hl 7 rfl) ?_
            refine lv_if_eq (tgt := 119) hx hb dX12_rightOf_107 (by decide) (fun c35 => ?_) (fun c35 => ?_)
            · rw [if_pos c35] at h
              refine lv_aload_n hx hb dX12_rightOf_119 rfl (lv_at hl 1 rfl) ?_
              refine lv_iload hx hb dX12_rightOf_120 (lv_at hl 6 rfl) ?_
              obtain ⟨r36, M37, hc38, h⟩ := bnd_inv h
              refine gV_i (As := [.int b8]) X hP hS hl.1 (c_X12_votesOf l D cA q aK aV hq hc38) sf_X12_votesOf bw_1675 sv_X12_votesOf (rcR_12 sR_0) rfl ⟨rfl, rfl⟩ ⟨Nat.le_of_ble_eq_true rfl, Nat.le_of_ble_eq_true rfl⟩ rfl rfl (Nat.le_of_ble_eq_true rfl) dX12_rightOf_122 (fun H locs hP hS => ?_)
              refine lv_ineg hx hb dX12_rightOf_125 ?_
              refine lv_iadd hx hb dX12_rightOf_126 ?_
              obtain ⟨y39, ey39, h⟩ := lt_inv h
              refine topE ey39 ?_
              refine lv_istore (lv' := [(7, .int y39), (5, .long y34), (0, .ref (q 0)), (1, .int a1), (2, .long b2), (4, .int b4), (8, .int b8), (9, .int b9)]) hx hb dX12_rightOf_127 hl (by decide) rfl (fun ls hl => ?_)
              obtain ⟨y40, ey40, h⟩ := lt_inv h
              refine lv_iinc (v := y40) (lv' := [(8, .int y40), (7, .int y39), (5, .long y34), (0, .ref (q 0)), (1, .int a1), (2, .long b2), (4, .int b4), (9, .int b9)]) hx hb dX12_rightOf_129 hl (k := 6) rfl (by rw [ey40]; rfl) (by decide) rfl (fun ls hl => ?_)
              refine lv_goto (tgt := 39) hx hb dX12_rightOf_132 (by decide) ?_
              exact ih _ _ _ _ res _ _ _ h hP hS (lv_sub hl [3, 4, 5, 6, 2, 1, 0] rfl) K39_0
            · rw [if_neg c35] at h
              refine lv_aload_n hx hb dX12_rightOf_110 rfl (lv_at hl 1 rfl) ?_
              refine lv_iload hx hb dX12_rightOf_111 (lv_at hl 6 rfl) ?_
              obtain ⟨r41, M42, hc43, h⟩ := bnd_inv h
              refine gV_i (As := [.int b8]) X hP hS hl.1 (c_X12_votesOf l D cA q aK aV hq hc43) sf_X12_votesOf bw_1675 sv_X12_votesOf (rcR_12 sR_0) rfl ⟨rfl, rfl⟩ ⟨Nat.le_of_ble_eq_true rfl, Nat.le_of_ble_eq_true rfl⟩ rfl rfl (Nat.le_of_ble_eq_true rfl) dX12_rightOf_113 (fun H locs hP hS => ?_)
              refine lv_goto (tgt := 126) hx hb dX12_rightOf_116 (by decide) ?_
              refine lv_iadd hx hb dX12_rightOf_126 ?_
              obtain ⟨y44, ey44, h⟩ := lt_inv h
              refine topE ey44 ?_
              refine lv_istore (lv' := [(7, .int y44), (5, .long y34), (0, .ref (q 0)), (1, .int a1), (2, .long b2), (4, .int b4), (8, .int b8), (9, .int b9)]) hx hb dX12_rightOf_127 hl (by decide) rfl (fun ls hl => ?_)
              obtain ⟨y45, ey45, h⟩ := lt_inv h
              refine lv_iinc (v := y45) (lv' := [(8, .int y45), (7, .int y44), (5, .long y34), (0, .ref (q 0)), (1, .int a1), (2, .long b2), (4, .int b4), (9, .int b9)]) hx hb dX12_rightOf_129 hl (k := 6) rfl (by rw [ey45]; rfl) (by decide) rfl (fun ls hl => ?_)
              refine lv_goto (tgt := 39) hx hb dX12_rightOf_132 (by decide) ?_
              exact ih _ _ _ _ res _ _ _ h hP hS (lv_sub hl [3, 4, 5, 6, 2, 1, 0] rfl) K39_0
          refine lv_iload hx hb dX12_rightOf_39 (lv_at hl 6 rfl) ?_
          refine lv_aload_n hx hb dX12_rightOf_41 rfl (lv_at hl 0 rfl) ?_
          refine gfR_12_0 X hP sR_0 bw_1323 dX12_rightOf_42 ?_
          refine lv_iconst (v := 4) hx hb dX12_rightOf_45 (by decide) ?_
          refine ldR_ia X hP sR_1 zR_1 (by decide) dX12_rightOf_46 ?_
          refine topE (y := (gI M 1 4)) rfl ?_
          refine lv_icmp_ge (tgt := 135) hx hb dX12_rightOf_47 (by decide) (fun c18 => ?_) (fun c18 => ?_)
          · rw [if_pos c18] at h
            cases h
            exact K39_0 _ _ _ hP hS (lv_sub hl [0, 1, 2, 3, 4, 5] rfl)
          · rw [if_neg c18] at h
            refine lv_aload_n hx hb dX12_rightOf_50 rfl (lv_at hl 0 rfl) ?_
            refine lv_iload_n hx hb dX12_rightOf_51 rfl (lv_at hl 1 rfl) ?_
            refine lv_iload hx hb dX12_rightOf_52 (lv_at hl 6 rfl) ?_
            obtain ⟨r19, M20, hc21, h⟩ := bnd_inv h
            refine gV_i (As := [.int a1, .int b8]) X hP hS hl.1 (c_X12_isIn l D cA q aK aV hq hc21) sf_X12_isIn bw_1755 sv_X12_isIn (rcR_12 sR_0) rfl ⟨rfl, rfl⟩ ⟨Nat.le_of_ble_eq_true rfl, Nat.le_of_ble_eq_true rfl⟩ rfl rfl (Nat.le_of_ble_eq_true rfl) dX12_rightOf_54 (fun H locs hP hS => ?_)
            refine lv_if_ne (tgt := 63) hx hb dX12_rightOf_57 (by decide) (fun c22 => ?_) (fun c22 => ?_)
            · rw [if_neg c22] at h
              refine lv_aload_n hx hb dX12_rightOf_63 rfl (lv_at hl 0 rfl) ?_
              refine lv_iload hx hb dX12_rightOf_64 (lv_at hl 3 rfl) ?_
              refine lv_iload hx hb dX12_rightOf_66 (lv_at hl 6 rfl) ?_
              obtain ⟨r23, M24, hc25, h⟩ := bnd_inv h
              refine gV_i (As := [.int b4, .int b8]) X hP hS hl.1 (c_X12_isIn l D cA q aK aV hq hc25) sf_X12_isIn bw_1755 sv_X12_isIn (rcR_12 sR_0) rfl ⟨rfl, rfl⟩ ⟨Nat.le_of_ble_eq_true rfl, Nat.le_of_ble_eq_true rfl⟩ rfl rfl (Nat.le_of_ble_eq_true rfl) dX12_rightOf_68 (fun H locs hP hS => ?_)
              refine lv_istore (lv' := [(9, .int r23), (0, .ref (q 0)), (1, .int a1), (2, .long b2), (4, .int b4), (5, .long b5), (7, .int b7), (8, .int b8)]) hx hb dX12_rightOf_71 hl (by decide) rfl (fun ls hl => ?_)
              refine lv_lload hx hb dX12_rightOf_73 (lv_at hl 5 rfl) ?_
              refine lv_iload hx hb dX12_rightOf_75 (lv_at hl 0 rfl) ?_
              refine lv_if_eq (tgt := 93) hx hb dX12_rightOf_77 (by decide) (fun c26 => ?_) (fun c26 => ?_)
              · rw [if_pos c26] at h
                refine lv_aload_n hx hb dX12_rightOf_93 rfl (lv_at hl 1 rfl) ?_
                refine lv_iload hx hb dX12_rightOf_94 (lv_at hl 7 rfl) ?_
                obtain ⟨r27, M28, hc29, h⟩ := bnd_inv h
                refine gV_i (As := [.int b8]) X hP hS hl.1 (c_X12_slipOf l D cA q aK aV hq hc29) sf_X12_slipOf bw_1727 sv_X12_slipOf (rcR_12 sR_0) rfl ⟨rfl, rfl⟩ ⟨Nat.le_of_ble_eq_true rfl, Nat.le_of_ble_eq_true rfl⟩ rfl rfl (Nat.le_of_ble_eq_true rfl) dX12_rightOf_96 (fun H locs hP hS => ?_)
                refine lv_i2l hx hb dX12_rightOf_99 rfl ?_
                exact hJ100 _ _ _ _ _ _ _ _ _ h hP hS (lv_sub hl [1, 2, 3, 4, 6, 7, 0] rfl)
              · rw [if_neg c26] at h
                refine lv_bipush (v := 16) hx hb dX12_rightOf_80 (by decide) ?_
                refine lv_aload_n hx hb dX12_rightOf_82 rfl (lv_at hl 1 rfl) ?_
                refine lv_iload hx hb dX12_rightOf_83 (lv_at hl 7 rfl) ?_
                obtain ⟨r30, M31, hc32, h⟩ := bnd_inv h
                refine gV_i (As := [.int b8]) X hP hS hl.1 (c_X12_slipOf l D cA q aK aV hq hc32) sf_X12_slipOf bw_1727 sv_X12_slipOf (rcR_12 sR_0) rfl ⟨rfl, rfl⟩ ⟨Nat.le_of_ble_eq_true rfl, Nat.le_of_ble_eq_true rfl⟩ rfl rfl (Nat.le_of_ble_eq_true rfl) dX12_rightOf_85 (fun H locs hP hS => ?_)
                refine lv_isub hx hb dX12_rightOf_88 ?_
                refine lv_i2l hx hb dX12_rightOf_89 rfl ?_
                refine lv_goto (tgt := 100) hx hb dX12_rightOf_90 (by decide) ?_
                exact hJ100 _ _ _ _ _ _ _ _ _ h hP hS (lv_sub hl [1, 2, 3, 4, 6, 7, 0] rfl)
            · rw [if_pos c22] at h
              refine lv_goto (tgt := 129) hx hb dX12_rightOf_60 (by decide) ?_
              obtain ⟨y33, ey33, h⟩ := lt_inv h
              refine lv_iinc (v := y33) (lv' := [(8, .int y33), (0, .ref (q 0)), (1, .int a1), (2, .long b2), (4, .int b4), (5, .long b5), (7, .int b7)]) hx hb dX12_rightOf_129 hl (k := 6) rfl (by rw [ey33]; rfl) (by decide) rfl (fun ls hl => ?_)
              refine lv_goto (tgt := 39) hx hb dX12_rightOf_132 (by decide) ?_
              exact ih _ _ _ _ res _ _ _ h hP hS (lv_sub hl [1, 2, 3, 4, 5, 6, 0] rfl) K39_0
      refine lv_iload hx hb dX12_rightOf_5 (lv_at hl 3 rfl) ?_
      refine lv_iconst (v := 1) hx hb dX12_rightOf_7 (by decide) ?_
      refine lv_aload_n hx hb dX12_rightOf_8 rfl (lv_at hl 0 rfl) ?_
      refine gfR_12_0 X hP sR_0 bw_1323 dX12_rightOf_9 ?_
      refine lv_iconst (v := 4) hx hb dX12_rightOf_12 (by decide) ?_
      refine ldR_ia X hP sR_1 zR_1 (by decide) dX12_rightOf_13 ?_
      refine topE (y := (gI M 1 4)) rfl ?_
      refine lv_ishl hx hb dX12_rightOf_14 ?_
      refine lv_icmp_ge (tgt := 155) hx hb dX12_rightOf_15 (by decide) (fun c5 => ?_) (fun c5 => ?_)
      · rw [if_pos c5] at h
        cases h
        exact K5_0 _ _ _ hP hS (lv_sub hl [2] rfl)
      · rw [if_neg c5] at h
        refine lv_iload hx hb dX12_rightOf_18 (lv_at hl 3 rfl) ?_
        refine lv_iload_n hx hb dX12_rightOf_20 rfl (lv_at hl 1 rfl) ?_
        refine lv_iconst (v := -1) hx hb dX12_rightOf_21 (by decide) ?_
        refine lv_ixor hx hb dX12_rightOf_22 ?_
        refine lv_iand hx hb dX12_rightOf_23 ?_
        refine lv_if_eq (tgt := 30) hx hb dX12_rightOf_24 (by decide) (fun c6 => ?_) (fun c6 => ?_)
        · rw [if_pos c6] at h
          refine lv_lconst (v := 1) hx hb dX12_rightOf_30 (by decide) ?_
          refine lv_lstore (lv' := [(5, .long (1 : Int64)), (0, .ref (q 0)), (1, .int a1), (2, .long b2), (4, .int b4)]) hx hb dX12_rightOf_31 hl (by decide) rfl (fun ls hl => ?_)
          refine lv_iconst (v := 0) hx hb dX12_rightOf_33 (by decide) ?_
          refine lv_istore (lv' := [(7, .int (0 : Int32)), (5, .long (1 : Int64)), (0, .ref (q 0)), (1, .int a1), (2, .long b2), (4, .int b4)]) hx hb dX12_rightOf_34 hl (by decide) rfl (fun ls hl => ?_)
          refine lv_iconst (v := 0) hx hb dX12_rightOf_36 (by decide) ?_
          refine lv_istore (lv' := [(8, .int (0 : Int32)), (7, .int (0 : Int32)), (5, .long (1 : Int64)), (0, .ref (q 0)), (1, .int a1), (2, .long b2), (4, .int b4)]) hx hb dX12_rightOf_37 hl (by decide) rfl (fun ls hl => ?_)
          obtain ⟨s7, M8, hc9, h⟩ := bnd_inv h
          obtain ⟨x10, x11⟩ := s7
          try dsimp only at h
          refine hL39 _ _ fz _ _ _ _ _ _ _ _ hc9 hP hS (lv_sub hl [3, 4, 5, 6, 2, 1, 0] rfl) (fun H locs ls hP hS hl => ?_)
          have hl : lv_has ls 10 [(0, .ref (q 0)), (1, .int a1), (2, .long b2), (4, .int b4), (5, .long x10), (7, .int x11)] := hl
          refine lv_lload_n hx hb dX12_rightOf_135 rfl (lv_at hl 2 rfl) ?_
          refine lv_iload hx hb dX12_rightOf_136 (lv_at hl 5 rfl) ?_
          refine lv_if_le (tgt := 146) hx hb dX12_rightOf_138 (by decide) (fun c12 => ?_) (fun c12 => ?_)
          · rw [if_pos c12] at h
            refine lv_lconst (v := 0) hx hb dX12_rightOf_146 (by decide) ?_
            refine lv_ladd hx hb dX12_rightOf_147 ?_
            obtain ⟨y13, ey13, h⟩ := lt_inv h
            refine topL ey13 ?_
            refine lv_lstore_n (lv' := [(2, .long y13), (0, .ref (q 0)), (1, .int a1), (4, .int b4), (5, .long x10), (7, .int x11)]) hx hb dX12_rightOf_148 rfl hl (by decide) rfl (fun ls hl => ?_)
            obtain ⟨y14, ey14, h⟩ := lt_inv h
            refine lv_iinc (v := y14) (lv' := [(4, .int y14), (2, .long y13), (0, .ref (q 0)), (1, .int a1), (5, .long x10), (7, .int x11)]) hx hb dX12_rightOf_149 hl (k := 3) rfl (by rw [ey14]; rfl) (by decide) rfl (fun ls hl => ?_)
            refine lv_goto (tgt := 5) hx hb dX12_rightOf_152 (by decide) ?_
            exact ih _ _ _ res _ _ _ h hP hS (lv_sub hl [2, 3, 1, 0] rfl) K5_0
          · rw [if_neg c12] at h
            refine lv_lload hx hb dX12_rightOf_141 (lv_at hl 4 rfl) ?_
            refine lv_goto (tgt := 147) hx hb dX12_rightOf_143 (by decide) ?_
            refine lv_ladd hx hb dX12_rightOf_147 ?_
            obtain ⟨y15, ey15, h⟩ := lt_inv h
            refine topL ey15 ?_
            refine lv_lstore_n (lv' := [(2, .long y15), (0, .ref (q 0)), (1, .int a1), (4, .int b4), (5, .long x10), (7, .int x11)]) hx hb dX12_rightOf_148 rfl hl (by decide) rfl (fun ls hl => ?_)
            obtain ⟨y16, ey16, h⟩ := lt_inv h
            refine lv_iinc (v := y16) (lv' := [(4, .int y16), (2, .long y15), (0, .ref (q 0)), (1, .int a1), (5, .long x10), (7, .int x11)]) hx hb dX12_rightOf_149 hl (k := 3) rfl (by rw [ey16]; rfl) (by decide) rfl (fun ls hl => ?_)
            refine lv_goto (tgt := 5) hx hb dX12_rightOf_152 (by decide) ?_
            exact ih _ _ _ res _ _ _ h hP hS (lv_sub hl [2, 3, 1, 0] rfl) K5_0
        · rw [if_neg c6] at h
          refine lv_goto (tgt := 149) hx hb dX12_rightOf_27 (by decide) ?_
          obtain ⟨y17, ey17, h⟩ := lt_inv h
          refine lv_iinc (v := y17) (lv' := [(4, .int y17), (0, .ref (q 0)), (1, .int a1), (2, .long b2)]) hx hb dX12_rightOf_149 hl (k := 3) rfl (by rw [ey17]; rfl) (by decide) rfl (fun ls hl => ?_)
          refine lv_goto (tgt := 5) hx hb dX12_rightOf_152 (by decide) ?_
          exact ih _ _ _ res _ _ _ h hP hS (lv_sub hl [1, 2, 3, 0] rfl) K5_0
  refine lv_lconst (v := 0) hx hb dX12_rightOf_0 (by decide) ?_
  refine lv_lstore_n (lv' := [(2, .long (0 : Int64)), (0, .ref (q 0)), (1, .int a1)]) hx hb dX12_rightOf_1 rfl hl (by decide) rfl (fun ls hl => ?_)
  refine lv_iconst (v := 0) hx hb dX12_rightOf_2 (by decide) ?_
  refine lv_istore (lv' := [(4, .int (0 : Int32)), (2, .long (0 : Int64)), (0, .ref (q 0)), (1, .int a1)]) hx hb dX12_rightOf_3 hl (by decide) rfl (fun ls hl => ?_)
  obtain ⟨s1, M2, hc3, h⟩ := bnd_inv h
  obtain ⟨x4, rfl⟩ : ∃ z, z = s1 := ⟨_, rfl⟩
  try dsimp only at h
  refine hL5  fz _ _ _ _ _ _ _ hc3 hP hS (lv_sub hl [2, 3, 1, 0] rfl) (fun H locs ls hP hS hl => ?_)
  have hl : lv_has ls 10 [(2, .long x4)] := hl
  refine lv_lload_n hx hb dX12_rightOf_155 rfl (lv_at hl 0 rfl) ?_
  exact end_l X hr hk hP hS h dX12_rightOf_156
theorem dX12_verdict_0 : decode cX12_verdict 0 = .ok (.iload_n 1, 1) := by decide +kernel
theorem dX12_verdict_1 : decode cX12_verdict 1 = .ok (.i2l, 1) := by decide +kernel
theorem dX12_verdict_2 : decode cX12_verdict 2 = .ok (.lconst 1, 1) := by decide +kernel
theorem dX12_verdict_3 : decode cX12_verdict 3 = .ok (.lconst 1, 1) := by decide +kernel
theorem dX12_verdict_4 : decode cX12_verdict 4 = .ok (.aload_n 0, 1) := by decide +kernel
theorem dX12_verdict_5 : decode cX12_verdict 5 = .ok (.getfield 7, 3) := by decide +kernel
theorem dX12_verdict_8 : decode cX12_verdict 8 = .ok (.iconst 4, 1) := by decide +kernel
theorem dX12_verdict_9 : decode cX12_verdict 9 = .ok (.iaload, 1) := by decide +kernel
theorem dX12_verdict_10 : decode cX12_verdict 10 = .ok (.lshl, 1) := by decide +kernel
theorem dX12_verdict_11 : decode cX12_verdict 11 = .ok (.lconst 1, 1) := by decide +kernel
theorem dX12_verdict_12 : decode cX12_verdict 12 = .ok (.lsub, 1) := by decide +kernel
theorem dX12_verdict_13 : decode cX12_verdict 13 = .ok (.invokestatic 337, 3) := by decide +kernel
theorem dX12_verdict_16 : decode cX12_verdict 16 = .ok (.ifCond .ne 9, 3) := by decide +kernel
theorem dX12_verdict_19 : decode cX12_verdict 19 = .ok (.aload_n 0, 1) := by decide +kernel
theorem dX12_verdict_20 : decode cX12_verdict 20 = .ok (.iconst 1, 1) := by decide +kernel
theorem dX12_verdict_21 : decode cX12_verdict 21 = .ok (.invokevirtual 98, 3) := by decide +kernel
theorem dX12_verdict_24 : decode cX12_verdict 24 = .ok (.ireturn, 1) := by decide +kernel
theorem dX12_verdict_25 : decode cX12_verdict 25 = .ok (.aload_n 0, 1) := by decide +kernel
theorem dX12_verdict_26 : decode cX12_verdict 26 = .ok (.aload_n 0, 1) := by decide +kernel
theorem dX12_verdict_27 : decode cX12_verdict 27 = .ok (.iload_n 1, 1) := by decide +kernel
theorem dX12_verdict_28 : decode cX12_verdict 28 = .ok (.invokevirtual 431, 3) := by decide +kernel
theorem dX12_verdict_31 : decode cX12_verdict 31 = .ok (.lconst 1, 1) := by decide +kernel
theorem dX12_verdict_32 : decode cX12_verdict 32 = .ok (.iconst 4, 1) := by decide +kernel
theorem dX12_verdict_33 : decode cX12_verdict 33 = .ok (.iload_n 1, 1) := by decide +kernel
theorem dX12_verdict_34 : decode cX12_verdict 34 = .ok (.invokestatic 344, 3) := by decide +kernel
theorem dX12_verdict_37 : decode cX12_verdict 37 = .ok (.imul, 1) := by decide +kernel
theorem dX12_verdict_38 : decode cX12_verdict 38 = .ok (.lshl, 1) := by decide +kernel
theorem dX12_verdict_39 : decode cX12_verdict 39 = .ok (.invokevirtual 405, 3) := by decide +kernel
theorem dX12_verdict_42 : decode cX12_verdict 42 = .ok (.ireturn, 1) := by decide +kernel
set_option maxRecDepth 100000 in
set_option maxHeartbeats 8000000 in
theorem c_X12_verdict (l : Launch) (D : va_G) (cA : Nat → ClassId) (q aK aV : Nat → Nat) (hq : injG 20 q) {a1 : Int32} {M M0 : Mem} {r0 : Int32} (h : f_X12_verdict a1 M = some (r0, M0)) : Met l yX12_verdict (.code yX12_verdict cX12_verdict 2 (some .boolean) :: BW) ({ frames := 3, cells := 0, slots := 0, locals := 65 } : Room) (va_Pc [.ref (q 0), .int a1] (CB 20 (ceR cA q) D cA q aK aV M)) (Qi 20 (ceR cA q) D q r0 M0) 0 0 (AqG 20 q) := by
  refine gMet RX12 (by decide +kernel) rfl hq (Nat.le_of_ble_eq_true rfl) ?_
  intro p e s m below meth c ls X hr hk hP hS hl
  have hx := X.1
  have hb := X.2.1
  have hl : lv_has ls 2 [(0, .ref (q 0)), (1, .int a1)] := hl
  rw [f_X12_verdict] at h
  refine lv_iload_n hx hb dX12_verdict_0 rfl (lv_at hl 1 rfl) ?_
  refine lv_i2l hx hb dX12_verdict_1 rfl ?_
  refine lv_lconst (v := 1) hx hb dX12_verdict_2 (by decide) ?_
  refine lv_lconst (v := 1) hx hb dX12_verdict_3 (by decide) ?_
  refine lv_aload_n hx hb dX12_verdict_4 rfl (lv_at hl 0 rfl) ?_
  refine gfR_12_0 X hP sR_0 bw_1323 dX12_verdict_5 ?_
  refine lv_iconst (v := 4) hx hb dX12_verdict_8 (by decide) ?_
  refine ldR_ia X hP sR_1 zR_1 (by decide) dX12_verdict_9 ?_
  refine topE (y := (gI M 1 4)) rfl ?_
  refine lv_lshl hx hb dX12_verdict_10 rfl ?_
  refine lv_lconst (v := 1) hx hb dX12_verdict_11 (by decide) ?_
  refine lv_lsub hx hb dX12_verdict_12 ?_
  obtain ⟨r1, M2, hc3, h⟩ := bnd_inv h
  refine gS_i (As := [.long (a1.toInt64), .long (1 : Int64), .long (((1 : Int64) <<< (((gI M 1 4)).toInt64 &&& 63)) - (1 : Int64))]) X hP hS hl.1 (c_X12_isFrom l D cA q aK aV hq hc3) sf_X12_isFrom bw_1767 ss_X12_isFrom ⟨rfl, rfl⟩ ⟨Nat.le_of_ble_eq_true rfl, Nat.le_of_ble_eq_true rfl⟩ rfl rfl (Nat.le_of_ble_eq_true rfl) dX12_verdict_13 (fun H locs hP hS => ?_)
  refine lv_if_ne (tgt := 25) hx hb dX12_verdict_16 (by decide) (fun c4 => ?_) (fun c4 => ?_)
  · rw [if_neg c4] at h
    refine lv_aload_n hx hb dX12_verdict_25 rfl (lv_at hl 0 rfl) ?_
    refine lv_aload_n hx hb dX12_verdict_26 rfl (lv_at hl 0 rfl) ?_
    refine lv_iload_n hx hb dX12_verdict_27 rfl (lv_at hl 1 rfl) ?_
    obtain ⟨r5, M6, hc7, h⟩ := bnd_inv h
    refine gV_l (As := [.int a1]) X hP hS hl.1 (c_X12_rightOf l D cA q aK aV hq hc7) sf_X12_rightOf bw_1964 sv_X12_rightOf (rcR_12 sR_0) rfl ⟨rfl, rfl⟩ ⟨Nat.le_of_ble_eq_true rfl, Nat.le_of_ble_eq_true rfl⟩ rfl rfl (Nat.le_of_ble_eq_true rfl) dX12_verdict_28 (fun H locs hP hS => ?_)
    refine lv_lconst (v := 1) hx hb dX12_verdict_31 (by decide) ?_
    refine lv_iconst (v := 4) hx hb dX12_verdict_32 (by decide) ?_
    refine lv_iload_n hx hb dX12_verdict_33 rfl (lv_at hl 1 rfl) ?_
    obtain ⟨r8, M9, hc10, h⟩ := bnd_inv h
    refine gS_i (As := [.int a1]) X hP hS hl.1 (c_X12_bits l D cA q aK aV hq hc10) sf_X12_bits bw_1798 ss_X12_bits ⟨rfl, rfl⟩ ⟨Nat.le_of_ble_eq_true rfl, Nat.le_of_ble_eq_true rfl⟩ rfl rfl (Nat.le_of_ble_eq_true rfl) dX12_verdict_34 (fun H locs hP hS => ?_)
    refine lv_imul hx hb dX12_verdict_37 ?_
    refine lv_lshl hx hb dX12_verdict_38 rfl ?_
    obtain ⟨r11, M12, hc13, h⟩ := bnd_inv h
    refine gV_i (As := [.long r5, .long ((1 : Int64) <<< ((((4 : Int32) * r8)).toInt64 &&& 63))]) X hP hS hl.1 (c_X12_tellsBy l D cA q aK aV hq hc13) sf_X12_tellsBy bw_1914 sv_X12_tellsBy (rcR_12 sR_0) rfl ⟨rfl, rfl⟩ ⟨Nat.le_of_ble_eq_true rfl, Nat.le_of_ble_eq_true rfl⟩ rfl rfl (Nat.le_of_ble_eq_true rfl) dX12_verdict_39 (fun H locs hP hS => ?_)
    obtain ⟨g14, h⟩ := gd_inv h
    exact end_z X hr hk hP hS (Decidable.not_not.mp g14) h dX12_verdict_42
  · rw [if_pos c4] at h
    refine lv_aload_n hx hb dX12_verdict_19 rfl (lv_at hl 0 rfl) ?_
    refine lv_iconst (v := 1) hx hb dX12_verdict_20 (by decide) ?_
    obtain ⟨r15, M16, hc17, h⟩ := bnd_inv h
    refine gV_i (As := [.int (1 : Int32)]) X hP hS hl.1 (c_X12_is l D cA q aK aV hq hc17) sf_X12_is bw_1470 sv_X12_is (rcR_12 sR_0) rfl ⟨rfl, rfl⟩ ⟨Nat.le_of_ble_eq_true rfl, Nat.le_of_ble_eq_true rfl⟩ rfl rfl (Nat.le_of_ble_eq_true rfl) dX12_verdict_21 (fun H locs hP hS => ?_)
    obtain ⟨g18, h⟩ := gd_inv h
    exact end_z X hr hk hP hS (Decidable.not_not.mp g18) h dX12_verdict_24
theorem dX12_sworn_0 : decode cX12_sworn 0 = .ok (.iload_n 1, 1) := by decide +kernel
theorem dX12_sworn_1 : decode cX12_sworn 1 = .ok (.i2l, 1) := by decide +kernel
theorem dX12_sworn_2 : decode cX12_sworn 2 = .ok (.lconst 1, 1) := by decide +kernel
theorem dX12_sworn_3 : decode cX12_sworn 3 = .ok (.ldc2_w 435, 3) := by decide +kernel
theorem dX12_sworn_6 : decode cX12_sworn 6 = .ok (.invokestatic 337, 3) := by decide +kernel
theorem dX12_sworn_9 : decode cX12_sworn 9 = .ok (.ifCond .ne 9, 3) := by decide +kernel
theorem dX12_sworn_12 : decode cX12_sworn 12 = .ok (.aload_n 0, 1) := by decide +kernel
theorem dX12_sworn_13 : decode cX12_sworn 13 = .ok (.iconst 1, 1) := by decide +kernel
theorem dX12_sworn_14 : decode cX12_sworn 14 = .ok (.invokevirtual 91, 3) := by decide +kernel
theorem dX12_sworn_17 : decode cX12_sworn 17 = .ok (.ireturn, 1) := by decide +kernel
theorem dX12_sworn_18 : decode cX12_sworn 18 = .ok (.iconst (-1), 1) := by decide +kernel
theorem dX12_sworn_19 : decode cX12_sworn 19 = .ok (.istore_n 2, 1) := by decide +kernel
theorem dX12_sworn_20 : decode cX12_sworn 20 = .ok (.ldc2_w 113, 3) := by decide +kernel
theorem dX12_sworn_23 : decode cX12_sworn 23 = .ok (.lstore_n 3, 1) := by decide +kernel
theorem dX12_sworn_24 : decode cX12_sworn 24 = .ok (.iconst 1, 1) := by decide +kernel
theorem dX12_sworn_25 : decode cX12_sworn 25 = .ok (.istore 5, 2) := by decide +kernel
theorem dX12_sworn_27 : decode cX12_sworn 27 = .ok (.iload 5, 2) := by decide +kernel
theorem dX12_sworn_29 : decode cX12_sworn 29 = .ok (.iconst 1, 1) := by decide +kernel
theorem dX12_sworn_30 : decode cX12_sworn 30 = .ok (.aload_n 0, 1) := by decide +kernel
theorem dX12_sworn_31 : decode cX12_sworn 31 = .ok (.getfield 7, 3) := by decide +kernel
theorem dX12_sworn_34 : decode cX12_sworn 34 = .ok (.iconst 4, 1) := by decide +kernel
theorem dX12_sworn_35 : decode cX12_sworn 35 = .ok (.iaload, 1) := by decide +kernel
theorem dX12_sworn_36 : decode cX12_sworn 36 = .ok (.ishl, 1) := by decide +kernel
theorem dX12_sworn_37 : decode cX12_sworn 37 = .ok (.if_icmp .ge 45, 3) := by decide +kernel
theorem dX12_sworn_40 : decode cX12_sworn 40 = .ok (.iload 5, 2) := by decide +kernel
theorem dX12_sworn_42 : decode cX12_sworn 42 = .ok (.invokestatic 344, 3) := by decide +kernel
theorem dX12_sworn_45 : decode cX12_sworn 45 = .ok (.iload_n 1, 1) := by decide +kernel
theorem dX12_sworn_46 : decode cX12_sworn 46 = .ok (.if_icmp .eq 6, 3) := by decide +kernel
theorem dX12_sworn_49 : decode cX12_sworn 49 = .ok (.goto 27, 3) := by decide +kernel
theorem dX12_sworn_52 : decode cX12_sworn 52 = .ok (.aload_n 0, 1) := by decide +kernel
theorem dX12_sworn_53 : decode cX12_sworn 53 = .ok (.iload 5, 2) := by decide +kernel
theorem dX12_sworn_55 : decode cX12_sworn 55 = .ok (.invokevirtual 431, 3) := by decide +kernel
theorem dX12_sworn_58 : decode cX12_sworn 58 = .ok (.lstore 6, 2) := by decide +kernel
theorem dX12_sworn_60 : decode cX12_sworn 60 = .ok (.lload 6, 2) := by decide +kernel
theorem dX12_sworn_62 : decode cX12_sworn 62 = .ok (.lload_n 3, 1) := by decide +kernel
theorem dX12_sworn_63 : decode cX12_sworn 63 = .ok (.lcmp, 1) := by decide +kernel
theorem dX12_sworn_64 : decode cX12_sworn 64 = .ok (.ifCond .gt 6, 3) := by decide +kernel
theorem dX12_sworn_67 : decode cX12_sworn 67 = .ok (.goto 9, 3) := by decide +kernel
theorem dX12_sworn_70 : decode cX12_sworn 70 = .ok (.lload 6, 2) := by decide +kernel
theorem dX12_sworn_72 : decode cX12_sworn 72 = .ok (.lstore_n 3, 1) := by decide +kernel
theorem dX12_sworn_73 : decode cX12_sworn 73 = .ok (.iload 5, 2) := by decide +kernel
theorem dX12_sworn_75 : decode cX12_sworn 75 = .ok (.istore_n 2, 1) := by decide +kernel
theorem dX12_sworn_76 : decode cX12_sworn 76 = .ok (.iinc 5 1, 3) := by decide +kernel
theorem dX12_sworn_79 : decode cX12_sworn 79 = .ok (.goto (-52), 3) := by decide +kernel
theorem dX12_sworn_82 : decode cX12_sworn 82 = .ok (.aload_n 0, 1) := by decide +kernel
theorem dX12_sworn_83 : decode cX12_sworn 83 = .ok (.iload_n 2, 1) := by decide +kernel
theorem dX12_sworn_84 : decode cX12_sworn 84 = .ok (.invokevirtual 302, 3) := by decide +kernel
theorem dX12_sworn_87 : decode cX12_sworn 87 = .ok (.ireturn, 1) := by decide +kernel
set_option maxRecDepth 100000 in
set_option maxHeartbeats 8000000 in
theorem c_X12_sworn (l : Launch) (D : va_G) (cA : Nat → ClassId) (q aK aV : Nat → Nat) (hq : injG 20 q) {a1 : Int32} {M M0 : Mem} {r0 : Int32} (h : f_X12_sworn a1 M = some (r0, M0)) : Met l yX12_sworn (.code yX12_sworn cX12_sworn 8 (some .int) :: BW) ({ frames := 3, cells := 0, slots := 0, locals := 65 } : Room) (va_Pc [.ref (q 0), .int a1] (CB 20 (ceR cA q) D cA q aK aV M)) (Qi 20 (ceR cA q) D q r0 M0) 0 0 (AqG 20 q) := by
  refine gMet RX12 (by decide +kernel) rfl hq (Nat.le_of_ble_eq_true rfl) ?_
  intro p e s m below meth c ls X hr hk hP hS hl
  have hx := X.1
  have hb := X.2.1
  have hl : lv_has ls 8 [(0, .ref (q 0)), (1, .int a1)] := hl
  rw [f_X12_sworn] at h
  have hL27 : ∀ (fu : Nat) (b2 : Int32) (b3 : Int64) (b5 : Int32) (M : Mem) (res : (Int32) × Mem) (H : Heap) (locs : List Loc) (ls : Array Slot), f_X12_sworn_L27 a1 fu b2 b3 b5 M = some res → va_P D vwCl (wsG 20 (ceR cA q) q M) H → va_S (AqG 20 q) s.heap H locs → lv_has ls 8 [(0, .ref (q 0)), (1, .int a1), (2, .int b2), (3, .long b3), (5, .int b5)] → (∀ (H : Heap) (locs : List Loc) (ls : Array Slot), va_P D vwCl (wsG 20 (ceR cA q) q res.2) H → va_S (AqG 20 q) s.heap H locs → lv_has ls 8 [(0, .ref (q 0)), (2, .int (res.1))] → W p l e ({ frames := 3, cells := 0, slots := 0, locals := 65 } : Room) s m [.ref (q 0), .int a1].toArray below meth c H locs 0 0 (MQ below (Qi 20 (ceR cA q) D q r0 M0) [.ref (q 0), .int a1].toArray s 0 0 (AqG 20 q)) (F0 m 82 ls [])) → W p l e ({ frames := 3, cells := 0, slots := 0, locals := 65 } : Room) s m [.ref (q 0), .int a1].toArray below meth c H locs 0 0 (MQ below (Qi 20 (ceR cA q) D q r0 M0) [.ref (q 0), .int a1].toArray s 0 0 (AqG 20 q)) (F0 m 27 ls []) := by
    intro fu
    induction fu with
    | zero => intro b2 b3 b5 M res H locs ls h; exact absurd h (by simp [f_X12_sworn_L27])
    | succ fu ih =>
      intro b2 b3 b5 M res H locs ls h hP hS hl K27_0
      rw [f_X12_sworn_L27] at h
      refine lv_iload hx hb dX12_sworn_27 (lv_at hl 4 rfl) ?_
      refine lv_iconst (v := 1) hx hb dX12_sworn_29 (by decide) ?_
      refine lv_aload_n hx hb dX12_sworn_30 rfl (lv_at hl 0 rfl) ?_
      refine gfR_12_0 X hP sR_0 bw_1323 dX12_sworn_31 ?_
      refine lv_iconst (v := 4) hx hb dX12_sworn_34 (by decide) ?_
      refine ldR_ia X hP sR_1 zR_1 (by decide) dX12_sworn_35 ?_
      refine topE (y := (gI M 1 4)) rfl ?_
      refine lv_ishl hx hb dX12_sworn_36 ?_
      refine lv_icmp_ge (tgt := 82) hx hb dX12_sworn_37 (by decide) (fun c15 => ?_) (fun c15 => ?_)
      · rw [if_pos c15] at h
        cases h
        exact K27_0 _ _ _ hP hS (lv_sub hl [0, 2] rfl)
      · rw [if_neg c15] at h
        refine lv_iload hx hb dX12_sworn_40 (lv_at hl 4 rfl) ?_
        obtain ⟨r16, M17, hc18, h⟩ := bnd_inv h
        refine gS_i (As := [.int b5]) X hP hS hl.1 (c_X12_bits l D cA q aK aV hq hc18) sf_X12_bits bw_1798 ss_X12_bits ⟨rfl, rfl⟩ ⟨Nat.le_of_ble_eq_true rfl, Nat.le_of_ble_eq_true rfl⟩ rfl rfl (Nat.le_of_ble_eq_true rfl) dX12_sworn_42 (fun H locs hP hS => ?_)
        refine lv_iload_n hx hb dX12_sworn_45 rfl (lv_at hl 1 rfl) ?_
        refine lv_icmp_eq (tgt := 52) hx hb dX12_sworn_46 (by decide) (fun c19 => ?_) (fun c19 => ?_)
        · rw [if_pos c19] at h
          refine lv_aload_n hx hb dX12_sworn_52 rfl (lv_at hl 0 rfl) ?_
          refine lv_iload hx hb dX12_sworn_53 (lv_at hl 4 rfl) ?_
          obtain ⟨r20, M21, hc22, h⟩ := bnd_inv h
          refine gV_l (As := [.int b5]) X hP hS hl.1 (c_X12_rightOf l D cA q aK aV hq hc22) sf_X12_rightOf bw_1964 sv_X12_rightOf (rcR_12 sR_0) rfl ⟨rfl, rfl⟩ ⟨Nat.le_of_ble_eq_true rfl, Nat.le_of_ble_eq_true rfl⟩ rfl rfl (Nat.le_of_ble_eq_true rfl) dX12_sworn_55 (fun H locs hP hS => ?_)
          refine lv_lstore (lv' := [(6, .long r20), (0, .ref (q 0)), (1, .int a1), (2, .int b2), (3, .long b3), (5, .int b5)]) hx hb dX12_sworn_58 hl (by decide) rfl (fun ls hl => ?_)
          refine lv_lload hx hb dX12_sworn_60 (lv_at hl 0 rfl) ?_
          refine lv_lload_n hx hb dX12_sworn_62 rfl (lv_at hl 4 rfl) ?_
          refine W.lcmp hx hb dX12_sworn_63 ?_
          refine lv_if_gt (tgt := 70) hx hb dX12_sworn_64 (by decide) (fun c23 => ?_) (fun c23 => ?_)
          · rw [if_pos c23] at h
            refine lv_lload hx hb dX12_sworn_70 (lv_at hl 0 rfl) ?_
            refine lv_lstore_n (lv' := [(3, .long r20), (6, .long r20), (0, .ref (q 0)), (1, .int a1), (2, .int b2), (5, .int b5)]) hx hb dX12_sworn_72 rfl hl (by decide) rfl (fun ls hl => ?_)
            refine lv_iload hx hb dX12_sworn_73 (lv_at hl 5 rfl) ?_
            refine lv_istore_n (lv' := [(2, .int b5), (3, .long r20), (6, .long r20), (0, .ref (q 0)), (1, .int a1), (5, .int b5)]) hx hb dX12_sworn_75 rfl hl (by decide) rfl (fun ls hl => ?_)
            obtain ⟨y24, ey24, h⟩ := lt_inv h
            refine lv_iinc (v := y24) (lv' := [(5, .int y24), (2, .int b5), (3, .long r20), (6, .long r20), (0, .ref (q 0)), (1, .int a1)]) hx hb dX12_sworn_76 hl (k := 5) rfl (by rw [ey24]; rfl) (by decide) rfl (fun ls hl => ?_)
            refine lv_goto (tgt := 27) hx hb dX12_sworn_79 (by decide) ?_
            exact ih _ _ _ _ res _ _ _ h hP hS (lv_sub hl [4, 5, 1, 2, 0] rfl) K27_0
          · rw [if_neg c23] at h
            refine lv_goto (tgt := 76) hx hb dX12_sworn_67 (by decide) ?_
            obtain ⟨y25, ey25, h⟩ := lt_inv h
            refine lv_iinc (v := y25) (lv' := [(5, .int y25), (6, .long r20), (0, .ref (q 0)), (1, .int a1), (2, .int b2), (3, .long b3)]) hx hb dX12_sworn_76 hl (k := 5) rfl (by rw [ey25]; rfl) (by decide) rfl (fun ls hl => ?_)
            refine lv_goto (tgt := 27) hx hb dX12_sworn_79 (by decide) ?_
            exact ih _ _ _ _ res _ _ _ h hP hS (lv_sub hl [2, 3, 4, 5, 0] rfl) K27_0
        · rw [if_neg c19] at h
          refine lv_goto (tgt := 76) hx hb dX12_sworn_49 (by decide) ?_
          obtain ⟨y26, ey26, h⟩ := lt_inv h
          refine lv_iinc (v := y26) (lv' := [(5, .int y26), (0, .ref (q 0)), (1, .int a1), (2, .int b2), (3, .long b3)]) hx hb dX12_sworn_76 hl (k := 4) rfl (by rw [ey26]; rfl) (by decide) rfl (fun ls hl => ?_)
          refine lv_goto (tgt := 27) hx hb dX12_sworn_79 (by decide) ?_
          exact ih _ _ _ _ res _ _ _ h hP hS (lv_sub hl [1, 2, 3, 4, 0] rfl) K27_0
  refine lv_iload_n hx hb dX12_sworn_0 rfl (lv_at hl 1 rfl) ?_
  refine lv_i2l hx hb dX12_sworn_1 rfl ?_
  refine lv_lconst (v := 1) hx hb dX12_sworn_2 (by decide) ?_
  refine lv_ldc2 hx hb X.2.2.2.1 (X.2.2.2.2.1 _ bw_1972) dX12_sworn_3 ?_
  obtain ⟨r1, M2, hc3, h⟩ := bnd_inv h
  refine gS_i (As := [.long (a1.toInt64), .long (1 : Int64), .long (6 : Int64)]) X hP hS hl.1 (c_X12_isFrom l D cA q aK aV hq hc3) sf_X12_isFrom bw_1767 ss_X12_isFrom ⟨rfl, rfl⟩ ⟨Nat.le_of_ble_eq_true rfl, Nat.le_of_ble_eq_true rfl⟩ rfl rfl (Nat.le_of_ble_eq_true rfl) dX12_sworn_6 (fun H locs hP hS => ?_)
  refine lv_if_ne (tgt := 18) hx hb dX12_sworn_9 (by decide) (fun c4 => ?_) (fun c4 => ?_)
  · rw [if_neg c4] at h
    refine lv_iconst (v := -1) hx hb dX12_sworn_18 (by decide) ?_
    refine lv_istore_n (lv' := [(2, .int (-1 : Int32)), (0, .ref (q 0)), (1, .int a1)]) hx hb dX12_sworn_19 rfl hl (by decide) rfl (fun ls hl => ?_)
    refine lv_ldc2 hx hb X.2.2.2.1 (X.2.2.2.2.1 _ bw_1489) dX12_sworn_20 ?_
    refine lv_lstore_n (lv' := [(3, .long (-1 : Int64)), (2, .int (-1 : Int32)), (0, .ref (q 0)), (1, .int a1)]) hx hb dX12_sworn_23 rfl hl (by decide) rfl (fun ls hl => ?_)
    refine lv_iconst (v := 1) hx hb dX12_sworn_24 (by decide) ?_
    refine lv_istore (lv' := [(5, .int (1 : Int32)), (3, .long (-1 : Int64)), (2, .int (-1 : Int32)), (0, .ref (q 0)), (1, .int a1)]) hx hb dX12_sworn_25 hl (by decide) rfl (fun ls hl => ?_)
    obtain ⟨s5, M6, hc7, h⟩ := bnd_inv h
    obtain ⟨x8, rfl⟩ : ∃ z, z = s5 := ⟨_, rfl⟩
    try dsimp only at h
    refine hL27  fz _ _ _ _ _ _ _ _ hc7 hP hS (lv_sub hl [3, 4, 2, 1, 0] rfl) (fun H locs ls hP hS hl => ?_)
    have hl : lv_has ls 8 [(0, .ref (q 0)), (2, .int x8)] := hl
    refine lv_aload_n hx hb dX12_sworn_82 rfl (lv_at hl 0 rfl) ?_
    refine lv_iload_n hx hb dX12_sworn_83 rfl (lv_at hl 1 rfl) ?_
    obtain ⟨r9, M10, hc11, h⟩ := bnd_inv h
    refine gV_i (As := [.int x8]) X hP hS hl.1 (c_X12_orNone l D cA q aK aV hq hc11) sf_X12_orNone bw_1707 sv_X12_orNone (rcR_12 sR_0) rfl ⟨rfl, rfl⟩ ⟨Nat.le_of_ble_eq_true rfl, Nat.le_of_ble_eq_true rfl⟩ rfl rfl (Nat.le_of_ble_eq_true rfl) dX12_sworn_84 (fun H locs hP hS => ?_)
    exact end_i X hr hk hP hS h dX12_sworn_87
  · rw [if_pos c4] at h
    refine lv_aload_n hx hb dX12_sworn_12 rfl (lv_at hl 0 rfl) ?_
    refine lv_iconst (v := 1) hx hb dX12_sworn_13 (by decide) ?_
    obtain ⟨r12, M13, hc14, h⟩ := bnd_inv h
    refine gV_i (As := [.int (1 : Int32)]) X hP hS hl.1 (c_X12_refuse l D cA q aK aV hq hc14) sf_X12_refuse bw_1530 sv_X12_refuse (rcR_12 sR_0) rfl ⟨rfl, rfl⟩ ⟨Nat.le_of_ble_eq_true rfl, Nat.le_of_ble_eq_true rfl⟩ rfl rfl (Nat.le_of_ble_eq_true rfl) dX12_sworn_14 (fun H locs hP hS => ?_)
    exact end_i X hr hk hP hS h dX12_sworn_17
theorem dX12_orders_0 : decode cX12_orders 0 = .ok (.lconst 1, 1) := by decide +kernel
theorem dX12_orders_1 : decode cX12_orders 1 = .ok (.lstore_n 1, 1) := by decide +kernel
theorem dX12_orders_2 : decode cX12_orders 2 = .ok (.iconst 2, 1) := by decide +kernel
theorem dX12_orders_3 : decode cX12_orders 3 = .ok (.istore_n 3, 1) := by decide +kernel
theorem dX12_orders_4 : decode cX12_orders 4 = .ok (.iload_n 3, 1) := by decide +kernel
theorem dX12_orders_5 : decode cX12_orders 5 = .ok (.iload_n 0, 1) := by decide +kernel
theorem dX12_orders_6 : decode cX12_orders 6 = .ok (.if_icmp .gt 14, 3) := by decide +kernel
theorem dX12_orders_9 : decode cX12_orders 9 = .ok (.lload_n 1, 1) := by decide +kernel
theorem dX12_orders_10 : decode cX12_orders 10 = .ok (.iload_n 3, 1) := by decide +kernel
theorem dX12_orders_11 : decode cX12_orders 11 = .ok (.i2l, 1) := by decide +kernel
theorem dX12_orders_12 : decode cX12_orders 12 = .ok (.lmul, 1) := by decide +kernel
theorem dX12_orders_13 : decode cX12_orders 13 = .ok (.lstore_n 1, 1) := by decide +kernel
theorem dX12_orders_14 : decode cX12_orders 14 = .ok (.iinc 3 1, 3) := by decide +kernel
theorem dX12_orders_17 : decode cX12_orders 17 = .ok (.goto (-13), 3) := by decide +kernel
theorem dX12_orders_20 : decode cX12_orders 20 = .ok (.lload_n 1, 1) := by decide +kernel
theorem dX12_orders_21 : decode cX12_orders 21 = .ok (.lreturn, 1) := by decide +kernel
set_option maxRecDepth 100000 in
set_option maxHeartbeats 8000000 in
theorem c_X12_orders (l : Launch) (D : va_G) (cA : Nat → ClassId) (q aK aV : Nat → Nat) (hq : injG 20 q) {a0 : Int32} {M M0 : Mem} {r0 : Int64} (h : f_X12_orders a0 M = some (r0, M0)) : Met l yX12_orders (.code yX12_orders cX12_orders 4 (some .long) :: BW) ({ frames := 1, cells := 0, slots := 0, locals := 15 } : Room) (va_Pc [.int a0] (CB 20 (ceR cA q) D cA q aK aV M)) (Ql 20 (ceR cA q) D q r0 M0) 0 0 (AqG 20 q) := by
  refine gMet RX12 (by decide +kernel) rfl hq (Nat.le_of_ble_eq_true rfl) ?_
  intro p e s m below meth c ls X hr hk hP hS hl
  have hx := X.1
  have hb := X.2.1
  have hl : lv_has ls 4 [(0, .int a0)] := hl
  rw [f_X12_orders] at h
  have hL4 : ∀ (fu : Nat) (b1 : Int64) (b3 : Int32) (M : Mem) (res : (Int64) × Mem) (H : Heap) (locs : List Loc) (ls : Array Slot), f_X12_orders_L4 a0 fu b1 b3 M = some res → va_P D vwCl (wsG 20 (ceR cA q) q M) H → va_S (AqG 20 q) s.heap H locs → lv_has ls 4 [(0, .int a0), (1, .long b1), (3, .int b3)] → (∀ (H : Heap) (locs : List Loc) (ls : Array Slot), va_P D vwCl (wsG 20 (ceR cA q) q res.2) H → va_S (AqG 20 q) s.heap H locs → lv_has ls 4 [(1, .long (res.1))] → W p l e ({ frames := 1, cells := 0, slots := 0, locals := 15 } : Room) s m [.int a0].toArray below meth c H locs 0 0 (MQ below (Ql 20 (ceR cA q) D q r0 M0) [.int a0].toArray s 0 0 (AqG 20 q)) (F0 m 20 ls [])) → W p l e ({ frames := 1, cells := 0, slots := 0, locals := 15 } : Room) s m [.int a0].toArray below meth c H locs 0 0 (MQ below (Ql 20 (ceR cA q) D q r0 M0) [.int a0].toArray s 0 0 (AqG 20 q)) (F0 m 4 ls []) := by
    intro fu
    induction fu with
    | zero => intro b1 b3 M res H locs ls h; exact absurd h (by simp [f_X12_orders_L4])
    | succ fu ih =>
      intro b1 b3 M res H locs ls h hP hS hl K4_0
      rw [f_X12_orders_L4] at h
      refine lv_iload_n hx hb dX12_orders_4 rfl (lv_at hl 2 rfl) ?_
      refine lv_iload_n hx hb dX12_orders_5 rfl (lv_at hl 0 rfl) ?_
      refine lv_icmp_gt (tgt := 20) hx hb dX12_orders_6 (by decide) (fun c5 => ?_) (fun c5 => ?_)
      · rw [if_pos c5] at h
        cases h
        exact K4_0 _ _ _ hP hS (lv_sub hl [1] rfl)
      · rw [if_neg c5] at h
        refine lv_lload_n hx hb dX12_orders_9 rfl (lv_at hl 1 rfl) ?_
        refine lv_iload_n hx hb dX12_orders_10 rfl (lv_at hl 2 rfl) ?_
        refine lv_i2l hx hb dX12_orders_11 rfl ?_
        refine lv_lmul hx hb dX12_orders_12 ?_
        obtain ⟨y6, ey6, h⟩ := lt_inv h
        refine topL ey6 ?_
        refine lv_lstore_n (lv' := [(1, .long y6), (0, .int a0), (3, .int b3)]) hx hb dX12_orders_13 rfl hl (by decide) rfl (fun ls hl => ?_)
        obtain ⟨y7, ey7, h⟩ := lt_inv h
        refine lv_iinc (v := y7) (lv' := [(3, .int y7), (1, .long y6), (0, .int a0)]) hx hb dX12_orders_14 hl (k := 2) rfl (by rw [ey7]; rfl) (by decide) rfl (fun ls hl => ?_)
        refine lv_goto (tgt := 4) hx hb dX12_orders_17 (by decide) ?_
        exact ih _ _ _ res _ _ _ h hP hS (lv_sub hl [2, 1, 0] rfl) K4_0
  refine lv_lconst (v := 1) hx hb dX12_orders_0 (by decide) ?_
  refine lv_lstore_n (lv' := [(1, .long (1 : Int64)), (0, .int a0)]) hx hb dX12_orders_1 rfl hl (by decide) rfl (fun ls hl => ?_)
  refine lv_iconst (v := 2) hx hb dX12_orders_2 (by decide) ?_
  refine lv_istore_n (lv' := [(3, .int (2 : Int32)), (1, .long (1 : Int64)), (0, .int a0)]) hx hb dX12_orders_3 rfl hl (by decide) rfl (fun ls hl => ?_)
  obtain ⟨s1, M2, hc3, h⟩ := bnd_inv h
  obtain ⟨x4, rfl⟩ : ∃ z, z = s1 := ⟨_, rfl⟩
  try dsimp only at h
  refine hL4  fz _ _ _ _ _ _ _ hc3 hP hS (lv_sub hl [2, 1, 0] rfl) (fun H locs ls hP hS hl => ?_)
  have hl : lv_has ls 4 [(1, .long x4)] := hl
  refine lv_lload_n hx hb dX12_orders_20 rfl (lv_at hl 0 rfl) ?_
  exact end_l X hr hk hP hS h dX12_orders_21
theorem dX12_power_0 : decode cX12_power 0 = .ok (.aload_n 0, 1) := by decide +kernel
theorem dX12_power_1 : decode cX12_power 1 = .ok (.iload_n 1, 1) := by decide +kernel
theorem dX12_power_2 : decode cX12_power 2 = .ok (.invokevirtual 309, 3) := by decide +kernel
theorem dX12_power_5 : decode cX12_power 5 = .ok (.ifCond .ne 9, 3) := by decide +kernel
theorem dX12_power_8 : decode cX12_power 8 = .ok (.aload_n 0, 1) := by decide +kernel
theorem dX12_power_9 : decode cX12_power 9 = .ok (.iconst 1, 1) := by decide +kernel
theorem dX12_power_10 : decode cX12_power 10 = .ok (.invokevirtual 98, 3) := by decide +kernel
theorem dX12_power_13 : decode cX12_power 13 = .ok (.ireturn, 1) := by decide +kernel
theorem dX12_power_14 : decode cX12_power 14 = .ok (.aload_n 0, 1) := by decide +kernel
theorem dX12_power_15 : decode cX12_power 15 = .ok (.getfield 7, 3) := by decide +kernel
theorem dX12_power_18 : decode cX12_power 18 = .ok (.iconst 4, 1) := by decide +kernel
theorem dX12_power_19 : decode cX12_power 19 = .ok (.iaload, 1) := by decide +kernel
theorem dX12_power_20 : decode cX12_power 20 = .ok (.istore_n 2, 1) := by decide +kernel
theorem dX12_power_21 : decode cX12_power 21 = .ok (.lconst 0, 1) := by decide +kernel
theorem dX12_power_22 : decode cX12_power 22 = .ok (.lstore_n 3, 1) := by decide +kernel
theorem dX12_power_23 : decode cX12_power 23 = .ok (.iconst 0, 1) := by decide +kernel
theorem dX12_power_24 : decode cX12_power 24 = .ok (.istore 5, 2) := by decide +kernel
theorem dX12_power_26 : decode cX12_power 26 = .ok (.iload 5, 2) := by decide +kernel
theorem dX12_power_28 : decode cX12_power 28 = .ok (.iconst 1, 1) := by decide +kernel
theorem dX12_power_29 : decode cX12_power 29 = .ok (.iload_n 2, 1) := by decide +kernel
theorem dX12_power_30 : decode cX12_power 30 = .ok (.ishl, 1) := by decide +kernel
theorem dX12_power_31 : decode cX12_power 31 = .ok (.if_icmp .ge 134, 3) := by decide +kernel
theorem dX12_power_34 : decode cX12_power 34 = .ok (.aload_n 0, 1) := by decide +kernel
theorem dX12_power_35 : decode cX12_power 35 = .ok (.iload 5, 2) := by decide +kernel
theorem dX12_power_37 : decode cX12_power 37 = .ok (.iload_n 1, 1) := by decide +kernel
theorem dX12_power_38 : decode cX12_power 38 = .ok (.invokevirtual 315, 3) := by decide +kernel
theorem dX12_power_41 : decode cX12_power 41 = .ok (.ifCond .eq 6, 3) := by decide +kernel
theorem dX12_power_44 : decode cX12_power 44 = .ok (.goto 115, 3) := by decide +kernel
theorem dX12_power_47 : decode cX12_power 47 = .ok (.iconst 0, 1) := by decide +kernel
theorem dX12_power_48 : decode cX12_power 48 = .ok (.istore 6, 2) := by decide +kernel
theorem dX12_power_50 : decode cX12_power 50 = .ok (.iconst 0, 1) := by decide +kernel
theorem dX12_power_51 : decode cX12_power 51 = .ok (.istore 7, 2) := by decide +kernel
theorem dX12_power_53 : decode cX12_power 53 = .ok (.iload 7, 2) := by decide +kernel
theorem dX12_power_55 : decode cX12_power 55 = .ok (.iload_n 2, 1) := by decide +kernel
theorem dX12_power_56 : decode cX12_power 56 = .ok (.if_icmp .ge 35, 3) := by decide +kernel
theorem dX12_power_59 : decode cX12_power 59 = .ok (.iload 6, 2) := by decide +kernel
theorem dX12_power_61 : decode cX12_power 61 = .ok (.aload_n 0, 1) := by decide +kernel
theorem dX12_power_62 : decode cX12_power 62 = .ok (.iload 5, 2) := by decide +kernel
theorem dX12_power_64 : decode cX12_power 64 = .ok (.iload 7, 2) := by decide +kernel
theorem dX12_power_66 : decode cX12_power 66 = .ok (.invokevirtual 315, 3) := by decide +kernel
theorem dX12_power_69 : decode cX12_power 69 = .ok (.ifCond .eq 12, 3) := by decide +kernel
theorem dX12_power_72 : decode cX12_power 72 = .ok (.aload_n 0, 1) := by decide +kernel
theorem dX12_power_73 : decode cX12_power 73 = .ok (.iload 7, 2) := by decide +kernel
theorem dX12_power_75 : decode cX12_power 75 = .ok (.invokevirtual 284, 3) := by decide +kernel
theorem dX12_power_78 : decode cX12_power 78 = .ok (.goto 4, 3) := by decide +kernel
theorem dX12_power_81 : decode cX12_power 81 = .ok (.iconst 0, 1) := by decide +kernel
theorem dX12_power_82 : decode cX12_power 82 = .ok (.iadd, 1) := by decide +kernel
theorem dX12_power_83 : decode cX12_power 83 = .ok (.istore 6, 2) := by decide +kernel
theorem dX12_power_85 : decode cX12_power 85 = .ok (.iinc 7 1, 3) := by decide +kernel
theorem dX12_power_88 : decode cX12_power 88 = .ok (.goto (-35), 3) := by decide +kernel
theorem dX12_power_91 : decode cX12_power 91 = .ok (.iconst 2, 1) := by decide +kernel
theorem dX12_power_92 : decode cX12_power 92 = .ok (.iload 6, 2) := by decide +kernel
theorem dX12_power_94 : decode cX12_power 94 = .ok (.imul, 1) := by decide +kernel
theorem dX12_power_95 : decode cX12_power 95 = .ok (.aload_n 0, 1) := by decide +kernel
theorem dX12_power_96 : decode cX12_power 96 = .ok (.invokevirtual 287, 3) := by decide +kernel
theorem dX12_power_99 : decode cX12_power 99 = .ok (.if_icmp .gt 24, 3) := by decide +kernel
theorem dX12_power_102 : decode cX12_power 102 = .ok (.iconst 2, 1) := by decide +kernel
theorem dX12_power_103 : decode cX12_power 103 = .ok (.iload 6, 2) := by decide +kernel
theorem dX12_power_105 : decode cX12_power 105 = .ok (.aload_n 0, 1) := by decide +kernel
theorem dX12_power_106 : decode cX12_power 106 = .ok (.iload_n 1, 1) := by decide +kernel
theorem dX12_power_107 : decode cX12_power 107 = .ok (.invokevirtual 284, 3) := by decide +kernel
theorem dX12_power_110 : decode cX12_power 110 = .ok (.iadd, 1) := by decide +kernel
theorem dX12_power_111 : decode cX12_power 111 = .ok (.imul, 1) := by decide +kernel
theorem dX12_power_112 : decode cX12_power 112 = .ok (.aload_n 0, 1) := by decide +kernel
theorem dX12_power_113 : decode cX12_power 113 = .ok (.invokevirtual 287, 3) := by decide +kernel
theorem dX12_power_116 : decode cX12_power 116 = .ok (.if_icmp .le 7, 3) := by decide +kernel
theorem dX12_power_119 : decode cX12_power 119 = .ok (.iconst 1, 1) := by decide +kernel
theorem dX12_power_120 : decode cX12_power 120 = .ok (.goto 4, 3) := by decide +kernel
theorem dX12_power_123 : decode cX12_power 123 = .ok (.iconst 0, 1) := by decide +kernel
theorem dX12_power_124 : decode cX12_power 124 = .ok (.istore 7, 2) := by decide +kernel
theorem dX12_power_126 : decode cX12_power 126 = .ok (.lload_n 3, 1) := by decide +kernel
theorem dX12_power_127 : decode cX12_power 127 = .ok (.iload 7, 2) := by decide +kernel
theorem dX12_power_129 : decode cX12_power 129 = .ok (.ifCond .eq 27, 3) := by decide +kernel
theorem dX12_power_132 : decode cX12_power 132 = .ok (.iload 5, 2) := by decide +kernel
theorem dX12_power_134 : decode cX12_power 134 = .ok (.invokestatic 344, 3) := by decide +kernel
theorem dX12_power_137 : decode cX12_power 137 = .ok (.invokestatic 437, 3) := by decide +kernel
theorem dX12_power_140 : decode cX12_power 140 = .ok (.iload_n 2, 1) := by decide +kernel
theorem dX12_power_141 : decode cX12_power 141 = .ok (.iconst 1, 1) := by decide +kernel
theorem dX12_power_142 : decode cX12_power 142 = .ok (.isub, 1) := by decide +kernel
theorem dX12_power_143 : decode cX12_power 143 = .ok (.iload 5, 2) := by decide +kernel
theorem dX12_power_145 : decode cX12_power 145 = .ok (.invokestatic 344, 3) := by decide +kernel
theorem dX12_power_148 : decode cX12_power 148 = .ok (.isub, 1) := by decide +kernel
theorem dX12_power_149 : decode cX12_power 149 = .ok (.invokestatic 437, 3) := by decide +kernel
theorem dX12_power_152 : decode cX12_power 152 = .ok (.lmul, 1) := by decide +kernel
theorem dX12_power_153 : decode cX12_power 153 = .ok (.goto 4, 3) := by decide +kernel
theorem dX12_power_156 : decode cX12_power 156 = .ok (.lconst 0, 1) := by decide +kernel
theorem dX12_power_157 : decode cX12_power 157 = .ok (.ladd, 1) := by decide +kernel
theorem dX12_power_158 : decode cX12_power 158 = .ok (.lstore_n 3, 1) := by decide +kernel
theorem dX12_power_159 : decode cX12_power 159 = .ok (.iinc 5 1, 3) := by decide +kernel
theorem dX12_power_162 : decode cX12_power 162 = .ok (.goto (-136), 3) := by decide +kernel
theorem dX12_power_165 : decode cX12_power 165 = .ok (.aload_n 0, 1) := by decide +kernel
theorem dX12_power_166 : decode cX12_power 166 = .ok (.lload_n 3, 1) := by decide +kernel
theorem dX12_power_167 : decode cX12_power 167 = .ok (.iload_n 2, 1) := by decide +kernel
theorem dX12_power_168 : decode cX12_power 168 = .ok (.invokestatic 437, 3) := by decide +kernel
theorem dX12_power_171 : decode cX12_power 171 = .ok (.invokevirtual 405, 3) := by decide +kernel
theorem dX12_power_174 : decode cX12_power 174 = .ok (.ireturn, 1) := by decide +kernel
set_option maxRecDepth 100000 in
set_option maxHeartbeats 8000000 in
theorem c_X12_power (l : Launch) (D : va_G) (cA : Nat → ClassId) (q aK aV : Nat → Nat) (hq : injG 20 q) {a1 : Int32} {M M0 : Mem} {r0 : Int32} (h : f_X12_power a1 M = some (r0, M0)) : Met l yX12_power (.code yX12_power cX12_power 8 (some .boolean) :: BW) ({ frames := 3, cells := 0, slots := 0, locals := 64 } : Room) (va_Pc [.ref (q 0), .int a1] (CB 20 (ceR cA q) D cA q aK aV M)) (Qi 20 (ceR cA q) D q r0 M0) 0 0 (AqG 20 q) := by
  refine gMet RX12 (by decide +kernel) rfl hq (Nat.le_of_ble_eq_true rfl) ?_
  intro p e s m below meth c ls X hr hk hP hS hl
  have hx := X.1
  have hb := X.2.1
  have hl : lv_has ls 8 [(0, .ref (q 0)), (1, .int a1)] := hl
  rw [f_X12_power] at h
  have hL26 : ∀ (b2 : Int32) (fu : Nat) (b3 : Int64) (b5 : Int32) (M : Mem) (res : (Int64) × Mem) (H : Heap) (locs : List Loc) (ls : Array Slot), f_X12_power_L26 a1 b2 fu b3 b5 M = some res → va_P D vwCl (wsG 20 (ceR cA q) q M) H → va_S (AqG 20 q) s.heap H locs → lv_has ls 8 [(0, .ref (q 0)), (1, .int a1), (2, .int b2), (3, .long b3), (5, .int b5)] → (∀ (H : Heap) (locs : List Loc) (ls : Array Slot), va_P D vwCl (wsG 20 (ceR cA q) q res.2) H → va_S (AqG 20 q) s.heap H locs → lv_has ls 8 [(0, .ref (q 0)), (2, .int b2), (3, .long (res.1))] → W p l e ({ frames := 3, cells := 0, slots := 0, locals := 64 } : Room) s m [.ref (q 0), .int a1].toArray below meth c H locs 0 0 (MQ below (Qi 20 (ceR cA q) D q r0 M0) [.ref (q 0), .int a1].toArray s 0 0 (AqG 20 q)) (F0 m 165 ls [])) → W p l e ({ frames := 3, cells := 0, slots := 0, locals := 64 } : Room) s m [.ref (q 0), .int a1].toArray below meth c H locs 0 0 (MQ below (Qi 20 (ceR cA q) D q r0 M0) [.ref (q 0), .int a1].toArray s 0 0 (AqG 20 q)) (F0 m 26 ls []) := by
    intro b2 fu
    induction fu with
    | zero => intro b3 b5 M res H locs ls h; exact absurd h (by simp [f_X12_power_L26])
    | succ fu ih =>
      intro b3 b5 M res H locs ls h hP hS hl K26_0
      rw [f_X12_power_L26] at h
      have hJ124 : ∀ (b3 : Int64) (b5 : Int32) (s0 : Int32) (M : Mem) (H : Heap) (locs : List Loc) (ls : Array Slot), f_X12_power_J124 (f_X12_power_L26 a1 b2 fu) a1 b2 b3 b5 s0 M = some res → va_P D vwCl (wsG 20 (ceR cA q) q M) H → va_S (AqG 20 q) s.heap H locs → lv_has ls 8 [(0, .ref (q 0)), (1, .int a1), (2, .int b2), (3, .long b3), (5, .int b5)] → W p l e ({ frames := 3, cells := 0, slots := 0, locals := 64 } : Room) s m [.ref (q 0), .int a1].toArray below meth c H locs 0 0 (MQ below (Qi 20 (ceR cA q) D q r0 M0) [.ref (q 0), .int a1].toArray s 0 0 (AqG 20 q)) (F0 m 124 ls [.int s0]) := by
        intro b3 b5 s0 M H locs ls h hP hS hl
        rw [f_X12_power_J124] at h
        refine lv_istore (lv' := [(7, .int s0), (0, .ref (q 0)), (1, .int a1), (2, .int b2), (3, .long b3), (5, .int b5)]) hx hb dX12_power_124 hl (by decide) rfl (fun ls hl => ?_)
        refine lv_lload_n hx hb dX12_power_126 rfl (lv_at hl 4 rfl) ?_
        refine lv_iload hx hb dX12_power_127 (lv_at hl 0 rfl) ?_
        refine lv_if_eq (tgt := 156) hx hb dX12_power_129 (by decide) (fun c54 => ?_) (fun c54 => ?_)
        · rw [if_pos c54] at h
          refine lv_lconst (v := 0) hx hb dX12_power_156 (by decide) ?_
          refine lv_ladd hx hb dX12_power_157 ?_
          obtain ⟨y55, ey55, h⟩ := lt_inv h
          refine topL ey55 ?_
          refine lv_lstore_n (lv' := [(3, .long y55), (7, .int s0), (0, .ref (q 0)), (1, .int a1), (2, .int b2), (5, .int b5)]) hx hb dX12_power_158 rfl hl (by decide) rfl (fun ls hl => ?_)
          obtain ⟨y56, ey56, h⟩ := lt_inv h
          refine lv_iinc (v := y56) (lv' := [(5, .int y56), (3, .long y55), (7, .int s0), (0, .ref (q 0)), (1, .int a1), (2, .int b2)]) hx hb dX12_power_159 hl (k := 5) rfl (by rw [ey56]; rfl) (by decide) rfl (fun ls hl => ?_)
          refine lv_goto (tgt := 26) hx hb dX12_power_162 (by decide) ?_
          exact ih _ _ _ res _ _ _ h hP hS (lv_sub hl [3, 4, 5, 1, 0] rfl) K26_0
        · rw [if_neg c54] at h
          refine lv_iload hx hb dX12_power_132 (lv_at hl 5 rfl) ?_
          obtain ⟨r57, M58, hc59, h⟩ := bnd_inv h
          refine gS_i (As := [.int b5]) X hP hS hl.1 (c_X12_bits l D cA q aK aV hq hc59) sf_X12_bits bw_1798 ss_X12_bits ⟨rfl, rfl⟩ ⟨Nat.le_of_ble_eq_true rfl, Nat.le_of_ble_eq_true rfl⟩ rfl rfl (Nat.le_of_ble_eq_true rfl) dX12_power_134 (fun H locs hP hS => ?_)
          obtain ⟨r60, M61, hc62, h⟩ := bnd_inv h
          refine gS_l (As := [.int r57]) X hP hS hl.1 (c_X12_orders l D cA q aK aV hq hc62) sf_X12_orders bw_1977 ss_X12_orders ⟨rfl, rfl⟩ ⟨Nat.le_of_ble_eq_true rfl, Nat.le_of_ble_eq_true rfl⟩ rfl rfl (Nat.le_of_ble_eq_true rfl) dX12_power_137 (fun H locs hP hS => ?_)
          refine lv_iload_n hx hb dX12_power_140 rfl (lv_at hl 3 rfl) ?_
          refine lv_iconst (v := 1) hx hb dX12_power_141 (by decide) ?_
          refine lv_isub hx hb dX12_power_142 ?_
          refine lv_iload hx hb dX12_power_143 (lv_at hl 5 rfl) ?_
          obtain ⟨r63, M64, hc65, h⟩ := bnd_inv h
          refine gS_i (As := [.int b5]) X hP hS hl.1 (c_X12_bits l D cA q aK aV hq hc65) sf_X12_bits bw_1798 ss_X12_bits ⟨rfl, rfl⟩ ⟨Nat.le_of_ble_eq_true rfl, Nat.le_of_ble_eq_true rfl⟩ rfl rfl (Nat.le_of_ble_eq_true rfl) dX12_power_145 (fun H locs hP hS => ?_)
          refine lv_isub hx hb dX12_power_148 ?_
          obtain ⟨r66, M67, hc68, h⟩ := bnd_inv h
          refine gS_l (As := [.int ((b2 - (1 : Int32)) - r63)]) X hP hS hl.1 (c_X12_orders l D cA q aK aV hq hc68) sf_X12_orders bw_1977 ss_X12_orders ⟨rfl, rfl⟩ ⟨Nat.le_of_ble_eq_true rfl, Nat.le_of_ble_eq_true rfl⟩ rfl rfl (Nat.le_of_ble_eq_true rfl) dX12_power_149 (fun H locs hP hS => ?_)
          refine lv_lmul hx hb dX12_power_152 ?_
          refine lv_goto (tgt := 157) hx hb dX12_power_153 (by decide) ?_
          refine lv_ladd hx hb dX12_power_157 ?_
          obtain ⟨y69, ey69, h⟩ := lt_inv h
          refine topL ey69 ?_
          refine lv_lstore_n (lv' := [(3, .long y69), (7, .int s0), (0, .ref (q 0)), (1, .int a1), (2, .int b2), (5, .int b5)]) hx hb dX12_power_158 rfl hl (by decide) rfl (fun ls hl => ?_)
          obtain ⟨y70, ey70, h⟩ := lt_inv h
          refine lv_iinc (v := y70) (lv' := [(5, .int y70), (3, .long y69), (7, .int s0), (0, .ref (q 0)), (1, .int a1), (2, .int b2)]) hx hb dX12_power_159 hl (k := 5) rfl (by rw [ey70]; rfl) (by decide) rfl (fun ls hl => ?_)
          refine lv_goto (tgt := 26) hx hb dX12_power_162 (by decide) ?_
          exact ih _ _ _ res _ _ _ h hP hS (lv_sub hl [3, 4, 5, 1, 0] rfl) K26_0
      have hJ123 : ∀ (b3 : Int64) (b5 : Int32) (M : Mem) (H : Heap) (locs : List Loc) (ls : Array Slot), f_X12_power_J123 (f_X12_power_L26 a1 b2 fu) a1 b2 b3 b5 M = some res → va_P D vwCl (wsG 20 (ceR cA q) q M) H → va_S (AqG 20 q) s.heap H locs → lv_has ls 8 [(0, .ref (q 0)), (1, .int a1), (2, .int b2), (3, .long b3), (5, .int b5)] → W p l e ({ frames := 3, cells := 0, slots := 0, locals := 64 } : Room) s m [.ref (q 0), .int a1].toArray below meth c H locs 0 0 (MQ below (Qi 20 (ceR cA q) D q r0 M0) [.ref (q 0), .int a1].toArray s 0 0 (AqG 20 q)) (F0 m 123 ls []) := by
        intro b3 b5 M H locs ls h hP hS hl
        rw [f_X12_power_J123] at h
        refine lv_iconst (v := 0) hx hb dX12_power_123 (by decide) ?_
        exact hJ124 _ _ _ _ _ _ _ h hP hS (lv_sub hl [0, 1, 2, 3, 4] rfl)
      have hL53 : ∀ (b2 : Int32) (b3 : Int64) (b5 : Int32) (fu : Nat) (b6 : Int32) (b7 : Int32) (M : Mem) (res : (Int32) × Mem) (H : Heap) (locs : List Loc) (ls : Array Slot), f_X12_power_L53 a1 b2 b3 b5 fu b6 b7 M = some res → va_P D vwCl (wsG 20 (ceR cA q) q M) H → va_S (AqG 20 q) s.heap H locs → lv_has ls 8 [(0, .ref (q 0)), (1, .int a1), (2, .int b2), (3, .long b3), (5, .int b5), (6, .int b6), (7, .int b7)] → (∀ (H : Heap) (locs : List Loc) (ls : Array Slot), va_P D vwCl (wsG 20 (ceR cA q) q res.2) H → va_S (AqG 20 q) s.heap H locs → lv_has ls 8 [(0, .ref (q 0)), (1, .int a1), (2, .int b2), (3, .long b3), (5, .int b5), (6, .int (res.1))] → W p l e ({ frames := 3, cells := 0, slots := 0, locals := 64 } : Room) s m [.ref (q 0), .int a1].toArray below meth c H locs 0 0 (MQ below (Qi 20 (ceR cA q) D q r0 M0) [.ref (q 0), .int a1].toArray s 0 0 (AqG 20 q)) (F0 m 91 ls [])) → W p l e ({ frames := 3, cells := 0, slots := 0, locals := 64 } : Room) s m [.ref (q 0), .int a1].toArray below meth c H locs 0 0 (MQ below (Qi 20 (ceR cA q) D q r0 M0) [.ref (q 0), .int a1].toArray s 0 0 (AqG 20 q)) (F0 m 53 ls []) := by
        intro b2 b3 b5 fu
        induction fu with
        | zero => intro b6 b7 M res H locs ls h; exact absurd h (by simp [f_X12_power_L53])
        | succ fu ih =>
          intro b6 b7 M res H locs ls h hP hS hl K53_0
          rw [f_X12_power_L53] at h
          refine lv_iload hx hb dX12_power_53 (lv_at hl 6 rfl) ?_
          refine lv_iload_n hx hb dX12_power_55 rfl (lv_at hl 2 rfl) ?_
          refine lv_icmp_ge (tgt := 91) hx hb dX12_power_56 (by decide) (fun c42 => ?_) (fun c42 => ?_)
          · rw [if_pos c42] at h
            cases h
            exact K53_0 _ _ _ hP hS (lv_sub hl [0, 1, 2, 3, 4, 5] rfl)
          · rw [if_neg c42] at h
            refine lv_iload hx hb dX12_power_59 (lv_at hl 5 rfl) ?_
            refine lv_aload_n hx hb dX12_power_61 rfl (lv_at hl 0 rfl) ?_
            refine lv_iload hx hb dX12_power_62 (lv_at hl 4 rfl) ?_
            refine lv_iload hx hb dX12_power_64 (lv_at hl 6 rfl) ?_
            obtain ⟨r43, M44, hc45, h⟩ := bnd_inv h
            refine gV_i (As := [.int b5, .int b7]) X hP hS hl.1 (c_X12_isIn l D cA q aK aV hq hc45) sf_X12_isIn bw_1755 sv_X12_isIn (rcR_12 sR_0) rfl ⟨rfl, rfl⟩ ⟨Nat.le_of_ble_eq_true rfl, Nat.le_of_ble_eq_true rfl⟩ rfl rfl (Nat.le_of_ble_eq_true rfl) dX12_power_66 (fun H locs hP hS => ?_)
            refine lv_if_eq (tgt := 81) hx hb dX12_power_69 (by decide) (fun c46 => ?_) (fun c46 => ?_)
            · rw [if_pos c46] at h
              refine lv_iconst (v := 0) hx hb dX12_power_81 (by decide) ?_
              refine lv_iadd hx hb dX12_power_82 ?_
              obtain ⟨y47, ey47, h⟩ := lt_inv h
              refine topE ey47 ?_
              refine lv_istore (lv' := [(6, .int y47), (0, .ref (q 0)), (1, .int a1), (2, .int b2), (3, .long b3), (5, .int b5), (7, .int b7)]) hx hb dX12_power_83 hl (by decide) rfl (fun ls hl => ?_)
              obtain ⟨y48, ey48, h⟩ := lt_inv h
              refine lv_iinc (v := y48) (lv' := [(7, .int y48), (6, .int y47), (0, .ref (q 0)), (1, .int a1), (2, .int b2), (3, .long b3), (5, .int b5)]) hx hb dX12_power_85 hl (k := 6) rfl (by rw [ey48]; rfl) (by decide) rfl (fun ls hl => ?_)
              refine lv_goto (tgt := 53) hx hb dX12_power_88 (by decide) ?_
              exact ih _ _ _ res _ _ _ h hP hS (lv_sub hl [2, 3, 4, 5, 6, 1, 0] rfl) K53_0
            · rw [if_neg c46] at h
              refine lv_aload_n hx hb dX12_power_72 rfl (lv_at hl 0 rfl) ?_
              refine lv_iload hx hb dX12_power_73 (lv_at hl 6 rfl) ?_
              obtain ⟨r49, M50, hc51, h⟩ := bnd_inv h
              refine gV_i (As := [.int b7]) X hP hS hl.1 (c_X12_votesOf l D cA q aK aV hq hc51) sf_X12_votesOf bw_1675 sv_X12_votesOf (rcR_12 sR_0) rfl ⟨rfl, rfl⟩ ⟨Nat.le_of_ble_eq_true rfl, Nat.le_of_ble_eq_true rfl⟩ rfl rfl (Nat.le_of_ble_eq_true rfl) dX12_power_75 (fun H locs hP hS => ?_)
              refine lv_goto (tgt := 82) hx hb dX12_power_78 (by decide) ?_
              refine lv_iadd hx hb dX12_power_82 ?_
              obtain ⟨y52, ey52, h⟩ := lt_inv h
              refine topE ey52 ?_
              refine lv_istore (lv' := [(6, .int y52), (0, .ref (q 0)), (1, .int a1), (2, .int b2), (3, .long b3), (5, .int b5), (7, .int b7)]) hx hb dX12_power_83 hl (by decide) rfl (fun ls hl => ?_)
              obtain ⟨y53, ey53, h⟩ := lt_inv h
              refine lv_iinc (v := y53) (lv' := [(7, .int y53), (6, .int y52), (0, .ref (q 0)), (1, .int a1), (2, .int b2), (3, .long b3), (5, .int b5)]) hx hb dX12_power_85 hl (k := 6) rfl (by rw [ey53]; rfl) (by decide) rfl (fun ls hl => ?_)
              refine lv_goto (tgt := 53) hx hb dX12_power_88 (by decide) ?_
              exact ih _ _ _ res _ _ _ h hP hS (lv_sub hl [2, 3, 4, 5, 6, 1, 0] rfl) K53_0
      refine lv_iload hx hb dX12_power_26 (lv_at hl 4 rfl) ?_
      refine lv_iconst (v := 1) hx hb dX12_power_28 (by decide) ?_
      refine lv_iload_n hx hb dX12_power_29 rfl (lv_at hl 2 rfl) ?_
      refine lv_ishl hx hb dX12_power_30 ?_
      refine lv_icmp_ge (tgt := 165) hx hb dX12_power_31 (by decide) (fun c21 => ?_) (fun c21 => ?_)
      · rw [if_pos c21] at h
        cases h
        exact K26_0 _ _ _ hP hS (lv_sub hl [0, 2, 3] rfl)
      · rw [if_neg c21] at h
        refine lv_aload_n hx hb dX12_power_34 rfl (lv_at hl 0 rfl) ?_
        refine lv_iload hx hb dX12_power_35 (lv_at hl 4 rfl) ?_
        refine lv_iload_n hx hb dX12_power_37 rfl (lv_at hl 1 rfl) ?_
        obtain ⟨r22, M23, hc24, h⟩ := bnd_inv h
        refine gV_i (As := [.int b5, .int a1]) X hP hS hl.1 (c_X12_isIn l D cA q aK aV hq hc24) sf_X12_isIn bw_1755 sv_X12_isIn (rcR_12 sR_0) rfl ⟨rfl, rfl⟩ ⟨Nat.le_of_ble_eq_true rfl, Nat.le_of_ble_eq_true rfl⟩ rfl rfl (Nat.le_of_ble_eq_true rfl) dX12_power_38 (fun H locs hP hS => ?_)
        refine lv_if_eq (tgt := 47) hx hb dX12_power_41 (by decide) (fun c25 => ?_) (fun c25 => ?_)
        · rw [if_pos c25] at h
          refine lv_iconst (v := 0) hx hb dX12_power_47 (by decide) ?_
          refine lv_istore (lv' := [(6, .int (0 : Int32)), (0, .ref (q 0)), (1, .int a1), (2, .int b2), (3, .long b3), (5, .int b5)]) hx hb dX12_power_48 hl (by decide) rfl (fun ls hl => ?_)
          refine lv_iconst (v := 0) hx hb dX12_power_50 (by decide) ?_
          refine lv_istore (lv' := [(7, .int (0 : Int32)), (6, .int (0 : Int32)), (0, .ref (q 0)), (1, .int a1), (2, .int b2), (3, .long b3), (5, .int b5)]) hx hb dX12_power_51 hl (by decide) rfl (fun ls hl => ?_)
          obtain ⟨s26, M27, hc28, h⟩ := bnd_inv h
          obtain ⟨x29, rfl⟩ : ∃ z, z = s26 := ⟨_, rfl⟩
          try dsimp only at h
          refine hL53 _ _ _ fz _ _ _ _ _ _ _ hc28 hP hS (lv_sub hl [2, 3, 4, 5, 6, 1, 0] rfl) (fun H locs ls hP hS hl => ?_)
          have hl : lv_has ls 8 [(0, .ref (q 0)), (1, .int a1), (2, .int b2), (3, .long b3), (5, .int b5), (6, .int x29)] := hl
          refine lv_iconst (v := 2) hx hb dX12_power_91 (by decide) ?_
          refine lv_iload hx hb dX12_power_92 (lv_at hl 5 rfl) ?_
          refine lv_imul hx hb dX12_power_94 ?_
          refine lv_aload_n hx hb dX12_power_95 rfl (lv_at hl 0 rfl) ?_
          obtain ⟨r30, M31, hc32, h⟩ := bnd_inv h
          refine gV_i (As := []) X hP hS hl.1 (c_X12_allVotes l D cA q aK aV hq hc32) sf_X12_allVotes bw_1671 sv_X12_allVotes (rcR_12 sR_0) rfl ⟨rfl, rfl⟩ ⟨Nat.le_of_ble_eq_true rfl, Nat.le_of_ble_eq_true rfl⟩ rfl rfl (Nat.le_of_ble_eq_true rfl) dX12_power_96 (fun H locs hP hS => ?_)
          refine lv_icmp_gt (tgt := 123) hx hb dX12_power_99 (by decide) (fun c33 => ?_) (fun c33 => ?_)
          · rw [if_pos c33] at h
            exact hJ123 _ _ _ _ _ _ h hP hS (lv_sub hl [0, 1, 2, 3, 4] rfl)
          · rw [if_neg c33] at h
            refine lv_iconst (v := 2) hx hb dX12_power_102 (by decide) ?_
            refine lv_iload hx hb dX12_power_103 (lv_at hl 5 rfl) ?_
            refine lv_aload_n hx hb dX12_power_105 rfl (lv_at hl 0 rfl) ?_
            refine lv_iload_n hx hb dX12_power_106 rfl (lv_at hl 1 rfl) ?_
            obtain ⟨r34, M35, hc36, h⟩ := bnd_inv h
            refine gV_i (As := [.int a1]) X hP hS hl.1 (c_X12_votesOf l D cA q aK aV hq hc36) sf_X12_votesOf bw_1675 sv_X12_votesOf (rcR_12 sR_0) rfl ⟨rfl, rfl⟩ ⟨Nat.le_of_ble_eq_true rfl, Nat.le_of_ble_eq_true rfl⟩ rfl rfl (Nat.le_of_ble_eq_true rfl) dX12_power_107 (fun H locs hP hS => ?_)
            refine lv_iadd hx hb dX12_power_110 ?_
            refine lv_imul hx hb dX12_power_111 ?_
            refine lv_aload_n hx hb dX12_power_112 rfl (lv_at hl 0 rfl) ?_
            obtain ⟨r37, M38, hc39, h⟩ := bnd_inv h
            refine gV_i (As := []) X hP hS hl.1 (c_X12_allVotes l D cA q aK aV hq hc39) sf_X12_allVotes bw_1671 sv_X12_allVotes (rcR_12 sR_0) rfl ⟨rfl, rfl⟩ ⟨Nat.le_of_ble_eq_true rfl, Nat.le_of_ble_eq_true rfl⟩ rfl rfl (Nat.le_of_ble_eq_true rfl) dX12_power_113 (fun H locs hP hS => ?_)
            refine lv_icmp_le (tgt := 123) hx hb dX12_power_116 (by decide) (fun c40 => ?_) (fun c40 => ?_)
            · rw [if_pos c40] at h
              exact hJ123 _ _ _ _ _ _ h hP hS (lv_sub hl [0, 1, 2, 3, 4] rfl)
            · rw [if_neg c40] at h
              refine lv_iconst (v := 1) hx hb dX12_power_119 (by decide) ?_
              refine lv_goto (tgt := 124) hx hb dX12_power_120 (by decide) ?_
              exact hJ124 _ _ _ _ _ _ _ h hP hS (lv_sub hl [0, 1, 2, 3, 4] rfl)
        · rw [if_neg c25] at h
          refine lv_goto (tgt := 159) hx hb dX12_power_44 (by decide) ?_
          obtain ⟨y41, ey41, h⟩ := lt_inv h
          refine lv_iinc (v := y41) (lv' := [(5, .int y41), (0, .ref (q 0)), (1, .int a1), (2, .int b2), (3, .long b3)]) hx hb dX12_power_159 hl (k := 4) rfl (by rw [ey41]; rfl) (by decide) rfl (fun ls hl => ?_)
          refine lv_goto (tgt := 26) hx hb dX12_power_162 (by decide) ?_
          exact ih _ _ _ res _ _ _ h hP hS (lv_sub hl [1, 2, 3, 4, 0] rfl) K26_0
  refine lv_aload_n hx hb dX12_power_0 rfl (lv_at hl 0 rfl) ?_
  refine lv_iload_n hx hb dX12_power_1 rfl (lv_at hl 1 rfl) ?_
  obtain ⟨r1, M2, hc3, h⟩ := bnd_inv h
  refine gV_i (As := [.int a1]) X hP hS hl.1 (c_X12_isReader l D cA q aK aV hq hc3) sf_X12_isReader bw_1723 sv_X12_isReader (rcR_12 sR_0) rfl ⟨rfl, rfl⟩ ⟨Nat.le_of_ble_eq_true rfl, Nat.le_of_ble_eq_true rfl⟩ rfl rfl (Nat.le_of_ble_eq_true rfl) dX12_power_2 (fun H locs hP hS => ?_)
  refine lv_if_ne (tgt := 14) hx hb dX12_power_5 (by decide) (fun c4 => ?_) (fun c4 => ?_)
  · rw [if_neg c4] at h
    refine lv_aload_n hx hb dX12_power_14 rfl (lv_at hl 0 rfl) ?_
    refine gfR_12_0 X hP sR_0 bw_1323 dX12_power_15 ?_
    refine lv_iconst (v := 4) hx hb dX12_power_18 (by decide) ?_
    refine ldR_ia X hP sR_1 zR_1 (by decide) dX12_power_19 ?_
    refine topE (y := (gI M2 1 4)) rfl ?_
    obtain ⟨y5, ey5, h⟩ := lt_inv h
    refine topE ey5 ?_
    refine lv_istore_n (lv' := [(2, .int y5), (0, .ref (q 0)), (1, .int a1)]) hx hb dX12_power_20 rfl hl (by decide) rfl (fun ls hl => ?_)
    refine lv_lconst (v := 0) hx hb dX12_power_21 (by decide) ?_
    refine lv_lstore_n (lv' := [(3, .long (0 : Int64)), (2, .int y5), (0, .ref (q 0)), (1, .int a1)]) hx hb dX12_power_22 rfl hl (by decide) rfl (fun ls hl => ?_)
    refine lv_iconst (v := 0) hx hb dX12_power_23 (by decide) ?_
    refine lv_istore (lv' := [(5, .int (0 : Int32)), (3, .long (0 : Int64)), (2, .int y5), (0, .ref (q 0)), (1, .int a1)]) hx hb dX12_power_24 hl (by decide) rfl (fun ls hl => ?_)
    obtain ⟨s6, M7, hc8, h⟩ := bnd_inv h
    obtain ⟨x9, rfl⟩ : ∃ z, z = s6 := ⟨_, rfl⟩
    try dsimp only at h
    refine hL26 _ fz _ _ _ _ _ _ _ hc8 hP hS (lv_sub hl [3, 4, 2, 1, 0] rfl) (fun H locs ls hP hS hl => ?_)
    have hl : lv_has ls 8 [(0, .ref (q 0)), (2, .int y5), (3, .long x9)] := hl
    refine lv_aload_n hx hb dX12_power_165 rfl (lv_at hl 0 rfl) ?_
    refine lv_lload_n hx hb dX12_power_166 rfl (lv_at hl 2 rfl) ?_
    refine lv_iload_n hx hb dX12_power_167 rfl (lv_at hl 1 rfl) ?_
    obtain ⟨r10, M11, hc12, h⟩ := bnd_inv h
    refine gS_l (As := [.int y5]) X hP hS hl.1 (c_X12_orders l D cA q aK aV hq hc12) sf_X12_orders bw_1977 ss_X12_orders ⟨rfl, rfl⟩ ⟨Nat.le_of_ble_eq_true rfl, Nat.le_of_ble_eq_true rfl⟩ rfl rfl (Nat.le_of_ble_eq_true rfl) dX12_power_168 (fun H locs hP hS => ?_)
    obtain ⟨r13, M14, hc15, h⟩ := bnd_inv h
    refine gV_i (As := [.long x9, .long r10]) X hP hS hl.1 (c_X12_tellsBy l D cA q aK aV hq hc15) sf_X12_tellsBy bw_1914 sv_X12_tellsBy (rcR_12 sR_0) rfl ⟨rfl, rfl⟩ ⟨Nat.le_of_ble_eq_true rfl, Nat.le_of_ble_eq_true rfl⟩ rfl rfl (Nat.le_of_ble_eq_true rfl) dX12_power_171 (fun H locs hP hS => ?_)
    obtain ⟨g16, h⟩ := gd_inv h
    exact end_z X hr hk hP hS (Decidable.not_not.mp g16) h dX12_power_174
  · rw [if_pos c4] at h
    refine lv_aload_n hx hb dX12_power_8 rfl (lv_at hl 0 rfl) ?_
    refine lv_iconst (v := 1) hx hb dX12_power_9 (by decide) ?_
    obtain ⟨r17, M18, hc19, h⟩ := bnd_inv h
    refine gV_i (As := [.int (1 : Int32)]) X hP hS hl.1 (c_X12_is l D cA q aK aV hq hc19) sf_X12_is bw_1470 sv_X12_is (rcR_12 sR_0) rfl ⟨rfl, rfl⟩ ⟨Nat.le_of_ble_eq_true rfl, Nat.le_of_ble_eq_true rfl⟩ rfl rfl (Nat.le_of_ble_eq_true rfl) dX12_power_10 (fun H locs hP hS => ?_)
    obtain ⟨g20, h⟩ := gd_inv h
    exact end_z X hr hk hP hS (Decidable.not_not.mp g20) h dX12_power_13
theorem dX12_wordOf_0 : decode cX12_wordOf 0 = .ok (.aload_n 0, 1) := by decide +kernel
theorem dX12_wordOf_1 : decode cX12_wordOf 1 = .ok (.getfield 7, 3) := by decide +kernel
theorem dX12_wordOf_4 : decode cX12_wordOf 4 = .ok (.bipush 114, 2) := by decide +kernel
theorem dX12_wordOf_6 : decode cX12_wordOf 6 = .ok (.iconst 2, 1) := by decide +kernel
theorem dX12_wordOf_7 : decode cX12_wordOf 7 = .ok (.iload_n 1, 1) := by decide +kernel
theorem dX12_wordOf_8 : decode cX12_wordOf 8 = .ok (.imul, 1) := by decide +kernel
theorem dX12_wordOf_9 : decode cX12_wordOf 9 = .ok (.iadd, 1) := by decide +kernel
theorem dX12_wordOf_10 : decode cX12_wordOf 10 = .ok (.iload_n 2, 1) := by decide +kernel
theorem dX12_wordOf_11 : decode cX12_wordOf 11 = .ok (.iadd, 1) := by decide +kernel
theorem dX12_wordOf_12 : decode cX12_wordOf 12 = .ok (.iaload, 1) := by decide +kernel
theorem dX12_wordOf_13 : decode cX12_wordOf 13 = .ok (.ireturn, 1) := by decide +kernel
set_option maxRecDepth 100000 in
set_option maxHeartbeats 8000000 in
theorem c_X12_wordOf (l : Launch) (D : va_G) (cA : Nat → ClassId) (q aK aV : Nat → Nat) (hq : injG 20 q) {a1 : Int32} {a2 : Int32} {M M0 : Mem} {r0 : Int32} (h : f_X12_wordOf a1 a2 M = some (r0, M0)) : Met l yX12_wordOf (.code yX12_wordOf cX12_wordOf 3 (some .int) :: BW) ({ frames := 1, cells := 0, slots := 0, locals := 14 } : Room) (va_Pc [.ref (q 0), .int a1, .int a2] (CB 20 (ceR cA q) D cA q aK aV M)) (Qi 20 (ceR cA q) D q r0 M0) 0 0 (AqG 20 q) := by
  refine gMet RX12 (by decide +kernel) rfl hq (Nat.le_of_ble_eq_true rfl) ?_
  intro p e s m below meth c ls X hr hk hP hS hl
  have hx := X.1
  have hb := X.2.1
  have hl : lv_has ls 3 [(0, .ref (q 0)), (1, .int a1), (2, .int a2)] := hl
  rw [f_X12_wordOf] at h
  refine lv_aload_n hx hb dX12_wordOf_0 rfl (lv_at hl 0 rfl) ?_
  refine gfR_12_0 X hP sR_0 bw_1323 dX12_wordOf_1 ?_
  refine lv_bipush (v := 114) hx hb dX12_wordOf_4 (by decide) ?_
  refine lv_iconst (v := 2) hx hb dX12_wordOf_6 (by decide) ?_
  refine lv_iload_n hx hb dX12_wordOf_7 rfl (lv_at hl 1 rfl) ?_
  refine lv_imul hx hb dX12_wordOf_8 ?_
  refine lv_iadd hx hb dX12_wordOf_9 ?_
  refine lv_iload_n hx hb dX12_wordOf_10 rfl (lv_at hl 2 rfl) ?_
  refine lv_iadd hx hb dX12_wordOf_11 ?_
  obtain ⟨g1, h⟩ := gd_inv h
  refine ldR_ia X hP sR_1 zR_1 g1 dX12_wordOf_12 ?_
  exact end_i X hr hk hP hS h dX12_wordOf_13
theorem dX12_clashing_0 : decode cX12_clashing 0 = .ok (.iconst 0, 1) := by decide +kernel
theorem dX12_clashing_1 : decode cX12_clashing 1 = .ok (.istore_n 1, 1) := by decide +kernel
theorem dX12_clashing_2 : decode cX12_clashing 2 = .ok (.iconst 0, 1) := by decide +kernel
theorem dX12_clashing_3 : decode cX12_clashing 3 = .ok (.istore_n 2, 1) := by decide +kernel
theorem dX12_clashing_4 : decode cX12_clashing 4 = .ok (.iload_n 2, 1) := by decide +kernel
theorem dX12_clashing_5 : decode cX12_clashing 5 = .ok (.aload_n 0, 1) := by decide +kernel
theorem dX12_clashing_6 : decode cX12_clashing 6 = .ok (.getfield 7, 3) := by decide +kernel
theorem dX12_clashing_9 : decode cX12_clashing 9 = .ok (.iconst 5, 1) := by decide +kernel
theorem dX12_clashing_10 : decode cX12_clashing 10 = .ok (.iaload, 1) := by decide +kernel
theorem dX12_clashing_11 : decode cX12_clashing 11 = .ok (.if_icmp .ge 47, 3) := by decide +kernel
theorem dX12_clashing_14 : decode cX12_clashing 14 = .ok (.iload_n 1, 1) := by decide +kernel
theorem dX12_clashing_15 : decode cX12_clashing 15 = .ok (.aload_n 0, 1) := by decide +kernel
theorem dX12_clashing_16 : decode cX12_clashing 16 = .ok (.aload_n 0, 1) := by decide +kernel
theorem dX12_clashing_17 : decode cX12_clashing 17 = .ok (.iload_n 2, 1) := by decide +kernel
theorem dX12_clashing_18 : decode cX12_clashing 18 = .ok (.iconst 0, 1) := by decide +kernel
theorem dX12_clashing_19 : decode cX12_clashing 19 = .ok (.invokevirtual 440, 3) := by decide +kernel
theorem dX12_clashing_22 : decode cX12_clashing 22 = .ok (.aload_n 0, 1) := by decide +kernel
theorem dX12_clashing_23 : decode cX12_clashing 23 = .ok (.getfield 7, 3) := by decide +kernel
theorem dX12_clashing_26 : decode cX12_clashing 26 = .ok (.bipush 6, 2) := by decide +kernel
theorem dX12_clashing_28 : decode cX12_clashing 28 = .ok (.iaload, 1) := by decide +kernel
theorem dX12_clashing_29 : decode cX12_clashing 29 = .ok (.invokevirtual 443, 3) := by decide +kernel
theorem dX12_clashing_32 : decode cX12_clashing 32 = .ok (.iconst 3, 1) := by decide +kernel
theorem dX12_clashing_33 : decode cX12_clashing 33 = .ok (.aload_n 0, 1) := by decide +kernel
theorem dX12_clashing_34 : decode cX12_clashing 34 = .ok (.iload_n 2, 1) := by decide +kernel
theorem dX12_clashing_35 : decode cX12_clashing 35 = .ok (.iconst 1, 1) := by decide +kernel
theorem dX12_clashing_36 : decode cX12_clashing 36 = .ok (.invokevirtual 440, 3) := by decide +kernel
theorem dX12_clashing_39 : decode cX12_clashing 39 = .ok (.isub, 1) := by decide +kernel
theorem dX12_clashing_40 : decode cX12_clashing 40 = .ok (.if_icmp .ne 9, 3) := by decide +kernel
theorem dX12_clashing_43 : decode cX12_clashing 43 = .ok (.iconst 1, 1) := by decide +kernel
theorem dX12_clashing_44 : decode cX12_clashing 44 = .ok (.iload_n 2, 1) := by decide +kernel
theorem dX12_clashing_45 : decode cX12_clashing 45 = .ok (.ishl, 1) := by decide +kernel
theorem dX12_clashing_46 : decode cX12_clashing 46 = .ok (.goto 4, 3) := by decide +kernel
theorem dX12_clashing_49 : decode cX12_clashing 49 = .ok (.iconst 0, 1) := by decide +kernel
theorem dX12_clashing_50 : decode cX12_clashing 50 = .ok (.ior, 1) := by decide +kernel
theorem dX12_clashing_51 : decode cX12_clashing 51 = .ok (.istore_n 1, 1) := by decide +kernel
theorem dX12_clashing_52 : decode cX12_clashing 52 = .ok (.iinc 2 1, 3) := by decide +kernel
theorem dX12_clashing_55 : decode cX12_clashing 55 = .ok (.goto (-51), 3) := by decide +kernel
theorem dX12_clashing_58 : decode cX12_clashing 58 = .ok (.iload_n 1, 1) := by decide +kernel
theorem dX12_clashing_59 : decode cX12_clashing 59 = .ok (.ireturn, 1) := by decide +kernel
set_option maxRecDepth 100000 in
set_option maxHeartbeats 8000000 in
theorem c_X12_clashing (l : Launch) (D : va_G) (cA : Nat → ClassId) (q aK aV : Nat → Nat) (hq : injG 20 q) {M M0 : Mem} {r0 : Int32} (h : f_X12_clashing M = some (r0, M0)) : Met l yX12_clashing (.code yX12_clashing cX12_clashing 3 (some .int) :: BW) ({ frames := 8, cells := 0, slots := 0, locals := 174 } : Room) (va_Pc [.ref (q 0)] (CB 20 (ceR cA q) D cA q aK aV M)) (Qi 20 (ceR cA q) D q r0 M0) 0 0 (AqG 20 q) := by
  refine gMet RX12 (by decide +kernel) rfl hq (Nat.le_of_ble_eq_true rfl) ?_
  intro p e s m below meth c ls X hr hk hP hS hl
  have hx := X.1
  have hb := X.2.1
  have hl : lv_has ls 3 [(0, .ref (q 0))] := hl
  rw [f_X12_clashing] at h
  have hL4 : ∀ (fu : Nat) (b1 : Int32) (b2 : Int32) (M : Mem) (res : (Int32) × Mem) (H : Heap) (locs : List Loc) (ls : Array Slot), f_X12_clashing_L4 fu b1 b2 M = some res → va_P D vwCl (wsG 20 (ceR cA q) q M) H → va_S (AqG 20 q) s.heap H locs → lv_has ls 3 [(0, .ref (q 0)), (1, .int b1), (2, .int b2)] → (∀ (H : Heap) (locs : List Loc) (ls : Array Slot), va_P D vwCl (wsG 20 (ceR cA q) q res.2) H → va_S (AqG 20 q) s.heap H locs → lv_has ls 3 [(1, .int (res.1))] → W p l e ({ frames := 8, cells := 0, slots := 0, locals := 174 } : Room) s m [.ref (q 0)].toArray below meth c H locs 0 0 (MQ below (Qi 20 (ceR cA q) D q r0 M0) [.ref (q 0)].toArray s 0 0 (AqG 20 q)) (F0 m 58 ls [])) → W p l e ({ frames := 8, cells := 0, slots := 0, locals := 174 } : Room) s m [.ref (q 0)].toArray below meth c H locs 0 0 (MQ below (Qi 20 (ceR cA q) D q r0 M0) [.ref (q 0)].toArray s 0 0 (AqG 20 q)) (F0 m 4 ls []) := by
    intro fu
    induction fu with
    | zero => intro b1 b2 M res H locs ls h; exact absurd h (by simp [f_X12_clashing_L4])
    | succ fu ih =>
      intro b1 b2 M res H locs ls h hP hS hl K4_0
      rw [f_X12_clashing_L4] at h
      refine lv_iload_n hx hb dX12_clashing_4 rfl (lv_at hl 2 rfl) ?_
      refine lv_aload_n hx hb dX12_clashing_5 rfl (lv_at hl 0 rfl) ?_
      refine gfR_12_0 X hP sR_0 bw_1323 dX12_clashing_6 ?_
      refine lv_iconst (v := 5) hx hb dX12_clashing_9 (by decide) ?_
      refine ldR_ia X hP sR_1 zR_1 (by decide) dX12_clashing_10 ?_
      refine topE (y := (gI M 1 5)) rfl ?_
      refine lv_icmp_ge (tgt := 58) hx hb dX12_clashing_11 (by decide) (fun c5 => ?_) (fun c5 => ?_)
      · rw [if_pos c5] at h
        cases h
        exact K4_0 _ _ _ hP hS (lv_sub hl [1] rfl)
      · rw [if_neg c5] at h
        refine lv_iload_n hx hb dX12_clashing_14 rfl (lv_at hl 1 rfl) ?_
        refine lv_aload_n hx hb dX12_clashing_15 rfl (lv_at hl 0 rfl) ?_
        refine lv_aload_n hx hb dX12_clashing_16 rfl (lv_at hl 0 rfl) ?_
        refine lv_iload_n hx hb dX12_clashing_17 rfl (lv_at hl 2 rfl) ?_
        refine lv_iconst (v := 0) hx hb dX12_clashing_18 (by decide) ?_
        obtain ⟨r6, M7, hc8, h⟩ := bnd_inv h
        refine gV_i (As := [.int b2, .int (0 : Int32)]) X hP hS hl.1 (c_X12_wordOf l D cA q aK aV hq hc8) sf_X12_wordOf bw_1988 sv_X12_wordOf (rcR_12 sR_0) rfl ⟨rfl, rfl⟩ ⟨Nat.le_of_ble_eq_true rfl, Nat.le_of_ble_eq_true rfl⟩ rfl rfl (Nat.le_of_ble_eq_true rfl) dX12_clashing_19 (fun H locs hP hS => ?_)
        refine lv_aload_n hx hb dX12_clashing_22 rfl (lv_at hl 0 rfl) ?_
        refine gfR_12_0 X hP sR_0 bw_1323 dX12_clashing_23 ?_
        refine lv_bipush (v := 6) hx hb dX12_clashing_26 (by decide) ?_
        refine ldR_ia X hP sR_1 zR_1 (by decide) dX12_clashing_28 ?_
        refine topE (y := (gI M7 1 6)) rfl ?_
        obtain ⟨r9, M10, hc11, h⟩ := bnd_inv h
        refine gV_i (As := [.int r6, .int (gI M7 1 6)]) X hP hS hl.1 (c_X12_senseFor l D cA q aK aV hq hc11) sf_X12_senseFor bw_1992 sv_X12_senseFor (rcR_12 sR_0) rfl ⟨rfl, rfl⟩ ⟨Nat.le_of_ble_eq_true rfl, Nat.le_of_ble_eq_true rfl⟩ rfl rfl (Nat.le_of_ble_eq_true rfl) dX12_clashing_29 (fun H locs hP hS => ?_)
        refine lv_iconst (v := 3) hx hb dX12_clashing_32 (by decide) ?_
        refine lv_aload_n hx hb dX12_clashing_33 rfl (lv_at hl 0 rfl) ?_
        refine lv_iload_n hx hb dX12_clashing_34 rfl (lv_at hl 2 rfl) ?_
        refine lv_iconst (v := 1) hx hb dX12_clashing_35 (by decide) ?_
        obtain ⟨r12, M13, hc14, h⟩ := bnd_inv h
        refine gV_i (As := [.int b2, .int (1 : Int32)]) X hP hS hl.1 (c_X12_wordOf l D cA q aK aV hq hc14) sf_X12_wordOf bw_1988 sv_X12_wordOf (rcR_12 sR_0) rfl ⟨rfl, rfl⟩ ⟨Nat.le_of_ble_eq_true rfl, Nat.le_of_ble_eq_true rfl⟩ rfl rfl (Nat.le_of_ble_eq_true rfl) dX12_clashing_36 (fun H locs hP hS => ?_)
        refine lv_isub hx hb dX12_clashing_39 ?_
        refine lv_icmp_ne (tgt := 49) hx hb dX12_clashing_40 (by decide) (fun c15 => ?_) (fun c15 => ?_)
        · rw [if_neg c15] at h
          refine lv_iconst (v := 0) hx hb dX12_clashing_49 (by decide) ?_
          refine lv_ior hx hb dX12_clashing_50 ?_
          obtain ⟨y16, ey16, h⟩ := lt_inv h
          refine topE ey16 ?_
          refine lv_istore_n (lv' := [(1, .int y16), (0, .ref (q 0)), (2, .int b2)]) hx hb dX12_clashing_51 rfl hl (by decide) rfl (fun ls hl => ?_)
          obtain ⟨y17, ey17, h⟩ := lt_inv h
          refine lv_iinc (v := y17) (lv' := [(2, .int y17), (1, .int y16), (0, .ref (q 0))]) hx hb dX12_clashing_52 hl (k := 2) rfl (by rw [ey17]; rfl) (by decide) rfl (fun ls hl => ?_)
          refine lv_goto (tgt := 4) hx hb dX12_clashing_55 (by decide) ?_
          exact ih _ _ _ res _ _ _ h hP hS (lv_sub hl [2, 1, 0] rfl) K4_0
        · rw [if_pos c15] at h
          refine lv_iconst (v := 1) hx hb dX12_clashing_43 (by decide) ?_
          refine lv_iload_n hx hb dX12_clashing_44 rfl (lv_at hl 2 rfl) ?_
          refine lv_ishl hx hb dX12_clashing_45 ?_
          refine lv_goto (tgt := 50) hx hb dX12_clashing_46 (by decide) ?_
          refine lv_ior hx hb dX12_clashing_50 ?_
          obtain ⟨y18, ey18, h⟩ := lt_inv h
          refine topE ey18 ?_
          refine lv_istore_n (lv' := [(1, .int y18), (0, .ref (q 0)), (2, .int b2)]) hx hb dX12_clashing_51 rfl hl (by decide) rfl (fun ls hl => ?_)
          obtain ⟨y19, ey19, h⟩ := lt_inv h
          refine lv_iinc (v := y19) (lv' := [(2, .int y19), (1, .int y18), (0, .ref (q 0))]) hx hb dX12_clashing_52 hl (k := 2) rfl (by rw [ey19]; rfl) (by decide) rfl (fun ls hl => ?_)
          refine lv_goto (tgt := 4) hx hb dX12_clashing_55 (by decide) ?_
          exact ih _ _ _ res _ _ _ h hP hS (lv_sub hl [2, 1, 0] rfl) K4_0
  refine lv_iconst (v := 0) hx hb dX12_clashing_0 (by decide) ?_
  refine lv_istore_n (lv' := [(1, .int (0 : Int32)), (0, .ref (q 0))]) hx hb dX12_clashing_1 rfl hl (by decide) rfl (fun ls hl => ?_)
  refine lv_iconst (v := 0) hx hb dX12_clashing_2 (by decide) ?_
  refine lv_istore_n (lv' := [(2, .int (0 : Int32)), (1, .int (0 : Int32)), (0, .ref (q 0))]) hx hb dX12_clashing_3 rfl hl (by decide) rfl (fun ls hl => ?_)
  obtain ⟨s1, M2, hc3, h⟩ := bnd_inv h
  obtain ⟨x4, rfl⟩ : ∃ z, z = s1 := ⟨_, rfl⟩
  try dsimp only at h
  refine hL4  fz _ _ _ _ _ _ _ hc3 hP hS (lv_sub hl [2, 1, 0] rfl) (fun H locs ls hP hS hl => ?_)
  have hl : lv_has ls 3 [(1, .int x4)] := hl
  refine lv_iload_n hx hb dX12_clashing_58 rfl (lv_at hl 0 rfl) ?_
  exact end_i X hr hk hP hS h dX12_clashing_59
theorem dX12_clash_0 : decode cX12_clash 0 = .ok (.aload_n 0, 1) := by decide +kernel
theorem dX12_clash_1 : decode cX12_clash 1 = .ok (.aload_n 0, 1) := by decide +kernel
theorem dX12_clash_2 : decode cX12_clash 2 = .ok (.invokevirtual 446, 3) := by decide +kernel
theorem dX12_clash_5 : decode cX12_clash 5 = .ok (.invokevirtual 95, 3) := by decide +kernel
theorem dX12_clash_8 : decode cX12_clash 8 = .ok (.ireturn, 1) := by decide +kernel
set_option maxRecDepth 100000 in
set_option maxHeartbeats 8000000 in
theorem c_X12_clash (l : Launch) (D : va_G) (cA : Nat → ClassId) (q aK aV : Nat → Nat) (hq : injG 20 q) {M M0 : Mem} {r0 : Int32} (h : f_X12_clash M = some (r0, M0)) : Met l yX12_clash (.code yX12_clash cX12_clash 1 (some .int) :: BW) ({ frames := 9, cells := 0, slots := 0, locals := 196 } : Room) (va_Pc [.ref (q 0)] (CB 20 (ceR cA q) D cA q aK aV M)) (Qi 20 (ceR cA q) D q r0 M0) 0 0 (AqG 20 q) := by
  refine gMet RX12 (by decide +kernel) rfl hq (Nat.le_of_ble_eq_true rfl) ?_
  intro p e s m below meth c ls X hr hk hP hS hl
  have hx := X.1
  have hb := X.2.1
  have hl : lv_has ls 1 [(0, .ref (q 0))] := hl
  rw [f_X12_clash] at h
  refine lv_aload_n hx hb dX12_clash_0 rfl (lv_at hl 0 rfl) ?_
  refine lv_aload_n hx hb dX12_clash_1 rfl (lv_at hl 0 rfl) ?_
  obtain ⟨r1, M2, hc3, h⟩ := bnd_inv h
  refine gV_i (As := []) X hP hS hl.1 (c_X12_clashing l D cA q aK aV hq hc3) sf_X12_clashing bw_1984 sv_X12_clashing (rcR_12 sR_0) rfl ⟨rfl, rfl⟩ ⟨Nat.le_of_ble_eq_true rfl, Nat.le_of_ble_eq_true rfl⟩ rfl rfl (Nat.le_of_ble_eq_true rfl) dX12_clash_2 (fun H locs hP hS => ?_)
  obtain ⟨r4, M5, hc6, h⟩ := bnd_inv h
  refine gV_i (As := [.int r1]) X hP hS hl.1 (c_X12_gives l D cA q aK aV hq hc6) sf_X12_gives bw_1639 sv_X12_gives (rcR_12 sR_0) rfl ⟨rfl, rfl⟩ ⟨Nat.le_of_ble_eq_true rfl, Nat.le_of_ble_eq_true rfl⟩ rfl rfl (Nat.le_of_ble_eq_true rfl) dX12_clash_5 (fun H locs hP hS => ?_)
  exact end_i X hr hk hP hS h dX12_clash_8
theorem dX12_areUnlike_0 : decode cX12_areUnlike 0 = .ok (.iconst 0, 1) := by decide +kernel
theorem dX12_areUnlike_1 : decode cX12_areUnlike 1 = .ok (.istore_n 2, 1) := by decide +kernel
theorem dX12_areUnlike_2 : decode cX12_areUnlike 2 = .ok (.iload_n 2, 1) := by decide +kernel
theorem dX12_areUnlike_3 : decode cX12_areUnlike 3 = .ok (.aload_n 0, 1) := by decide +kernel
theorem dX12_areUnlike_4 : decode cX12_areUnlike 4 = .ok (.getfield 7, 3) := by decide +kernel
theorem dX12_areUnlike_7 : decode cX12_areUnlike 7 = .ok (.iconst 5, 1) := by decide +kernel
theorem dX12_areUnlike_8 : decode cX12_areUnlike 8 = .ok (.iaload, 1) := by decide +kernel
theorem dX12_areUnlike_9 : decode cX12_areUnlike 9 = .ok (.if_icmp .ge 79, 3) := by decide +kernel
theorem dX12_areUnlike_12 : decode cX12_areUnlike 12 = .ok (.iload_n 2, 1) := by decide +kernel
theorem dX12_areUnlike_13 : decode cX12_areUnlike 13 = .ok (.iconst 1, 1) := by decide +kernel
theorem dX12_areUnlike_14 : decode cX12_areUnlike 14 = .ok (.iadd, 1) := by decide +kernel
theorem dX12_areUnlike_15 : decode cX12_areUnlike 15 = .ok (.istore_n 3, 1) := by decide +kernel
theorem dX12_areUnlike_16 : decode cX12_areUnlike 16 = .ok (.iload_n 3, 1) := by decide +kernel
theorem dX12_areUnlike_17 : decode cX12_areUnlike 17 = .ok (.aload_n 0, 1) := by decide +kernel
theorem dX12_areUnlike_18 : decode cX12_areUnlike 18 = .ok (.getfield 7, 3) := by decide +kernel
theorem dX12_areUnlike_21 : decode cX12_areUnlike 21 = .ok (.iconst 5, 1) := by decide +kernel
theorem dX12_areUnlike_22 : decode cX12_areUnlike 22 = .ok (.iaload, 1) := by decide +kernel
theorem dX12_areUnlike_23 : decode cX12_areUnlike 23 = .ok (.if_icmp .ge 59, 3) := by decide +kernel
theorem dX12_areUnlike_26 : decode cX12_areUnlike 26 = .ok (.aload_n 0, 1) := by decide +kernel
theorem dX12_areUnlike_27 : decode cX12_areUnlike 27 = .ok (.iload_n 1, 1) := by decide +kernel
theorem dX12_areUnlike_28 : decode cX12_areUnlike 28 = .ok (.iload_n 2, 1) := by decide +kernel
theorem dX12_areUnlike_29 : decode cX12_areUnlike 29 = .ok (.invokevirtual 315, 3) := by decide +kernel
theorem dX12_areUnlike_32 : decode cX12_areUnlike 32 = .ok (.ifCond .eq 44, 3) := by decide +kernel
theorem dX12_areUnlike_35 : decode cX12_areUnlike 35 = .ok (.aload_n 0, 1) := by decide +kernel
theorem dX12_areUnlike_36 : decode cX12_areUnlike 36 = .ok (.iload_n 1, 1) := by decide +kernel
theorem dX12_areUnlike_37 : decode cX12_areUnlike 37 = .ok (.iload_n 3, 1) := by decide +kernel
theorem dX12_areUnlike_38 : decode cX12_areUnlike 38 = .ok (.invokevirtual 315, 3) := by decide +kernel
theorem dX12_areUnlike_41 : decode cX12_areUnlike 41 = .ok (.ifCond .eq 35, 3) := by decide +kernel
theorem dX12_areUnlike_44 : decode cX12_areUnlike 44 = .ok (.aload_n 0, 1) := by decide +kernel
theorem dX12_areUnlike_45 : decode cX12_areUnlike 45 = .ok (.iload_n 2, 1) := by decide +kernel
theorem dX12_areUnlike_46 : decode cX12_areUnlike 46 = .ok (.iconst 0, 1) := by decide +kernel
theorem dX12_areUnlike_47 : decode cX12_areUnlike 47 = .ok (.invokevirtual 440, 3) := by decide +kernel
theorem dX12_areUnlike_50 : decode cX12_areUnlike 50 = .ok (.aload_n 0, 1) := by decide +kernel
theorem dX12_areUnlike_51 : decode cX12_areUnlike 51 = .ok (.iload_n 3, 1) := by decide +kernel
theorem dX12_areUnlike_52 : decode cX12_areUnlike 52 = .ok (.iconst 0, 1) := by decide +kernel
theorem dX12_areUnlike_53 : decode cX12_areUnlike 53 = .ok (.invokevirtual 440, 3) := by decide +kernel
theorem dX12_areUnlike_56 : decode cX12_areUnlike 56 = .ok (.if_icmp .ne 20, 3) := by decide +kernel
theorem dX12_areUnlike_59 : decode cX12_areUnlike 59 = .ok (.aload_n 0, 1) := by decide +kernel
theorem dX12_areUnlike_60 : decode cX12_areUnlike 60 = .ok (.iload_n 2, 1) := by decide +kernel
theorem dX12_areUnlike_61 : decode cX12_areUnlike 61 = .ok (.iconst 1, 1) := by decide +kernel
theorem dX12_areUnlike_62 : decode cX12_areUnlike 62 = .ok (.invokevirtual 440, 3) := by decide +kernel
theorem dX12_areUnlike_65 : decode cX12_areUnlike 65 = .ok (.aload_n 0, 1) := by decide +kernel
theorem dX12_areUnlike_66 : decode cX12_areUnlike 66 = .ok (.iload_n 3, 1) := by decide +kernel
theorem dX12_areUnlike_67 : decode cX12_areUnlike 67 = .ok (.iconst 1, 1) := by decide +kernel
theorem dX12_areUnlike_68 : decode cX12_areUnlike 68 = .ok (.invokevirtual 440, 3) := by decide +kernel
theorem dX12_areUnlike_71 : decode cX12_areUnlike 71 = .ok (.if_icmp .eq 5, 3) := by decide +kernel
theorem dX12_areUnlike_74 : decode cX12_areUnlike 74 = .ok (.iconst 1, 1) := by decide +kernel
theorem dX12_areUnlike_75 : decode cX12_areUnlike 75 = .ok (.ireturn, 1) := by decide +kernel
theorem dX12_areUnlike_76 : decode cX12_areUnlike 76 = .ok (.iinc 3 1, 3) := by decide +kernel
theorem dX12_areUnlike_79 : decode cX12_areUnlike 79 = .ok (.goto (-63), 3) := by decide +kernel
theorem dX12_areUnlike_82 : decode cX12_areUnlike 82 = .ok (.iinc 2 1, 3) := by decide +kernel
theorem dX12_areUnlike_85 : decode cX12_areUnlike 85 = .ok (.goto (-83), 3) := by decide +kernel
theorem dX12_areUnlike_88 : decode cX12_areUnlike 88 = .ok (.iconst 0, 1) := by decide +kernel
theorem dX12_areUnlike_89 : decode cX12_areUnlike 89 = .ok (.ireturn, 1) := by decide +kernel
set_option maxRecDepth 100000 in
set_option maxHeartbeats 8000000 in
theorem c_X12_areUnlike (l : Launch) (D : va_G) (cA : Nat → ClassId) (q aK aV : Nat → Nat) (hq : injG 20 q) {a1 : Int32} {M M0 : Mem} {r0 : Int32} (h : f_X12_areUnlike a1 M = some (r0, M0)) : Met l yX12_areUnlike (.code yX12_areUnlike cX12_areUnlike 4 (some .boolean) :: BW) ({ frames := 2, cells := 0, slots := 0, locals := 36 } : Room) (va_Pc [.ref (q 0), .int a1] (CB 20 (ceR cA q) D cA q aK aV M)) (Qi 20 (ceR cA q) D q r0 M0) 0 0 (AqG 20 q) := by
  refine gMet RX12 (by decide +kernel) rfl hq (Nat.le_of_ble_eq_true rfl) ?_
  intro p e s m below meth c ls X hr hk hP hS hl
  have hx := X.1
  have hb := X.2.1
  have hl : lv_has ls 4 [(0, .ref (q 0)), (1, .int a1)] := hl
  rw [f_X12_areUnlike] at h
  have hL2 : ∀ (fu : Nat) (b2 : Int32) (M : Mem) (res : (Nat) × Mem) (H : Heap) (locs : List Loc) (ls : Array Slot), f_X12_areUnlike_L2 a1 fu b2 M = some res → va_P D vwCl (wsG 20 (ceR cA q) q M) H → va_S (AqG 20 q) s.heap H locs → lv_has ls 4 [(0, .ref (q 0)), (1, .int a1), (2, .int b2)] → (res.1 = 0 → ∀ (H : Heap) (locs : List Loc) (ls : Array Slot), va_P D vwCl (wsG 20 (ceR cA q) q res.2) H → va_S (AqG 20 q) s.heap H locs → lv_has ls 4 [] → W p l e ({ frames := 2, cells := 0, slots := 0, locals := 36 } : Room) s m [.ref (q 0), .int a1].toArray below meth c H locs 0 0 (MQ below (Qi 20 (ceR cA q) D q r0 M0) [.ref (q 0), .int a1].toArray s 0 0 (AqG 20 q)) (F0 m 74 ls [])) → (res.1 = 1 → ∀ (H : Heap) (locs : List Loc) (ls : Array Slot), va_P D vwCl (wsG 20 (ceR cA q) q res.2) H → va_S (AqG 20 q) s.heap H locs → lv_has ls 4 [] → W p l e ({ frames := 2, cells := 0, slots := 0, locals := 36 } : Room) s m [.ref (q 0), .int a1].toArray below meth c H locs 0 0 (MQ below (Qi 20 (ceR cA q) D q r0 M0) [.ref (q 0), .int a1].toArray s 0 0 (AqG 20 q)) (F0 m 88 ls [])) → W p l e ({ frames := 2, cells := 0, slots := 0, locals := 36 } : Room) s m [.ref (q 0), .int a1].toArray below meth c H locs 0 0 (MQ below (Qi 20 (ceR cA q) D q r0 M0) [.ref (q 0), .int a1].toArray s 0 0 (AqG 20 q)) (F0 m 2 ls []) := by
    intro fu
    induction fu with
    | zero => intro b2 M res H locs ls h; exact absurd h (by simp [f_X12_areUnlike_L2])
    | succ fu ih =>
      intro b2 M res H locs ls h hP hS hl K2_0 K2_1
      rw [f_X12_areUnlike_L2] at h
      have hL16 : ∀ (b2 : Int32) (fu : Nat) (b3 : Int32) (M : Mem) (res : (Nat) × Mem) (H : Heap) (locs : List Loc) (ls : Array Slot), f_X12_areUnlike_L16 a1 b2 fu b3 M = some res → va_P D vwCl (wsG 20 (ceR cA q) q M) H → va_S (AqG 20 q) s.heap H locs → lv_has ls 4 [(0, .ref (q 0)), (1, .int a1), (2, .int b2), (3, .int b3)] → (res.1 = 0 → ∀ (H : Heap) (locs : List Loc) (ls : Array Slot), va_P D vwCl (wsG 20 (ceR cA q) q res.2) H → va_S (AqG 20 q) s.heap H locs → lv_has ls 4 [] → W p l e ({ frames := 2, cells := 0, slots := 0, locals := 36 } : Room) s m [.ref (q 0), .int a1].toArray below meth c H locs 0 0 (MQ below (Qi 20 (ceR cA q) D q r0 M0) [.ref (q 0), .int a1].toArray s 0 0 (AqG 20 q)) (F0 m 74 ls [])) → (res.1 = 1 → ∀ (H : Heap) (locs : List Loc) (ls : Array Slot), va_P D vwCl (wsG 20 (ceR cA q) q res.2) H → va_S (AqG 20 q) s.heap H locs → lv_has ls 4 [(0, .ref (q 0)), (1, .int a1), (2, .int b2)] → W p l e ({ frames := 2, cells := 0, slots := 0, locals := 36 } : Room) s m [.ref (q 0), .int a1].toArray below meth c H locs 0 0 (MQ below (Qi 20 (ceR cA q) D q r0 M0) [.ref (q 0), .int a1].toArray s 0 0 (AqG 20 q)) (F0 m 82 ls [])) → W p l e ({ frames := 2, cells := 0, slots := 0, locals := 36 } : Room) s m [.ref (q 0), .int a1].toArray below meth c H locs 0 0 (MQ below (Qi 20 (ceR cA q) D q r0 M0) [.ref (q 0), .int a1].toArray s 0 0 (AqG 20 q)) (F0 m 16 ls []) := by
        intro b2 fu
        induction fu with
        | zero => intro b3 M res H locs ls h; exact absurd h (by simp [f_X12_areUnlike_L16])
        | succ fu ih =>
          intro b3 M res H locs ls h hP hS hl K16_0 K16_1
          rw [f_X12_areUnlike_L16] at h
          refine lv_iload_n hx hb dX12_areUnlike_16 rfl (lv_at hl 3 rfl) ?_
          refine lv_aload_n hx hb dX12_areUnlike_17 rfl (lv_at hl 0 rfl) ?_
          refine gfR_12_0 X hP sR_0 bw_1323 dX12_areUnlike_18 ?_
          refine lv_iconst (v := 5) hx hb dX12_areUnlike_21 (by decide) ?_
          refine ldR_ia X hP sR_1 zR_1 (by decide) dX12_areUnlike_22 ?_
          refine topE (y := (gI M 1 5)) rfl ?_
          refine lv_icmp_ge (tgt := 82) hx hb dX12_areUnlike_23 (by decide) (fun c12 => ?_) (fun c12 => ?_)
          · rw [if_pos c12] at h
            cases h
            exact K16_1 rfl _ _ _ hP hS (lv_sub hl [0, 1, 2] rfl)
          · rw [if_neg c12] at h
            refine lv_aload_n hx hb dX12_areUnlike_26 rfl (lv_at hl 0 rfl) ?_
            refine lv_iload_n hx hb dX12_areUnlike_27 rfl (lv_at hl 1 rfl) ?_
            refine lv_iload_n hx hb dX12_areUnlike_28 rfl (lv_at hl 2 rfl) ?_
            obtain ⟨r13, M14, hc15, h⟩ := bnd_inv h
            refine gV_i (As := [.int a1, .int b2]) X hP hS hl.1 (c_X12_isIn l D cA q aK aV hq hc15) sf_X12_isIn bw_1755 sv_X12_isIn (rcR_12 sR_0) rfl ⟨rfl, rfl⟩ ⟨Nat.le_of_ble_eq_true rfl, Nat.le_of_ble_eq_true rfl⟩ rfl rfl (Nat.le_of_ble_eq_true rfl) dX12_areUnlike_29 (fun H locs hP hS => ?_)
            refine lv_if_eq (tgt := 76) hx hb dX12_areUnlike_32 (by decide) (fun c16 => ?_) (fun c16 => ?_)
            · rw [if_pos c16] at h
              obtain ⟨y17, ey17, h⟩ := lt_inv h
              refine lv_iinc (v := y17) (lv' := [(3, .int y17), (0, .ref (q 0)), (1, .int a1), (2, .int b2)]) hx hb dX12_areUnlike_76 hl (k := 3) rfl (by rw [ey17]; rfl) (by decide) rfl (fun ls hl => ?_)
              refine lv_goto (tgt := 16) hx hb dX12_areUnlike_79 (by decide) ?_
              exact ih _ _ res _ _ _ h hP hS (lv_sub hl [1, 2, 3, 0] rfl) K16_0 K16_1
            · rw [if_neg c16] at h
              refine lv_aload_n hx hb dX12_areUnlike_35 rfl (lv_at hl 0 rfl) ?_
              refine lv_iload_n hx hb dX12_areUnlike_36 rfl (lv_at hl 1 rfl) ?_
              refine lv_iload_n hx hb dX12_areUnlike_37 rfl (lv_at hl 3 rfl) ?_
              obtain ⟨r18, M19, hc20, h⟩ := bnd_inv h
              refine gV_i (As := [.int a1, .int b3]) X hP hS hl.1 (c_X12_isIn l D cA q aK aV hq hc20) sf_X12_isIn bw_1755 sv_X12_isIn (rcR_12 sR_0) rfl ⟨rfl, rfl⟩ ⟨Nat.le_of_ble_eq_true rfl, Nat.le_of_ble_eq_true rfl⟩ rfl rfl (Nat.le_of_ble_eq_true rfl) dX12_areUnlike_38 (fun H locs hP hS => ?_)
              refine lv_if_eq (tgt := 76) hx hb dX12_areUnlike_41 (by decide) (fun c21 => ?_) (fun c21 => ?_)
              · rw [if_pos c21] at h
                obtain ⟨y22, ey22, h⟩ := lt_inv h
                refine lv_iinc (v := y22) (lv' := [(3, .int y22), (0, .ref (q 0)), (1, .int a1), (2, .int b2)]) hx hb dX12_areUnlike_76 hl (k := 3) rfl (by rw [ey22]; rfl) (by decide) rfl (fun ls hl => ?_)
                refine lv_goto (tgt := 16) hx hb dX12_areUnlike_79 (by decide) ?_
                exact ih _ _ res _ _ _ h hP hS (lv_sub hl [1, 2, 3, 0] rfl) K16_0 K16_1
              · rw [if_neg c21] at h
                refine lv_aload_n hx hb dX12_areUnlike_44 rfl (lv_at hl 0 rfl) ?_
                refine lv_iload_n hx hb dX12_areUnlike_45 rfl (lv_at hl 2 rfl) ?_
                refine lv_iconst (v := 0) hx hb dX12_areUnlike_46 (by decide) ?_
                obtain ⟨r23, M24, hc25, h⟩ := bnd_inv h
                refine gV_i (As := [.int b2, .int (0 : Int32)]) X hP hS hl.1 (c_X12_wordOf l D cA q aK aV hq hc25) sf_X12_wordOf bw_1988 sv_X12_wordOf (rcR_12 sR_0) rfl ⟨rfl, rfl⟩ ⟨Nat.le_of_ble_eq_true rfl, Nat.le_of_ble_eq_true rfl⟩ rfl rfl (Nat.le_of_ble_eq_true rfl) dX12_areUnlike_47 (fun H locs hP hS => ?_)
                refine lv_aload_n hx hb dX12_areUnlike_50 rfl (lv_at hl 0 rfl) ?_
                refine lv_iload_n hx hb dX12_areUnlike_51 rfl (lv_at hl 3 rfl) ?_
                refine lv_iconst (v := 0) hx hb dX12_areUnlike_52 (by decide) ?_
                obtain ⟨r26, M27, hc28, h⟩ := bnd_inv h
                refine gV_i (As := [.int b3, .int (0 : Int32)]) X hP hS hl.1 (c_X12_wordOf l D cA q aK aV hq hc28) sf_X12_wordOf bw_1988 sv_X12_wordOf (rcR_12 sR_0) rfl ⟨rfl, rfl⟩ ⟨Nat.le_of_ble_eq_true rfl, Nat.le_of_ble_eq_true rfl⟩ rfl rfl (Nat.le_of_ble_eq_true rfl) dX12_areUnlike_53 (fun H locs hP hS => ?_)
                refine lv_icmp_ne (tgt := 76) hx hb dX12_areUnlike_56 (by decide) (fun c29 => ?_) (fun c29 => ?_)
                · rw [if_neg c29] at h
                  obtain ⟨y30, ey30, h⟩ := lt_inv h
                  refine lv_iinc (v := y30) (lv' := [(3, .int y30), (0, .ref (q 0)), (1, .int a1), (2, .int b2)]) hx hb dX12_areUnlike_76 hl (k := 3) rfl (by rw [ey30]; rfl) (by decide) rfl (fun ls hl => ?_)
                  refine lv_goto (tgt := 16) hx hb dX12_areUnlike_79 (by decide) ?_
                  exact ih _ _ res _ _ _ h hP hS (lv_sub hl [1, 2, 3, 0] rfl) K16_0 K16_1
                · rw [if_pos c29] at h
                  refine lv_aload_n hx hb dX12_areUnlike_59 rfl (lv_at hl 0 rfl) ?_
                  refine lv_iload_n hx hb dX12_areUnlike_60 rfl (lv_at hl 2 rfl) ?_
                  refine lv_iconst (v := 1) hx hb dX12_areUnlike_61 (by decide) ?_
                  obtain ⟨r31, M32, hc33, h⟩ := bnd_inv h
                  refine gV_i (As := [.int b2, .int (1 : Int32)]) X hP hS hl.1 (c_X12_wordOf l D cA q aK aV hq hc33) sf_X12_wordOf bw_1988 sv_X12_wordOf (rcR_12 sR_0) rfl ⟨rfl, rfl⟩ ⟨Nat.le_of_ble_eq_true rfl, Nat.le_of_ble_eq_true rfl⟩ rfl rfl (Nat.le_of_ble_eq_true rfl) dX12_areUnlike_62 (fun H locs hP hS => ?_)
                  refine lv_aload_n hx hb dX12_areUnlike_65 rfl (lv_at hl 0 rfl) ?_
                  refine lv_iload_n hx hb dX12_areUnlike_66 rfl (lv_at hl 3 rfl) ?_
                  refine lv_iconst (v := 1) hx hb dX12_areUnlike_67 (by decide) ?_
                  obtain ⟨r34, M35, hc36, h⟩ := bnd_inv h
                  refine gV_i (As := [.int b3, .int (1 : Int32)]) X hP hS hl.1 (c_X12_wordOf l D cA q aK aV hq hc36) sf_X12_wordOf bw_1988 sv_X12_wordOf (rcR_12 sR_0) rfl ⟨rfl, rfl⟩ ⟨Nat.le_of_ble_eq_true rfl, Nat.le_of_ble_eq_true rfl⟩ rfl rfl (Nat.le_of_ble_eq_true rfl) dX12_areUnlike_68 (fun H locs hP hS => ?_)
                  refine lv_icmp_eq (tgt := 76) hx hb dX12_areUnlike_71 (by decide) (fun c37 => ?_) (fun c37 => ?_)
                  · rw [if_pos c37] at h
                    obtain ⟨y38, ey38, h⟩ := lt_inv h
                    refine lv_iinc (v := y38) (lv' := [(3, .int y38), (0, .ref (q 0)), (1, .int a1), (2, .int b2)]) hx hb dX12_areUnlike_76 hl (k := 3) rfl (by rw [ey38]; rfl) (by decide) rfl (fun ls hl => ?_)
                    refine lv_goto (tgt := 16) hx hb dX12_areUnlike_79 (by decide) ?_
                    exact ih _ _ res _ _ _ h hP hS (lv_sub hl [1, 2, 3, 0] rfl) K16_0 K16_1
                  · rw [if_neg c37] at h
                    cases h
                    exact K16_0 rfl _ _ _ hP hS (lv_sub hl [] rfl)
      refine lv_iload_n hx hb dX12_areUnlike_2 rfl (lv_at hl 2 rfl) ?_
      refine lv_aload_n hx hb dX12_areUnlike_3 rfl (lv_at hl 0 rfl) ?_
      refine gfR_12_0 X hP sR_0 bw_1323 dX12_areUnlike_4 ?_
      refine lv_iconst (v := 5) hx hb dX12_areUnlike_7 (by decide) ?_
      refine ldR_ia X hP sR_1 zR_1 (by decide) dX12_areUnlike_8 ?_
      refine topE (y := (gI M 1 5)) rfl ?_
      refine lv_icmp_ge (tgt := 88) hx hb dX12_areUnlike_9 (by decide) (fun c5 => ?_) (fun c5 => ?_)
      · rw [if_pos c5] at h
        cases h
        exact K2_1 rfl _ _ _ hP hS (lv_sub hl [] rfl)
      · rw [if_neg c5] at h
        refine lv_iload_n hx hb dX12_areUnlike_12 rfl (lv_at hl 2 rfl) ?_
        refine lv_iconst (v := 1) hx hb dX12_areUnlike_13 (by decide) ?_
        refine lv_iadd hx hb dX12_areUnlike_14 ?_
        obtain ⟨y6, ey6, h⟩ := lt_inv h
        refine topE ey6 ?_
        refine lv_istore_n (lv' := [(3, .int y6), (0, .ref (q 0)), (1, .int a1), (2, .int b2)]) hx hb dX12_areUnlike_15 rfl hl (by decide) rfl (fun ls hl => ?_)
        obtain ⟨s7, M8, hc9, h⟩ := bnd_inv h
        obtain ⟨k10, rfl⟩ : ∃ z, z = s7 := ⟨_, rfl⟩
        try dsimp only at h
        refine hL16 _ fz _ _ _ _ _ _ hc9 hP hS (lv_sub hl [1, 2, 3, 0] rfl) (fun hke H locs ls hP hS hl => ?_) (fun hke H locs ls hP hS hl => ?_)
        · have hke : k10 = 0 := hke
          have hl : lv_has ls 4 [] := hl
          subst hke
          rw [if_pos rfl] at h
          cases h
          exact K2_0 rfl _ _ _ hP hS (lv_sub hl [] rfl)
        · have hke : k10 = 1 := hke
          have hl : lv_has ls 4 [(0, .ref (q 0)), (1, .int a1), (2, .int b2)] := hl
          subst hke
          rw [if_neg (by decide)] at h
          obtain ⟨y11, ey11, h⟩ := lt_inv h
          refine lv_iinc (v := y11) (lv' := [(2, .int y11), (0, .ref (q 0)), (1, .int a1)]) hx hb dX12_areUnlike_82 hl (k := 2) rfl (by rw [ey11]; rfl) (by decide) rfl (fun ls hl => ?_)
          refine lv_goto (tgt := 2) hx hb dX12_areUnlike_85 (by decide) ?_
          exact ih _ _ res _ _ _ h hP hS (lv_sub hl [1, 2, 0] rfl) K2_0 K2_1
  refine lv_iconst (v := 0) hx hb dX12_areUnlike_0 (by decide) ?_
  refine lv_istore_n (lv' := [(2, .int (0 : Int32)), (0, .ref (q 0)), (1, .int a1)]) hx hb dX12_areUnlike_1 rfl hl (by decide) rfl (fun ls hl => ?_)
  obtain ⟨s1, M2, hc3, h⟩ := bnd_inv h
  obtain ⟨k4, rfl⟩ : ∃ z, z = s1 := ⟨_, rfl⟩
  try dsimp only at h
  refine hL2  fz _ _ _ _ _ _ hc3 hP hS (lv_sub hl [1, 2, 0] rfl) (fun hke H locs ls hP hS hl => ?_) (fun hke H locs ls hP hS hl => ?_)
  · have hke : k4 = 0 := hke
    have hl : lv_has ls 4 [] := hl
    subst hke
    rw [if_pos rfl] at h
    refine lv_iconst (v := 1) hx hb dX12_areUnlike_74 (by decide) ?_
    exact end_z X hr hk hP hS (Or.inr rfl) h dX12_areUnlike_75
  · have hke : k4 = 1 := hke
    have hl : lv_has ls 4 [] := hl
    subst hke
    rw [if_neg (by decide)] at h
    refine lv_iconst (v := 0) hx hb dX12_areUnlike_88 (by decide) ?_
    exact end_z X hr hk hP hS (Or.inl rfl) h dX12_areUnlike_89
theorem dX12_striking_0 : decode cX12_striking 0 = .ok (.iconst 1, 1) := by decide +kernel
theorem dX12_striking_1 : decode cX12_striking 1 = .ok (.aload_n 0, 1) := by decide +kernel
theorem dX12_striking_2 : decode cX12_striking 2 = .ok (.getfield 7, 3) := by decide +kernel
theorem dX12_striking_5 : decode cX12_striking 5 = .ok (.iconst 5, 1) := by decide +kernel
theorem dX12_striking_6 : decode cX12_striking 6 = .ok (.iaload, 1) := by decide +kernel
theorem dX12_striking_7 : decode cX12_striking 7 = .ok (.ishl, 1) := by decide +kernel
theorem dX12_striking_8 : decode cX12_striking 8 = .ok (.iconst 1, 1) := by decide +kernel
theorem dX12_striking_9 : decode cX12_striking 9 = .ok (.isub, 1) := by decide +kernel
theorem dX12_striking_10 : decode cX12_striking 10 = .ok (.istore_n 1, 1) := by decide +kernel
theorem dX12_striking_11 : decode cX12_striking 11 = .ok (.iload_n 1, 1) := by decide +kernel
theorem dX12_striking_12 : decode cX12_striking 12 = .ok (.istore_n 2, 1) := by decide +kernel
theorem dX12_striking_13 : decode cX12_striking 13 = .ok (.iconst 0, 1) := by decide +kernel
theorem dX12_striking_14 : decode cX12_striking 14 = .ok (.istore_n 3, 1) := by decide +kernel
theorem dX12_striking_15 : decode cX12_striking 15 = .ok (.iload_n 3, 1) := by decide +kernel
theorem dX12_striking_16 : decode cX12_striking 16 = .ok (.iload_n 1, 1) := by decide +kernel
theorem dX12_striking_17 : decode cX12_striking 17 = .ok (.if_icmp .gt 64, 3) := by decide +kernel
theorem dX12_striking_20 : decode cX12_striking 20 = .ok (.iload_n 3, 1) := by decide +kernel
theorem dX12_striking_21 : decode cX12_striking 21 = .ok (.invokestatic 344, 3) := by decide +kernel
theorem dX12_striking_24 : decode cX12_striking 24 = .ok (.iload_n 2, 1) := by decide +kernel
theorem dX12_striking_25 : decode cX12_striking 25 = .ok (.invokestatic 344, 3) := by decide +kernel
theorem dX12_striking_28 : decode cX12_striking 28 = .ok (.if_icmp .gt 47, 3) := by decide +kernel
theorem dX12_striking_31 : decode cX12_striking 31 = .ok (.iload_n 3, 1) := by decide +kernel
theorem dX12_striking_32 : decode cX12_striking 32 = .ok (.invokestatic 344, 3) := by decide +kernel
theorem dX12_striking_35 : decode cX12_striking 35 = .ok (.iload_n 2, 1) := by decide +kernel
theorem dX12_striking_36 : decode cX12_striking 36 = .ok (.invokestatic 344, 3) := by decide +kernel
theorem dX12_striking_39 : decode cX12_striking 39 = .ok (.if_icmp .ne 11, 3) := by decide +kernel
theorem dX12_striking_42 : decode cX12_striking 42 = .ok (.iload_n 3, 1) := by decide +kernel
theorem dX12_striking_43 : decode cX12_striking 43 = .ok (.iload_n 2, 1) := by decide +kernel
theorem dX12_striking_44 : decode cX12_striking 44 = .ok (.if_icmp .lt 6, 3) := by decide +kernel
theorem dX12_striking_47 : decode cX12_striking 47 = .ok (.goto 28, 3) := by decide +kernel
theorem dX12_striking_50 : decode cX12_striking 50 = .ok (.aload_n 0, 1) := by decide +kernel
theorem dX12_striking_51 : decode cX12_striking 51 = .ok (.invokevirtual 446, 3) := by decide +kernel
theorem dX12_striking_54 : decode cX12_striking 54 = .ok (.iload_n 3, 1) := by decide +kernel
theorem dX12_striking_55 : decode cX12_striking 55 = .ok (.iconst (-1), 1) := by decide +kernel
theorem dX12_striking_56 : decode cX12_striking 56 = .ok (.ixor, 1) := by decide +kernel
theorem dX12_striking_57 : decode cX12_striking 57 = .ok (.iand, 1) := by decide +kernel
theorem dX12_striking_58 : decode cX12_striking 58 = .ok (.ifCond .ne 17, 3) := by decide +kernel
theorem dX12_striking_61 : decode cX12_striking 61 = .ok (.aload_n 0, 1) := by decide +kernel
theorem dX12_striking_62 : decode cX12_striking 62 = .ok (.iload_n 1, 1) := by decide +kernel
theorem dX12_striking_63 : decode cX12_striking 63 = .ok (.iload_n 3, 1) := by decide +kernel
theorem dX12_striking_64 : decode cX12_striking 64 = .ok (.iconst (-1), 1) := by decide +kernel
theorem dX12_striking_65 : decode cX12_striking 65 = .ok (.ixor, 1) := by decide +kernel
theorem dX12_striking_66 : decode cX12_striking 66 = .ok (.iand, 1) := by decide +kernel
theorem dX12_striking_67 : decode cX12_striking 67 = .ok (.invokevirtual 449, 3) := by decide +kernel
theorem dX12_striking_70 : decode cX12_striking 70 = .ok (.ifCond .ne 5, 3) := by decide +kernel
theorem dX12_striking_73 : decode cX12_striking 73 = .ok (.iload_n 3, 1) := by decide +kernel
theorem dX12_striking_74 : decode cX12_striking 74 = .ok (.istore_n 2, 1) := by decide +kernel
theorem dX12_striking_75 : decode cX12_striking 75 = .ok (.iinc 3 1, 3) := by decide +kernel
theorem dX12_striking_78 : decode cX12_striking 78 = .ok (.goto (-63), 3) := by decide +kernel
theorem dX12_striking_81 : decode cX12_striking 81 = .ok (.iload_n 2, 1) := by decide +kernel
theorem dX12_striking_82 : decode cX12_striking 82 = .ok (.ireturn, 1) := by decide +kernel
set_option maxRecDepth 100000 in
set_option maxHeartbeats 8000000 in
theorem c_X12_striking (l : Launch) (D : va_G) (cA : Nat → ClassId) (q aK aV : Nat → Nat) (hq : injG 20 q) {M M0 : Mem} {r0 : Int32} (h : f_X12_striking M = some (r0, M0)) : Met l yX12_striking (.code yX12_striking cX12_striking 4 (some .int) :: BW) ({ frames := 9, cells := 0, slots := 0, locals := 196 } : Room) (va_Pc [.ref (q 0)] (CB 20 (ceR cA q) D cA q aK aV M)) (Qi 20 (ceR cA q) D q r0 M0) 0 0 (AqG 20 q) := by
  refine gMet RX12 (by decide +kernel) rfl hq (Nat.le_of_ble_eq_true rfl) ?_
  intro p e s m below meth c ls X hr hk hP hS hl
  have hx := X.1
  have hb := X.2.1
  have hl : lv_has ls 4 [(0, .ref (q 0))] := hl
  rw [f_X12_striking] at h
  have hL15 : ∀ (b1 : Int32) (fu : Nat) (b2 : Int32) (b3 : Int32) (M : Mem) (res : (Int32) × Mem) (H : Heap) (locs : List Loc) (ls : Array Slot), f_X12_striking_L15 b1 fu b2 b3 M = some res → va_P D vwCl (wsG 20 (ceR cA q) q M) H → va_S (AqG 20 q) s.heap H locs → lv_has ls 4 [(0, .ref (q 0)), (1, .int b1), (2, .int b2), (3, .int b3)] → (∀ (H : Heap) (locs : List Loc) (ls : Array Slot), va_P D vwCl (wsG 20 (ceR cA q) q res.2) H → va_S (AqG 20 q) s.heap H locs → lv_has ls 4 [(2, .int (res.1))] → W p l e ({ frames := 9, cells := 0, slots := 0, locals := 196 } : Room) s m [.ref (q 0)].toArray below meth c H locs 0 0 (MQ below (Qi 20 (ceR cA q) D q r0 M0) [.ref (q 0)].toArray s 0 0 (AqG 20 q)) (F0 m 81 ls [])) → W p l e ({ frames := 9, cells := 0, slots := 0, locals := 196 } : Room) s m [.ref (q 0)].toArray below meth c H locs 0 0 (MQ below (Qi 20 (ceR cA q) D q r0 M0) [.ref (q 0)].toArray s 0 0 (AqG 20 q)) (F0 m 15 ls []) := by
    intro b1 fu
    induction fu with
    | zero => intro b2 b3 M res H locs ls h; exact absurd h (by simp [f_X12_striking_L15])
    | succ fu ih =>
      intro b2 b3 M res H locs ls h hP hS hl K15_0
      rw [f_X12_striking_L15] at h
      have hJ50 : ∀ (b2 : Int32) (b3 : Int32) (M : Mem) (H : Heap) (locs : List Loc) (ls : Array Slot), f_X12_striking_J50 (f_X12_striking_L15 b1 fu) b1 b2 b3 M = some res → va_P D vwCl (wsG 20 (ceR cA q) q M) H → va_S (AqG 20 q) s.heap H locs → lv_has ls 4 [(0, .ref (q 0)), (1, .int b1), (2, .int b2), (3, .int b3)] → W p l e ({ frames := 9, cells := 0, slots := 0, locals := 196 } : Room) s m [.ref (q 0)].toArray below meth c H locs 0 0 (MQ below (Qi 20 (ceR cA q) D q r0 M0) [.ref (q 0)].toArray s 0 0 (AqG 20 q)) (F0 m 50 ls []) := by
        intro b2 b3 M H locs ls h hP hS hl
        rw [f_X12_striking_J50] at h
        refine lv_aload_n hx hb dX12_striking_50 rfl (lv_at hl 0 rfl) ?_
        obtain ⟨r24, M25, hc26, h⟩ := bnd_inv h
        refine gV_i (As := []) X hP hS hl.1 (c_X12_clashing l D cA q aK aV hq hc26) sf_X12_clashing bw_1984 sv_X12_clashing (rcR_12 sR_0) rfl ⟨rfl, rfl⟩ ⟨Nat.le_of_ble_eq_true rfl, Nat.le_of_ble_eq_true rfl⟩ rfl rfl (Nat.le_of_ble_eq_true rfl) dX12_striking_51 (fun H locs hP hS => ?_)
        refine lv_iload_n hx hb dX12_striking_54 rfl (lv_at hl 3 rfl) ?_
        refine lv_iconst (v := -1) hx hb dX12_striking_55 (by decide) ?_
        refine lv_ixor hx hb dX12_striking_56 ?_
        refine lv_iand hx hb dX12_striking_57 ?_
        refine lv_if_ne (tgt := 75) hx hb dX12_striking_58 (by decide) (fun c27 => ?_) (fun c27 => ?_)
        · rw [if_neg c27] at h
          obtain ⟨y28, ey28, h⟩ := lt_inv h
          refine lv_iinc (v := y28) (lv' := [(3, .int y28), (0, .ref (q 0)), (1, .int b1), (2, .int b2)]) hx hb dX12_striking_75 hl (k := 3) rfl (by rw [ey28]; rfl) (by decide) rfl (fun ls hl => ?_)
          refine lv_goto (tgt := 15) hx hb dX12_striking_78 (by decide) ?_
          exact ih _ _ _ res _ _ _ h hP hS (lv_sub hl [1, 2, 3, 0] rfl) K15_0
        · rw [if_pos c27] at h
          refine lv_aload_n hx hb dX12_striking_61 rfl (lv_at hl 0 rfl) ?_
          refine lv_iload_n hx hb dX12_striking_62 rfl (lv_at hl 1 rfl) ?_
          refine lv_iload_n hx hb dX12_striking_63 rfl (lv_at hl 3 rfl) ?_
          refine lv_iconst (v := -1) hx hb dX12_striking_64 (by decide) ?_
          refine lv_ixor hx hb dX12_striking_65 ?_
          refine lv_iand hx hb dX12_striking_66 ?_
          obtain ⟨r29, M30, hc31, h⟩ := bnd_inv h
          refine gV_i (As := [.int (b1 &&& (b3 ^^^ (-1 : Int32)))]) X hP hS hl.1 (c_X12_areUnlike l D cA q aK aV hq hc31) sf_X12_areUnlike bw_2004 sv_X12_areUnlike (rcR_12 sR_0) rfl ⟨rfl, rfl⟩ ⟨Nat.le_of_ble_eq_true rfl, Nat.le_of_ble_eq_true rfl⟩ rfl rfl (Nat.le_of_ble_eq_true rfl) dX12_striking_67 (fun H locs hP hS => ?_)
          refine lv_if_ne (tgt := 75) hx hb dX12_striking_70 (by decide) (fun c32 => ?_) (fun c32 => ?_)
          · rw [if_neg c32] at h
            obtain ⟨y33, ey33, h⟩ := lt_inv h
            refine lv_iinc (v := y33) (lv' := [(3, .int y33), (0, .ref (q 0)), (1, .int b1), (2, .int b2)]) hx hb dX12_striking_75 hl (k := 3) rfl (by rw [ey33]; rfl) (by decide) rfl (fun ls hl => ?_)
            refine lv_goto (tgt := 15) hx hb dX12_striking_78 (by decide) ?_
            exact ih _ _ _ res _ _ _ h hP hS (lv_sub hl [1, 2, 3, 0] rfl) K15_0
          · rw [if_pos c32] at h
            refine lv_iload_n hx hb dX12_striking_73 rfl (lv_at hl 3 rfl) ?_
            refine lv_istore_n (lv' := [(2, .int b3), (0, .ref (q 0)), (1, .int b1), (3, .int b3)]) hx hb dX12_striking_74 rfl hl (by decide) rfl (fun ls hl => ?_)
            obtain ⟨y34, ey34, h⟩ := lt_inv h
            refine lv_iinc (v := y34) (lv' := [(3, .int y34), (2, .int b3), (0, .ref (q 0)), (1, .int b1)]) hx hb dX12_striking_75 hl (k := 3) rfl (by rw [ey34]; rfl) (by decide) rfl (fun ls hl => ?_)
            refine lv_goto (tgt := 15) hx hb dX12_striking_78 (by decide) ?_
            exact ih _ _ _ res _ _ _ h hP hS (lv_sub hl [2, 3, 1, 0] rfl) K15_0
      refine lv_iload_n hx hb dX12_striking_15 rfl (lv_at hl 3 rfl) ?_
      refine lv_iload_n hx hb dX12_striking_16 rfl (lv_at hl 1 rfl) ?_
      refine lv_icmp_gt (tgt := 81) hx hb dX12_striking_17 (by decide) (fun c6 => ?_) (fun c6 => ?_)
      · rw [if_pos c6] at h
        cases h
        exact K15_0 _ _ _ hP hS (lv_sub hl [2] rfl)
      · rw [if_neg c6] at h
        refine lv_iload_n hx hb dX12_striking_20 rfl (lv_at hl 3 rfl) ?_
        obtain ⟨r7, M8, hc9, h⟩ := bnd_inv h
        refine gS_i (As := [.int b3]) X hP hS hl.1 (c_X12_bits l D cA q aK aV hq hc9) sf_X12_bits bw_1798 ss_X12_bits ⟨rfl, rfl⟩ ⟨Nat.le_of_ble_eq_true rfl, Nat.le_of_ble_eq_true rfl⟩ rfl rfl (Nat.le_of_ble_eq_true rfl) dX12_striking_21 (fun H locs hP hS => ?_)
        refine lv_iload_n hx hb dX12_striking_24 rfl (lv_at hl 2 rfl) ?_
        obtain ⟨r10, M11, hc12, h⟩ := bnd_inv h
        refine gS_i (As := [.int b2]) X hP hS hl.1 (c_X12_bits l D cA q aK aV hq hc12) sf_X12_bits bw_1798 ss_X12_bits ⟨rfl, rfl⟩ ⟨Nat.le_of_ble_eq_true rfl, Nat.le_of_ble_eq_true rfl⟩ rfl rfl (Nat.le_of_ble_eq_true rfl) dX12_striking_25 (fun H locs hP hS => ?_)
        refine lv_icmp_gt (tgt := 75) hx hb dX12_striking_28 (by decide) (fun c13 => ?_) (fun c13 => ?_)
        · rw [if_pos c13] at h
          obtain ⟨y14, ey14, h⟩ := lt_inv h
          refine lv_iinc (v := y14) (lv' := [(3, .int y14), (0, .ref (q 0)), (1, .int b1), (2, .int b2)]) hx hb dX12_striking_75 hl (k := 3) rfl (by rw [ey14]; rfl) (by decide) rfl (fun ls hl => ?_)
          refine lv_goto (tgt := 15) hx hb dX12_striking_78 (by decide) ?_
          exact ih _ _ _ res _ _ _ h hP hS (lv_sub hl [1, 2, 3, 0] rfl) K15_0
        · rw [if_neg c13] at h
          refine lv_iload_n hx hb dX12_striking_31 rfl (lv_at hl 3 rfl) ?_
          obtain ⟨r15, M16, hc17, h⟩ := bnd_inv h
          refine gS_i (As := [.int b3]) X hP hS hl.1 (c_X12_bits l D cA q aK aV hq hc17) sf_X12_bits bw_1798 ss_X12_bits ⟨rfl, rfl⟩ ⟨Nat.le_of_ble_eq_true rfl, Nat.le_of_ble_eq_true rfl⟩ rfl rfl (Nat.le_of_ble_eq_true rfl) dX12_striking_32 (fun H locs hP hS => ?_)
          refine lv_iload_n hx hb dX12_striking_35 rfl (lv_at hl 2 rfl) ?_
          obtain ⟨r18, M19, hc20, h⟩ := bnd_inv h
          refine gS_i (As := [.int b2]) X hP hS hl.1 (c_X12_bits l D cA q aK aV hq hc20) sf_X12_bits bw_1798 ss_X12_bits ⟨rfl, rfl⟩ ⟨Nat.le_of_ble_eq_true rfl, Nat.le_of_ble_eq_true rfl⟩ rfl rfl (Nat.le_of_ble_eq_true rfl) dX12_striking_36 (fun H locs hP hS => ?_)
          refine lv_icmp_ne (tgt := 50) hx hb dX12_striking_39 (by decide) (fun c21 => ?_) (fun c21 => ?_)
          · rw [if_neg c21] at h
            exact hJ50 _ _ _ _ _ _ h hP hS (lv_sub hl [0, 1, 2, 3] rfl)
          · rw [if_pos c21] at h
            refine lv_iload_n hx hb dX12_striking_42 rfl (lv_at hl 3 rfl) ?_
            refine lv_iload_n hx hb dX12_striking_43 rfl (lv_at hl 2 rfl) ?_
            refine lv_icmp_lt (tgt := 50) hx hb dX12_striking_44 (by decide) (fun c22 => ?_) (fun c22 => ?_)
            · rw [if_pos c22] at h
              exact hJ50 _ _ _ _ _ _ h hP hS (lv_sub hl [0, 1, 2, 3] rfl)
            · rw [if_neg c22] at h
              refine lv_goto (tgt := 75) hx hb dX12_striking_47 (by decide) ?_
              obtain ⟨y23, ey23, h⟩ := lt_inv h
              refine lv_iinc (v := y23) (lv' := [(3, .int y23), (0, .ref (q 0)), (1, .int b1), (2, .int b2)]) hx hb dX12_striking_75 hl (k := 3) rfl (by rw [ey23]; rfl) (by decide) rfl (fun ls hl => ?_)
              refine lv_goto (tgt := 15) hx hb dX12_striking_78 (by decide) ?_
              exact ih _ _ _ res _ _ _ h hP hS (lv_sub hl [1, 2, 3, 0] rfl) K15_0
  refine lv_iconst (v := 1) hx hb dX12_striking_0 (by decide) ?_
  refine lv_aload_n hx hb dX12_striking_1 rfl (lv_at hl 0 rfl) ?_
  refine gfR_12_0 X hP sR_0 bw_1323 dX12_striking_2 ?_
  refine lv_iconst (v := 5) hx hb dX12_striking_5 (by decide) ?_
  refine ldR_ia X hP sR_1 zR_1 (by decide) dX12_striking_6 ?_
  refine topE (y := (gI M 1 5)) rfl ?_
  refine lv_ishl hx hb dX12_striking_7 ?_
  refine lv_iconst (v := 1) hx hb dX12_striking_8 (by decide) ?_
  refine lv_isub hx hb dX12_striking_9 ?_
  obtain ⟨y1, ey1, h⟩ := lt_inv h
  refine topE ey1 ?_
  refine lv_istore_n (lv' := [(1, .int y1), (0, .ref (q 0))]) hx hb dX12_striking_10 rfl hl (by decide) rfl (fun ls hl => ?_)
  refine lv_iload_n hx hb dX12_striking_11 rfl (lv_at hl 0 rfl) ?_
  refine lv_istore_n (lv' := [(2, .int y1), (1, .int y1), (0, .ref (q 0))]) hx hb dX12_striking_12 rfl hl (by decide) rfl (fun ls hl => ?_)
  refine lv_iconst (v := 0) hx hb dX12_striking_13 (by decide) ?_
  refine lv_istore_n (lv' := [(3, .int (0 : Int32)), (2, .int y1), (1, .int y1), (0, .ref (q 0))]) hx hb dX12_striking_14 rfl hl (by decide) rfl (fun ls hl => ?_)
  obtain ⟨s2, M3, hc4, h⟩ := bnd_inv h
  obtain ⟨x5, rfl⟩ : ∃ z, z = s2 := ⟨_, rfl⟩
  try dsimp only at h
  refine hL15 _ fz _ _ _ _ _ _ _ hc4 hP hS (lv_sub hl [3, 2, 1, 0] rfl) (fun H locs ls hP hS hl => ?_)
  have hl : lv_has ls 4 [(2, .int x5)] := hl
  refine lv_iload_n hx hb dX12_striking_81 rfl (lv_at hl 0 rfl) ?_
  exact end_i X hr hk hP hS h dX12_striking_82
theorem dX12_struck_0 : decode cX12_struck 0 = .ok (.aload_n 0, 1) := by decide +kernel
theorem dX12_struck_1 : decode cX12_struck 1 = .ok (.aload_n 0, 1) := by decide +kernel
theorem dX12_struck_2 : decode cX12_struck 2 = .ok (.invokevirtual 452, 3) := by decide +kernel
theorem dX12_struck_5 : decode cX12_struck 5 = .ok (.invokestatic 344, 3) := by decide +kernel
theorem dX12_struck_8 : decode cX12_struck 8 = .ok (.invokevirtual 95, 3) := by decide +kernel
theorem dX12_struck_11 : decode cX12_struck 11 = .ok (.ireturn, 1) := by decide +kernel
set_option maxRecDepth 100000 in
set_option maxHeartbeats 8000000 in
theorem c_X12_struck (l : Launch) (D : va_G) (cA : Nat → ClassId) (q aK aV : Nat → Nat) (hq : injG 20 q) {M M0 : Mem} {r0 : Int32} (h : f_X12_struck M = some (r0, M0)) : Met l yX12_struck (.code yX12_struck cX12_struck 1 (some .int) :: BW) ({ frames := 10, cells := 0, slots := 0, locals := 219 } : Room) (va_Pc [.ref (q 0)] (CB 20 (ceR cA q) D cA q aK aV M)) (Qi 20 (ceR cA q) D q r0 M0) 0 0 (AqG 20 q) := by
  refine gMet RX12 (by decide +kernel) rfl hq (Nat.le_of_ble_eq_true rfl) ?_
  intro p e s m below meth c ls X hr hk hP hS hl
  have hx := X.1
  have hb := X.2.1
  have hl : lv_has ls 1 [(0, .ref (q 0))] := hl
  rw [f_X12_struck] at h
  refine lv_aload_n hx hb dX12_struck_0 rfl (lv_at hl 0 rfl) ?_
  refine lv_aload_n hx hb dX12_struck_1 rfl (lv_at hl 0 rfl) ?_
  obtain ⟨r1, M2, hc3, h⟩ := bnd_inv h
  refine gV_i (As := []) X hP hS hl.1 (c_X12_striking l D cA q aK aV hq hc3) sf_X12_striking bw_2000 sv_X12_striking (rcR_12 sR_0) rfl ⟨rfl, rfl⟩ ⟨Nat.le_of_ble_eq_true rfl, Nat.le_of_ble_eq_true rfl⟩ rfl rfl (Nat.le_of_ble_eq_true rfl) dX12_struck_2 (fun H locs hP hS => ?_)
  obtain ⟨r4, M5, hc6, h⟩ := bnd_inv h
  refine gS_i (As := [.int r1]) X hP hS hl.1 (c_X12_bits l D cA q aK aV hq hc6) sf_X12_bits bw_1798 ss_X12_bits ⟨rfl, rfl⟩ ⟨Nat.le_of_ble_eq_true rfl, Nat.le_of_ble_eq_true rfl⟩ rfl rfl (Nat.le_of_ble_eq_true rfl) dX12_struck_5 (fun H locs hP hS => ?_)
  obtain ⟨r7, M8, hc9, h⟩ := bnd_inv h
  refine gV_i (As := [.int r4]) X hP hS hl.1 (c_X12_gives l D cA q aK aV hq hc9) sf_X12_gives bw_1639 sv_X12_gives (rcR_12 sR_0) rfl ⟨rfl, rfl⟩ ⟨Nat.le_of_ble_eq_true rfl, Nat.le_of_ble_eq_true rfl⟩ rfl rfl (Nat.le_of_ble_eq_true rfl) dX12_struck_8 (fun H locs hP hS => ?_)
  exact end_i X hr hk hP hS h dX12_struck_11
theorem dX12_struckSet_0 : decode cX12_struckSet 0 = .ok (.aload_n 0, 1) := by decide +kernel
theorem dX12_struckSet_1 : decode cX12_struckSet 1 = .ok (.aload_n 0, 1) := by decide +kernel
theorem dX12_struckSet_2 : decode cX12_struckSet 2 = .ok (.invokevirtual 452, 3) := by decide +kernel
theorem dX12_struckSet_5 : decode cX12_struckSet 5 = .ok (.invokevirtual 95, 3) := by decide +kernel
theorem dX12_struckSet_8 : decode cX12_struckSet 8 = .ok (.ireturn, 1) := by decide +kernel
set_option maxRecDepth 100000 in
set_option maxHeartbeats 8000000 in
theorem c_X12_struckSet (l : Launch) (D : va_G) (cA : Nat → ClassId) (q aK aV : Nat → Nat) (hq : injG 20 q) {M M0 : Mem} {r0 : Int32} (h : f_X12_struckSet M = some (r0, M0)) : Met l yX12_struckSet (.code yX12_struckSet cX12_struckSet 1 (some .int) :: BW) ({ frames := 10, cells := 0, slots := 0, locals := 219 } : Room) (va_Pc [.ref (q 0)] (CB 20 (ceR cA q) D cA q aK aV M)) (Qi 20 (ceR cA q) D q r0 M0) 0 0 (AqG 20 q) := by
  refine gMet RX12 (by decide +kernel) rfl hq (Nat.le_of_ble_eq_true rfl) ?_
  intro p e s m below meth c ls X hr hk hP hS hl
  have hx := X.1
  have hb := X.2.1
  have hl : lv_has ls 1 [(0, .ref (q 0))] := hl
  rw [f_X12_struckSet] at h
  refine lv_aload_n hx hb dX12_struckSet_0 rfl (lv_at hl 0 rfl) ?_
  refine lv_aload_n hx hb dX12_struckSet_1 rfl (lv_at hl 0 rfl) ?_
  obtain ⟨r1, M2, hc3, h⟩ := bnd_inv h
  refine gV_i (As := []) X hP hS hl.1 (c_X12_striking l D cA q aK aV hq hc3) sf_X12_striking bw_2000 sv_X12_striking (rcR_12 sR_0) rfl ⟨rfl, rfl⟩ ⟨Nat.le_of_ble_eq_true rfl, Nat.le_of_ble_eq_true rfl⟩ rfl rfl (Nat.le_of_ble_eq_true rfl) dX12_struckSet_2 (fun H locs hP hS => ?_)
  obtain ⟨r4, M5, hc6, h⟩ := bnd_inv h
  refine gV_i (As := [.int r1]) X hP hS hl.1 (c_X12_gives l D cA q aK aV hq hc6) sf_X12_gives bw_1639 sv_X12_gives (rcR_12 sR_0) rfl ⟨rfl, rfl⟩ ⟨Nat.le_of_ble_eq_true rfl, Nat.le_of_ble_eq_true rfl⟩ rfl rfl (Nat.le_of_ble_eq_true rfl) dX12_struckSet_5 (fun H locs hP hS => ?_)
  exact end_i X hr hk hP hS h dX12_struckSet_8
theorem dX12_laysOrders_0 : decode cX12_laysOrders 0 = .ok (.aload_n 0, 1) := by decide +kernel
theorem dX12_laysOrders_1 : decode cX12_laysOrders 1 = .ok (.iconst 0, 1) := by decide +kernel
theorem dX12_laysOrders_2 : decode cX12_laysOrders 2 = .ok (.invokevirtual 290, 3) := by decide +kernel
theorem dX12_laysOrders_5 : decode cX12_laysOrders 5 = .ok (.istore_n 1, 1) := by decide +kernel
theorem dX12_laysOrders_6 : decode cX12_laysOrders 6 = .ok (.iload_n 1, 1) := by decide +kernel
theorem dX12_laysOrders_7 : decode cX12_laysOrders 7 = .ok (.istore_n 2, 1) := by decide +kernel
theorem dX12_laysOrders_8 : decode cX12_laysOrders 8 = .ok (.iload_n 2, 1) := by decide +kernel
theorem dX12_laysOrders_9 : decode cX12_laysOrders 9 = .ok (.ifCond .lt 125, 3) := by decide +kernel
theorem dX12_laysOrders_12 : decode cX12_laysOrders 12 = .ok (.iload_n 2, 1) := by decide +kernel
theorem dX12_laysOrders_13 : decode cX12_laysOrders 13 = .ok (.iload_n 1, 1) := by decide +kernel
theorem dX12_laysOrders_14 : decode cX12_laysOrders 14 = .ok (.iconst (-1), 1) := by decide +kernel
theorem dX12_laysOrders_15 : decode cX12_laysOrders 15 = .ok (.ixor, 1) := by decide +kernel
theorem dX12_laysOrders_16 : decode cX12_laysOrders 16 = .ok (.iand, 1) := by decide +kernel
theorem dX12_laysOrders_17 : decode cX12_laysOrders 17 = .ok (.ifCond .eq 6, 3) := by decide +kernel
theorem dX12_laysOrders_20 : decode cX12_laysOrders 20 = .ok (.goto 108, 3) := by decide +kernel
theorem dX12_laysOrders_23 : decode cX12_laysOrders 23 = .ok (.aload_n 0, 1) := by decide +kernel
theorem dX12_laysOrders_24 : decode cX12_laysOrders 24 = .ok (.getfield 60, 3) := by decide +kernel
theorem dX12_laysOrders_27 : decode cX12_laysOrders 27 = .ok (.iload_n 2, 1) := by decide +kernel
theorem dX12_laysOrders_28 : decode cX12_laysOrders 28 = .ok (.iconst 0, 1) := by decide +kernel
theorem dX12_laysOrders_29 : decode cX12_laysOrders 29 = .ok (.iastore, 1) := by decide +kernel
theorem dX12_laysOrders_30 : decode cX12_laysOrders 30 = .ok (.bipush 9, 2) := by decide +kernel
theorem dX12_laysOrders_32 : decode cX12_laysOrders 32 = .ok (.aload_n 0, 1) := by decide +kernel
theorem dX12_laysOrders_33 : decode cX12_laysOrders 33 = .ok (.getfield 7, 3) := by decide +kernel
theorem dX12_laysOrders_36 : decode cX12_laysOrders 36 = .ok (.bipush 6, 2) := by decide +kernel
theorem dX12_laysOrders_38 : decode cX12_laysOrders 38 = .ok (.iaload, 1) := by decide +kernel
theorem dX12_laysOrders_39 : decode cX12_laysOrders 39 = .ok (.iload_n 2, 1) := by decide +kernel
theorem dX12_laysOrders_40 : decode cX12_laysOrders 40 = .ok (.invokestatic 344, 3) := by decide +kernel
theorem dX12_laysOrders_43 : decode cX12_laysOrders 43 = .ok (.iadd, 1) := by decide +kernel
theorem dX12_laysOrders_44 : decode cX12_laysOrders 44 = .ok (.invokestatic 146, 3) := by decide +kernel
theorem dX12_laysOrders_47 : decode cX12_laysOrders 47 = .ok (.istore_n 3, 1) := by decide +kernel
theorem dX12_laysOrders_48 : decode cX12_laysOrders 48 = .ok (.iconst 0, 1) := by decide +kernel
theorem dX12_laysOrders_49 : decode cX12_laysOrders 49 = .ok (.istore 4, 2) := by decide +kernel
theorem dX12_laysOrders_51 : decode cX12_laysOrders 51 = .ok (.iload 4, 2) := by decide +kernel
theorem dX12_laysOrders_53 : decode cX12_laysOrders 53 = .ok (.aload_n 0, 1) := by decide +kernel
theorem dX12_laysOrders_54 : decode cX12_laysOrders 54 = .ok (.getfield 7, 3) := by decide +kernel
theorem dX12_laysOrders_57 : decode cX12_laysOrders 57 = .ok (.iconst 3, 1) := by decide +kernel
theorem dX12_laysOrders_58 : decode cX12_laysOrders 58 = .ok (.iaload, 1) := by decide +kernel
theorem dX12_laysOrders_59 : decode cX12_laysOrders 59 = .ok (.if_icmp .ge 69, 3) := by decide +kernel
theorem dX12_laysOrders_62 : decode cX12_laysOrders 62 = .ok (.aload_n 0, 1) := by decide +kernel
theorem dX12_laysOrders_63 : decode cX12_laysOrders 63 = .ok (.iload_n 1, 1) := by decide +kernel
theorem dX12_laysOrders_64 : decode cX12_laysOrders 64 = .ok (.iload_n 2, 1) := by decide +kernel
theorem dX12_laysOrders_65 : decode cX12_laysOrders 65 = .ok (.iconst (-1), 1) := by decide +kernel
theorem dX12_laysOrders_66 : decode cX12_laysOrders 66 = .ok (.ixor, 1) := by decide +kernel
theorem dX12_laysOrders_67 : decode cX12_laysOrders 67 = .ok (.iand, 1) := by decide +kernel
theorem dX12_laysOrders_68 : decode cX12_laysOrders 68 = .ok (.iload 4, 2) := by decide +kernel
theorem dX12_laysOrders_70 : decode cX12_laysOrders 70 = .ok (.invokevirtual 315, 3) := by decide +kernel
theorem dX12_laysOrders_73 : decode cX12_laysOrders 73 = .ok (.ifCond .ne 6, 3) := by decide +kernel
theorem dX12_laysOrders_76 : decode cX12_laysOrders 76 = .ok (.goto 46, 3) := by decide +kernel
theorem dX12_laysOrders_79 : decode cX12_laysOrders 79 = .ok (.aload_n 0, 1) := by decide +kernel
theorem dX12_laysOrders_80 : decode cX12_laysOrders 80 = .ok (.getfield 60, 3) := by decide +kernel
theorem dX12_laysOrders_83 : decode cX12_laysOrders 83 = .ok (.iload_n 2, 1) := by decide +kernel
theorem dX12_laysOrders_84 : decode cX12_laysOrders 84 = .ok (.aload_n 0, 1) := by decide +kernel
theorem dX12_laysOrders_85 : decode cX12_laysOrders 85 = .ok (.getfield 60, 3) := by decide +kernel
theorem dX12_laysOrders_88 : decode cX12_laysOrders 88 = .ok (.iload_n 2, 1) := by decide +kernel
theorem dX12_laysOrders_89 : decode cX12_laysOrders 89 = .ok (.iaload, 1) := by decide +kernel
theorem dX12_laysOrders_90 : decode cX12_laysOrders 90 = .ok (.aload_n 0, 1) := by decide +kernel
theorem dX12_laysOrders_91 : decode cX12_laysOrders 91 = .ok (.getfield 60, 3) := by decide +kernel
theorem dX12_laysOrders_94 : decode cX12_laysOrders 94 = .ok (.iload_n 2, 1) := by decide +kernel
theorem dX12_laysOrders_95 : decode cX12_laysOrders 95 = .ok (.iconst 1, 1) := by decide +kernel
theorem dX12_laysOrders_96 : decode cX12_laysOrders 96 = .ok (.iload 4, 2) := by decide +kernel
theorem dX12_laysOrders_98 : decode cX12_laysOrders 98 = .ok (.ishl, 1) := by decide +kernel
theorem dX12_laysOrders_99 : decode cX12_laysOrders 99 = .ok (.ior, 1) := by decide +kernel
theorem dX12_laysOrders_100 : decode cX12_laysOrders 100 = .ok (.iaload, 1) := by decide +kernel
theorem dX12_laysOrders_101 : decode cX12_laysOrders 101 = .ok (.aload_n 0, 1) := by decide +kernel
theorem dX12_laysOrders_102 : decode cX12_laysOrders 102 = .ok (.iload 4, 2) := by decide +kernel
theorem dX12_laysOrders_104 : decode cX12_laysOrders 104 = .ok (.iload_n 3, 1) := by decide +kernel
theorem dX12_laysOrders_105 : decode cX12_laysOrders 105 = .ok (.invokevirtual 443, 3) := by decide +kernel
theorem dX12_laysOrders_108 : decode cX12_laysOrders 108 = .ok (.iconst 2, 1) := by decide +kernel
theorem dX12_laysOrders_109 : decode cX12_laysOrders 109 = .ok (.if_icmp .ne 7, 3) := by decide +kernel
theorem dX12_laysOrders_112 : decode cX12_laysOrders 112 = .ok (.iconst 1, 1) := by decide +kernel
theorem dX12_laysOrders_113 : decode cX12_laysOrders 113 = .ok (.goto 4, 3) := by decide +kernel
theorem dX12_laysOrders_116 : decode cX12_laysOrders 116 = .ok (.iconst 0, 1) := by decide +kernel
theorem dX12_laysOrders_117 : decode cX12_laysOrders 117 = .ok (.iadd, 1) := by decide +kernel
theorem dX12_laysOrders_118 : decode cX12_laysOrders 118 = .ok (.invokestatic 409, 3) := by decide +kernel
theorem dX12_laysOrders_121 : decode cX12_laysOrders 121 = .ok (.iastore, 1) := by decide +kernel
theorem dX12_laysOrders_122 : decode cX12_laysOrders 122 = .ok (.iinc 4 1, 3) := by decide +kernel
theorem dX12_laysOrders_125 : decode cX12_laysOrders 125 = .ok (.goto (-74), 3) := by decide +kernel
theorem dX12_laysOrders_128 : decode cX12_laysOrders 128 = .ok (.iinc 2 (-1), 3) := by decide +kernel
theorem dX12_laysOrders_131 : decode cX12_laysOrders 131 = .ok (.goto (-123), 3) := by decide +kernel
theorem dX12_laysOrders_134 : decode cX12_laysOrders 134 = .ok (.iload_n 1, 1) := by decide +kernel
theorem dX12_laysOrders_135 : decode cX12_laysOrders 135 = .ok (.ireturn, 1) := by decide +kernel
set_option maxRecDepth 100000 in
set_option maxHeartbeats 8000000 in
theorem c_X12_laysOrders (l : Launch) (D : va_G) (cA : Nat → ClassId) (q aK aV : Nat → Nat) (hq : injG 20 q) {M M0 : Mem} {r0 : Int32} (h : f_X12_laysOrders M = some (r0, M0)) : Met l yX12_laysOrders (.code yX12_laysOrders cX12_laysOrders 5 (some .int) :: BW) ({ frames := 8, cells := 0, slots := 0, locals := 174 } : Room) (va_Pc [.ref (q 0)] (CB 20 (ceR cA q) D cA q aK aV M)) (Qi 20 (ceR cA q) D q r0 M0) 0 0 (AqG 20 q) := by
  refine gMet RX12 (by decide +kernel) rfl hq (Nat.le_of_ble_eq_true rfl) ?_
  intro p e s m below meth c ls X hr hk hP hS hl
  have hx := X.1
  have hb := X.2.1
  have hl : lv_has ls 5 [(0, .ref (q 0))] := hl
  rw [f_X12_laysOrders] at h
  have hL8 : ∀ (b1 : Int32) (fu : Nat) (b2 : Int32) (M : Mem) (res : (Unit) × Mem) (H : Heap) (locs : List Loc) (ls : Array Slot), f_X12_laysOrders_L8 b1 fu b2 M = some res → va_P D vwCl (wsG 20 (ceR cA q) q M) H → va_S (AqG 20 q) s.heap H locs → lv_has ls 5 [(0, .ref (q 0)), (1, .int b1), (2, .int b2)] → (∀ (H : Heap) (locs : List Loc) (ls : Array Slot), va_P D vwCl (wsG 20 (ceR cA q) q res.2) H → va_S (AqG 20 q) s.heap H locs → lv_has ls 5 [(1, .int b1)] → W p l e ({ frames := 8, cells := 0, slots := 0, locals := 174 } : Room) s m [.ref (q 0)].toArray below meth c H locs 0 0 (MQ below (Qi 20 (ceR cA q) D q r0 M0) [.ref (q 0)].toArray s 0 0 (AqG 20 q)) (F0 m 134 ls [])) → W p l e ({ frames := 8, cells := 0, slots := 0, locals := 174 } : Room) s m [.ref (q 0)].toArray below meth c H locs 0 0 (MQ below (Qi 20 (ceR cA q) D q r0 M0) [.ref (q 0)].toArray s 0 0 (AqG 20 q)) (F0 m 8 ls []) := by
    intro b1 fu
    induction fu with
    | zero => intro b2 M res H locs ls h; exact absurd h (by simp [f_X12_laysOrders_L8])
    | succ fu ih =>
      intro b2 M res H locs ls h hP hS hl K8_0
      rw [f_X12_laysOrders_L8] at h
      have hL51 : ∀ (b1 : Int32) (b2 : Int32) (b3 : Int32) (fu : Nat) (b4 : Int32) (M : Mem) (res : (Unit) × Mem) (H : Heap) (locs : List Loc) (ls : Array Slot), f_X12_laysOrders_L51 b1 b2 b3 fu b4 M = some res → va_P D vwCl (wsG 20 (ceR cA q) q M) H → va_S (AqG 20 q) s.heap H locs → lv_has ls 5 [(0, .ref (q 0)), (1, .int b1), (2, .int b2), (3, .int b3), (4, .int b4)] → (∀ (H : Heap) (locs : List Loc) (ls : Array Slot), va_P D vwCl (wsG 20 (ceR cA q) q res.2) H → va_S (AqG 20 q) s.heap H locs → lv_has ls 5 [(0, .ref (q 0)), (1, .int b1), (2, .int b2)] → W p l e ({ frames := 8, cells := 0, slots := 0, locals := 174 } : Room) s m [.ref (q 0)].toArray below meth c H locs 0 0 (MQ below (Qi 20 (ceR cA q) D q r0 M0) [.ref (q 0)].toArray s 0 0 (AqG 20 q)) (F0 m 128 ls [])) → W p l e ({ frames := 8, cells := 0, slots := 0, locals := 174 } : Room) s m [.ref (q 0)].toArray below meth c H locs 0 0 (MQ below (Qi 20 (ceR cA q) D q r0 M0) [.ref (q 0)].toArray s 0 0 (AqG 20 q)) (F0 m 51 ls []) := by
        intro b1 b2 b3 fu
        induction fu with
        | zero => intro b4 M res H locs ls h; exact absurd h (by simp [f_X12_laysOrders_L51])
        | succ fu ih =>
          intro b4 M res H locs ls h hP hS hl K51_0
          rw [f_X12_laysOrders_L51] at h
          refine lv_iload hx hb dX12_laysOrders_51 (lv_at hl 4 rfl) ?_
          refine lv_aload_n hx hb dX12_laysOrders_53 rfl (lv_at hl 0 rfl) ?_
          refine gfR_12_0 X hP sR_0 bw_1323 dX12_laysOrders_54 ?_
          refine lv_iconst (v := 3) hx hb dX12_laysOrders_57 (by decide) ?_
          refine ldR_ia X hP sR_1 zR_1 (by decide) dX12_laysOrders_58 ?_
          refine topE (y := (gI M 1 3)) rfl ?_
          refine lv_icmp_ge (tgt := 128) hx hb dX12_laysOrders_59 (by decide) (fun c20 => ?_) (fun c20 => ?_)
          · rw [if_pos c20] at h
            cases h
            exact K51_0 _ _ _ hP hS (lv_sub hl [0, 1, 2] rfl)
          · rw [if_neg c20] at h
            refine lv_aload_n hx hb dX12_laysOrders_62 rfl (lv_at hl 0 rfl) ?_
            refine lv_iload_n hx hb dX12_laysOrders_63 rfl (lv_at hl 1 rfl) ?_
            refine lv_iload_n hx hb dX12_laysOrders_64 rfl (lv_at hl 2 rfl) ?_
            refine lv_iconst (v := -1) hx hb dX12_laysOrders_65 (by decide) ?_
            refine lv_ixor hx hb dX12_laysOrders_66 ?_
            refine lv_iand hx hb dX12_laysOrders_67 ?_
            refine lv_iload hx hb dX12_laysOrders_68 (lv_at hl 4 rfl) ?_
            obtain ⟨r21, M22, hc23, h⟩ := bnd_inv h
            refine gV_i (As := [.int (b1 &&& (b2 ^^^ (-1 : Int32))), .int b4]) X hP hS hl.1 (c_X12_isIn l D cA q aK aV hq hc23) sf_X12_isIn bw_1755 sv_X12_isIn (rcR_12 sR_0) rfl ⟨rfl, rfl⟩ ⟨Nat.le_of_ble_eq_true rfl, Nat.le_of_ble_eq_true rfl⟩ rfl rfl (Nat.le_of_ble_eq_true rfl) dX12_laysOrders_70 (fun H locs hP hS => ?_)
            refine lv_if_ne (tgt := 79) hx hb dX12_laysOrders_73 (by decide) (fun c24 => ?_) (fun c24 => ?_)
            · rw [if_neg c24] at h
              refine lv_aload_n hx hb dX12_laysOrders_79 rfl (lv_at hl 0 rfl) ?_
              refine gfR_12_31 X hP sR_0 bw_1354 dX12_laysOrders_80 ?_
              refine lv_iload_n hx hb dX12_laysOrders_83 rfl (lv_at hl 2 rfl) ?_
              refine lv_aload_n hx hb dX12_laysOrders_84 rfl (lv_at hl 0 rfl) ?_
              refine gfR_12_31 X hP sR_0 bw_1354 dX12_laysOrders_85 ?_
              refine lv_iload_n hx hb dX12_laysOrders_88 rfl (lv_at hl 2 rfl) ?_
              obtain ⟨g25, h⟩ := gd_inv h
              refine ldR_ia X hP sR_13 zR_13 g25 dX12_laysOrders_89 ?_
              refine lv_aload_n hx hb dX12_laysOrders_90 rfl (lv_at hl 0 rfl) ?_
              refine gfR_12_31 X hP sR_0 bw_1354 dX12_laysOrders_91 ?_
              refine lv_iload_n hx hb dX12_laysOrders_94 rfl (lv_at hl 2 rfl) ?_
              refine lv_iconst (v := 1) hx hb dX12_laysOrders_95 (by decide) ?_
              refine lv_iload hx hb dX12_laysOrders_96 (lv_at hl 4 rfl) ?_
              refine lv_ishl hx hb dX12_laysOrders_98 ?_
              refine lv_ior hx hb dX12_laysOrders_99 ?_
              obtain ⟨g26, h⟩ := gd_inv h
              refine ldR_ia X hP sR_13 zR_13 g26 dX12_laysOrders_100 ?_
              refine lv_aload_n hx hb dX12_laysOrders_101 rfl (lv_at hl 0 rfl) ?_
              refine lv_iload hx hb dX12_laysOrders_102 (lv_at hl 4 rfl) ?_
              refine lv_iload_n hx hb dX12_laysOrders_104 rfl (lv_at hl 3 rfl) ?_
              obtain ⟨r27, M28, hc29, h⟩ := bnd_inv h
              refine gV_i (As := [.int b4, .int b3]) X hP hS hl.1 (c_X12_senseFor l D cA q aK aV hq hc29) sf_X12_senseFor bw_1992 sv_X12_senseFor (rcR_12 sR_0) rfl ⟨rfl, rfl⟩ ⟨Nat.le_of_ble_eq_true rfl, Nat.le_of_ble_eq_true rfl⟩ rfl rfl (Nat.le_of_ble_eq_true rfl) dX12_laysOrders_105 (fun H locs hP hS => ?_)
              refine lv_iconst (v := 2) hx hb dX12_laysOrders_108 (by decide) ?_
              refine lv_icmp_ne (tgt := 116) hx hb dX12_laysOrders_109 (by decide) (fun c30 => ?_) (fun c30 => ?_)
              · rw [if_neg c30] at h
                refine lv_iconst (v := 0) hx hb dX12_laysOrders_116 (by decide) ?_
                refine lv_iadd hx hb dX12_laysOrders_117 ?_
                obtain ⟨y31, ey31, h⟩ := lt_inv h
                refine va_mmax hx hb (by rw [X.2.2.1]; exact hl.1.symm) X.2.2.2.1 (X.2.2.2.2.1 _ bw_1927) (X.2.2.2.2.1 _ bw_1177) (X.2.2.2.2.1 _ bw_18) (X.2.2.2.2.1 _ bw_1178) (Nat.le_of_ble_eq_true rfl) (Nat.le_of_ble_eq_true rfl) (Nat.zero_le _) (Nat.zero_le _) dX12_laysOrders_118 ?_
                refine topE ey31 ?_
                obtain ⟨g32, h⟩ := gd_inv h
                obtain ⟨M33, eM33, h⟩ := lt_inv h
                refine stR_ia X hP hS sR_13 zR_13 g32 eM33 dX12_laysOrders_121 (fun H locs hP hS => ?_)
                obtain ⟨y34, ey34, h⟩ := lt_inv h
                refine lv_iinc (v := y34) (lv' := [(4, .int y34), (0, .ref (q 0)), (1, .int b1), (2, .int b2), (3, .int b3)]) hx hb dX12_laysOrders_122 hl (k := 4) rfl (by rw [ey34]; rfl) (by decide) rfl (fun ls hl => ?_)
                refine lv_goto (tgt := 51) hx hb dX12_laysOrders_125 (by decide) ?_
                exact ih _ _ res _ _ _ h hP hS (lv_sub hl [1, 2, 3, 4, 0] rfl) K51_0
              · rw [if_pos c30] at h
                refine lv_iconst (v := 1) hx hb dX12_laysOrders_112 (by decide) ?_
                refine lv_goto (tgt := 117) hx hb dX12_laysOrders_113 (by decide) ?_
                refine lv_iadd hx hb dX12_laysOrders_117 ?_
                obtain ⟨y35, ey35, h⟩ := lt_inv h
                refine va_mmax hx hb (by rw [X.2.2.1]; exact hl.1.symm) X.2.2.2.1 (X.2.2.2.2.1 _ bw_1927) (X.2.2.2.2.1 _ bw_1177) (X.2.2.2.2.1 _ bw_18) (X.2.2.2.2.1 _ bw_1178) (Nat.le_of_ble_eq_true rfl) (Nat.le_of_ble_eq_true rfl) (Nat.zero_le _) (Nat.zero_le _) dX12_laysOrders_118 ?_
                refine topE ey35 ?_
                obtain ⟨g36, h⟩ := gd_inv h
                obtain ⟨M37, eM37, h⟩ := lt_inv h
                refine stR_ia X hP hS sR_13 zR_13 g36 eM37 dX12_laysOrders_121 (fun H locs hP hS => ?_)
                obtain ⟨y38, ey38, h⟩ := lt_inv h
                refine lv_iinc (v := y38) (lv' := [(4, .int y38), (0, .ref (q 0)), (1, .int b1), (2, .int b2), (3, .int b3)]) hx hb dX12_laysOrders_122 hl (k := 4) rfl (by rw [ey38]; rfl) (by decide) rfl (fun ls hl => ?_)
                refine lv_goto (tgt := 51) hx hb dX12_laysOrders_125 (by decide) ?_
                exact ih _ _ res _ _ _ h hP hS (lv_sub hl [1, 2, 3, 4, 0] rfl) K51_0
            · rw [if_pos c24] at h
              refine lv_goto (tgt := 122) hx hb dX12_laysOrders_76 (by decide) ?_
              obtain ⟨y39, ey39, h⟩ := lt_inv h
              refine lv_iinc (v := y39) (lv' := [(4, .int y39), (0, .ref (q 0)), (1, .int b1), (2, .int b2), (3, .int b3)]) hx hb dX12_laysOrders_122 hl (k := 4) rfl (by rw [ey39]; rfl) (by decide) rfl (fun ls hl => ?_)
              refine lv_goto (tgt := 51) hx hb dX12_laysOrders_125 (by decide) ?_
              exact ih _ _ res _ _ _ h hP hS (lv_sub hl [1, 2, 3, 4, 0] rfl) K51_0
      refine lv_iload_n hx hb dX12_laysOrders_8 rfl (lv_at hl 2 rfl) ?_
      refine lv_if_lt (tgt := 134) hx hb dX12_laysOrders_9 (by decide) (fun c7 => ?_) (fun c7 => ?_)
      · rw [if_pos c7] at h
        cases h
        exact K8_0 _ _ _ hP hS (lv_sub hl [1] rfl)
      · rw [if_neg c7] at h
        refine lv_iload_n hx hb dX12_laysOrders_12 rfl (lv_at hl 2 rfl) ?_
        refine lv_iload_n hx hb dX12_laysOrders_13 rfl (lv_at hl 1 rfl) ?_
        refine lv_iconst (v := -1) hx hb dX12_laysOrders_14 (by decide) ?_
        refine lv_ixor hx hb dX12_laysOrders_15 ?_
        refine lv_iand hx hb dX12_laysOrders_16 ?_
        refine lv_if_eq (tgt := 23) hx hb dX12_laysOrders_17 (by decide) (fun c8 => ?_) (fun c8 => ?_)
        · rw [if_pos c8] at h
          refine lv_aload_n hx hb dX12_laysOrders_23 rfl (lv_at hl 0 rfl) ?_
          refine gfR_12_31 X hP sR_0 bw_1354 dX12_laysOrders_24 ?_
          refine lv_iload_n hx hb dX12_laysOrders_27 rfl (lv_at hl 2 rfl) ?_
          refine lv_iconst (v := 0) hx hb dX12_laysOrders_28 (by decide) ?_
          obtain ⟨g9, h⟩ := gd_inv h
          obtain ⟨M10, eM10, h⟩ := lt_inv h
          refine stR_ia X hP hS sR_13 zR_13 g9 eM10 dX12_laysOrders_29 (fun H locs hP hS => ?_)
          refine lv_bipush (v := 9) hx hb dX12_laysOrders_30 (by decide) ?_
          refine lv_aload_n hx hb dX12_laysOrders_32 rfl (lv_at hl 0 rfl) ?_
          refine gfR_12_0 X hP sR_0 bw_1323 dX12_laysOrders_33 ?_
          refine lv_bipush (v := 6) hx hb dX12_laysOrders_36 (by decide) ?_
          refine ldR_ia X hP sR_1 zR_1 (by decide) dX12_laysOrders_38 ?_
          refine topE (y := (gI M10 1 6)) rfl ?_
          refine lv_iload_n hx hb dX12_laysOrders_39 rfl (lv_at hl 2 rfl) ?_
          obtain ⟨r11, M12, hc13, h⟩ := bnd_inv h
          refine gS_i (As := [.int b2]) X hP hS hl.1 (c_X12_bits l D cA q aK aV hq hc13) sf_X12_bits bw_1798 ss_X12_bits ⟨rfl, rfl⟩ ⟨Nat.le_of_ble_eq_true rfl, Nat.le_of_ble_eq_true rfl⟩ rfl rfl (Nat.le_of_ble_eq_true rfl) dX12_laysOrders_40 (fun H locs hP hS => ?_)
          refine lv_iadd hx hb dX12_laysOrders_43 ?_
          obtain ⟨y14, ey14, h⟩ := lt_inv h
          refine va_mmin hx hb (by rw [X.2.2.1]; exact hl.1.symm) X.2.2.2.1 (X.2.2.2.2.1 _ bw_1529) (X.2.2.2.2.1 _ bw_888) (X.2.2.2.2.1 _ bw_18) (X.2.2.2.2.1 _ bw_889) (Nat.le_of_ble_eq_true rfl) (Nat.le_of_ble_eq_true rfl) (Nat.zero_le _) (Nat.zero_le _) dX12_laysOrders_44 ?_
          refine topE ey14 ?_
          refine lv_istore_n (lv' := [(3, .int y14), (0, .ref (q 0)), (1, .int b1), (2, .int b2)]) hx hb dX12_laysOrders_47 rfl hl (by decide) rfl (fun ls hl => ?_)
          refine lv_iconst (v := 0) hx hb dX12_laysOrders_48 (by decide) ?_
          refine lv_istore (lv' := [(4, .int (0 : Int32)), (3, .int y14), (0, .ref (q 0)), (1, .int b1), (2, .int b2)]) hx hb dX12_laysOrders_49 hl (by decide) rfl (fun ls hl => ?_)
          obtain ⟨s15, M16, hc17, h⟩ := bnd_inv h
          try dsimp only at h
          refine hL51 _ _ _ fz _ _ _ _ _ _ hc17 hP hS (lv_sub hl [2, 3, 4, 1, 0] rfl) (fun H locs ls hP hS hl => ?_)
          have hl : lv_has ls 5 [(0, .ref (q 0)), (1, .int b1), (2, .int b2)] := hl
          obtain ⟨y18, ey18, h⟩ := lt_inv h
          refine lv_iinc (v := y18) (lv' := [(2, .int y18), (0, .ref (q 0)), (1, .int b1)]) hx hb dX12_laysOrders_128 hl (k := 2) rfl (by rw [ey18]; rfl) (by decide) rfl (fun ls hl => ?_)
          refine lv_goto (tgt := 8) hx hb dX12_laysOrders_131 (by decide) ?_
          exact ih _ _ res _ _ _ h hP hS (lv_sub hl [1, 2, 0] rfl) K8_0
        · rw [if_neg c8] at h
          refine lv_goto (tgt := 128) hx hb dX12_laysOrders_20 (by decide) ?_
          obtain ⟨y19, ey19, h⟩ := lt_inv h
          refine lv_iinc (v := y19) (lv' := [(2, .int y19), (0, .ref (q 0)), (1, .int b1)]) hx hb dX12_laysOrders_128 hl (k := 2) rfl (by rw [ey19]; rfl) (by decide) rfl (fun ls hl => ?_)
          refine lv_goto (tgt := 8) hx hb dX12_laysOrders_131 (by decide) ?_
          exact ih _ _ res _ _ _ h hP hS (lv_sub hl [1, 2, 0] rfl) K8_0
  refine lv_aload_n hx hb dX12_laysOrders_0 rfl (lv_at hl 0 rfl) ?_
  refine lv_iconst (v := 0) hx hb dX12_laysOrders_1 (by decide) ?_
  obtain ⟨r1, M2, hc3, h⟩ := bnd_inv h
  refine gV_i (As := [.int (0 : Int32)]) X hP hS hl.1 (c_X12_peopleThat l D cA q aK aV hq hc3) sf_X12_peopleThat bw_1679 sv_X12_peopleThat (rcR_12 sR_0) rfl ⟨rfl, rfl⟩ ⟨Nat.le_of_ble_eq_true rfl, Nat.le_of_ble_eq_true rfl⟩ rfl rfl (Nat.le_of_ble_eq_true rfl) dX12_laysOrders_2 (fun H locs hP hS => ?_)
  refine lv_istore_n (lv' := [(1, .int r1), (0, .ref (q 0))]) hx hb dX12_laysOrders_5 rfl hl (by decide) rfl (fun ls hl => ?_)
  refine lv_iload_n hx hb dX12_laysOrders_6 rfl (lv_at hl 0 rfl) ?_
  refine lv_istore_n (lv' := [(2, .int r1), (1, .int r1), (0, .ref (q 0))]) hx hb dX12_laysOrders_7 rfl hl (by decide) rfl (fun ls hl => ?_)
  obtain ⟨s4, M5, hc6, h⟩ := bnd_inv h
  try dsimp only at h
  refine hL8 _ fz _ _ _ _ _ _ hc6 hP hS (lv_sub hl [2, 1, 0] rfl) (fun H locs ls hP hS hl => ?_)
  have hl : lv_has ls 5 [(1, .int r1)] := hl
  refine lv_iload_n hx hb dX12_laysOrders_134 rfl (lv_at hl 0 rfl) ?_
  exact end_i X hr hk hP hS h dX12_laysOrders_135
theorem dX12_best_0 : decode cX12_best 0 = .ok (.aload_n 0, 1) := by decide +kernel
theorem dX12_best_1 : decode cX12_best 1 = .ok (.invokevirtual 455, 3) := by decide +kernel
theorem dX12_best_4 : decode cX12_best 4 = .ok (.pop, 1) := by decide +kernel
theorem dX12_best_5 : decode cX12_best 5 = .ok (.aload_n 0, 1) := by decide +kernel
theorem dX12_best_6 : decode cX12_best 6 = .ok (.aload_n 0, 1) := by decide +kernel
theorem dX12_best_7 : decode cX12_best 7 = .ok (.getfield 60, 3) := by decide +kernel
theorem dX12_best_10 : decode cX12_best 10 = .ok (.iconst 0, 1) := by decide +kernel
theorem dX12_best_11 : decode cX12_best 11 = .ok (.iaload, 1) := by decide +kernel
theorem dX12_best_12 : decode cX12_best 12 = .ok (.invokevirtual 95, 3) := by decide +kernel
theorem dX12_best_15 : decode cX12_best 15 = .ok (.ireturn, 1) := by decide +kernel
set_option maxRecDepth 100000 in
set_option maxHeartbeats 8000000 in
theorem c_X12_best (l : Launch) (D : va_G) (cA : Nat → ClassId) (q aK aV : Nat → Nat) (hq : injG 20 q) {M M0 : Mem} {r0 : Int32} (h : f_X12_best M = some (r0, M0)) : Met l yX12_best (.code yX12_best cX12_best 1 (some .int) :: BW) ({ frames := 9, cells := 0, slots := 0, locals := 198 } : Room) (va_Pc [.ref (q 0)] (CB 20 (ceR cA q) D cA q aK aV M)) (Qi 20 (ceR cA q) D q r0 M0) 0 0 (AqG 20 q) := by
  refine gMet RX12 (by decide +kernel) rfl hq (Nat.le_of_ble_eq_true rfl) ?_
  intro p e s m below meth c ls X hr hk hP hS hl
  have hx := X.1
  have hb := X.2.1
  have hl : lv_has ls 1 [(0, .ref (q 0))] := hl
  rw [f_X12_best] at h
  refine lv_aload_n hx hb dX12_best_0 rfl (lv_at hl 0 rfl) ?_
  obtain ⟨r1, M2, hc3, h⟩ := bnd_inv h
  refine gV_i (As := []) X hP hS hl.1 (c_X12_laysOrders l D cA q aK aV hq hc3) sf_X12_laysOrders bw_2016 sv_X12_laysOrders (rcR_12 sR_0) rfl ⟨rfl, rfl⟩ ⟨Nat.le_of_ble_eq_true rfl, Nat.le_of_ble_eq_true rfl⟩ rfl rfl (Nat.le_of_ble_eq_true rfl) dX12_best_1 (fun H locs hP hS => ?_)
  refine lv_pop hx hb dX12_best_4 rfl ?_
  refine lv_aload_n hx hb dX12_best_5 rfl (lv_at hl 0 rfl) ?_
  refine lv_aload_n hx hb dX12_best_6 rfl (lv_at hl 0 rfl) ?_
  refine gfR_12_31 X hP sR_0 bw_1354 dX12_best_7 ?_
  refine lv_iconst (v := 0) hx hb dX12_best_10 (by decide) ?_
  refine ldR_ia X hP sR_13 zR_13 (by decide) dX12_best_11 ?_
  refine topE (y := (gI M2 13 0)) rfl ?_
  obtain ⟨r4, M5, hc6, h⟩ := bnd_inv h
  refine gV_i (As := [.int (gI M2 13 0)]) X hP hS hl.1 (c_X12_gives l D cA q aK aV hq hc6) sf_X12_gives bw_1639 sv_X12_gives (rcR_12 sR_0) rfl ⟨rfl, rfl⟩ ⟨Nat.le_of_ble_eq_true rfl, Nat.le_of_ble_eq_true rfl⟩ rfl rfl (Nat.le_of_ble_eq_true rfl) dX12_best_12 (fun H locs hP hS => ?_)
  exact end_i X hr hk hP hS h dX12_best_15
theorem dX12_bestAt_0 : decode cX12_bestAt 0 = .ok (.iload_n 1, 1) := by decide +kernel
theorem dX12_bestAt_1 : decode cX12_bestAt 1 = .ok (.ifCond .ge 9, 3) := by decide +kernel
theorem dX12_bestAt_4 : decode cX12_bestAt 4 = .ok (.aload_n 0, 1) := by decide +kernel
theorem dX12_bestAt_5 : decode cX12_bestAt 5 = .ok (.iconst 1, 1) := by decide +kernel
theorem dX12_bestAt_6 : decode cX12_bestAt 6 = .ok (.invokevirtual 91, 3) := by decide +kernel
theorem dX12_bestAt_9 : decode cX12_bestAt 9 = .ok (.ireturn, 1) := by decide +kernel
theorem dX12_bestAt_10 : decode cX12_bestAt 10 = .ok (.aload_n 0, 1) := by decide +kernel
theorem dX12_bestAt_11 : decode cX12_bestAt 11 = .ok (.invokevirtual 455, 3) := by decide +kernel
theorem dX12_bestAt_14 : decode cX12_bestAt 14 = .ok (.istore_n 2, 1) := by decide +kernel
theorem dX12_bestAt_15 : decode cX12_bestAt 15 = .ok (.iload_n 1, 1) := by decide +kernel
theorem dX12_bestAt_16 : decode cX12_bestAt 16 = .ok (.iload_n 2, 1) := by decide +kernel
theorem dX12_bestAt_17 : decode cX12_bestAt 17 = .ok (.invokestatic 344, 3) := by decide +kernel
theorem dX12_bestAt_20 : decode cX12_bestAt 20 = .ok (.if_icmp .lt 10, 3) := by decide +kernel
theorem dX12_bestAt_23 : decode cX12_bestAt 23 = .ok (.aload_n 0, 1) := by decide +kernel
theorem dX12_bestAt_24 : decode cX12_bestAt 24 = .ok (.bipush 6, 2) := by decide +kernel
theorem dX12_bestAt_26 : decode cX12_bestAt 26 = .ok (.invokevirtual 91, 3) := by decide +kernel
theorem dX12_bestAt_29 : decode cX12_bestAt 29 = .ok (.ireturn, 1) := by decide +kernel
theorem dX12_bestAt_30 : decode cX12_bestAt 30 = .ok (.iconst 0, 1) := by decide +kernel
theorem dX12_bestAt_31 : decode cX12_bestAt 31 = .ok (.istore_n 3, 1) := by decide +kernel
theorem dX12_bestAt_32 : decode cX12_bestAt 32 = .ok (.iconst (-1), 1) := by decide +kernel
theorem dX12_bestAt_33 : decode cX12_bestAt 33 = .ok (.istore 4, 2) := by decide +kernel
theorem dX12_bestAt_35 : decode cX12_bestAt 35 = .ok (.iconst 0, 1) := by decide +kernel
theorem dX12_bestAt_36 : decode cX12_bestAt 36 = .ok (.istore 5, 2) := by decide +kernel
theorem dX12_bestAt_38 : decode cX12_bestAt 38 = .ok (.iload 5, 2) := by decide +kernel
theorem dX12_bestAt_40 : decode cX12_bestAt 40 = .ok (.iload_n 1, 1) := by decide +kernel
theorem dX12_bestAt_41 : decode cX12_bestAt 41 = .ok (.if_icmp .gt 96, 3) := by decide +kernel
theorem dX12_bestAt_44 : decode cX12_bestAt 44 = .ok (.bipush 9, 2) := by decide +kernel
theorem dX12_bestAt_46 : decode cX12_bestAt 46 = .ok (.aload_n 0, 1) := by decide +kernel
theorem dX12_bestAt_47 : decode cX12_bestAt 47 = .ok (.getfield 7, 3) := by decide +kernel
theorem dX12_bestAt_50 : decode cX12_bestAt 50 = .ok (.bipush 6, 2) := by decide +kernel
theorem dX12_bestAt_52 : decode cX12_bestAt 52 = .ok (.iaload, 1) := by decide +kernel
theorem dX12_bestAt_53 : decode cX12_bestAt 53 = .ok (.iload_n 3, 1) := by decide +kernel
theorem dX12_bestAt_54 : decode cX12_bestAt 54 = .ok (.invokestatic 344, 3) := by decide +kernel
theorem dX12_bestAt_57 : decode cX12_bestAt 57 = .ok (.iadd, 1) := by decide +kernel
theorem dX12_bestAt_58 : decode cX12_bestAt 58 = .ok (.invokestatic 146, 3) := by decide +kernel
theorem dX12_bestAt_61 : decode cX12_bestAt 61 = .ok (.istore 6, 2) := by decide +kernel
theorem dX12_bestAt_63 : decode cX12_bestAt 63 = .ok (.iconst 0, 1) := by decide +kernel
theorem dX12_bestAt_64 : decode cX12_bestAt 64 = .ok (.istore 4, 2) := by decide +kernel
theorem dX12_bestAt_66 : decode cX12_bestAt 66 = .ok (.aload_n 0, 1) := by decide +kernel
theorem dX12_bestAt_67 : decode cX12_bestAt 67 = .ok (.iload_n 2, 1) := by decide +kernel
theorem dX12_bestAt_68 : decode cX12_bestAt 68 = .ok (.iload_n 3, 1) := by decide +kernel
theorem dX12_bestAt_69 : decode cX12_bestAt 69 = .ok (.iconst (-1), 1) := by decide +kernel
theorem dX12_bestAt_70 : decode cX12_bestAt 70 = .ok (.ixor, 1) := by decide +kernel
theorem dX12_bestAt_71 : decode cX12_bestAt 71 = .ok (.iand, 1) := by decide +kernel
theorem dX12_bestAt_72 : decode cX12_bestAt 72 = .ok (.iload 4, 2) := by decide +kernel
theorem dX12_bestAt_74 : decode cX12_bestAt 74 = .ok (.invokevirtual 315, 3) := by decide +kernel
theorem dX12_bestAt_77 : decode cX12_bestAt 77 = .ok (.ifCond .eq 41, 3) := by decide +kernel
theorem dX12_bestAt_80 : decode cX12_bestAt 80 = .ok (.aload_n 0, 1) := by decide +kernel
theorem dX12_bestAt_81 : decode cX12_bestAt 81 = .ok (.getfield 60, 3) := by decide +kernel
theorem dX12_bestAt_84 : decode cX12_bestAt 84 = .ok (.iload_n 3, 1) := by decide +kernel
theorem dX12_bestAt_85 : decode cX12_bestAt 85 = .ok (.iconst 1, 1) := by decide +kernel
theorem dX12_bestAt_86 : decode cX12_bestAt 86 = .ok (.iload 4, 2) := by decide +kernel
theorem dX12_bestAt_88 : decode cX12_bestAt 88 = .ok (.ishl, 1) := by decide +kernel
theorem dX12_bestAt_89 : decode cX12_bestAt 89 = .ok (.ior, 1) := by decide +kernel
theorem dX12_bestAt_90 : decode cX12_bestAt 90 = .ok (.iaload, 1) := by decide +kernel
theorem dX12_bestAt_91 : decode cX12_bestAt 91 = .ok (.aload_n 0, 1) := by decide +kernel
theorem dX12_bestAt_92 : decode cX12_bestAt 92 = .ok (.iload 4, 2) := by decide +kernel
theorem dX12_bestAt_94 : decode cX12_bestAt 94 = .ok (.iload 6, 2) := by decide +kernel
theorem dX12_bestAt_96 : decode cX12_bestAt 96 = .ok (.invokevirtual 443, 3) := by decide +kernel
theorem dX12_bestAt_99 : decode cX12_bestAt 99 = .ok (.iconst 2, 1) := by decide +kernel
theorem dX12_bestAt_100 : decode cX12_bestAt 100 = .ok (.if_icmp .ne 7, 3) := by decide +kernel
theorem dX12_bestAt_103 : decode cX12_bestAt 103 = .ok (.iconst 1, 1) := by decide +kernel
theorem dX12_bestAt_104 : decode cX12_bestAt 104 = .ok (.goto 4, 3) := by decide +kernel
theorem dX12_bestAt_107 : decode cX12_bestAt 107 = .ok (.iconst 0, 1) := by decide +kernel
theorem dX12_bestAt_108 : decode cX12_bestAt 108 = .ok (.iadd, 1) := by decide +kernel
theorem dX12_bestAt_109 : decode cX12_bestAt 109 = .ok (.aload_n 0, 1) := by decide +kernel
theorem dX12_bestAt_110 : decode cX12_bestAt 110 = .ok (.getfield 60, 3) := by decide +kernel
theorem dX12_bestAt_113 : decode cX12_bestAt 113 = .ok (.iload_n 3, 1) := by decide +kernel
theorem dX12_bestAt_114 : decode cX12_bestAt 114 = .ok (.iaload, 1) := by decide +kernel
theorem dX12_bestAt_115 : decode cX12_bestAt 115 = .ok (.if_icmp .eq 9, 3) := by decide +kernel
theorem dX12_bestAt_118 : decode cX12_bestAt 118 = .ok (.iinc 4 1, 3) := by decide +kernel
theorem dX12_bestAt_121 : decode cX12_bestAt 121 = .ok (.goto (-55), 3) := by decide +kernel
theorem dX12_bestAt_124 : decode cX12_bestAt 124 = .ok (.iload_n 3, 1) := by decide +kernel
theorem dX12_bestAt_125 : decode cX12_bestAt 125 = .ok (.iconst 1, 1) := by decide +kernel
theorem dX12_bestAt_126 : decode cX12_bestAt 126 = .ok (.iload 4, 2) := by decide +kernel
theorem dX12_bestAt_128 : decode cX12_bestAt 128 = .ok (.ishl, 1) := by decide +kernel
theorem dX12_bestAt_129 : decode cX12_bestAt 129 = .ok (.ior, 1) := by decide +kernel
theorem dX12_bestAt_130 : decode cX12_bestAt 130 = .ok (.istore_n 3, 1) := by decide +kernel
theorem dX12_bestAt_131 : decode cX12_bestAt 131 = .ok (.iinc 5 1, 3) := by decide +kernel
theorem dX12_bestAt_134 : decode cX12_bestAt 134 = .ok (.goto (-96), 3) := by decide +kernel
theorem dX12_bestAt_137 : decode cX12_bestAt 137 = .ok (.aload_n 0, 1) := by decide +kernel
theorem dX12_bestAt_138 : decode cX12_bestAt 138 = .ok (.iload 4, 2) := by decide +kernel
theorem dX12_bestAt_140 : decode cX12_bestAt 140 = .ok (.invokevirtual 95, 3) := by decide +kernel
theorem dX12_bestAt_143 : decode cX12_bestAt 143 = .ok (.ireturn, 1) := by decide +kernel
set_option maxRecDepth 100000 in
set_option maxHeartbeats 8000000 in
theorem c_X12_bestAt (l : Launch) (D : va_G) (cA : Nat → ClassId) (q aK aV : Nat → Nat) (hq : injG 20 q) {a1 : Int32} {M M0 : Mem} {r0 : Int32} (h : f_X12_bestAt a1 M = some (r0, M0)) : Met l yX12_bestAt (.code yX12_bestAt cX12_bestAt 7 (some .int) :: BW) ({ frames := 9, cells := 0, slots := 0, locals := 198 } : Room) (va_Pc [.ref (q 0), .int a1] (CB 20 (ceR cA q) D cA q aK aV M)) (Qi 20 (ceR cA q) D q r0 M0) 0 0 (AqG 20 q) := by
  refine gMet RX12 (by decide +kernel) rfl hq (Nat.le_of_ble_eq_true rfl) ?_
  intro p e s m below meth c ls X hr hk hP hS hl
  have hx := X.1
  have hb := X.2.1
  have hl : lv_has ls 7 [(0, .ref (q 0)), (1, .int a1)] := hl
  rw [f_X12_bestAt] at h
  have hL38 : ∀ (b2 : Int32) (fu : Nat) (b3 : Int32) (b4 : Int32) (b5 : Int32) (M : Mem) (res : (Int32) × Mem) (H : Heap) (locs : List Loc) (ls : Array Slot), f_X12_bestAt_L38 a1 b2 fu b3 b4 b5 M = some res → va_P D vwCl (wsG 20 (ceR cA q) q M) H → va_S (AqG 20 q) s.heap H locs → lv_has ls 7 [(0, .ref (q 0)), (1, .int a1), (2, .int b2), (3, .int b3), (4, .int b4), (5, .int b5)] → (∀ (H : Heap) (locs : List Loc) (ls : Array Slot), va_P D vwCl (wsG 20 (ceR cA q) q res.2) H → va_S (AqG 20 q) s.heap H locs → lv_has ls 7 [(0, .ref (q 0)), (4, .int (res.1))] → W p l e ({ frames := 9, cells := 0, slots := 0, locals := 198 } : Room) s m [.ref (q 0), .int a1].toArray below meth c H locs 0 0 (MQ below (Qi 20 (ceR cA q) D q r0 M0) [.ref (q 0), .int a1].toArray s 0 0 (AqG 20 q)) (F0 m 137 ls [])) → W p l e ({ frames := 9, cells := 0, slots := 0, locals := 198 } : Room) s m [.ref (q 0), .int a1].toArray below meth c H locs 0 0 (MQ below (Qi 20 (ceR cA q) D q r0 M0) [.ref (q 0), .int a1].toArray s 0 0 (AqG 20 q)) (F0 m 38 ls []) := by
    intro b2 fu
    induction fu with
    | zero => intro b3 b4 b5 M res H locs ls h; exact absurd h (by simp [f_X12_bestAt_L38])
    | succ fu ih =>
      intro b3 b4 b5 M res H locs ls h hP hS hl K38_0
      rw [f_X12_bestAt_L38] at h
      have hL66 : ∀ (b2 : Int32) (b3 : Int32) (b5 : Int32) (b6 : Int32) (fu : Nat) (b4 : Int32) (M : Mem) (res : (Int32) × Mem) (H : Heap) (locs : List Loc) (ls : Array Slot), f_X12_bestAt_L66 a1 b2 b3 b5 b6 fu b4 M = some res → va_P D vwCl (wsG 20 (ceR cA q) q M) H → va_S (AqG 20 q) s.heap H locs → lv_has ls 7 [(0, .ref (q 0)), (1, .int a1), (2, .int b2), (3, .int b3), (4, .int b4), (5, .int b5), (6, .int b6)] → (∀ (H : Heap) (locs : List Loc) (ls : Array Slot), va_P D vwCl (wsG 20 (ceR cA q) q res.2) H → va_S (AqG 20 q) s.heap H locs → lv_has ls 7 [(0, .ref (q 0)), (1, .int a1), (2, .int b2), (3, .int b3), (4, .int (res.1)), (5, .int b5)] → W p l e ({ frames := 9, cells := 0, slots := 0, locals := 198 } : Room) s m [.ref (q 0), .int a1].toArray below meth c H locs 0 0 (MQ below (Qi 20 (ceR cA q) D q r0 M0) [.ref (q 0), .int a1].toArray s 0 0 (AqG 20 q)) (F0 m 124 ls [])) → W p l e ({ frames := 9, cells := 0, slots := 0, locals := 198 } : Room) s m [.ref (q 0), .int a1].toArray below meth c H locs 0 0 (MQ below (Qi 20 (ceR cA q) D q r0 M0) [.ref (q 0), .int a1].toArray s 0 0 (AqG 20 q)) (F0 m 66 ls []) := by
        intro b2 b3 b5 b6 fu
        induction fu with
        | zero => intro b4 M res H locs ls h; exact absurd h (by simp [f_X12_bestAt_L66])
        | succ fu ih =>
          intro b4 M res H locs ls h hP hS hl K66_0
          rw [f_X12_bestAt_L66] at h
          have hJ108 : ∀ (b4 : Int32) (s0 : Int32) (s1 : Int32) (M : Mem) (H : Heap) (locs : List Loc) (ls : Array Slot), f_X12_bestAt_J108 (f_X12_bestAt_L66 a1 b2 b3 b5 b6 fu) a1 b2 b3 b4 b5 b6 s0 s1 M = some res → va_P D vwCl (wsG 20 (ceR cA q) q M) H → va_S (AqG 20 q) s.heap H locs → lv_has ls 7 [(0, .ref (q 0)), (1, .int a1), (2, .int b2), (3, .int b3), (4, .int b4), (5, .int b5), (6, .int b6)] → W p l e ({ frames := 9, cells := 0, slots := 0, locals := 198 } : Room) s m [.ref (q 0), .int a1].toArray below meth c H locs 0 0 (MQ below (Qi 20 (ceR cA q) D q r0 M0) [.ref (q 0), .int a1].toArray s 0 0 (AqG 20 q)) (F0 m 108 ls [.int s1, .int s0]) := by
            intro b4 s0 s1 M H locs ls h hP hS hl
            rw [f_X12_bestAt_J108] at h
            refine lv_iadd hx hb dX12_bestAt_108 ?_
            refine lv_aload_n hx hb dX12_bestAt_109 rfl (lv_at hl 0 rfl) ?_
            refine gfR_12_31 X hP sR_0 bw_1354 dX12_bestAt_110 ?_
            refine lv_iload_n hx hb dX12_bestAt_113 rfl (lv_at hl 3 rfl) ?_
            obtain ⟨g43, h⟩ := gd_inv h
            refine ldR_ia X hP sR_13 zR_13 g43 dX12_bestAt_114 ?_
            refine lv_icmp_eq (tgt := 124) hx hb dX12_bestAt_115 (by decide) (fun c44 => ?_) (fun c44 => ?_)
            · rw [if_pos c44] at h
              cases h
              exact K66_0 _ _ _ hP hS (lv_sub hl [0, 1, 2, 3, 4, 5] rfl)
            · rw [if_neg c44] at h
              obtain ⟨y45, ey45, h⟩ := lt_inv h
              refine lv_iinc (v := y45) (lv' := [(4, .int y45), (0, .ref (q 0)), (1, .int a1), (2, .int b2), (3, .int b3), (5, .int b5), (6, .int b6)]) hx hb dX12_bestAt_118 hl (k := 4) rfl (by rw [ey45]; rfl) (by decide) rfl (fun ls hl => ?_)
              refine lv_goto (tgt := 66) hx hb dX12_bestAt_121 (by decide) ?_
              exact ih _ _ res _ _ _ h hP hS (lv_sub hl [1, 2, 3, 4, 0, 5, 6] rfl) K66_0
          refine lv_aload_n hx hb dX12_bestAt_66 rfl (lv_at hl 0 rfl) ?_
          refine lv_iload_n hx hb dX12_bestAt_67 rfl (lv_at hl 2 rfl) ?_
          refine lv_iload_n hx hb dX12_bestAt_68 rfl (lv_at hl 3 rfl) ?_
          refine lv_iconst (v := -1) hx hb dX12_bestAt_69 (by decide) ?_
          refine lv_ixor hx hb dX12_bestAt_70 ?_
          refine lv_iand hx hb dX12_bestAt_71 ?_
          refine lv_iload hx hb dX12_bestAt_72 (lv_at hl 4 rfl) ?_
          obtain ⟨r33, M34, hc35, h⟩ := bnd_inv h
          refine gV_i (As := [.int (b2 &&& (b3 ^^^ (-1 : Int32))), .int b4]) X hP hS hl.1 (c_X12_isIn l D cA q aK aV hq hc35) sf_X12_isIn bw_1755 sv_X12_isIn (rcR_12 sR_0) rfl ⟨rfl, rfl⟩ ⟨Nat.le_of_ble_eq_true rfl, Nat.le_of_ble_eq_true rfl⟩ rfl rfl (Nat.le_of_ble_eq_true rfl) dX12_bestAt_74 (fun H locs hP hS => ?_)
          refine lv_if_eq (tgt := 118) hx hb dX12_bestAt_77 (by decide) (fun c36 => ?_) (fun c36 => ?_)
          · rw [if_pos c36] at h
            obtain ⟨y37, ey37, h⟩ := lt_inv h
            refine lv_iinc (v := y37) (lv' := [(4, .int y37), (0, .ref (q 0)), (1, .int a1), (2, .int b2), (3, .int b3), (5, .int b5), (6, .int b6)]) hx hb dX12_bestAt_118 hl (k := 4) rfl (by rw [ey37]; rfl) (by decide) rfl (fun ls hl => ?_)
            refine lv_goto (tgt := 66) hx hb dX12_bestAt_121 (by decide) ?_
            exact ih _ _ res _ _ _ h hP hS (lv_sub hl [1, 2, 3, 4, 0, 5, 6] rfl) K66_0
          · rw [if_neg c36] at h
            refine lv_aload_n hx hb dX12_bestAt_80 rfl (lv_at hl 0 rfl) ?_
            refine gfR_12_31 X hP sR_0 bw_1354 dX12_bestAt_81 ?_
            refine lv_iload_n hx hb dX12_bestAt_84 rfl (lv_at hl 3 rfl) ?_
            refine lv_iconst (v := 1) hx hb dX12_bestAt_85 (by decide) ?_
            refine lv_iload hx hb dX12_bestAt_86 (lv_at hl 4 rfl) ?_
            refine lv_ishl hx hb dX12_bestAt_88 ?_
            refine lv_ior hx hb dX12_bestAt_89 ?_
            obtain ⟨g38, h⟩ := gd_inv h
            refine ldR_ia X hP sR_13 zR_13 g38 dX12_bestAt_90 ?_
            refine lv_aload_n hx hb dX12_bestAt_91 rfl (lv_at hl 0 rfl) ?_
            refine lv_iload hx hb dX12_bestAt_92 (lv_at hl 4 rfl) ?_
            refine lv_iload hx hb dX12_bestAt_94 (lv_at hl 6 rfl) ?_
            obtain ⟨r39, M40, hc41, h⟩ := bnd_inv h
            refine gV_i (As := [.int b4, .int b6]) X hP hS hl.1 (c_X12_senseFor l D cA q aK aV hq hc41) sf_X12_senseFor bw_1992 sv_X12_senseFor (rcR_12 sR_0) rfl ⟨rfl, rfl⟩ ⟨Nat.le_of_ble_eq_true rfl, Nat.le_of_ble_eq_true rfl⟩ rfl rfl (Nat.le_of_ble_eq_true rfl) dX12_bestAt_96 (fun H locs hP hS => ?_)
            refine lv_iconst (v := 2) hx hb dX12_bestAt_99 (by decide) ?_
            refine lv_icmp_ne (tgt := 107) hx hb dX12_bestAt_100 (by decide) (fun c42 => ?_) (fun c42 => ?_)
            · rw [if_neg c42] at h
              refine lv_iconst (v := 0) hx hb dX12_bestAt_107 (by decide) ?_
              exact hJ108 _ _ _ _ _ _ _ h hP hS (lv_sub hl [0, 1, 2, 3, 4, 5, 6] rfl)
            · rw [if_pos c42] at h
              refine lv_iconst (v := 1) hx hb dX12_bestAt_103 (by decide) ?_
              refine lv_goto (tgt := 108) hx hb dX12_bestAt_104 (by decide) ?_
              exact hJ108 _ _ _ _ _ _ _ h hP hS (lv_sub hl [0, 1, 2, 3, 4, 5, 6] rfl)
      refine lv_iload hx hb dX12_bestAt_38 (lv_at hl 5 rfl) ?_
      refine lv_iload_n hx hb dX12_bestAt_40 rfl (lv_at hl 1 rfl) ?_
      refine lv_icmp_gt (tgt := 137) hx hb dX12_bestAt_41 (by decide) (fun c22 => ?_) (fun c22 => ?_)
      · rw [if_pos c22] at h
        cases h
        exact K38_0 _ _ _ hP hS (lv_sub hl [0, 4] rfl)
      · rw [if_neg c22] at h
        refine lv_bipush (v := 9) hx hb dX12_bestAt_44 (by decide) ?_
        refine lv_aload_n hx hb dX12_bestAt_46 rfl (lv_at hl 0 rfl) ?_
        refine gfR_12_0 X hP sR_0 bw_1323 dX12_bestAt_47 ?_
        refine lv_bipush (v := 6) hx hb dX12_bestAt_50 (by decide) ?_
        refine ldR_ia X hP sR_1 zR_1 (by decide) dX12_bestAt_52 ?_
        refine topE (y := (gI M 1 6)) rfl ?_
        refine lv_iload_n hx hb dX12_bestAt_53 rfl (lv_at hl 3 rfl) ?_
        obtain ⟨r23, M24, hc25, h⟩ := bnd_inv h
        refine gS_i (As := [.int b3]) X hP hS hl.1 (c_X12_bits l D cA q aK aV hq hc25) sf_X12_bits bw_1798 ss_X12_bits ⟨rfl, rfl⟩ ⟨Nat.le_of_ble_eq_true rfl, Nat.le_of_ble_eq_true rfl⟩ rfl rfl (Nat.le_of_ble_eq_true rfl) dX12_bestAt_54 (fun H locs hP hS => ?_)
        refine lv_iadd hx hb dX12_bestAt_57 ?_
        obtain ⟨y26, ey26, h⟩ := lt_inv h
        refine va_mmin hx hb (by rw [X.2.2.1]; exact hl.1.symm) X.2.2.2.1 (X.2.2.2.2.1 _ bw_1529) (X.2.2.2.2.1 _ bw_888) (X.2.2.2.2.1 _ bw_18) (X.2.2.2.2.1 _ bw_889) (Nat.le_of_ble_eq_true rfl) (Nat.le_of_ble_eq_true rfl) (Nat.zero_le _) (Nat.zero_le _) dX12_bestAt_58 ?_
        refine topE ey26 ?_
        refine lv_istore (lv' := [(6, .int y26), (0, .ref (q 0)), (1, .int a1), (2, .int b2), (3, .int b3), (4, .int b4), (5, .int b5)]) hx hb dX12_bestAt_61 hl (by decide) rfl (fun ls hl => ?_)
        refine lv_iconst (v := 0) hx hb dX12_bestAt_63 (by decide) ?_
        refine lv_istore (lv' := [(4, .int (0 : Int32)), (6, .int y26), (0, .ref (q 0)), (1, .int a1), (2, .int b2), (3, .int b3), (5, .int b5)]) hx hb dX12_bestAt_64 hl (by decide) rfl (fun ls hl => ?_)
        obtain ⟨s27, M28, hc29, h⟩ := bnd_inv h
        obtain ⟨x30, rfl⟩ : ∃ z, z = s27 := ⟨_, rfl⟩
        try dsimp only at h
        refine hL66 _ _ _ _ fz _ _ _ _ _ _ hc29 hP hS (lv_sub hl [2, 3, 4, 5, 0, 6, 1] rfl) (fun H locs ls hP hS hl => ?_)
        have hl : lv_has ls 7 [(0, .ref (q 0)), (1, .int a1), (2, .int b2), (3, .int b3), (4, .int x30), (5, .int b5)] := hl
        refine lv_iload_n hx hb dX12_bestAt_124 rfl (lv_at hl 3 rfl) ?_
        refine lv_iconst (v := 1) hx hb dX12_bestAt_125 (by decide) ?_
        refine lv_iload hx hb dX12_bestAt_126 (lv_at hl 4 rfl) ?_
        refine lv_ishl hx hb dX12_bestAt_128 ?_
        refine lv_ior hx hb dX12_bestAt_129 ?_
        obtain ⟨y31, ey31, h⟩ := lt_inv h
        refine topE ey31 ?_
        refine lv_istore_n (lv' := [(3, .int y31), (0, .ref (q 0)), (1, .int a1), (2, .int b2), (4, .int x30), (5, .int b5)]) hx hb dX12_bestAt_130 rfl hl (by decide) rfl (fun ls hl => ?_)
        obtain ⟨y32, ey32, h⟩ := lt_inv h
        refine lv_iinc (v := y32) (lv' := [(5, .int y32), (3, .int y31), (0, .ref (q 0)), (1, .int a1), (2, .int b2), (4, .int x30)]) hx hb dX12_bestAt_131 hl (k := 5) rfl (by rw [ey32]; rfl) (by decide) rfl (fun ls hl => ?_)
        refine lv_goto (tgt := 38) hx hb dX12_bestAt_134 (by decide) ?_
        exact ih _ _ _ _ res _ _ _ h hP hS (lv_sub hl [2, 3, 4, 1, 5, 0] rfl) K38_0
  refine lv_iload_n hx hb dX12_bestAt_0 rfl (lv_at hl 1 rfl) ?_
  refine lv_if_ge (tgt := 10) hx hb dX12_bestAt_1 (by decide) (fun c1 => ?_) (fun c1 => ?_)
  · rw [if_pos c1] at h
    refine lv_aload_n hx hb dX12_bestAt_10 rfl (lv_at hl 0 rfl) ?_
    obtain ⟨r2, M3, hc4, h⟩ := bnd_inv h
    refine gV_i (As := []) X hP hS hl.1 (c_X12_laysOrders l D cA q aK aV hq hc4) sf_X12_laysOrders bw_2016 sv_X12_laysOrders (rcR_12 sR_0) rfl ⟨rfl, rfl⟩ ⟨Nat.le_of_ble_eq_true rfl, Nat.le_of_ble_eq_true rfl⟩ rfl rfl (Nat.le_of_ble_eq_true rfl) dX12_bestAt_11 (fun H locs hP hS => ?_)
    refine lv_istore_n (lv' := [(2, .int r2), (0, .ref (q 0)), (1, .int a1)]) hx hb dX12_bestAt_14 rfl hl (by decide) rfl (fun ls hl => ?_)
    refine lv_iload_n hx hb dX12_bestAt_15 rfl (lv_at hl 2 rfl) ?_
    refine lv_iload_n hx hb dX12_bestAt_16 rfl (lv_at hl 0 rfl) ?_
    obtain ⟨r5, M6, hc7, h⟩ := bnd_inv h
    refine gS_i (As := [.int r2]) X hP hS hl.1 (c_X12_bits l D cA q aK aV hq hc7) sf_X12_bits bw_1798 ss_X12_bits ⟨rfl, rfl⟩ ⟨Nat.le_of_ble_eq_true rfl, Nat.le_of_ble_eq_true rfl⟩ rfl rfl (Nat.le_of_ble_eq_true rfl) dX12_bestAt_17 (fun H locs hP hS => ?_)
    refine lv_icmp_lt (tgt := 30) hx hb dX12_bestAt_20 (by decide) (fun c8 => ?_) (fun c8 => ?_)
    · rw [if_pos c8] at h
      refine lv_iconst (v := 0) hx hb dX12_bestAt_30 (by decide) ?_
      refine lv_istore_n (lv' := [(3, .int (0 : Int32)), (2, .int r2), (0, .ref (q 0)), (1, .int a1)]) hx hb dX12_bestAt_31 rfl hl (by decide) rfl (fun ls hl => ?_)
      refine lv_iconst (v := -1) hx hb dX12_bestAt_32 (by decide) ?_
      refine lv_istore (lv' := [(4, .int (-1 : Int32)), (3, .int (0 : Int32)), (2, .int r2), (0, .ref (q 0)), (1, .int a1)]) hx hb dX12_bestAt_33 hl (by decide) rfl (fun ls hl => ?_)
      refine lv_iconst (v := 0) hx hb dX12_bestAt_35 (by decide) ?_
      refine lv_istore (lv' := [(5, .int (0 : Int32)), (4, .int (-1 : Int32)), (3, .int (0 : Int32)), (2, .int r2), (0, .ref (q 0)), (1, .int a1)]) hx hb dX12_bestAt_36 hl (by decide) rfl (fun ls hl => ?_)
      obtain ⟨s9, M10, hc11, h⟩ := bnd_inv h
      obtain ⟨x12, rfl⟩ : ∃ z, z = s9 := ⟨_, rfl⟩
      try dsimp only at h
      refine hL38 _ fz _ _ _ _ _ _ _ _ hc11 hP hS (lv_sub hl [4, 5, 3, 2, 1, 0] rfl) (fun H locs ls hP hS hl => ?_)
      have hl : lv_has ls 7 [(0, .ref (q 0)), (4, .int x12)] := hl
      refine lv_aload_n hx hb dX12_bestAt_137 rfl (lv_at hl 0 rfl) ?_
      refine lv_iload hx hb dX12_bestAt_138 (lv_at hl 1 rfl) ?_
      obtain ⟨r13, M14, hc15, h⟩ := bnd_inv h
      refine gV_i (As := [.int x12]) X hP hS hl.1 (c_X12_gives l D cA q aK aV hq hc15) sf_X12_gives bw_1639 sv_X12_gives (rcR_12 sR_0) rfl ⟨rfl, rfl⟩ ⟨Nat.le_of_ble_eq_true rfl, Nat.le_of_ble_eq_true rfl⟩ rfl rfl (Nat.le_of_ble_eq_true rfl) dX12_bestAt_140 (fun H locs hP hS => ?_)
      exact end_i X hr hk hP hS h dX12_bestAt_143
    · rw [if_neg c8] at h
      refine lv_aload_n hx hb dX12_bestAt_23 rfl (lv_at hl 1 rfl) ?_
      refine lv_bipush (v := 6) hx hb dX12_bestAt_24 (by decide) ?_
      obtain ⟨r16, M17, hc18, h⟩ := bnd_inv h
      refine gV_i (As := [.int (6 : Int32)]) X hP hS hl.1 (c_X12_refuse l D cA q aK aV hq hc18) sf_X12_refuse bw_1530 sv_X12_refuse (rcR_12 sR_0) rfl ⟨rfl, rfl⟩ ⟨Nat.le_of_ble_eq_true rfl, Nat.le_of_ble_eq_true rfl⟩ rfl rfl (Nat.le_of_ble_eq_true rfl) dX12_bestAt_26 (fun H locs hP hS => ?_)
      exact end_i X hr hk hP hS h dX12_bestAt_29
  · rw [if_neg c1] at h
    refine lv_aload_n hx hb dX12_bestAt_4 rfl (lv_at hl 0 rfl) ?_
    refine lv_iconst (v := 1) hx hb dX12_bestAt_5 (by decide) ?_
    obtain ⟨r19, M20, hc21, h⟩ := bnd_inv h
    refine gV_i (As := [.int (1 : Int32)]) X hP hS hl.1 (c_X12_refuse l D cA q aK aV hq hc21) sf_X12_refuse bw_1530 sv_X12_refuse (rcR_12 sR_0) rfl ⟨rfl, rfl⟩ ⟨Nat.le_of_ble_eq_true rfl, Nat.le_of_ble_eq_true rfl⟩ rfl rfl (Nat.le_of_ble_eq_true rfl) dX12_bestAt_6 (fun H locs hP hS => ?_)
    exact end_i X hr hk hP hS h dX12_bestAt_9
theorem dX12_standing_0 : decode cX12_standing 0 = .ok (.iconst 0, 1) := by decide +kernel
theorem dX12_standing_1 : decode cX12_standing 1 = .ok (.istore_n 1, 1) := by decide +kernel
theorem dX12_standing_2 : decode cX12_standing 2 = .ok (.iconst 0, 1) := by decide +kernel
theorem dX12_standing_3 : decode cX12_standing 3 = .ok (.istore_n 2, 1) := by decide +kernel
theorem dX12_standing_4 : decode cX12_standing 4 = .ok (.iload_n 2, 1) := by decide +kernel
theorem dX12_standing_5 : decode cX12_standing 5 = .ok (.aload_n 0, 1) := by decide +kernel
theorem dX12_standing_6 : decode cX12_standing 6 = .ok (.getfield 7, 3) := by decide +kernel
theorem dX12_standing_9 : decode cX12_standing 9 = .ok (.iconst 3, 1) := by decide +kernel
theorem dX12_standing_10 : decode cX12_standing 10 = .ok (.iaload, 1) := by decide +kernel
theorem dX12_standing_11 : decode cX12_standing 11 = .ok (.if_icmp .ge 44, 3) := by decide +kernel
theorem dX12_standing_14 : decode cX12_standing 14 = .ok (.aload_n 0, 1) := by decide +kernel
theorem dX12_standing_15 : decode cX12_standing 15 = .ok (.iload_n 2, 1) := by decide +kernel
theorem dX12_standing_16 : decode cX12_standing 16 = .ok (.aload_n 0, 1) := by decide +kernel
theorem dX12_standing_17 : decode cX12_standing 17 = .ok (.getfield 7, 3) := by decide +kernel
theorem dX12_standing_20 : decode cX12_standing 20 = .ok (.bipush 6, 2) := by decide +kernel
theorem dX12_standing_22 : decode cX12_standing 22 = .ok (.iaload, 1) := by decide +kernel
theorem dX12_standing_23 : decode cX12_standing 23 = .ok (.invokevirtual 443, 3) := by decide +kernel
theorem dX12_standing_26 : decode cX12_standing 26 = .ok (.istore_n 3, 1) := by decide +kernel
theorem dX12_standing_27 : decode cX12_standing 27 = .ok (.iload_n 1, 1) := by decide +kernel
theorem dX12_standing_28 : decode cX12_standing 28 = .ok (.iload_n 3, 1) := by decide +kernel
theorem dX12_standing_29 : decode cX12_standing 29 = .ok (.iconst 2, 1) := by decide +kernel
theorem dX12_standing_30 : decode cX12_standing 30 = .ok (.if_icmp .ne 7, 3) := by decide +kernel
theorem dX12_standing_33 : decode cX12_standing 33 = .ok (.iconst 1, 1) := by decide +kernel
theorem dX12_standing_34 : decode cX12_standing 34 = .ok (.goto 13, 3) := by decide +kernel
theorem dX12_standing_37 : decode cX12_standing 37 = .ok (.iload_n 3, 1) := by decide +kernel
theorem dX12_standing_38 : decode cX12_standing 38 = .ok (.iconst 1, 1) := by decide +kernel
theorem dX12_standing_39 : decode cX12_standing 39 = .ok (.if_icmp .ne 7, 3) := by decide +kernel
theorem dX12_standing_42 : decode cX12_standing 42 = .ok (.iconst (-1), 1) := by decide +kernel
theorem dX12_standing_43 : decode cX12_standing 43 = .ok (.goto 4, 3) := by decide +kernel
theorem dX12_standing_46 : decode cX12_standing 46 = .ok (.iconst 0, 1) := by decide +kernel
theorem dX12_standing_47 : decode cX12_standing 47 = .ok (.iadd, 1) := by decide +kernel
theorem dX12_standing_48 : decode cX12_standing 48 = .ok (.istore_n 1, 1) := by decide +kernel
theorem dX12_standing_49 : decode cX12_standing 49 = .ok (.iinc 2 1, 3) := by decide +kernel
theorem dX12_standing_52 : decode cX12_standing 52 = .ok (.goto (-48), 3) := by decide +kernel
theorem dX12_standing_55 : decode cX12_standing 55 = .ok (.iload_n 1, 1) := by decide +kernel
theorem dX12_standing_56 : decode cX12_standing 56 = .ok (.ireturn, 1) := by decide +kernel
set_option maxRecDepth 100000 in
set_option maxHeartbeats 8000000 in
theorem c_X12_standing (l : Launch) (D : va_G) (cA : Nat → ClassId) (q aK aV : Nat → Nat) (hq : injG 20 q) {M M0 : Mem} {r0 : Int32} (h : f_X12_standing M = some (r0, M0)) : Met l yX12_standing (.code yX12_standing cX12_standing 4 (some .int) :: BW) ({ frames := 8, cells := 0, slots := 0, locals := 174 } : Room) (va_Pc [.ref (q 0)] (CB 20 (ceR cA q) D cA q aK aV M)) (Qi 20 (ceR cA q) D q r0 M0) 0 0 (AqG 20 q) := by
  refine gMet RX12 (by decide +kernel) rfl hq (Nat.le_of_ble_eq_true rfl) ?_
  intro p e s m below meth c ls X hr hk hP hS hl
  have hx := X.1
  have hb := X.2.1
  have hl : lv_has ls 4 [(0, .ref (q 0))] := hl
  rw [f_X12_standing] at h
  have hL4 : ∀ (fu : Nat) (b1 : Int32) (b2 : Int32) (M : Mem) (res : (Int32) × Mem) (H : Heap) (locs : List Loc) (ls : Array Slot), f_X12_standing_L4 fu b1 b2 M = some res → va_P D vwCl (wsG 20 (ceR cA q) q M) H → va_S (AqG 20 q) s.heap H locs → lv_has ls 4 [(0, .ref (q 0)), (1, .int b1), (2, .int b2)] → (∀ (H : Heap) (locs : List Loc) (ls : Array Slot), va_P D vwCl (wsG 20 (ceR cA q) q res.2) H → va_S (AqG 20 q) s.heap H locs → lv_has ls 4 [(1, .int (res.1))] → W p l e ({ frames := 8, cells := 0, slots := 0, locals := 174 } : Room) s m [.ref (q 0)].toArray below meth c H locs 0 0 (MQ below (Qi 20 (ceR cA q) D q r0 M0) [.ref (q 0)].toArray s 0 0 (AqG 20 q)) (F0 m 55 ls [])) → W p l e ({ frames := 8, cells := 0, slots := 0, locals := 174 } : Room) s m [.ref (q 0)].toArray below meth c H locs 0 0 (MQ below (Qi 20 (ceR cA q) D q r0 M0) [.ref (q 0)].toArray s 0 0 (AqG 20 q)) (F0 m 4 ls []) := by
    intro fu
    induction fu with
    | zero => intro b1 b2 M res H locs ls h; exact absurd h (by simp [f_X12_standing_L4])
    | succ fu ih =>
      intro b1 b2 M res H locs ls h hP hS hl K4_0
      rw [f_X12_standing_L4] at h
      refine lv_iload_n hx hb dX12_standing_4 rfl (lv_at hl 2 rfl) ?_
      refine lv_aload_n hx hb dX12_standing_5 rfl (lv_at hl 0 rfl) ?_
      refine gfR_12_0 X hP sR_0 bw_1323 dX12_standing_6 ?_
      refine lv_iconst (v := 3) hx hb dX12_standing_9 (by decide) ?_
      refine ldR_ia X hP sR_1 zR_1 (by decide) dX12_standing_10 ?_
      refine topE (y := (gI M 1 3)) rfl ?_
      refine lv_icmp_ge (tgt := 55) hx hb dX12_standing_11 (by decide) (fun c5 => ?_) (fun c5 => ?_)
      · rw [if_pos c5] at h
        cases h
        exact K4_0 _ _ _ hP hS (lv_sub hl [1] rfl)
      · rw [if_neg c5] at h
        refine lv_aload_n hx hb dX12_standing_14 rfl (lv_at hl 0 rfl) ?_
        refine lv_iload_n hx hb dX12_standing_15 rfl (lv_at hl 2 rfl) ?_
        refine lv_aload_n hx hb dX12_standing_16 rfl (lv_at hl 0 rfl) ?_
        refine gfR_12_0 X hP sR_0 bw_1323 dX12_standing_17 ?_
        refine lv_bipush (v := 6) hx hb dX12_standing_20 (by decide) ?_
        refine ldR_ia X hP sR_1 zR_1 (by decide) dX12_standing_22 ?_
        refine topE (y := (gI M 1 6)) rfl ?_
        obtain ⟨r6, M7, hc8, h⟩ := bnd_inv h
        refine gV_i (As := [.int b2, .int (gI M 1 6)]) X hP hS hl.1 (c_X12_senseFor l D cA q aK aV hq hc8) sf_X12_senseFor bw_1992 sv_X12_senseFor (rcR_12 sR_0) rfl ⟨rfl, rfl⟩ ⟨Nat.le_of_ble_eq_true rfl, Nat.le_of_ble_eq_true rfl⟩ rfl rfl (Nat.le_of_ble_eq_true rfl) dX12_standing_23 (fun H locs hP hS => ?_)
        refine lv_istore_n (lv' := [(3, .int r6), (0, .ref (q 0)), (1, .int b1), (2, .int b2)]) hx hb dX12_standing_26 rfl hl (by decide) rfl (fun ls hl => ?_)
        refine lv_iload_n hx hb dX12_standing_27 rfl (lv_at hl 2 rfl) ?_
        refine lv_iload_n hx hb dX12_standing_28 rfl (lv_at hl 0 rfl) ?_
        refine lv_iconst (v := 2) hx hb dX12_standing_29 (by decide) ?_
        refine lv_icmp_ne (tgt := 37) hx hb dX12_standing_30 (by decide) (fun c9 => ?_) (fun c9 => ?_)
        · rw [if_neg c9] at h
          refine lv_iload_n hx hb dX12_standing_37 rfl (lv_at hl 0 rfl) ?_
          refine lv_iconst (v := 1) hx hb dX12_standing_38 (by decide) ?_
          refine lv_icmp_ne (tgt := 46) hx hb dX12_standing_39 (by decide) (fun c10 => ?_) (fun c10 => ?_)
          · rw [if_neg c10] at h
            refine lv_iconst (v := 0) hx hb dX12_standing_46 (by decide) ?_
            refine lv_iadd hx hb dX12_standing_47 ?_
            obtain ⟨y11, ey11, h⟩ := lt_inv h
            refine topE ey11 ?_
            refine lv_istore_n (lv' := [(1, .int y11), (3, .int r6), (0, .ref (q 0)), (2, .int b2)]) hx hb dX12_standing_48 rfl hl (by decide) rfl (fun ls hl => ?_)
            obtain ⟨y12, ey12, h⟩ := lt_inv h
            refine lv_iinc (v := y12) (lv' := [(2, .int y12), (1, .int y11), (3, .int r6), (0, .ref (q 0))]) hx hb dX12_standing_49 hl (k := 3) rfl (by rw [ey12]; rfl) (by decide) rfl (fun ls hl => ?_)
            refine lv_goto (tgt := 4) hx hb dX12_standing_52 (by decide) ?_
            exact ih _ _ _ res _ _ _ h hP hS (lv_sub hl [3, 1, 0] rfl) K4_0
          · rw [if_pos c10] at h
            refine lv_iconst (v := -1) hx hb dX12_standing_42 (by decide) ?_
            refine lv_goto (tgt := 47) hx hb dX12_standing_43 (by decide) ?_
            refine lv_iadd hx hb dX12_standing_47 ?_
            obtain ⟨y13, ey13, h⟩ := lt_inv h
            refine topE ey13 ?_
            refine lv_istore_n (lv' := [(1, .int y13), (3, .int r6), (0, .ref (q 0)), (2, .int b2)]) hx hb dX12_standing_48 rfl hl (by decide) rfl (fun ls hl => ?_)
            obtain ⟨y14, ey14, h⟩ := lt_inv h
            refine lv_iinc (v := y14) (lv' := [(2, .int y14), (1, .int y13), (3, .int r6), (0, .ref (q 0))]) hx hb dX12_standing_49 hl (k := 3) rfl (by rw [ey14]; rfl) (by decide) rfl (fun ls hl => ?_)
            refine lv_goto (tgt := 4) hx hb dX12_standing_52 (by decide) ?_
            exact ih _ _ _ res _ _ _ h hP hS (lv_sub hl [3, 1, 0] rfl) K4_0
        · rw [if_pos c9] at h
          refine lv_iconst (v := 1) hx hb dX12_standing_33 (by decide) ?_
          refine lv_goto (tgt := 47) hx hb dX12_standing_34 (by decide) ?_
          refine lv_iadd hx hb dX12_standing_47 ?_
          obtain ⟨y15, ey15, h⟩ := lt_inv h
          refine topE ey15 ?_
          refine lv_istore_n (lv' := [(1, .int y15), (3, .int r6), (0, .ref (q 0)), (2, .int b2)]) hx hb dX12_standing_48 rfl hl (by decide) rfl (fun ls hl => ?_)
          obtain ⟨y16, ey16, h⟩ := lt_inv h
          refine lv_iinc (v := y16) (lv' := [(2, .int y16), (1, .int y15), (3, .int r6), (0, .ref (q 0))]) hx hb dX12_standing_49 hl (k := 3) rfl (by rw [ey16]; rfl) (by decide) rfl (fun ls hl => ?_)
          refine lv_goto (tgt := 4) hx hb dX12_standing_52 (by decide) ?_
          exact ih _ _ _ res _ _ _ h hP hS (lv_sub hl [3, 1, 0] rfl) K4_0
  refine lv_iconst (v := 0) hx hb dX12_standing_0 (by decide) ?_
  refine lv_istore_n (lv' := [(1, .int (0 : Int32)), (0, .ref (q 0))]) hx hb dX12_standing_1 rfl hl (by decide) rfl (fun ls hl => ?_)
  refine lv_iconst (v := 0) hx hb dX12_standing_2 (by decide) ?_
  refine lv_istore_n (lv' := [(2, .int (0 : Int32)), (1, .int (0 : Int32)), (0, .ref (q 0))]) hx hb dX12_standing_3 rfl hl (by decide) rfl (fun ls hl => ?_)
  obtain ⟨s1, M2, hc3, h⟩ := bnd_inv h
  obtain ⟨x4, rfl⟩ : ∃ z, z = s1 := ⟨_, rfl⟩
  try dsimp only at h
  refine hL4  fz _ _ _ _ _ _ _ hc3 hP hS (lv_sub hl [2, 1, 0] rfl) (fun H locs ls hP hS hl => ?_)
  have hl : lv_has ls 4 [(1, .int x4)] := hl
  refine lv_iload_n hx hb dX12_standing_55 rfl (lv_at hl 0 rfl) ?_
  exact end_i X hr hk hP hS h dX12_standing_56
