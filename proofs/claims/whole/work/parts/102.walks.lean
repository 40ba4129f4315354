theorem dX4_readWord_0 : decode cX4_readWord 0 = .ok (.aload_n 0, 1) := by decide +kernel
theorem dX4_readWord_1 : decode cX4_readWord 1 = .ok (.invokevirtual 88, 3) := by decide +kernel
theorem dX4_readWord_4 : decode cX4_readWord 4 = .ok (.istore_n 2, 1) := by decide +kernel
theorem dX4_readWord_5 : decode cX4_readWord 5 = .ok (.iload_n 2, 1) := by decide +kernel
theorem dX4_readWord_6 : decode cX4_readWord 6 = .ok (.ifCond .ne 12, 3) := by decide +kernel
theorem dX4_readWord_9 : decode cX4_readWord 9 = .ok (.aload_n 0, 1) := by decide +kernel
theorem dX4_readWord_10 : decode cX4_readWord 10 = .ok (.getfield 28, 3) := by decide +kernel
theorem dX4_readWord_13 : decode cX4_readWord 13 = .ok (.iconst 2, 1) := by decide +kernel
theorem dX4_readWord_14 : decode cX4_readWord 14 = .ok (.invokevirtual 57, 3) := by decide +kernel
theorem dX4_readWord_17 : decode cX4_readWord 17 = .ok (.ireturn, 1) := by decide +kernel
theorem dX4_readWord_18 : decode cX4_readWord 18 = .ok (.aload_n 1, 1) := by decide +kernel
theorem dX4_readWord_19 : decode cX4_readWord 19 = .ok (.iconst 5, 1) := by decide +kernel
theorem dX4_readWord_20 : decode cX4_readWord 20 = .ok (.invokevirtual 99, 3) := by decide +kernel
theorem dX4_readWord_23 : decode cX4_readWord 23 = .ok (.istore_n 3, 1) := by decide +kernel
theorem dX4_readWord_24 : decode cX4_readWord 24 = .ok (.aload_n 1, 1) := by decide +kernel
theorem dX4_readWord_25 : decode cX4_readWord 25 = .ok (.getfield 182, 3) := by decide +kernel
theorem dX4_readWord_28 : decode cX4_readWord 28 = .ok (.iload_n 3, 1) := by decide +kernel
theorem dX4_readWord_29 : decode cX4_readWord 29 = .ok (.aload_n 0, 1) := by decide +kernel
theorem dX4_readWord_30 : decode cX4_readWord 30 = .ok (.getfield 19, 3) := by decide +kernel
theorem dX4_readWord_33 : decode cX4_readWord 33 = .ok (.invokestatic 95, 3) := by decide +kernel
theorem dX4_readWord_36 : decode cX4_readWord 36 = .ok (.aload_n 1, 1) := by decide +kernel
theorem dX4_readWord_37 : decode cX4_readWord 37 = .ok (.getfield 185, 3) := by decide +kernel
theorem dX4_readWord_40 : decode cX4_readWord 40 = .ok (.iload_n 3, 1) := by decide +kernel
theorem dX4_readWord_41 : decode cX4_readWord 41 = .ok (.iload_n 2, 1) := by decide +kernel
theorem dX4_readWord_42 : decode cX4_readWord 42 = .ok (.invokestatic 95, 3) := by decide +kernel
theorem dX4_readWord_45 : decode cX4_readWord 45 = .ok (.aload_n 0, 1) := by decide +kernel
theorem dX4_readWord_46 : decode cX4_readWord 46 = .ok (.getfield 28, 3) := by decide +kernel
theorem dX4_readWord_49 : decode cX4_readWord 49 = .ok (.invokevirtual 63, 3) := by decide +kernel
theorem dX4_readWord_52 : decode cX4_readWord 52 = .ok (.iconst 1, 1) := by decide +kernel
theorem dX4_readWord_53 : decode cX4_readWord 53 = .ok (.ireturn, 1) := by decide +kernel
set_option maxRecDepth 100000 in
set_option maxHeartbeats 8000000 in
theorem c_X4_readWord (l : Launch) (D : va_G) (cA : Nat → ClassId) (q aK aV : Nat → Nat) (hq : injG 167 q) {a1 : Nat} {M M0 : Mem} {r0 : Int32} (h1 : shC a1 = 0) (h : f_X4_readWord a1 M = some (r0, M0)) : Met l yX4_readWord (.code yX4_readWord cX4_readWord 4 (some .boolean) :: BW) ({ frames := 3, cells := 0, slots := 0, locals := 58 } : Room) (va_Pc [.ref (q 16), .ref (q a1)] (CB 167 (ceC cA q) D cA q aK aV M)) (Qi 167 (ceC cA q) D q r0 M0) 0 0 (AqG 167 q) := by
  refine gMet RX4 (by decide +kernel) rfl hq (Nat.le_of_ble_eq_true rfl) ?_
  intro p e s m below meth c ls X hr hk hP hS hl
  have hx := X.1
  have hb := X.2.1
  have hl : lv_has ls 4 [(0, .ref (q 16)), (1, .ref (q a1))] := hl
  rw [f_X4_readWord] at h
  refine lv_aload_n hx hb dX4_readWord_0 rfl (lv_at hl 0 rfl) ?_
  obtain ⟨r1, M2, hc3, h⟩ := bnd_inv h
  refine gV_i (As := []) X hP hS hl.1 (c_X4_guiltHere l D cA q aK aV hq hc3) sf_X4_guiltHere bw_693 sv_X4_guiltHere (rcC_4 sC_16) rfl ⟨rfl, rfl⟩ ⟨Nat.le_of_ble_eq_true rfl, Nat.le_of_ble_eq_true rfl⟩ rfl rfl (Nat.le_of_ble_eq_true rfl) dX4_readWord_1 (fun H locs hP hS => ?_)
  refine lv_istore_n (lv' := [(2, .int r1), (0, .ref (q 16)), (1, .ref (q a1))]) hx hb dX4_readWord_4 rfl hl (by decide) rfl (fun ls hl => ?_)
  refine lv_iload_n hx hb dX4_readWord_5 rfl (lv_at hl 0 rfl) ?_
  refine lv_if_ne (tgt := 18) hx hb dX4_readWord_6 (by decide) (fun c4 => ?_) (fun c4 => ?_)
  · rw [if_neg c4] at h
    refine lv_aload_n hx hb dX4_readWord_18 rfl (lv_at hl 2 rfl) ?_
    refine lv_iconst (v := 5) hx hb dX4_readWord_19 (by decide) ?_
    obtain ⟨r5, M6, hc7, h⟩ := bnd_inv h
    refine gV_i (As := [.int (5 : Int32)]) X hP hS hl.1 (c_X0_addOne l D cA q aK aV hq h1 hc7) sf_X0_addOne bw_672 sv_X0_addOne (rcC_0 h1) rfl ⟨rfl, rfl⟩ ⟨Nat.le_of_ble_eq_true rfl, Nat.le_of_ble_eq_true rfl⟩ rfl rfl (Nat.le_of_ble_eq_true rfl) dX4_readWord_20 (fun H locs hP hS => ?_)
    refine lv_istore_n (lv' := [(3, .int r5), (2, .int r1), (0, .ref (q 16)), (1, .ref (q a1))]) hx hb dX4_readWord_23 rfl hl (by decide) rfl (fun ls hl => ?_)
    refine lv_aload_n hx hb dX4_readWord_24 rfl (lv_at hl 3 rfl) ?_
    refine gfC_0_7 X hP h1 bw_157 dX4_readWord_25 ?_
    refine lv_iload_n hx hb dX4_readWord_28 rfl (lv_at hl 0 rfl) ?_
    refine lv_aload_n hx hb dX4_readWord_29 rfl (lv_at hl 2 rfl) ?_
    refine gfC_4_3 X hP sC_16 bw_332 dX4_readWord_30 ?_
    obtain ⟨_, M9, hc10, h⟩ := bnd_inv h
    refine gSN_v (As := [.ref (q (a1 + 22)), .int r5, .int (gI M6 16 3)]) X hP hS hl.1 (c_X11_put l D cA q aK aV hq ((kC_0_7 h1).1) hc10) sf_X11_put nw_14 ss_X11_put ⟨rfl, rfl⟩ ⟨Nat.le_of_ble_eq_true rfl, Nat.le_of_ble_eq_true rfl⟩ rfl rfl (Nat.le_of_ble_eq_true rfl) dX4_readWord_33 (fun H locs hP hS => ?_)
    refine lv_aload_n hx hb dX4_readWord_36 rfl (lv_at hl 3 rfl) ?_
    refine gfC_0_8 X hP h1 bw_160 dX4_readWord_37 ?_
    refine lv_iload_n hx hb dX4_readWord_40 rfl (lv_at hl 0 rfl) ?_
    refine lv_iload_n hx hb dX4_readWord_41 rfl (lv_at hl 1 rfl) ?_
    obtain ⟨_, M12, hc13, h⟩ := bnd_inv h
    refine gSN_v (As := [.ref (q (a1 + 23)), .int r5, .int r1]) X hP hS hl.1 (c_X11_put l D cA q aK aV hq ((kC_0_8 h1).1) hc13) sf_X11_put nw_14 ss_X11_put ⟨rfl, rfl⟩ ⟨Nat.le_of_ble_eq_true rfl, Nat.le_of_ble_eq_true rfl⟩ rfl rfl (Nat.le_of_ble_eq_true rfl) dX4_readWord_42 (fun H locs hP hS => ?_)
    refine lv_aload_n hx hb dX4_readWord_45 rfl (lv_at hl 2 rfl) ?_
    refine gfC_4_0 X hP sC_16 bw_329 dX4_readWord_46 ?_
    obtain ⟨_, M15, hc16, h⟩ := bnd_inv h
    refine gV_v (As := []) X hP hS hl.1 (c_X7_goOn l D cA q aK aV hq hc16) sf_X7_goOn bw_654 sv_X7_goOn (rcC_7 sC_13) rfl ⟨rfl, rfl⟩ ⟨Nat.le_of_ble_eq_true rfl, Nat.le_of_ble_eq_true rfl⟩ rfl rfl (Nat.le_of_ble_eq_true rfl) dX4_readWord_49 (fun H locs hP hS => ?_)
    refine lv_iconst (v := 1) hx hb dX4_readWord_52 (by decide) ?_
    exact end_z X hr hk hP hS (Or.inr rfl) h dX4_readWord_53
  · rw [if_pos c4] at h
    refine lv_aload_n hx hb dX4_readWord_9 rfl (lv_at hl 1 rfl) ?_
    refine gfC_4_0 X hP sC_16 bw_329 dX4_readWord_10 ?_
    refine lv_iconst (v := 2) hx hb dX4_readWord_13 (by decide) ?_
    obtain ⟨r17, M18, hc19, h⟩ := bnd_inv h
    refine gV_i (As := [.int (2 : Int32)]) X hP hS hl.1 (c_X7_refuse l D cA q aK aV hq hc19) sf_X7_refuse bw_637 sv_X7_refuse (rcC_7 sC_13) rfl ⟨rfl, rfl⟩ ⟨Nat.le_of_ble_eq_true rfl, Nat.le_of_ble_eq_true rfl⟩ rfl rfl (Nat.le_of_ble_eq_true rfl) dX4_readWord_14 (fun H locs hP hS => ?_)
    obtain ⟨g20, h⟩ := gd_inv h
    exact end_z X hr hk hP hS (Decidable.not_not.mp g20) h dX4_readWord_17
theorem dX4_readPart_0 : decode cX4_readPart 0 = .ok (.iload_n 1, 1) := by decide +kernel
theorem dX4_readPart_1 : decode cX4_readPart 1 = .ok (.tableswitch 134 0 4 #[35, 42, 65, 88, 111], 35) := by decide +kernel
theorem dX4_readPart_36 : decode cX4_readPart 36 = .ok (.aload_n 0, 1) := by decide +kernel
theorem dX4_readPart_37 : decode cX4_readPart 37 = .ok (.iconst 0, 1) := by decide +kernel
theorem dX4_readPart_38 : decode cX4_readPart 38 = .ok (.aload_n 2, 1) := by decide +kernel
theorem dX4_readPart_39 : decode cX4_readPart 39 = .ok (.invokevirtual 66, 3) := by decide +kernel
theorem dX4_readPart_42 : decode cX4_readPart 42 = .ok (.ireturn, 1) := by decide +kernel
theorem dX4_readPart_43 : decode cX4_readPart 43 = .ok (.aload_n 0, 1) := by decide +kernel
theorem dX4_readPart_44 : decode cX4_readPart 44 = .ok (.iconst 1, 1) := by decide +kernel
theorem dX4_readPart_45 : decode cX4_readPart 45 = .ok (.aload_n 2, 1) := by decide +kernel
theorem dX4_readPart_46 : decode cX4_readPart 46 = .ok (.invokevirtual 66, 3) := by decide +kernel
theorem dX4_readPart_49 : decode cX4_readPart 49 = .ok (.ifCond .eq 15, 3) := by decide +kernel
theorem dX4_readPart_52 : decode cX4_readPart 52 = .ok (.aload_n 0, 1) := by decide +kernel
theorem dX4_readPart_53 : decode cX4_readPart 53 = .ok (.aload_n 2, 1) := by decide +kernel
theorem dX4_readPart_54 : decode cX4_readPart 54 = .ok (.invokevirtual 69, 3) := by decide +kernel
theorem dX4_readPart_57 : decode cX4_readPart 57 = .ok (.ifCond .eq 7, 3) := by decide +kernel
theorem dX4_readPart_60 : decode cX4_readPart 60 = .ok (.iconst 1, 1) := by decide +kernel
theorem dX4_readPart_61 : decode cX4_readPart 61 = .ok (.goto 4, 3) := by decide +kernel
theorem dX4_readPart_64 : decode cX4_readPart 64 = .ok (.iconst 0, 1) := by decide +kernel
theorem dX4_readPart_65 : decode cX4_readPart 65 = .ok (.ireturn, 1) := by decide +kernel
theorem dX4_readPart_66 : decode cX4_readPart 66 = .ok (.aload_n 0, 1) := by decide +kernel
theorem dX4_readPart_67 : decode cX4_readPart 67 = .ok (.iconst 1, 1) := by decide +kernel
theorem dX4_readPart_68 : decode cX4_readPart 68 = .ok (.aload_n 2, 1) := by decide +kernel
theorem dX4_readPart_69 : decode cX4_readPart 69 = .ok (.invokevirtual 73, 3) := by decide +kernel
theorem dX4_readPart_72 : decode cX4_readPart 72 = .ok (.ifCond .eq 15, 3) := by decide +kernel
theorem dX4_readPart_75 : decode cX4_readPart 75 = .ok (.aload_n 0, 1) := by decide +kernel
theorem dX4_readPart_76 : decode cX4_readPart 76 = .ok (.aload_n 2, 1) := by decide +kernel
theorem dX4_readPart_77 : decode cX4_readPart 77 = .ok (.invokevirtual 76, 3) := by decide +kernel
theorem dX4_readPart_80 : decode cX4_readPart 80 = .ok (.ifCond .eq 7, 3) := by decide +kernel
theorem dX4_readPart_83 : decode cX4_readPart 83 = .ok (.iconst 1, 1) := by decide +kernel
theorem dX4_readPart_84 : decode cX4_readPart 84 = .ok (.goto 4, 3) := by decide +kernel
theorem dX4_readPart_87 : decode cX4_readPart 87 = .ok (.iconst 0, 1) := by decide +kernel
theorem dX4_readPart_88 : decode cX4_readPart 88 = .ok (.ireturn, 1) := by decide +kernel
theorem dX4_readPart_89 : decode cX4_readPart 89 = .ok (.aload_n 0, 1) := by decide +kernel
theorem dX4_readPart_90 : decode cX4_readPart 90 = .ok (.iconst 3, 1) := by decide +kernel
theorem dX4_readPart_91 : decode cX4_readPart 91 = .ok (.aload_n 2, 1) := by decide +kernel
theorem dX4_readPart_92 : decode cX4_readPart 92 = .ok (.invokevirtual 66, 3) := by decide +kernel
theorem dX4_readPart_95 : decode cX4_readPart 95 = .ok (.ifCond .eq 15, 3) := by decide +kernel
theorem dX4_readPart_98 : decode cX4_readPart 98 = .ok (.aload_n 0, 1) := by decide +kernel
theorem dX4_readPart_99 : decode cX4_readPart 99 = .ok (.aload_n 2, 1) := by decide +kernel
theorem dX4_readPart_100 : decode cX4_readPart 100 = .ok (.invokevirtual 79, 3) := by decide +kernel
theorem dX4_readPart_103 : decode cX4_readPart 103 = .ok (.ifCond .eq 7, 3) := by decide +kernel
theorem dX4_readPart_106 : decode cX4_readPart 106 = .ok (.iconst 1, 1) := by decide +kernel
theorem dX4_readPart_107 : decode cX4_readPart 107 = .ok (.goto 4, 3) := by decide +kernel
theorem dX4_readPart_110 : decode cX4_readPart 110 = .ok (.iconst 0, 1) := by decide +kernel
theorem dX4_readPart_111 : decode cX4_readPart 111 = .ok (.ireturn, 1) := by decide +kernel
theorem dX4_readPart_112 : decode cX4_readPart 112 = .ok (.aload_n 0, 1) := by decide +kernel
theorem dX4_readPart_113 : decode cX4_readPart 113 = .ok (.iconst 4, 1) := by decide +kernel
theorem dX4_readPart_114 : decode cX4_readPart 114 = .ok (.aload_n 2, 1) := by decide +kernel
theorem dX4_readPart_115 : decode cX4_readPart 115 = .ok (.invokevirtual 66, 3) := by decide +kernel
theorem dX4_readPart_118 : decode cX4_readPart 118 = .ok (.ifCond .eq 15, 3) := by decide +kernel
theorem dX4_readPart_121 : decode cX4_readPart 121 = .ok (.aload_n 0, 1) := by decide +kernel
theorem dX4_readPart_122 : decode cX4_readPart 122 = .ok (.aload_n 2, 1) := by decide +kernel
theorem dX4_readPart_123 : decode cX4_readPart 123 = .ok (.invokevirtual 82, 3) := by decide +kernel
theorem dX4_readPart_126 : decode cX4_readPart 126 = .ok (.ifCond .eq 7, 3) := by decide +kernel
theorem dX4_readPart_129 : decode cX4_readPart 129 = .ok (.iconst 1, 1) := by decide +kernel
theorem dX4_readPart_130 : decode cX4_readPart 130 = .ok (.goto 4, 3) := by decide +kernel
theorem dX4_readPart_133 : decode cX4_readPart 133 = .ok (.iconst 0, 1) := by decide +kernel
theorem dX4_readPart_134 : decode cX4_readPart 134 = .ok (.ireturn, 1) := by decide +kernel
theorem dX4_readPart_135 : decode cX4_readPart 135 = .ok (.aload_n 0, 1) := by decide +kernel
theorem dX4_readPart_136 : decode cX4_readPart 136 = .ok (.iconst 3, 1) := by decide +kernel
theorem dX4_readPart_137 : decode cX4_readPart 137 = .ok (.aload_n 2, 1) := by decide +kernel
theorem dX4_readPart_138 : decode cX4_readPart 138 = .ok (.invokevirtual 73, 3) := by decide +kernel
theorem dX4_readPart_141 : decode cX4_readPart 141 = .ok (.ifCond .eq 15, 3) := by decide +kernel
theorem dX4_readPart_144 : decode cX4_readPart 144 = .ok (.aload_n 0, 1) := by decide +kernel
theorem dX4_readPart_145 : decode cX4_readPart 145 = .ok (.aload_n 2, 1) := by decide +kernel
theorem dX4_readPart_146 : decode cX4_readPart 146 = .ok (.invokevirtual 85, 3) := by decide +kernel
theorem dX4_readPart_149 : decode cX4_readPart 149 = .ok (.ifCond .eq 7, 3) := by decide +kernel
theorem dX4_readPart_152 : decode cX4_readPart 152 = .ok (.iconst 1, 1) := by decide +kernel
theorem dX4_readPart_153 : decode cX4_readPart 153 = .ok (.goto 4, 3) := by decide +kernel
theorem dX4_readPart_156 : decode cX4_readPart 156 = .ok (.iconst 0, 1) := by decide +kernel
theorem dX4_readPart_157 : decode cX4_readPart 157 = .ok (.ireturn, 1) := by decide +kernel
set_option maxRecDepth 100000 in
set_option maxHeartbeats 8000000 in
theorem c_X4_readPart (l : Launch) (D : va_G) (cA : Nat → ClassId) (q aK aV : Nat → Nat) (hq : injG 167 q) {a1 : Int32} {a2 : Nat} {M M0 : Mem} {r0 : Int32} (h2 : shC a2 = 0) (h : f_X4_readPart a1 a2 M = some (r0, M0)) : Met l yX4_readPart (.code yX4_readPart cX4_readPart 3 (some .boolean) :: BW) ({ frames := 6, cells := 0, slots := 0, locals := 123 } : Room) (va_Pc [.ref (q 16), .int a1, .ref (q a2)] (CB 167 (ceC cA q) D cA q aK aV M)) (Qi 167 (ceC cA q) D q r0 M0) 0 0 (AqG 167 q) := by
  refine gMet RX4 (by decide +kernel) rfl hq (Nat.le_of_ble_eq_true rfl) ?_
  intro p e s m below meth c ls X hr hk hP hS hl
  have hx := X.1
  have hb := X.2.1
  have hl : lv_has ls 3 [(0, .ref (q 16)), (1, .int a1), (2, .ref (q a2))] := hl
  rw [f_X4_readPart] at h
  refine lv_iload_n hx hb dX4_readPart_0 rfl (lv_at hl 1 rfl) ?_
  by_cases c5 : a1 = 0
  · rw [if_pos c5] at h
    refine lv_tableIn (tgt := 36) hx hb dX4_readPart_1 (by rw [c5]; decide) (by rw [c5]; decide) (by rw [c5]; rfl) (by decide) ?_
    refine lv_aload_n hx hb dX4_readPart_36 rfl (lv_at hl 0 rfl) ?_
    refine lv_iconst (v := 0) hx hb dX4_readPart_37 (by decide) ?_
    refine lv_aload_n hx hb dX4_readPart_38 rfl (lv_at hl 2 rfl) ?_
    obtain ⟨r1, M2, hc3, h⟩ := bnd_inv h
    refine gV_i (As := [.int (0 : Int32), .ref (q a2)]) X hP hS hl.1 (c_X4_takeNewName l D cA q aK aV hq h2 hc3) sf_X4_takeNewName bw_659 sv_X4_takeNewName (rcC_4 sC_16) rfl ⟨rfl, rfl⟩ ⟨Nat.le_of_ble_eq_true rfl, Nat.le_of_ble_eq_true rfl⟩ rfl rfl (Nat.le_of_ble_eq_true rfl) dX4_readPart_39 (fun H locs hP hS => ?_)
    obtain ⟨g4, h⟩ := gd_inv h
    exact end_z X hr hk hP hS (Decidable.not_not.mp g4) h dX4_readPart_42
  rw [if_neg c5] at h
  by_cases c14 : a1 = 1
  · rw [if_pos c14] at h
    refine lv_tableIn (tgt := 43) hx hb dX4_readPart_1 (by rw [c14]; decide) (by rw [c14]; decide) (by rw [c14]; rfl) (by decide) ?_
    refine lv_aload_n hx hb dX4_readPart_43 rfl (lv_at hl 0 rfl) ?_
    refine lv_iconst (v := 1) hx hb dX4_readPart_44 (by decide) ?_
    refine lv_aload_n hx hb dX4_readPart_45 rfl (lv_at hl 2 rfl) ?_
    obtain ⟨r6, M7, hc8, h⟩ := bnd_inv h
    refine gV_i (As := [.int (1 : Int32), .ref (q a2)]) X hP hS hl.1 (c_X4_takeNewName l D cA q aK aV hq h2 hc8) sf_X4_takeNewName bw_659 sv_X4_takeNewName (rcC_4 sC_16) rfl ⟨rfl, rfl⟩ ⟨Nat.le_of_ble_eq_true rfl, Nat.le_of_ble_eq_true rfl⟩ rfl rfl (Nat.le_of_ble_eq_true rfl) dX4_readPart_46 (fun H locs hP hS => ?_)
    refine lv_if_eq (tgt := 64) hx hb dX4_readPart_49 (by decide) (fun c9 => ?_) (fun c9 => ?_)
    · rw [if_pos c9] at h
      refine lv_iconst (v := 0) hx hb dX4_readPart_64 (by decide) ?_
      exact end_z X hr hk hP hS (Or.inl rfl) h dX4_readPart_65
    · rw [if_neg c9] at h
      refine lv_aload_n hx hb dX4_readPart_52 rfl (lv_at hl 0 rfl) ?_
      refine lv_aload_n hx hb dX4_readPart_53 rfl (lv_at hl 2 rfl) ?_
      obtain ⟨r10, M11, hc12, h⟩ := bnd_inv h
      refine gV_i (As := [.ref (q a2)]) X hP hS hl.1 (c_X4_readSense l D cA q aK aV hq h2 hc12) sf_X4_readSense bw_681 sv_X4_readSense (rcC_4 sC_16) rfl ⟨rfl, rfl⟩ ⟨Nat.le_of_ble_eq_true rfl, Nat.le_of_ble_eq_true rfl⟩ rfl rfl (Nat.le_of_ble_eq_true rfl) dX4_readPart_54 (fun H locs hP hS => ?_)
      refine lv_if_eq (tgt := 64) hx hb dX4_readPart_57 (by decide) (fun c13 => ?_) (fun c13 => ?_)
      · rw [if_pos c13] at h
        refine lv_iconst (v := 0) hx hb dX4_readPart_64 (by decide) ?_
        exact end_z X hr hk hP hS (Or.inl rfl) h dX4_readPart_65
      · rw [if_neg c13] at h
        refine lv_iconst (v := 1) hx hb dX4_readPart_60 (by decide) ?_
        refine lv_goto (tgt := 65) hx hb dX4_readPart_61 (by decide) ?_
        exact end_z X hr hk hP hS (Or.inr rfl) h dX4_readPart_65
  rw [if_neg c14] at h
  by_cases c23 : a1 = 2
  · rw [if_pos c23] at h
    refine lv_tableIn (tgt := 66) hx hb dX4_readPart_1 (by rw [c23]; decide) (by rw [c23]; decide) (by rw [c23]; rfl) (by decide) ?_
    refine lv_aload_n hx hb dX4_readPart_66 rfl (lv_at hl 0 rfl) ?_
    refine lv_iconst (v := 1) hx hb dX4_readPart_67 (by decide) ?_
    refine lv_aload_n hx hb dX4_readPart_68 rfl (lv_at hl 2 rfl) ?_
    obtain ⟨r15, M16, hc17, h⟩ := bnd_inv h
    refine gV_i (As := [.int (1 : Int32), .ref (q a2)]) X hP hS hl.1 (c_X4_takeName l D cA q aK aV hq h2 hc17) sf_X4_takeName bw_698 sv_X4_takeName (rcC_4 sC_16) rfl ⟨rfl, rfl⟩ ⟨Nat.le_of_ble_eq_true rfl, Nat.le_of_ble_eq_true rfl⟩ rfl rfl (Nat.le_of_ble_eq_true rfl) dX4_readPart_69 (fun H locs hP hS => ?_)
    refine lv_if_eq (tgt := 87) hx hb dX4_readPart_72 (by decide) (fun c18 => ?_) (fun c18 => ?_)
    · rw [if_pos c18] at h
      refine lv_iconst (v := 0) hx hb dX4_readPart_87 (by decide) ?_
      exact end_z X hr hk hP hS (Or.inl rfl) h dX4_readPart_88
    · rw [if_neg c18] at h
      refine lv_aload_n hx hb dX4_readPart_75 rfl (lv_at hl 0 rfl) ?_
      refine lv_aload_n hx hb dX4_readPart_76 rfl (lv_at hl 2 rfl) ?_
      obtain ⟨r19, M20, hc21, h⟩ := bnd_inv h
      refine gV_i (As := [.ref (q a2)]) X hP hS hl.1 (c_X4_readRule l D cA q aK aV hq h2 hc21) sf_X4_readRule bw_703 sv_X4_readRule (rcC_4 sC_16) rfl ⟨rfl, rfl⟩ ⟨Nat.le_of_ble_eq_true rfl, Nat.le_of_ble_eq_true rfl⟩ rfl rfl (Nat.le_of_ble_eq_true rfl) dX4_readPart_77 (fun H locs hP hS => ?_)
      refine lv_if_eq (tgt := 87) hx hb dX4_readPart_80 (by decide) (fun c22 => ?_) (fun c22 => ?_)
      · rw [if_pos c22] at h
        refine lv_iconst (v := 0) hx hb dX4_readPart_87 (by decide) ?_
        exact end_z X hr hk hP hS (Or.inl rfl) h dX4_readPart_88
      · rw [if_neg c22] at h
        refine lv_iconst (v := 1) hx hb dX4_readPart_83 (by decide) ?_
        refine lv_goto (tgt := 88) hx hb dX4_readPart_84 (by decide) ?_
        exact end_z X hr hk hP hS (Or.inr rfl) h dX4_readPart_88
  rw [if_neg c23] at h
  by_cases c32 : a1 = 3
  · rw [if_pos c32] at h
    refine lv_tableIn (tgt := 89) hx hb dX4_readPart_1 (by rw [c32]; decide) (by rw [c32]; decide) (by rw [c32]; rfl) (by decide) ?_
    refine lv_aload_n hx hb dX4_readPart_89 rfl (lv_at hl 0 rfl) ?_
    refine lv_iconst (v := 3) hx hb dX4_readPart_90 (by decide) ?_
    refine lv_aload_n hx hb dX4_readPart_91 rfl (lv_at hl 2 rfl) ?_
    obtain ⟨r24, M25, hc26, h⟩ := bnd_inv h
    refine gV_i (As := [.int (3 : Int32), .ref (q a2)]) X hP hS hl.1 (c_X4_takeNewName l D cA q aK aV hq h2 hc26) sf_X4_takeNewName bw_659 sv_X4_takeNewName (rcC_4 sC_16) rfl ⟨rfl, rfl⟩ ⟨Nat.le_of_ble_eq_true rfl, Nat.le_of_ble_eq_true rfl⟩ rfl rfl (Nat.le_of_ble_eq_true rfl) dX4_readPart_92 (fun H locs hP hS => ?_)
    refine lv_if_eq (tgt := 110) hx hb dX4_readPart_95 (by decide) (fun c27 => ?_) (fun c27 => ?_)
    · rw [if_pos c27] at h
      refine lv_iconst (v := 0) hx hb dX4_readPart_110 (by decide) ?_
      exact end_z X hr hk hP hS (Or.inl rfl) h dX4_readPart_111
    · rw [if_neg c27] at h
      refine lv_aload_n hx hb dX4_readPart_98 rfl (lv_at hl 0 rfl) ?_
      refine lv_aload_n hx hb dX4_readPart_99 rfl (lv_at hl 2 rfl) ?_
      obtain ⟨r28, M29, hc30, h⟩ := bnd_inv h
      refine gV_i (As := [.ref (q a2)]) X hP hS hl.1 (c_X4_readPerson l D cA q aK aV hq h2 hc30) sf_X4_readPerson bw_723 sv_X4_readPerson (rcC_4 sC_16) rfl ⟨rfl, rfl⟩ ⟨Nat.le_of_ble_eq_true rfl, Nat.le_of_ble_eq_true rfl⟩ rfl rfl (Nat.le_of_ble_eq_true rfl) dX4_readPart_100 (fun H locs hP hS => ?_)
      refine lv_if_eq (tgt := 110) hx hb dX4_readPart_103 (by decide) (fun c31 => ?_) (fun c31 => ?_)
      · rw [if_pos c31] at h
        refine lv_iconst (v := 0) hx hb dX4_readPart_110 (by decide) ?_
        exact end_z X hr hk hP hS (Or.inl rfl) h dX4_readPart_111
      · rw [if_neg c31] at h
        refine lv_iconst (v := 1) hx hb dX4_readPart_106 (by decide) ?_
        refine lv_goto (tgt := 111) hx hb dX4_readPart_107 (by decide) ?_
        exact end_z X hr hk hP hS (Or.inr rfl) h dX4_readPart_111
  rw [if_neg c32] at h
  by_cases c41 : a1 = 4
  · rw [if_pos c41] at h
    refine lv_tableIn (tgt := 112) hx hb dX4_readPart_1 (by rw [c41]; decide) (by rw [c41]; decide) (by rw [c41]; rfl) (by decide) ?_
    refine lv_aload_n hx hb dX4_readPart_112 rfl (lv_at hl 0 rfl) ?_
    refine lv_iconst (v := 4) hx hb dX4_readPart_113 (by decide) ?_
    refine lv_aload_n hx hb dX4_readPart_114 rfl (lv_at hl 2 rfl) ?_
    obtain ⟨r33, M34, hc35, h⟩ := bnd_inv h
    refine gV_i (As := [.int (4 : Int32), .ref (q a2)]) X hP hS hl.1 (c_X4_takeNewName l D cA q aK aV hq h2 hc35) sf_X4_takeNewName bw_659 sv_X4_takeNewName (rcC_4 sC_16) rfl ⟨rfl, rfl⟩ ⟨Nat.le_of_ble_eq_true rfl, Nat.le_of_ble_eq_true rfl⟩ rfl rfl (Nat.le_of_ble_eq_true rfl) dX4_readPart_115 (fun H locs hP hS => ?_)
    refine lv_if_eq (tgt := 133) hx hb dX4_readPart_118 (by decide) (fun c36 => ?_) (fun c36 => ?_)
    · rw [if_pos c36] at h
      refine lv_iconst (v := 0) hx hb dX4_readPart_133 (by decide) ?_
      exact end_z X hr hk hP hS (Or.inl rfl) h dX4_readPart_134
    · rw [if_neg c36] at h
      refine lv_aload_n hx hb dX4_readPart_121 rfl (lv_at hl 0 rfl) ?_
      refine lv_aload_n hx hb dX4_readPart_122 rfl (lv_at hl 2 rfl) ?_
      obtain ⟨r37, M38, hc39, h⟩ := bnd_inv h
      refine gV_i (As := [.ref (q a2)]) X hP hS hl.1 (c_X4_readReader l D cA q aK aV hq h2 hc39) sf_X4_readReader bw_742 sv_X4_readReader (rcC_4 sC_16) rfl ⟨rfl, rfl⟩ ⟨Nat.le_of_ble_eq_true rfl, Nat.le_of_ble_eq_true rfl⟩ rfl rfl (Nat.le_of_ble_eq_true rfl) dX4_readPart_123 (fun H locs hP hS => ?_)
      refine lv_if_eq (tgt := 133) hx hb dX4_readPart_126 (by decide) (fun c40 => ?_) (fun c40 => ?_)
      · rw [if_pos c40] at h
        refine lv_iconst (v := 0) hx hb dX4_readPart_133 (by decide) ?_
        exact end_z X hr hk hP hS (Or.inl rfl) h dX4_readPart_134
      · rw [if_neg c40] at h
        refine lv_iconst (v := 1) hx hb dX4_readPart_129 (by decide) ?_
        refine lv_goto (tgt := 134) hx hb dX4_readPart_130 (by decide) ?_
        exact end_z X hr hk hP hS (Or.inr rfl) h dX4_readPart_134
  rw [if_neg c41] at h
  refine lv_tableOut (tgt := 135) hx hb dX4_readPart_1 (by have nc5 := lv_neT (a := 0) c5 (by decide); have nc14 := lv_neT (a := 1) c14 (by decide); have nc23 := lv_neT (a := 2) c23 (by decide); have nc32 := lv_neT (a := 3) c32 (by decide); have nc41 := lv_neT (a := 4) c41 (by decide); omega) (by decide) ?_
  refine lv_aload_n hx hb dX4_readPart_135 rfl (lv_at hl 0 rfl) ?_
  refine lv_iconst (v := 3) hx hb dX4_readPart_136 (by decide) ?_
  refine lv_aload_n hx hb dX4_readPart_137 rfl (lv_at hl 2 rfl) ?_
  obtain ⟨r42, M43, hc44, h⟩ := bnd_inv h
  refine gV_i (As := [.int (3 : Int32), .ref (q a2)]) X hP hS hl.1 (c_X4_takeName l D cA q aK aV hq h2 hc44) sf_X4_takeName bw_698 sv_X4_takeName (rcC_4 sC_16) rfl ⟨rfl, rfl⟩ ⟨Nat.le_of_ble_eq_true rfl, Nat.le_of_ble_eq_true rfl⟩ rfl rfl (Nat.le_of_ble_eq_true rfl) dX4_readPart_138 (fun H locs hP hS => ?_)
  refine lv_if_eq (tgt := 156) hx hb dX4_readPart_141 (by decide) (fun c45 => ?_) (fun c45 => ?_)
  · rw [if_pos c45] at h
    refine lv_iconst (v := 0) hx hb dX4_readPart_156 (by decide) ?_
    exact end_z X hr hk hP hS (Or.inl rfl) h dX4_readPart_157
  · rw [if_neg c45] at h
    refine lv_aload_n hx hb dX4_readPart_144 rfl (lv_at hl 0 rfl) ?_
    refine lv_aload_n hx hb dX4_readPart_145 rfl (lv_at hl 2 rfl) ?_
    obtain ⟨r46, M47, hc48, h⟩ := bnd_inv h
    refine gV_i (As := [.ref (q a2)]) X hP hS hl.1 (c_X4_readWord l D cA q aK aV hq h2 hc48) sf_X4_readWord bw_746 sv_X4_readWord (rcC_4 sC_16) rfl ⟨rfl, rfl⟩ ⟨Nat.le_of_ble_eq_true rfl, Nat.le_of_ble_eq_true rfl⟩ rfl rfl (Nat.le_of_ble_eq_true rfl) dX4_readPart_146 (fun H locs hP hS => ?_)
    refine lv_if_eq (tgt := 156) hx hb dX4_readPart_149 (by decide) (fun c49 => ?_) (fun c49 => ?_)
    · rw [if_pos c49] at h
      refine lv_iconst (v := 0) hx hb dX4_readPart_156 (by decide) ?_
      exact end_z X hr hk hP hS (Or.inl rfl) h dX4_readPart_157
    · rw [if_neg c49] at h
      refine lv_iconst (v := 1) hx hb dX4_readPart_152 (by decide) ?_
      refine lv_goto (tgt := 157) hx hb dX4_readPart_153 (by decide) ?_
      exact end_z X hr hk hP hS (Or.inr rfl) h dX4_readPart_157
theorem dX4_readCourt_0 : decode cX4_readCourt 0 = .ok (.aload_n 2, 1) := by decide +kernel
theorem dX4_readCourt_1 : decode cX4_readCourt 1 = .ok (.invokevirtual 32, 3) := by decide +kernel
theorem dX4_readCourt_4 : decode cX4_readCourt 4 = .ok (.aload_n 0, 1) := by decide +kernel
theorem dX4_readCourt_5 : decode cX4_readCourt 5 = .ok (.getfield 28, 3) := by decide +kernel
theorem dX4_readCourt_8 : decode cX4_readCourt 8 = .ok (.iload_n 1, 1) := by decide +kernel
theorem dX4_readCourt_9 : decode cX4_readCourt 9 = .ok (.invokevirtual 37, 3) := by decide +kernel
theorem dX4_readCourt_12 : decode cX4_readCourt 12 = .ok (.iconst 0, 1) := by decide +kernel
theorem dX4_readCourt_13 : decode cX4_readCourt 13 = .ok (.istore_n 3, 1) := by decide +kernel
theorem dX4_readCourt_14 : decode cX4_readCourt 14 = .ok (.iload_n 3, 1) := by decide +kernel
theorem dX4_readCourt_15 : decode cX4_readCourt 15 = .ok (.sipush 900, 3) := by decide +kernel
theorem dX4_readCourt_18 : decode cX4_readCourt 18 = .ok (.if_icmp .ge 61, 3) := by decide +kernel
theorem dX4_readCourt_21 : decode cX4_readCourt 21 = .ok (.aload_n 0, 1) := by decide +kernel
theorem dX4_readCourt_22 : decode cX4_readCourt 22 = .ok (.getfield 28, 3) := by decide +kernel
theorem dX4_readCourt_25 : decode cX4_readCourt 25 = .ok (.getfield 43, 3) := by decide +kernel
theorem dX4_readCourt_28 : decode cX4_readCourt 28 = .ok (.bipush 32, 2) := by decide +kernel
theorem dX4_readCourt_30 : decode cX4_readCourt 30 = .ok (.if_icmp .eq 49, 3) := by decide +kernel
theorem dX4_readCourt_33 : decode cX4_readCourt 33 = .ok (.aload_n 0, 1) := by decide +kernel
theorem dX4_readCourt_34 : decode cX4_readCourt 34 = .ok (.getfield 28, 3) := by decide +kernel
theorem dX4_readCourt_37 : decode cX4_readCourt 37 = .ok (.getfield 43, 3) := by decide +kernel
theorem dX4_readCourt_40 : decode cX4_readCourt 40 = .ok (.istore 4, 2) := by decide +kernel
theorem dX4_readCourt_42 : decode cX4_readCourt 42 = .ok (.aload_n 0, 1) := by decide +kernel
theorem dX4_readCourt_43 : decode cX4_readCourt 43 = .ok (.iload 4, 2) := by decide +kernel
theorem dX4_readCourt_45 : decode cX4_readCourt 45 = .ok (.aload_n 2, 1) := by decide +kernel
theorem dX4_readCourt_46 : decode cX4_readCourt 46 = .ok (.invokevirtual 46, 3) := by decide +kernel
theorem dX4_readCourt_49 : decode cX4_readCourt 49 = .ok (.ifCond .eq 22, 3) := by decide +kernel
theorem dX4_readCourt_52 : decode cX4_readCourt 52 = .ok (.aload_n 0, 1) := by decide +kernel
theorem dX4_readCourt_53 : decode cX4_readCourt 53 = .ok (.iload 4, 2) := by decide +kernel
theorem dX4_readCourt_55 : decode cX4_readCourt 55 = .ok (.aload_n 2, 1) := by decide +kernel
theorem dX4_readCourt_56 : decode cX4_readCourt 56 = .ok (.invokevirtual 50, 3) := by decide +kernel
theorem dX4_readCourt_59 : decode cX4_readCourt 59 = .ok (.ifCond .eq 12, 3) := by decide +kernel
theorem dX4_readCourt_62 : decode cX4_readCourt 62 = .ok (.aload_n 0, 1) := by decide +kernel
theorem dX4_readCourt_63 : decode cX4_readCourt 63 = .ok (.bipush 59, 2) := by decide +kernel
theorem dX4_readCourt_65 : decode cX4_readCourt 65 = .ok (.invokevirtual 53, 3) := by decide +kernel
theorem dX4_readCourt_68 : decode cX4_readCourt 68 = .ok (.ifCond .ne 5, 3) := by decide +kernel
theorem dX4_readCourt_71 : decode cX4_readCourt 71 = .ok (.iconst 0, 1) := by decide +kernel
theorem dX4_readCourt_72 : decode cX4_readCourt 72 = .ok (.ireturn, 1) := by decide +kernel
theorem dX4_readCourt_73 : decode cX4_readCourt 73 = .ok (.iinc 3 1, 3) := by decide +kernel
theorem dX4_readCourt_76 : decode cX4_readCourt 76 = .ok (.goto (-62), 3) := by decide +kernel
theorem dX4_readCourt_79 : decode cX4_readCourt 79 = .ok (.iconst 1, 1) := by decide +kernel
theorem dX4_readCourt_80 : decode cX4_readCourt 80 = .ok (.ireturn, 1) := by decide +kernel
set_option maxRecDepth 100000 in
set_option maxHeartbeats 8000000 in
theorem c_X4_readCourt (l : Launch) (D : va_G) (cA : Nat → ClassId) (q aK aV : Nat → Nat) (hq : injG 167 q) {a1 : Int32} {a2 : Nat} {M M0 : Mem} {r0 : Int32} (h2 : shC a2 = 0) (h : f_X4_readCourt a1 a2 M = some (r0, M0)) : Met l yX4_readCourt (.code yX4_readCourt cX4_readCourt 5 (some .boolean) :: BW) ({ frames := 7, cells := 0, slots := 0, locals := 145 } : Room) (va_Pc [.ref (q 16), .int a1, .ref (q a2)] (CB 167 (ceC cA q) D cA q aK aV M)) (Qi 167 (ceC cA q) D q r0 M0) 0 0 (AqG 167 q) := by
  refine gMet RX4 (by decide +kernel) rfl hq (Nat.le_of_ble_eq_true rfl) ?_
  intro p e s m below meth c ls X hr hk hP hS hl
  have hx := X.1
  have hb := X.2.1
  have hl : lv_has ls 5 [(0, .ref (q 16)), (1, .int a1), (2, .ref (q a2))] := hl
  rw [f_X4_readCourt] at h
  have hL14 : ∀ (fu : Nat) (b3 : Int32) (M : Mem) (res : (Nat) × Mem) (H : Heap) (locs : List Loc) (ls : Array Slot), f_X4_readCourt_L14 a2 fu b3 M = some res → va_P D vwCl (wsG 167 (ceC cA q) q M) H → va_S (AqG 167 q) s.heap H locs → lv_has ls 5 [(0, .ref (q 16)), (2, .ref (q a2)), (3, .int b3)] → (res.1 = 0 → ∀ (H : Heap) (locs : List Loc) (ls : Array Slot), va_P D vwCl (wsG 167 (ceC cA q) q res.2) H → va_S (AqG 167 q) s.heap H locs → lv_has ls 5 [] → W p l e ({ frames := 7, cells := 0, slots := 0, locals := 145 } : Room) s m [.ref (q 16), .int a1, .ref (q a2)].toArray below meth c H locs 0 0 (MQ below (Qi 167 (ceC cA q) D q r0 M0) [.ref (q 16), .int a1, .ref (q a2)].toArray s 0 0 (AqG 167 q)) (F0 m 71 ls [])) → (res.1 = 1 → ∀ (H : Heap) (locs : List Loc) (ls : Array Slot), va_P D vwCl (wsG 167 (ceC cA q) q res.2) H → va_S (AqG 167 q) s.heap H locs → lv_has ls 5 [] → W p l e ({ frames := 7, cells := 0, slots := 0, locals := 145 } : Room) s m [.ref (q 16), .int a1, .ref (q a2)].toArray below meth c H locs 0 0 (MQ below (Qi 167 (ceC cA q) D q r0 M0) [.ref (q 16), .int a1, .ref (q a2)].toArray s 0 0 (AqG 167 q)) (F0 m 79 ls [])) → W p l e ({ frames := 7, cells := 0, slots := 0, locals := 145 } : Room) s m [.ref (q 16), .int a1, .ref (q a2)].toArray below meth c H locs 0 0 (MQ below (Qi 167 (ceC cA q) D q r0 M0) [.ref (q 16), .int a1, .ref (q a2)].toArray s 0 0 (AqG 167 q)) (F0 m 14 ls []) := by
    intro fu
    induction fu with
    | zero => intro b3 M res H locs ls h; exact absurd h (by simp [f_X4_readCourt_L14])
    | succ fu ih =>
      intro b3 M res H locs ls h hP hS hl K14_0 K14_1
      rw [f_X4_readCourt_L14] at h
      refine lv_iload_n hx hb dX4_readCourt_14 rfl (lv_at hl 2 rfl) ?_
      refine lv_sipush (v := 900) hx hb dX4_readCourt_15 (by decide) ?_
      refine lv_icmp_ge (tgt := 79) hx hb dX4_readCourt_18 (by decide) (fun c11 => ?_) (fun c11 => ?_)
      · rw [if_pos c11] at h
        cases h
        exact K14_1 rfl _ _ _ hP hS (lv_sub hl [] rfl)
      · rw [if_neg c11] at h
        refine lv_aload_n hx hb dX4_readCourt_21 rfl (lv_at hl 0 rfl) ?_
        refine gfC_4_0 X hP sC_16 bw_329 dX4_readCourt_22 ?_
        refine gfC_7_6 X hP sC_13 bw_290 dX4_readCourt_25 ?_
        refine lv_bipush (v := 32) hx hb dX4_readCourt_28 (by decide) ?_
        refine lv_icmp_eq (tgt := 79) hx hb dX4_readCourt_30 (by decide) (fun c12 => ?_) (fun c12 => ?_)
        · rw [if_pos c12] at h
          cases h
          exact K14_1 rfl _ _ _ hP hS (lv_sub hl [] rfl)
        · rw [if_neg c12] at h
          refine lv_aload_n hx hb dX4_readCourt_33 rfl (lv_at hl 0 rfl) ?_
          refine gfC_4_0 X hP sC_16 bw_329 dX4_readCourt_34 ?_
          refine gfC_7_6 X hP sC_13 bw_290 dX4_readCourt_37 ?_
          obtain ⟨y13, ey13, h⟩ := lt_inv h
          refine topE ey13 ?_
          refine lv_istore (lv' := [(4, .int y13), (0, .ref (q 16)), (2, .ref (q a2)), (3, .int b3)]) hx hb dX4_readCourt_40 hl (by decide) rfl (fun ls hl => ?_)
          refine lv_aload_n hx hb dX4_readCourt_42 rfl (lv_at hl 1 rfl) ?_
          refine lv_iload hx hb dX4_readCourt_43 (lv_at hl 0 rfl) ?_
          refine lv_aload_n hx hb dX4_readCourt_45 rfl (lv_at hl 2 rfl) ?_
          obtain ⟨r14, M15, hc16, h⟩ := bnd_inv h
          refine gV_i (As := [.int y13, .ref (q a2)]) X hP hS hl.1 (c_X4_beginPart l D cA q aK aV hq h2 hc16) sf_X4_beginPart bw_633 sv_X4_beginPart (rcC_4 sC_16) rfl ⟨rfl, rfl⟩ ⟨Nat.le_of_ble_eq_true rfl, Nat.le_of_ble_eq_true rfl⟩ rfl rfl (Nat.le_of_ble_eq_true rfl) dX4_readCourt_46 (fun H locs hP hS => ?_)
          refine lv_if_eq (tgt := 71) hx hb dX4_readCourt_49 (by decide) (fun c17 => ?_) (fun c17 => ?_)
          · rw [if_pos c17] at h
            cases h
            exact K14_0 rfl _ _ _ hP hS (lv_sub hl [] rfl)
          · rw [if_neg c17] at h
            refine lv_aload_n hx hb dX4_readCourt_52 rfl (lv_at hl 1 rfl) ?_
            refine lv_iload hx hb dX4_readCourt_53 (lv_at hl 0 rfl) ?_
            refine lv_aload_n hx hb dX4_readCourt_55 rfl (lv_at hl 2 rfl) ?_
            obtain ⟨r18, M19, hc20, h⟩ := bnd_inv h
            refine gV_i (As := [.int y13, .ref (q a2)]) X hP hS hl.1 (c_X4_readPart l D cA q aK aV hq h2 hc20) sf_X4_readPart bw_655 sv_X4_readPart (rcC_4 sC_16) rfl ⟨rfl, rfl⟩ ⟨Nat.le_of_ble_eq_true rfl, Nat.le_of_ble_eq_true rfl⟩ rfl rfl (Nat.le_of_ble_eq_true rfl) dX4_readCourt_56 (fun H locs hP hS => ?_)
            refine lv_if_eq (tgt := 71) hx hb dX4_readCourt_59 (by decide) (fun c21 => ?_) (fun c21 => ?_)
            · rw [if_pos c21] at h
              cases h
              exact K14_0 rfl _ _ _ hP hS (lv_sub hl [] rfl)
            · rw [if_neg c21] at h
              refine lv_aload_n hx hb dX4_readCourt_62 rfl (lv_at hl 1 rfl) ?_
              refine lv_bipush (v := 59) hx hb dX4_readCourt_63 (by decide) ?_
              obtain ⟨r22, M23, hc24, h⟩ := bnd_inv h
              refine gV_i (As := [.int (59 : Int32)]) X hP hS hl.1 (c_X4_take l D cA q aK aV hq hc24) sf_X4_take bw_685 sv_X4_take (rcC_4 sC_16) rfl ⟨rfl, rfl⟩ ⟨Nat.le_of_ble_eq_true rfl, Nat.le_of_ble_eq_true rfl⟩ rfl rfl (Nat.le_of_ble_eq_true rfl) dX4_readCourt_65 (fun H locs hP hS => ?_)
              refine lv_if_ne (tgt := 73) hx hb dX4_readCourt_68 (by decide) (fun c25 => ?_) (fun c25 => ?_)
              · rw [if_neg c25] at h
                obtain ⟨y26, ey26, h⟩ := lt_inv h
                refine lv_iinc (v := y26) (lv' := [(3, .int y26), (4, .int y13), (0, .ref (q 16)), (2, .ref (q a2))]) hx hb dX4_readCourt_73 hl (k := 3) rfl (by rw [ey26]; rfl) (by decide) rfl (fun ls hl => ?_)
                refine lv_goto (tgt := 14) hx hb dX4_readCourt_76 (by decide) ?_
                exact ih _ _ res _ _ _ h hP hS (lv_sub hl [2, 3, 0] rfl) K14_0 K14_1
              · rw [if_pos c25] at h
                cases h
                exact K14_0 rfl _ _ _ hP hS (lv_sub hl [] rfl)
  refine lv_aload_n hx hb dX4_readCourt_0 rfl (lv_at hl 2 rfl) ?_
  obtain ⟨_, M2, hc3, h⟩ := bnd_inv h
  refine gV_v (As := []) X hP hS hl.1 (c_X0_clear l D cA q aK aV hq h2 hc3) sf_X0_clear bw_597 sv_X0_clear (rcC_0 h2) rfl ⟨rfl, rfl⟩ ⟨Nat.le_of_ble_eq_true rfl, Nat.le_of_ble_eq_true rfl⟩ rfl rfl (Nat.le_of_ble_eq_true rfl) dX4_readCourt_1 (fun H locs hP hS => ?_)
  refine lv_aload_n hx hb dX4_readCourt_4 rfl (lv_at hl 0 rfl) ?_
  refine gfC_4_0 X hP sC_16 bw_329 dX4_readCourt_5 ?_
  refine lv_iload_n hx hb dX4_readCourt_8 rfl (lv_at hl 1 rfl) ?_
  obtain ⟨_, M5, hc6, h⟩ := bnd_inv h
  refine gV_v (As := [.int a1]) X hP hS hl.1 (c_X7_begin l D cA q aK aV hq hc6) sf_X7_begin bw_605 sv_X7_begin (rcC_7 sC_13) rfl ⟨rfl, rfl⟩ ⟨Nat.le_of_ble_eq_true rfl, Nat.le_of_ble_eq_true rfl⟩ rfl rfl (Nat.le_of_ble_eq_true rfl) dX4_readCourt_9 (fun H locs hP hS => ?_)
  refine lv_iconst (v := 0) hx hb dX4_readCourt_12 (by decide) ?_
  refine lv_istore_n (lv' := [(3, .int (0 : Int32)), (0, .ref (q 16)), (1, .int a1), (2, .ref (q a2))]) hx hb dX4_readCourt_13 rfl hl (by decide) rfl (fun ls hl => ?_)
  obtain ⟨s7, M8, hc9, h⟩ := bnd_inv h
  obtain ⟨k10, rfl⟩ : ∃ z, z = s7 := ⟨_, rfl⟩
  try dsimp only at h
  refine hL14  fz _ _ _ _ _ _ hc9 hP hS (lv_sub hl [1, 3, 0] rfl) (fun hke H locs ls hP hS hl => ?_) (fun hke H locs ls hP hS hl => ?_)
  · have hke : k10 = 0 := hke
    have hl : lv_has ls 5 [] := hl
    subst hke
    rw [if_pos rfl] at h
    refine lv_iconst (v := 0) hx hb dX4_readCourt_71 (by decide) ?_
    exact end_z X hr hk hP hS (Or.inl rfl) h dX4_readCourt_72
  · have hke : k10 = 1 := hke
    have hl : lv_has ls 5 [] := hl
    subst hke
    rw [if_neg (by decide)] at h
    refine lv_iconst (v := 1) hx hb dX4_readCourt_79 (by decide) ?_
    exact end_z X hr hk hP hS (Or.inr rfl) h dX4_readCourt_80
theorem dX11_given_0 : decode cX11_given 0 = .ok (.aload_n 0, 1) := by decide +kernel
theorem dX11_given_1 : decode cX11_given 1 = .ok (.iconst 0, 1) := by decide +kernel
theorem dX11_given_2 : decode cX11_given 2 = .ok (.putfield 82, 3) := by decide +kernel
theorem dX11_given_5 : decode cX11_given 5 = .ok (.iload_n 1, 1) := by decide +kernel
theorem dX11_given_6 : decode cX11_given 6 = .ok (.ireturn, 1) := by decide +kernel
set_option maxRecDepth 100000 in
set_option maxHeartbeats 8000000 in
theorem c_X11_given (l : Launch) (D : va_G) (cA : Nat → ClassId) (q aK aV : Nat → Nat) (hq : injG 167 q) {a1 : Int32} {M M0 : Mem} {r0 : Int32} (h : f_X11_given a1 M = some (r0, M0)) : Met l yX11_given (.code yX11_given cX11_given 2 (some .int) :: BW) ({ frames := 1, cells := 0, slots := 0, locals := 13 } : Room) (va_Pc [.ref (q 0), .int a1] (CB 167 (ceC cA q) D cA q aK aV M)) (Qi 167 (ceC cA q) D q r0 M0) 0 0 (AqG 167 q) := by
  refine gMet RX11 (by decide +kernel) rfl hq (Nat.le_of_ble_eq_true rfl) ?_
  intro p e s m below meth c ls X hr hk hP hS hl
  have hx := X.1
  have hb := X.2.1
  have hl : lv_has ls 2 [(0, .ref (q 0)), (1, .int a1)] := hl
  rw [f_X11_given] at h
  refine lv_aload_n hx hb dX11_given_0 rfl (lv_at hl 0 rfl) ?_
  refine lv_iconst (v := 0) hx hb dX11_given_1 (by decide) ?_
  obtain ⟨M1, eM1, h⟩ := lt_inv h
  refine pfC_11_12 X hP hS sC_0 bw_442 eM1 dX11_given_2 (fun H locs hP hS => ?_)
  refine lv_iload_n hx hb dX11_given_5 rfl (lv_at hl 1 rfl) ?_
  exact end_i X hr hk hP hS h dX11_given_6
theorem dX11_textRead_0 : decode cX11_textRead 0 = .ok (.aload_n 0, 1) := by decide +kernel
theorem dX11_textRead_1 : decode cX11_textRead 1 = .ok (.getfield 41, 3) := by decide +kernel
theorem dX11_textRead_4 : decode cX11_textRead 4 = .ok (.iconst 0, 1) := by decide +kernel
theorem dX11_textRead_5 : decode cX11_textRead 5 = .ok (.putfield 160, 3) := by decide +kernel
theorem dX11_textRead_8 : decode cX11_textRead 8 = .ok (.aload_n 0, 1) := by decide +kernel
theorem dX11_textRead_9 : decode cX11_textRead 9 = .ok (.aload_n 0, 1) := by decide +kernel
theorem dX11_textRead_10 : decode cX11_textRead 10 = .ok (.getfield 41, 3) := by decide +kernel
theorem dX11_textRead_13 : decode cX11_textRead 13 = .ok (.getfield 436, 3) := by decide +kernel
theorem dX11_textRead_16 : decode cX11_textRead 16 = .ok (.putfield 92, 3) := by decide +kernel
theorem dX11_textRead_19 : decode cX11_textRead 19 = .ok (.aload_n 0, 1) := by decide +kernel
theorem dX11_textRead_20 : decode cX11_textRead 20 = .ok (.aload_n 0, 1) := by decide +kernel
theorem dX11_textRead_21 : decode cX11_textRead 21 = .ok (.getfield 41, 3) := by decide +kernel
theorem dX11_textRead_24 : decode cX11_textRead 24 = .ok (.getfield 439, 3) := by decide +kernel
theorem dX11_textRead_27 : decode cX11_textRead 27 = .ok (.putfield 95, 3) := by decide +kernel
theorem dX11_textRead_30 : decode cX11_textRead 30 = .ok (.iload_n 1, 1) := by decide +kernel
theorem dX11_textRead_31 : decode cX11_textRead 31 = .ok (.ifCond .eq 11, 3) := by decide +kernel
theorem dX11_textRead_34 : decode cX11_textRead 34 = .ok (.aload_n 0, 1) := by decide +kernel
theorem dX11_textRead_35 : decode cX11_textRead 35 = .ok (.iload_n 2, 1) := by decide +kernel
theorem dX11_textRead_36 : decode cX11_textRead 36 = .ok (.invokevirtual 191, 3) := by decide +kernel
theorem dX11_textRead_39 : decode cX11_textRead 39 = .ok (.goto 9, 3) := by decide +kernel
theorem dX11_textRead_42 : decode cX11_textRead 42 = .ok (.aload_n 0, 1) := by decide +kernel
theorem dX11_textRead_43 : decode cX11_textRead 43 = .ok (.bipush 9, 2) := by decide +kernel
theorem dX11_textRead_45 : decode cX11_textRead 45 = .ok (.invokevirtual 132, 3) := by decide +kernel
theorem dX11_textRead_48 : decode cX11_textRead 48 = .ok (.ireturn, 1) := by decide +kernel
set_option maxRecDepth 100000 in
set_option maxHeartbeats 8000000 in
theorem c_X11_textRead (l : Launch) (D : va_G) (cA : Nat → ClassId) (q aK aV : Nat → Nat) (hq : injG 167 q) {a1 : Int32} {a2 : Int32} {M M0 : Mem} {r0 : Int32} (h : f_X11_textRead a1 a2 M = some (r0, M0)) : Met l yX11_textRead (.code yX11_textRead cX11_textRead 3 (some .int) :: BW) ({ frames := 2, cells := 0, slots := 0, locals := 34 } : Room) (va_Pc [.ref (q 0), .int a1, .int a2] (CB 167 (ceC cA q) D cA q aK aV M)) (Qi 167 (ceC cA q) D q r0 M0) 0 0 (AqG 167 q) := by
  refine gMet RX11 (by decide +kernel) rfl hq (Nat.le_of_ble_eq_true rfl) ?_
  intro p e s m below meth c ls X hr hk hP hS hl
  have hx := X.1
  have hb := X.2.1
  have hl : lv_has ls 3 [(0, .ref (q 0)), (1, .int a1), (2, .int a2)] := hl
  rw [f_X11_textRead] at h
  refine lv_aload_n hx hb dX11_textRead_0 rfl (lv_at hl 0 rfl) ?_
  refine gfC_11_6 X hP sC_0 bw_436 dX11_textRead_1 ?_
  refine lv_iconst (v := 0) hx hb dX11_textRead_4 (by decide) ?_
  obtain ⟨M1, eM1, h⟩ := lt_inv h
  refine pfC_7_2 X hP hS sC_13 bw_285 eM1 dX11_textRead_5 (fun H locs hP hS => ?_)
  refine lv_aload_n hx hb dX11_textRead_8 rfl (lv_at hl 0 rfl) ?_
  refine lv_aload_n hx hb dX11_textRead_9 rfl (lv_at hl 0 rfl) ?_
  refine gfC_11_6 X hP sC_0 bw_436 dX11_textRead_10 ?_
  refine gfC_7_9 X hP sC_13 bw_296 dX11_textRead_13 ?_
  obtain ⟨M2, eM2, h⟩ := lt_inv h
  refine pfC_11_15 X hP hS sC_0 bw_445 eM2 dX11_textRead_16 (fun H locs hP hS => ?_)
  refine lv_aload_n hx hb dX11_textRead_19 rfl (lv_at hl 0 rfl) ?_
  refine lv_aload_n hx hb dX11_textRead_20 rfl (lv_at hl 0 rfl) ?_
  refine gfC_11_6 X hP sC_0 bw_436 dX11_textRead_21 ?_
  refine gfC_7_10 X hP sC_13 bw_298 dX11_textRead_24 ?_
  obtain ⟨M3, eM3, h⟩ := lt_inv h
  refine pfC_11_16 X hP hS sC_0 bw_446 eM3 dX11_textRead_27 (fun H locs hP hS => ?_)
  refine lv_iload_n hx hb dX11_textRead_30 rfl (lv_at hl 1 rfl) ?_
  refine lv_if_eq (tgt := 42) hx hb dX11_textRead_31 (by decide) (fun c4 => ?_) (fun c4 => ?_)
  · rw [if_pos c4] at h
    refine lv_aload_n hx hb dX11_textRead_42 rfl (lv_at hl 0 rfl) ?_
    refine lv_bipush (v := 9) hx hb dX11_textRead_43 (by decide) ?_
    obtain ⟨r5, M6, hc7, h⟩ := bnd_inv h
    refine gV_i (As := [.int (9 : Int32)]) X hP hS hl.1 (c_X11_refused l D cA q aK aV hq hc7) sf_X11_refused bw_552 sv_X11_refused (rcC_11 sC_0) rfl ⟨rfl, rfl⟩ ⟨Nat.le_of_ble_eq_true rfl, Nat.le_of_ble_eq_true rfl⟩ rfl rfl (Nat.le_of_ble_eq_true rfl) dX11_textRead_45 (fun H locs hP hS => ?_)
    exact end_i X hr hk hP hS h dX11_textRead_48
  · rw [if_neg c4] at h
    refine lv_aload_n hx hb dX11_textRead_34 rfl (lv_at hl 0 rfl) ?_
    refine lv_iload_n hx hb dX11_textRead_35 rfl (lv_at hl 2 rfl) ?_
    obtain ⟨r8, M9, hc10, h⟩ := bnd_inv h
    refine gV_i (As := [.int a2]) X hP hS hl.1 (c_X11_given l D cA q aK aV hq hc10) sf_X11_given bw_755 sv_X11_given (rcC_11 sC_0) rfl ⟨rfl, rfl⟩ ⟨Nat.le_of_ble_eq_true rfl, Nat.le_of_ble_eq_true rfl⟩ rfl rfl (Nat.le_of_ble_eq_true rfl) dX11_textRead_36 (fun H locs hP hS => ?_)
    refine lv_goto (tgt := 48) hx hb dX11_textRead_39 (by decide) ?_
    exact end_i X hr hk hP hS h dX11_textRead_48
theorem dX11_court_0 : decode cX11_court 0 = .ok (.iload_n 1, 1) := by decide +kernel
theorem dX11_court_1 : decode cX11_court 1 = .ok (.aload_n 0, 1) := by decide +kernel
theorem dX11_court_2 : decode cX11_court 2 = .ok (.getfield 41, 3) := by decide +kernel
theorem dX11_court_5 : decode cX11_court 5 = .ok (.getfield 160, 3) := by decide +kernel
theorem dX11_court_8 : decode cX11_court 8 = .ok (.iconst 1, 1) := by decide +kernel
theorem dX11_court_9 : decode cX11_court 9 = .ok (.iadd, 1) := by decide +kernel
theorem dX11_court_10 : decode cX11_court 10 = .ok (.invokestatic 104, 3) := by decide +kernel
theorem dX11_court_13 : decode cX11_court 13 = .ok (.ifCond .ne 9, 3) := by decide +kernel
theorem dX11_court_16 : decode cX11_court 16 = .ok (.aload_n 0, 1) := by decide +kernel
theorem dX11_court_17 : decode cX11_court 17 = .ok (.iconst 1, 1) := by decide +kernel
theorem dX11_court_18 : decode cX11_court 18 = .ok (.invokevirtual 132, 3) := by decide +kernel
theorem dX11_court_21 : decode cX11_court 21 = .ok (.ireturn, 1) := by decide +kernel
theorem dX11_court_22 : decode cX11_court 22 = .ok (.aload_n 0, 1) := by decide +kernel
theorem dX11_court_23 : decode cX11_court 23 = .ok (.getfield 50, 3) := by decide +kernel
theorem dX11_court_26 : decode cX11_court 26 = .ok (.iload_n 1, 1) := by decide +kernel
theorem dX11_court_27 : decode cX11_court 27 = .ok (.aload_n 0, 1) := by decide +kernel
theorem dX11_court_28 : decode cX11_court 28 = .ok (.getfield 16, 3) := by decide +kernel
theorem dX11_court_31 : decode cX11_court 31 = .ok (.invokevirtual 163, 3) := by decide +kernel
theorem dX11_court_34 : decode cX11_court 34 = .ok (.istore_n 2, 1) := by decide +kernel
theorem dX11_court_35 : decode cX11_court 35 = .ok (.iload_n 2, 1) := by decide +kernel
theorem dX11_court_36 : decode cX11_court 36 = .ok (.ifCond .eq 21, 3) := by decide +kernel
theorem dX11_court_39 : decode cX11_court 39 = .ok (.aload_n 0, 1) := by decide +kernel
theorem dX11_court_40 : decode cX11_court 40 = .ok (.getfield 10, 3) := by decide +kernel
theorem dX11_court_43 : decode cX11_court 43 = .ok (.astore_n 3, 1) := by decide +kernel
theorem dX11_court_44 : decode cX11_court 44 = .ok (.aload_n 0, 1) := by decide +kernel
theorem dX11_court_45 : decode cX11_court 45 = .ok (.aload_n 0, 1) := by decide +kernel
theorem dX11_court_46 : decode cX11_court 46 = .ok (.getfield 16, 3) := by decide +kernel
theorem dX11_court_49 : decode cX11_court 49 = .ok (.putfield 10, 3) := by decide +kernel
theorem dX11_court_52 : decode cX11_court 52 = .ok (.aload_n 0, 1) := by decide +kernel
theorem dX11_court_53 : decode cX11_court 53 = .ok (.aload_n 3, 1) := by decide +kernel
theorem dX11_court_54 : decode cX11_court 54 = .ok (.putfield 16, 3) := by decide +kernel
theorem dX11_court_57 : decode cX11_court 57 = .ok (.aload_n 0, 1) := by decide +kernel
theorem dX11_court_58 : decode cX11_court 58 = .ok (.iload_n 2, 1) := by decide +kernel
theorem dX11_court_59 : decode cX11_court 59 = .ok (.aload_n 0, 1) := by decide +kernel
theorem dX11_court_60 : decode cX11_court 60 = .ok (.getfield 10, 3) := by decide +kernel
theorem dX11_court_63 : decode cX11_court 63 = .ok (.iconst 3, 1) := by decide +kernel
theorem dX11_court_64 : decode cX11_court 64 = .ok (.invokevirtual 167, 3) := by decide +kernel
theorem dX11_court_67 : decode cX11_court 67 = .ok (.invokevirtual 170, 3) := by decide +kernel
theorem dX11_court_70 : decode cX11_court 70 = .ok (.ireturn, 1) := by decide +kernel
set_option maxRecDepth 100000 in
set_option maxHeartbeats 8000000 in
theorem c_X11_court (l : Launch) (D : va_G) (cA : Nat → ClassId) (q aK aV : Nat → Nat) (hq : injG 167 q) {a1 : Int32} {M M0 : Mem} {r0 : Int32} (h : f_X11_court a1 M = some (r0, M0)) : Met l yX11_court (.code yX11_court cX11_court 4 (some .int) :: BW) ({ frames := 8, cells := 0, slots := 0, locals := 169 } : Room) (va_Pc [.ref (q 0), .int a1] (CB 167 (ceC cA q) D cA q aK aV M)) (Qi 167 (ceC cA q) D q r0 M0) 0 0 (AqG 167 q) := by
  refine gMet RX11 (by decide +kernel) rfl hq (Nat.le_of_ble_eq_true rfl) ?_
  intro p e s m below meth c ls X hr hk hP hS hl
  have hx := X.1
  have hb := X.2.1
  have hl : lv_has ls 4 [(0, .ref (q 0)), (1, .int a1)] := hl
  rw [f_X11_court] at h
  have hJ57 : ∀ (b2 : Int32) (M : Mem) (H : Heap) (locs : List Loc) (ls : Array Slot), f_X11_court_J57 b2 M = some (r0, M0) → va_P D vwCl (wsG 167 (ceC cA q) q M) H → va_S (AqG 167 q) s.heap H locs → lv_has ls 4 [(0, .ref (q 0)), (2, .int b2)] → W p l e ({ frames := 8, cells := 0, slots := 0, locals := 169 } : Room) s m [.ref (q 0), .int a1].toArray below meth c H locs 0 0 (MQ below (Qi 167 (ceC cA q) D q r0 M0) [.ref (q 0), .int a1].toArray s 0 0 (AqG 167 q)) (F0 m 57 ls []) := by
    intro b2 M H locs ls h hP hS hl
    rw [f_X11_court_J57] at h
    refine lv_aload_n hx hb dX11_court_57 rfl (lv_at hl 0 rfl) ?_
    refine lv_iload_n hx hb dX11_court_58 rfl (lv_at hl 1 rfl) ?_
    refine lv_aload_n hx hb dX11_court_59 rfl (lv_at hl 0 rfl) ?_
    refine gfC_11_0 X hP sC_0 bw_430 dX11_court_60 ?_
    obtain ⟨g17, h⟩ := gd_inv h
    have g17 := Decidable.not_not.mp g17
    refine lv_iconst (v := 3) hx hb dX11_court_63 (by decide) ?_
    obtain ⟨r18, M19, hc20, h⟩ := bnd_inv h
    refine gV_i (As := [.int (3 : Int32)]) X hP hS hl.1 (c_X0_countOf l D cA q aK aV hq g17 hc20) sf_X0_countOf bw_750 sv_X0_countOf (rcC_0 g17) rfl ⟨rfl, rfl⟩ ⟨Nat.le_of_ble_eq_true rfl, Nat.le_of_ble_eq_true rfl⟩ rfl rfl (Nat.le_of_ble_eq_true rfl) dX11_court_64 (fun H locs hP hS => ?_)
    obtain ⟨r21, M22, hc23, h⟩ := bnd_inv h
    refine gV_i (As := [.int b2, .int r18]) X hP hS hl.1 (c_X11_textRead l D cA q aK aV hq hc23) sf_X11_textRead bw_751 sv_X11_textRead (rcC_11 sC_0) rfl ⟨rfl, rfl⟩ ⟨Nat.le_of_ble_eq_true rfl, Nat.le_of_ble_eq_true rfl⟩ rfl rfl (Nat.le_of_ble_eq_true rfl) dX11_court_67 (fun H locs hP hS => ?_)
    exact end_i X hr hk hP hS h dX11_court_70
  refine lv_iload_n hx hb dX11_court_0 rfl (lv_at hl 1 rfl) ?_
  refine lv_aload_n hx hb dX11_court_1 rfl (lv_at hl 0 rfl) ?_
  refine gfC_11_6 X hP sC_0 bw_436 dX11_court_2 ?_
  refine gfC_7_2 X hP sC_13 bw_285 dX11_court_5 ?_
  refine lv_iconst (v := 1) hx hb dX11_court_8 (by decide) ?_
  refine lv_iadd hx hb dX11_court_9 ?_
  obtain ⟨r1, M2, hc3, h⟩ := bnd_inv h
  refine gS_i (As := [.int a1, .int ((gI M 13 2) + (1 : Int32))]) X hP hS hl.1 (c_X11_within l D cA q aK aV hq hc3) sf_X11_within bw_504 ss_X11_within ⟨rfl, rfl⟩ ⟨Nat.le_of_ble_eq_true rfl, Nat.le_of_ble_eq_true rfl⟩ rfl rfl (Nat.le_of_ble_eq_true rfl) dX11_court_10 (fun H locs hP hS => ?_)
  refine lv_if_ne (tgt := 22) hx hb dX11_court_13 (by decide) (fun c4 => ?_) (fun c4 => ?_)
  · rw [if_neg c4] at h
    refine lv_aload_n hx hb dX11_court_22 rfl (lv_at hl 0 rfl) ?_
    refine gfC_11_7 X hP sC_0 bw_437 dX11_court_23 ?_
    refine lv_iload_n hx hb dX11_court_26 rfl (lv_at hl 1 rfl) ?_
    refine lv_aload_n hx hb dX11_court_27 rfl (lv_at hl 0 rfl) ?_
    refine gfC_11_1 X hP sC_0 bw_431 dX11_court_28 ?_
    obtain ⟨g5, h⟩ := gd_inv h
    have g5 := Decidable.not_not.mp g5
    obtain ⟨r6, M7, hc8, h⟩ := bnd_inv h
    refine gV_i (As := [.int a1, .ref (q (gR M2 0 1))]) X hP hS hl.1 (c_X4_readCourt l D cA q aK aV hq g5 hc8) sf_X4_readCourt bw_593 sv_X4_readCourt (rcC_4 sC_16) rfl ⟨rfl, rfl⟩ ⟨Nat.le_of_ble_eq_true rfl, Nat.le_of_ble_eq_true rfl⟩ rfl rfl (Nat.le_of_ble_eq_true rfl) dX11_court_31 (fun H locs hP hS => ?_)
    refine lv_istore_n (lv' := [(2, .int r6), (0, .ref (q 0)), (1, .int a1)]) hx hb dX11_court_34 rfl hl (by decide) rfl (fun ls hl => ?_)
    refine lv_iload_n hx hb dX11_court_35 rfl (lv_at hl 0 rfl) ?_
    refine lv_if_eq (tgt := 57) hx hb dX11_court_36 (by decide) (fun c9 => ?_) (fun c9 => ?_)
    · rw [if_pos c9] at h
      exact hJ57 _ _ _ _ _ h hP hS (lv_sub hl [1, 0] rfl)
    · rw [if_neg c9] at h
      refine lv_aload_n hx hb dX11_court_39 rfl (lv_at hl 1 rfl) ?_
      refine gfC_11_0 X hP sC_0 bw_430 dX11_court_40 ?_
      obtain ⟨g10, h⟩ := gd_inv h
      have g10 := Decidable.not_not.mp g10
      refine lv_astore_n (lv' := [(3, .ref (q (gR M7 0 0))), (2, .int r6), (0, .ref (q 0)), (1, .int a1)]) hx hb dX11_court_43 rfl hl (by decide) rfl (fun ls hl => ?_)
      refine lv_aload_n hx hb dX11_court_44 rfl (lv_at hl 2 rfl) ?_
      refine lv_aload_n hx hb dX11_court_45 rfl (lv_at hl 2 rfl) ?_
      refine gfC_11_1 X hP sC_0 bw_431 dX11_court_46 ?_
      obtain ⟨g11, h⟩ := gd_inv h
      have g11 := Decidable.not_not.mp g11
      obtain ⟨M12, eM12, h⟩ := lt_inv h
      refine pfC_11_0 X hP hS sC_0 bw_430 eM12 dX11_court_49 (fun H locs hP hS => ?_)
      refine lv_aload_n hx hb dX11_court_52 rfl (lv_at hl 2 rfl) ?_
      refine lv_aload_n hx hb dX11_court_53 rfl (lv_at hl 0 rfl) ?_
      obtain ⟨M13, eM13, h⟩ := lt_inv h
      refine pfC_11_1 X hP hS sC_0 bw_431 eM13 dX11_court_54 (fun H locs hP hS => ?_)
      exact hJ57 _ _ _ _ _ h hP hS (lv_sub hl [2, 1] rfl)
  · rw [if_pos c4] at h
    refine lv_aload_n hx hb dX11_court_16 rfl (lv_at hl 0 rfl) ?_
    refine lv_iconst (v := 1) hx hb dX11_court_17 (by decide) ?_
    obtain ⟨r14, M15, hc16, h⟩ := bnd_inv h
    refine gV_i (As := [.int (1 : Int32)]) X hP hS hl.1 (c_X11_refused l D cA q aK aV hq hc16) sf_X11_refused bw_552 sv_X11_refused (rcC_11 sC_0) rfl ⟨rfl, rfl⟩ ⟨Nat.le_of_ble_eq_true rfl, Nat.le_of_ble_eq_true rfl⟩ rfl rfl (Nat.le_of_ble_eq_true rfl) dX11_court_18 (fun H locs hP hS => ?_)
    exact end_i X hr hk hP hS h dX11_court_21
theorem dX9_putCell_0 : decode cX9_putCell 0 = .ok (.aload_n 0, 1) := by decide +kernel
theorem dX9_putCell_1 : decode cX9_putCell 1 = .ok (.getfield 17, 3) := by decide +kernel
theorem dX9_putCell_4 : decode cX9_putCell 4 = .ok (.iload_n 1, 1) := by decide +kernel
theorem dX9_putCell_5 : decode cX9_putCell 5 = .ok (.iconst 5, 1) := by decide +kernel
theorem dX9_putCell_6 : decode cX9_putCell 6 = .ok (.imul, 1) := by decide +kernel
theorem dX9_putCell_7 : decode cX9_putCell 7 = .ok (.iload_n 2, 1) := by decide +kernel
theorem dX9_putCell_8 : decode cX9_putCell 8 = .ok (.iadd, 1) := by decide +kernel
theorem dX9_putCell_9 : decode cX9_putCell 9 = .ok (.iload_n 3, 1) := by decide +kernel
theorem dX9_putCell_10 : decode cX9_putCell 10 = .ok (.invokestatic 31, 3) := by decide +kernel
theorem dX9_putCell_13 : decode cX9_putCell 13 = .ok (.return_, 1) := by decide +kernel
set_option maxRecDepth 100000 in
set_option maxHeartbeats 8000000 in
theorem c_X9_putCell (l : Launch) (D : va_G) (cA : Nat → ClassId) (q aK aV : Nat → Nat) (hq : injG 167 q) {a0 : Nat} {a1 : Int32} {a2 : Int32} {a3 : Int32} {M M0 : Mem} (h0 : shC a0 = 9) (h : f_X9_putCell a0 a1 a2 a3 M = some ((), M0)) : Met l yX9_putCell (.code yX9_putCell cX9_putCell 4 none :: BW) ({ frames := 2, cells := 0, slots := 0, locals := 36 } : Room) (va_Pc [.ref (q a0), .int a1, .int a2, .int a3] (CB 167 (ceC cA q) D cA q aK aV M)) (Qv 167 (ceC cA q) D q M0) 0 0 (AqG 167 q) := by
  refine gMet RX9 (by decide +kernel) rfl hq (Nat.le_of_ble_eq_true rfl) ?_
  intro p e s m below meth c ls X hr hk hP hS hl
  have hx := X.1
  have hb := X.2.1
  have hl : lv_has ls 4 [(0, .ref (q a0)), (1, .int a1), (2, .int a2), (3, .int a3)] := hl
  rw [f_X9_putCell] at h
  refine lv_aload_n hx hb dX9_putCell_0 rfl (lv_at hl 0 rfl) ?_
  refine gfC_9_2 X hP h0 bw_50 dX9_putCell_1 ?_
  refine lv_iload_n hx hb dX9_putCell_4 rfl (lv_at hl 1 rfl) ?_
  refine lv_iconst (v := 5) hx hb dX9_putCell_5 (by decide) ?_
  refine lv_imul hx hb dX9_putCell_6 ?_
  refine lv_iload_n hx hb dX9_putCell_7 rfl (lv_at hl 2 rfl) ?_
  refine lv_iadd hx hb dX9_putCell_8 ?_
  refine lv_iload_n hx hb dX9_putCell_9 rfl (lv_at hl 3 rfl) ?_
  obtain ⟨_, M2, hc3, h⟩ := bnd_inv h
  refine gSN_v (As := [.ref (q (a0 + 1)), .int ((a1 * (5 : Int32)) + a2), .int a3]) X hP hS hl.1 (c_X11_put l D cA q aK aV hq ((kC_9_2 h0).1) hc3) sf_X11_put nw_17 ss_X11_put ⟨rfl, rfl⟩ ⟨Nat.le_of_ble_eq_true rfl, Nat.le_of_ble_eq_true rfl⟩ rfl rfl (Nat.le_of_ble_eq_true rfl) dX9_putCell_10 (fun H locs hP hS => ?_)
  exact end_v X hr hk hP hS h dX9_putCell_13
theorem dX4_closeStep_0 : decode cX4_closeStep 0 = .ok (.aload_n 0, 1) := by decide +kernel
theorem dX4_closeStep_1 : decode cX4_closeStep 1 = .ok (.getfield 15, 3) := by decide +kernel
theorem dX4_closeStep_4 : decode cX4_closeStep 4 = .ok (.ifCond .gt 12, 3) := by decide +kernel
theorem dX4_closeStep_7 : decode cX4_closeStep 7 = .ok (.aload_n 0, 1) := by decide +kernel
theorem dX4_closeStep_8 : decode cX4_closeStep 8 = .ok (.getfield 28, 3) := by decide +kernel
theorem dX4_closeStep_11 : decode cX4_closeStep 11 = .ok (.iconst 2, 1) := by decide +kernel
theorem dX4_closeStep_12 : decode cX4_closeStep 12 = .ok (.invokevirtual 57, 3) := by decide +kernel
theorem dX4_closeStep_15 : decode cX4_closeStep 15 = .ok (.ireturn, 1) := by decide +kernel
theorem dX4_closeStep_16 : decode cX4_closeStep 16 = .ok (.aload_n 0, 1) := by decide +kernel
theorem dX4_closeStep_17 : decode cX4_closeStep 17 = .ok (.dup, 1) := by decide +kernel
theorem dX4_closeStep_18 : decode cX4_closeStep 18 = .ok (.getfield 15, 3) := by decide +kernel
theorem dX4_closeStep_21 : decode cX4_closeStep 21 = .ok (.iconst 1, 1) := by decide +kernel
theorem dX4_closeStep_22 : decode cX4_closeStep 22 = .ok (.isub, 1) := by decide +kernel
theorem dX4_closeStep_23 : decode cX4_closeStep 23 = .ok (.putfield 15, 3) := by decide +kernel
theorem dX4_closeStep_26 : decode cX4_closeStep 26 = .ok (.aload_n 1, 1) := by decide +kernel
theorem dX4_closeStep_27 : decode cX4_closeStep 27 = .ok (.aload_n 0, 1) := by decide +kernel
theorem dX4_closeStep_28 : decode cX4_closeStep 28 = .ok (.getfield 11, 3) := by decide +kernel
theorem dX4_closeStep_31 : decode cX4_closeStep 31 = .ok (.aload_n 0, 1) := by decide +kernel
theorem dX4_closeStep_32 : decode cX4_closeStep 32 = .ok (.getfield 15, 3) := by decide +kernel
theorem dX4_closeStep_35 : decode cX4_closeStep 35 = .ok (.invokestatic 210, 3) := by decide +kernel
theorem dX4_closeStep_38 : decode cX4_closeStep 38 = .ok (.iconst 4, 1) := by decide +kernel
theorem dX4_closeStep_39 : decode cX4_closeStep 39 = .ok (.aload_n 1, 1) := by decide +kernel
theorem dX4_closeStep_40 : decode cX4_closeStep 40 = .ok (.getfield 191, 3) := by decide +kernel
theorem dX4_closeStep_43 : decode cX4_closeStep 43 = .ok (.invokevirtual 214, 3) := by decide +kernel
theorem dX4_closeStep_46 : decode cX4_closeStep 46 = .ok (.aload_n 0, 1) := by decide +kernel
theorem dX4_closeStep_47 : decode cX4_closeStep 47 = .ok (.getfield 28, 3) := by decide +kernel
theorem dX4_closeStep_50 : decode cX4_closeStep 50 = .ok (.invokevirtual 63, 3) := by decide +kernel
theorem dX4_closeStep_53 : decode cX4_closeStep 53 = .ok (.iconst 1, 1) := by decide +kernel
theorem dX4_closeStep_54 : decode cX4_closeStep 54 = .ok (.ireturn, 1) := by decide +kernel
set_option maxRecDepth 100000 in
set_option maxHeartbeats 8000000 in
theorem c_X4_closeStep (l : Launch) (D : va_G) (cA : Nat → ClassId) (q aK aV : Nat → Nat) (hq : injG 167 q) {a1 : Nat} {M M0 : Mem} {r0 : Int32} (h1 : shC a1 = 9) (h : f_X4_closeStep a1 M = some (r0, M0)) : Met l yX4_closeStep (.code yX4_closeStep cX4_closeStep 2 (some .boolean) :: BW) ({ frames := 3, cells := 0, slots := 0, locals := 59 } : Room) (va_Pc [.ref (q 16), .ref (q a1)] (CB 167 (ceC cA q) D cA q aK aV M)) (Qi 167 (ceC cA q) D q r0 M0) 0 0 (AqG 167 q) := by
  refine gMet RX4 (by decide +kernel) rfl hq (Nat.le_of_ble_eq_true rfl) ?_
  intro p e s m below meth c ls X hr hk hP hS hl
  have hx := X.1
  have hb := X.2.1
  have hl : lv_has ls 2 [(0, .ref (q 16)), (1, .ref (q a1))] := hl
  rw [f_X4_closeStep] at h
  refine lv_aload_n hx hb dX4_closeStep_0 rfl (lv_at hl 0 rfl) ?_
  refine gfC_4_2 X hP sC_16 bw_331 dX4_closeStep_1 ?_
  refine lv_if_gt (tgt := 16) hx hb dX4_closeStep_4 (by decide) (fun c1 => ?_) (fun c1 => ?_)
  · rw [if_pos c1] at h
    refine lv_aload_n hx hb dX4_closeStep_16 rfl (lv_at hl 0 rfl) ?_
    refine lv_dup hx hb dX4_closeStep_17 rfl ?_
    refine gfC_4_2 X hP sC_16 bw_331 dX4_closeStep_18 ?_
    refine lv_iconst (v := 1) hx hb dX4_closeStep_21 (by decide) ?_
    refine lv_isub hx hb dX4_closeStep_22 ?_
    obtain ⟨M2, eM2, h⟩ := lt_inv h
    refine pfC_4_2 X hP hS sC_16 bw_331 eM2 dX4_closeStep_23 (fun H locs hP hS => ?_)
    refine lv_aload_n hx hb dX4_closeStep_26 rfl (lv_at hl 1 rfl) ?_
    refine lv_aload_n hx hb dX4_closeStep_27 rfl (lv_at hl 0 rfl) ?_
    refine gfC_4_1 X hP sC_16 bw_330 dX4_closeStep_28 ?_
    refine lv_aload_n hx hb dX4_closeStep_31 rfl (lv_at hl 0 rfl) ?_
    refine gfC_4_2 X hP sC_16 bw_331 dX4_closeStep_32 ?_
    obtain ⟨r3, M4, hc5, h⟩ := bnd_inv h
    refine gSN_i (As := [.ref (q 17), .int (gI M2 16 2)]) X hP hS hl.1 (c_X11_cell l D cA q aK aV hq sC_17 hc5) sf_X11_cell nw_16 ss_X11_cell ⟨rfl, rfl⟩ ⟨Nat.le_of_ble_eq_true rfl, Nat.le_of_ble_eq_true rfl⟩ rfl rfl (Nat.le_of_ble_eq_true rfl) dX4_closeStep_35 (fun H locs hP hS => ?_)
    refine lv_iconst (v := 4) hx hb dX4_closeStep_38 (by decide) ?_
    refine lv_aload_n hx hb dX4_closeStep_39 rfl (lv_at hl 1 rfl) ?_
    refine gfC_9_1 X hP h1 bw_48 dX4_closeStep_40 ?_
    obtain ⟨_, M7, hc8, h⟩ := bnd_inv h
    refine gV_v (As := [.int r3, .int (4 : Int32), .int (gI M4 a1 1)]) X hP hS hl.1 (c_X9_putCell l D cA q aK aV hq h1 hc8) sf_X9_putCell bw_773 sv_X9_putCell (rcC_9 h1) rfl ⟨rfl, rfl⟩ ⟨Nat.le_of_ble_eq_true rfl, Nat.le_of_ble_eq_true rfl⟩ rfl rfl (Nat.le_of_ble_eq_true rfl) dX4_closeStep_43 (fun H locs hP hS => ?_)
    refine lv_aload_n hx hb dX4_closeStep_46 rfl (lv_at hl 0 rfl) ?_
    refine gfC_4_0 X hP sC_16 bw_329 dX4_closeStep_47 ?_
    obtain ⟨_, M10, hc11, h⟩ := bnd_inv h
    refine gV_v (As := []) X hP hS hl.1 (c_X7_goOn l D cA q aK aV hq hc11) sf_X7_goOn bw_654 sv_X7_goOn (rcC_7 sC_13) rfl ⟨rfl, rfl⟩ ⟨Nat.le_of_ble_eq_true rfl, Nat.le_of_ble_eq_true rfl⟩ rfl rfl (Nat.le_of_ble_eq_true rfl) dX4_closeStep_50 (fun H locs hP hS => ?_)
    refine lv_iconst (v := 1) hx hb dX4_closeStep_53 (by decide) ?_
    exact end_z X hr hk hP hS (Or.inr rfl) h dX4_closeStep_54
  · rw [if_neg c1] at h
    refine lv_aload_n hx hb dX4_closeStep_7 rfl (lv_at hl 0 rfl) ?_
    refine gfC_4_0 X hP sC_16 bw_329 dX4_closeStep_8 ?_
    refine lv_iconst (v := 2) hx hb dX4_closeStep_11 (by decide) ?_
    obtain ⟨r12, M13, hc14, h⟩ := bnd_inv h
    refine gV_i (As := [.int (2 : Int32)]) X hP hS hl.1 (c_X7_refuse l D cA q aK aV hq hc14) sf_X7_refuse bw_637 sv_X7_refuse (rcC_7 sC_13) rfl ⟨rfl, rfl⟩ ⟨Nat.le_of_ble_eq_true rfl, Nat.le_of_ble_eq_true rfl⟩ rfl rfl (Nat.le_of_ble_eq_true rfl) dX4_closeStep_12 (fun H locs hP hS => ?_)
    obtain ⟨g15, h⟩ := gd_inv h
    exact end_z X hr hk hP hS (Decidable.not_not.mp g15) h dX4_closeStep_15
theorem dX4_beginStep_0 : decode cX4_beginStep 0 = .ok (.iload_n 1, 1) := by decide +kernel
theorem dX4_beginStep_1 : decode cX4_beginStep 1 = .ok (.bipush 15, 2) := by decide +kernel
theorem dX4_beginStep_3 : decode cX4_beginStep 3 = .ok (.if_icmp .lt 9, 3) := by decide +kernel
theorem dX4_beginStep_6 : decode cX4_beginStep 6 = .ok (.iload_n 1, 1) := by decide +kernel
theorem dX4_beginStep_7 : decode cX4_beginStep 7 = .ok (.bipush 24, 2) := by decide +kernel
theorem dX4_beginStep_9 : decode cX4_beginStep 9 = .ok (.if_icmp .le 12, 3) := by decide +kernel
theorem dX4_beginStep_12 : decode cX4_beginStep 12 = .ok (.aload_n 0, 1) := by decide +kernel
theorem dX4_beginStep_13 : decode cX4_beginStep 13 = .ok (.getfield 28, 3) := by decide +kernel
theorem dX4_beginStep_16 : decode cX4_beginStep 16 = .ok (.iconst 2, 1) := by decide +kernel
theorem dX4_beginStep_17 : decode cX4_beginStep 17 = .ok (.invokevirtual 57, 3) := by decide +kernel
theorem dX4_beginStep_20 : decode cX4_beginStep 20 = .ok (.ireturn, 1) := by decide +kernel
theorem dX4_beginStep_21 : decode cX4_beginStep 21 = .ok (.aload_n 2, 1) := by decide +kernel
theorem dX4_beginStep_22 : decode cX4_beginStep 22 = .ok (.getfield 191, 3) := by decide +kernel
theorem dX4_beginStep_25 : decode cX4_beginStep 25 = .ok (.bipush 30, 2) := by decide +kernel
theorem dX4_beginStep_27 : decode cX4_beginStep 27 = .ok (.if_icmp .lt 13, 3) := by decide +kernel
theorem dX4_beginStep_30 : decode cX4_beginStep 30 = .ok (.aload_n 0, 1) := by decide +kernel
theorem dX4_beginStep_31 : decode cX4_beginStep 31 = .ok (.getfield 28, 3) := by decide +kernel
theorem dX4_beginStep_34 : decode cX4_beginStep 34 = .ok (.bipush 6, 2) := by decide +kernel
theorem dX4_beginStep_36 : decode cX4_beginStep 36 = .ok (.invokevirtual 57, 3) := by decide +kernel
theorem dX4_beginStep_39 : decode cX4_beginStep 39 = .ok (.ireturn, 1) := by decide +kernel
theorem dX4_beginStep_40 : decode cX4_beginStep 40 = .ok (.iload_n 1, 1) := by decide +kernel
theorem dX4_beginStep_41 : decode cX4_beginStep 41 = .ok (.bipush 22, 2) := by decide +kernel
theorem dX4_beginStep_43 : decode cX4_beginStep 43 = .ok (.if_icmp .eq 9, 3) := by decide +kernel
theorem dX4_beginStep_46 : decode cX4_beginStep 46 = .ok (.iload_n 1, 1) := by decide +kernel
theorem dX4_beginStep_47 : decode cX4_beginStep 47 = .ok (.bipush 23, 2) := by decide +kernel
theorem dX4_beginStep_49 : decode cX4_beginStep 49 = .ok (.if_icmp .ne 7, 3) := by decide +kernel
theorem dX4_beginStep_52 : decode cX4_beginStep 52 = .ok (.iconst 1, 1) := by decide +kernel
theorem dX4_beginStep_53 : decode cX4_beginStep 53 = .ok (.goto 4, 3) := by decide +kernel
theorem dX4_beginStep_56 : decode cX4_beginStep 56 = .ok (.iconst 0, 1) := by decide +kernel
theorem dX4_beginStep_57 : decode cX4_beginStep 57 = .ok (.istore_n 3, 1) := by decide +kernel
theorem dX4_beginStep_58 : decode cX4_beginStep 58 = .ok (.iload_n 3, 1) := by decide +kernel
theorem dX4_beginStep_59 : decode cX4_beginStep 59 = .ok (.ifCond .eq 21, 3) := by decide +kernel
theorem dX4_beginStep_62 : decode cX4_beginStep 62 = .ok (.aload_n 0, 1) := by decide +kernel
theorem dX4_beginStep_63 : decode cX4_beginStep 63 = .ok (.getfield 15, 3) := by decide +kernel
theorem dX4_beginStep_66 : decode cX4_beginStep 66 = .ok (.iconst 3, 1) := by decide +kernel
theorem dX4_beginStep_67 : decode cX4_beginStep 67 = .ok (.if_icmp .lt 13, 3) := by decide +kernel
theorem dX4_beginStep_70 : decode cX4_beginStep 70 = .ok (.aload_n 0, 1) := by decide +kernel
theorem dX4_beginStep_71 : decode cX4_beginStep 71 = .ok (.getfield 28, 3) := by decide +kernel
theorem dX4_beginStep_74 : decode cX4_beginStep 74 = .ok (.bipush 7, 2) := by decide +kernel
theorem dX4_beginStep_76 : decode cX4_beginStep 76 = .ok (.invokevirtual 57, 3) := by decide +kernel
theorem dX4_beginStep_79 : decode cX4_beginStep 79 = .ok (.ireturn, 1) := by decide +kernel
theorem dX4_beginStep_80 : decode cX4_beginStep 80 = .ok (.aload_n 2, 1) := by decide +kernel
theorem dX4_beginStep_81 : decode cX4_beginStep 81 = .ok (.getfield 191, 3) := by decide +kernel
theorem dX4_beginStep_84 : decode cX4_beginStep 84 = .ok (.istore 4, 2) := by decide +kernel
theorem dX4_beginStep_86 : decode cX4_beginStep 86 = .ok (.aload_n 2, 1) := by decide +kernel
theorem dX4_beginStep_87 : decode cX4_beginStep 87 = .ok (.dup, 1) := by decide +kernel
theorem dX4_beginStep_88 : decode cX4_beginStep 88 = .ok (.getfield 191, 3) := by decide +kernel
theorem dX4_beginStep_91 : decode cX4_beginStep 91 = .ok (.iconst 1, 1) := by decide +kernel
theorem dX4_beginStep_92 : decode cX4_beginStep 92 = .ok (.iadd, 1) := by decide +kernel
theorem dX4_beginStep_93 : decode cX4_beginStep 93 = .ok (.putfield 191, 3) := by decide +kernel
theorem dX4_beginStep_96 : decode cX4_beginStep 96 = .ok (.aload_n 2, 1) := by decide +kernel
theorem dX4_beginStep_97 : decode cX4_beginStep 97 = .ok (.iload 4, 2) := by decide +kernel
theorem dX4_beginStep_99 : decode cX4_beginStep 99 = .ok (.iconst 0, 1) := by decide +kernel
theorem dX4_beginStep_100 : decode cX4_beginStep 100 = .ok (.iload_n 1, 1) := by decide +kernel
theorem dX4_beginStep_101 : decode cX4_beginStep 101 = .ok (.invokevirtual 214, 3) := by decide +kernel
theorem dX4_beginStep_104 : decode cX4_beginStep 104 = .ok (.iload_n 3, 1) := by decide +kernel
theorem dX4_beginStep_105 : decode cX4_beginStep 105 = .ok (.ifCond .eq 26, 3) := by decide +kernel
theorem dX4_beginStep_108 : decode cX4_beginStep 108 = .ok (.aload_n 0, 1) := by decide +kernel
theorem dX4_beginStep_109 : decode cX4_beginStep 109 = .ok (.getfield 11, 3) := by decide +kernel
theorem dX4_beginStep_112 : decode cX4_beginStep 112 = .ok (.aload_n 0, 1) := by decide +kernel
theorem dX4_beginStep_113 : decode cX4_beginStep 113 = .ok (.getfield 15, 3) := by decide +kernel
theorem dX4_beginStep_116 : decode cX4_beginStep 116 = .ok (.iload 4, 2) := by decide +kernel
theorem dX4_beginStep_118 : decode cX4_beginStep 118 = .ok (.invokestatic 95, 3) := by decide +kernel
theorem dX4_beginStep_121 : decode cX4_beginStep 121 = .ok (.aload_n 0, 1) := by decide +kernel
theorem dX4_beginStep_122 : decode cX4_beginStep 122 = .ok (.dup, 1) := by decide +kernel
theorem dX4_beginStep_123 : decode cX4_beginStep 123 = .ok (.getfield 15, 3) := by decide +kernel
theorem dX4_beginStep_126 : decode cX4_beginStep 126 = .ok (.iconst 1, 1) := by decide +kernel
theorem dX4_beginStep_127 : decode cX4_beginStep 127 = .ok (.iadd, 1) := by decide +kernel
theorem dX4_beginStep_128 : decode cX4_beginStep 128 = .ok (.putfield 15, 3) := by decide +kernel
theorem dX4_beginStep_131 : decode cX4_beginStep 131 = .ok (.aload_n 0, 1) := by decide +kernel
theorem dX4_beginStep_132 : decode cX4_beginStep 132 = .ok (.getfield 28, 3) := by decide +kernel
theorem dX4_beginStep_135 : decode cX4_beginStep 135 = .ok (.invokevirtual 63, 3) := by decide +kernel
theorem dX4_beginStep_138 : decode cX4_beginStep 138 = .ok (.iconst 1, 1) := by decide +kernel
theorem dX4_beginStep_139 : decode cX4_beginStep 139 = .ok (.ireturn, 1) := by decide +kernel
set_option maxRecDepth 100000 in
set_option maxHeartbeats 8000000 in
theorem c_X4_beginStep (l : Launch) (D : va_G) (cA : Nat → ClassId) (q aK aV : Nat → Nat) (hq : injG 167 q) {a1 : Int32} {a2 : Nat} {M M0 : Mem} {r0 : Int32} (h2 : shC a2 = 9) (h : f_X4_beginStep a1 a2 M = some (r0, M0)) : Met l yX4_beginStep (.code yX4_beginStep cX4_beginStep 5 (some .boolean) :: BW) ({ frames := 3, cells := 0, slots := 0, locals := 59 } : Room) (va_Pc [.ref (q 16), .int a1, .ref (q a2)] (CB 167 (ceC cA q) D cA q aK aV M)) (Qi 167 (ceC cA q) D q r0 M0) 0 0 (AqG 167 q) := by
  refine gMet RX4 (by decide +kernel) rfl hq (Nat.le_of_ble_eq_true rfl) ?_
  intro p e s m below meth c ls X hr hk hP hS hl
  have hx := X.1
  have hb := X.2.1
  have hl : lv_has ls 5 [(0, .ref (q 16)), (1, .int a1), (2, .ref (q a2))] := hl
  rw [f_X4_beginStep] at h
  have hJ80 : ∀ (b3 : Int32) (M : Mem) (H : Heap) (locs : List Loc) (ls : Array Slot), f_X4_beginStep_J80 a1 a2 b3 M = some (r0, M0) → va_P D vwCl (wsG 167 (ceC cA q) q M) H → va_S (AqG 167 q) s.heap H locs → lv_has ls 5 [(0, .ref (q 16)), (1, .int a1), (2, .ref (q a2)), (3, .int b3)] → W p l e ({ frames := 3, cells := 0, slots := 0, locals := 59 } : Room) s m [.ref (q 16), .int a1, .ref (q a2)].toArray below meth c H locs 0 0 (MQ below (Qi 167 (ceC cA q) D q r0 M0) [.ref (q 16), .int a1, .ref (q a2)].toArray s 0 0 (AqG 167 q)) (F0 m 80 ls []) := by
    intro b3 M H locs ls h hP hS hl
    rw [f_X4_beginStep_J80] at h
    refine lv_aload_n hx hb dX4_beginStep_80 rfl (lv_at hl 2 rfl) ?_
    refine gfC_9_1 X hP h2 bw_48 dX4_beginStep_81 ?_
    obtain ⟨y24, ey24, h⟩ := lt_inv h
    refine topE ey24 ?_
    refine lv_istore (lv' := [(4, .int y24), (0, .ref (q 16)), (1, .int a1), (2, .ref (q a2)), (3, .int b3)]) hx hb dX4_beginStep_84 hl (by decide) rfl (fun ls hl => ?_)
    refine lv_aload_n hx hb dX4_beginStep_86 rfl (lv_at hl 3 rfl) ?_
    refine lv_dup hx hb dX4_beginStep_87 rfl ?_
    refine gfC_9_1 X hP h2 bw_48 dX4_beginStep_88 ?_
    refine lv_iconst (v := 1) hx hb dX4_beginStep_91 (by decide) ?_
    refine lv_iadd hx hb dX4_beginStep_92 ?_
    obtain ⟨M25, eM25, h⟩ := lt_inv h
    refine pfC_9_1 X hP hS h2 bw_48 eM25 dX4_beginStep_93 (fun H locs hP hS => ?_)
    refine lv_aload_n hx hb dX4_beginStep_96 rfl (lv_at hl 3 rfl) ?_
    refine lv_iload hx hb dX4_beginStep_97 (lv_at hl 0 rfl) ?_
    refine lv_iconst (v := 0) hx hb dX4_beginStep_99 (by decide) ?_
    refine lv_iload_n hx hb dX4_beginStep_100 rfl (lv_at hl 2 rfl) ?_
    obtain ⟨_, M27, hc28, h⟩ := bnd_inv h
    refine gV_v (As := [.int y24, .int (0 : Int32), .int a1]) X hP hS hl.1 (c_X9_putCell l D cA q aK aV hq h2 hc28) sf_X9_putCell bw_773 sv_X9_putCell (rcC_9 h2) rfl ⟨rfl, rfl⟩ ⟨Nat.le_of_ble_eq_true rfl, Nat.le_of_ble_eq_true rfl⟩ rfl rfl (Nat.le_of_ble_eq_true rfl) dX4_beginStep_101 (fun H locs hP hS => ?_)
    refine lv_iload_n hx hb dX4_beginStep_104 rfl (lv_at hl 4 rfl) ?_
    refine lv_if_eq (tgt := 131) hx hb dX4_beginStep_105 (by decide) (fun c29 => ?_) (fun c29 => ?_)
    · rw [if_pos c29] at h
      refine lv_aload_n hx hb dX4_beginStep_131 rfl (lv_at hl 1 rfl) ?_
      refine gfC_4_0 X hP sC_16 bw_329 dX4_beginStep_132 ?_
      obtain ⟨_, M31, hc32, h⟩ := bnd_inv h
      refine gV_v (As := []) X hP hS hl.1 (c_X7_goOn l D cA q aK aV hq hc32) sf_X7_goOn bw_654 sv_X7_goOn (rcC_7 sC_13) rfl ⟨rfl, rfl⟩ ⟨Nat.le_of_ble_eq_true rfl, Nat.le_of_ble_eq_true rfl⟩ rfl rfl (Nat.le_of_ble_eq_true rfl) dX4_beginStep_135 (fun H locs hP hS => ?_)
      refine lv_iconst (v := 1) hx hb dX4_beginStep_138 (by decide) ?_
      exact end_z X hr hk hP hS (Or.inr rfl) h dX4_beginStep_139
    · rw [if_neg c29] at h
      refine lv_aload_n hx hb dX4_beginStep_108 rfl (lv_at hl 1 rfl) ?_
      refine gfC_4_1 X hP sC_16 bw_330 dX4_beginStep_109 ?_
      refine lv_aload_n hx hb dX4_beginStep_112 rfl (lv_at hl 1 rfl) ?_
      refine gfC_4_2 X hP sC_16 bw_331 dX4_beginStep_113 ?_
      refine lv_iload hx hb dX4_beginStep_116 (lv_at hl 0 rfl) ?_
      obtain ⟨_, M34, hc35, h⟩ := bnd_inv h
      refine gSN_v (As := [.ref (q 17), .int (gI M27 16 2), .int y24]) X hP hS hl.1 (c_X11_put l D cA q aK aV hq sC_17 hc35) sf_X11_put nw_14 ss_X11_put ⟨rfl, rfl⟩ ⟨Nat.le_of_ble_eq_true rfl, Nat.le_of_ble_eq_true rfl⟩ rfl rfl (Nat.le_of_ble_eq_true rfl) dX4_beginStep_118 (fun H locs hP hS => ?_)
      refine lv_aload_n hx hb dX4_beginStep_121 rfl (lv_at hl 1 rfl) ?_
      refine lv_dup hx hb dX4_beginStep_122 rfl ?_
      refine gfC_4_2 X hP sC_16 bw_331 dX4_beginStep_123 ?_
      refine lv_iconst (v := 1) hx hb dX4_beginStep_126 (by decide) ?_
      refine lv_iadd hx hb dX4_beginStep_127 ?_
      obtain ⟨M36, eM36, h⟩ := lt_inv h
      refine pfC_4_2 X hP hS sC_16 bw_331 eM36 dX4_beginStep_128 (fun H locs hP hS => ?_)
      refine lv_aload_n hx hb dX4_beginStep_131 rfl (lv_at hl 1 rfl) ?_
      refine gfC_4_0 X hP sC_16 bw_329 dX4_beginStep_132 ?_
      obtain ⟨_, M38, hc39, h⟩ := bnd_inv h
      refine gV_v (As := []) X hP hS hl.1 (c_X7_goOn l D cA q aK aV hq hc39) sf_X7_goOn bw_654 sv_X7_goOn (rcC_7 sC_13) rfl ⟨rfl, rfl⟩ ⟨Nat.le_of_ble_eq_true rfl, Nat.le_of_ble_eq_true rfl⟩ rfl rfl (Nat.le_of_ble_eq_true rfl) dX4_beginStep_135 (fun H locs hP hS => ?_)
      refine lv_iconst (v := 1) hx hb dX4_beginStep_138 (by decide) ?_
      exact end_z X hr hk hP hS (Or.inr rfl) h dX4_beginStep_139
  have hJ57 : ∀ (s0 : Int32) (M : Mem) (H : Heap) (locs : List Loc) (ls : Array Slot), f_X4_beginStep_J57 a1 a2 s0 M = some (r0, M0) → va_P D vwCl (wsG 167 (ceC cA q) q M) H → va_S (AqG 167 q) s.heap H locs → lv_has ls 5 [(0, .ref (q 16)), (1, .int a1), (2, .ref (q a2))] → W p l e ({ frames := 3, cells := 0, slots := 0, locals := 59 } : Room) s m [.ref (q 16), .int a1, .ref (q a2)].toArray below meth c H locs 0 0 (MQ below (Qi 167 (ceC cA q) D q r0 M0) [.ref (q 16), .int a1, .ref (q a2)].toArray s 0 0 (AqG 167 q)) (F0 m 57 ls [.int s0]) := by
    intro s0 M H locs ls h hP hS hl
    rw [f_X4_beginStep_J57] at h
    refine lv_istore_n (lv' := [(3, .int s0), (0, .ref (q 16)), (1, .int a1), (2, .ref (q a2))]) hx hb dX4_beginStep_57 rfl hl (by decide) rfl (fun ls hl => ?_)
    refine lv_iload_n hx hb dX4_beginStep_58 rfl (lv_at hl 0 rfl) ?_
    refine lv_if_eq (tgt := 80) hx hb dX4_beginStep_59 (by decide) (fun c18 => ?_) (fun c18 => ?_)
    · rw [if_pos c18] at h
      exact hJ80 _ _ _ _ _ h hP hS (lv_sub hl [1, 2, 3, 0] rfl)
    · rw [if_neg c18] at h
      refine lv_aload_n hx hb dX4_beginStep_62 rfl (lv_at hl 1 rfl) ?_
      refine gfC_4_2 X hP sC_16 bw_331 dX4_beginStep_63 ?_
      refine lv_iconst (v := 3) hx hb dX4_beginStep_66 (by decide) ?_
      refine lv_icmp_lt (tgt := 80) hx hb dX4_beginStep_67 (by decide) (fun c19 => ?_) (fun c19 => ?_)
      · rw [if_pos c19] at h
        exact hJ80 _ _ _ _ _ h hP hS (lv_sub hl [1, 2, 3, 0] rfl)
      · rw [if_neg c19] at h
        refine lv_aload_n hx hb dX4_beginStep_70 rfl (lv_at hl 1 rfl) ?_
        refine gfC_4_0 X hP sC_16 bw_329 dX4_beginStep_71 ?_
        refine lv_bipush (v := 7) hx hb dX4_beginStep_74 (by decide) ?_
        obtain ⟨r20, M21, hc22, h⟩ := bnd_inv h
        refine gV_i (As := [.int (7 : Int32)]) X hP hS hl.1 (c_X7_refuse l D cA q aK aV hq hc22) sf_X7_refuse bw_637 sv_X7_refuse (rcC_7 sC_13) rfl ⟨rfl, rfl⟩ ⟨Nat.le_of_ble_eq_true rfl, Nat.le_of_ble_eq_true rfl⟩ rfl rfl (Nat.le_of_ble_eq_true rfl) dX4_beginStep_76 (fun H locs hP hS => ?_)
        obtain ⟨g23, h⟩ := gd_inv h
        exact end_z X hr hk hP hS (Decidable.not_not.mp g23) h dX4_beginStep_79
  have hJ52 : ∀ (M : Mem) (H : Heap) (locs : List Loc) (ls : Array Slot), f_X4_beginStep_J52 a1 a2 M = some (r0, M0) → va_P D vwCl (wsG 167 (ceC cA q) q M) H → va_S (AqG 167 q) s.heap H locs → lv_has ls 5 [(0, .ref (q 16)), (1, .int a1), (2, .ref (q a2))] → W p l e ({ frames := 3, cells := 0, slots := 0, locals := 59 } : Room) s m [.ref (q 16), .int a1, .ref (q a2)].toArray below meth c H locs 0 0 (MQ below (Qi 167 (ceC cA q) D q r0 M0) [.ref (q 16), .int a1, .ref (q a2)].toArray s 0 0 (AqG 167 q)) (F0 m 52 ls []) := by
    intro M H locs ls h hP hS hl
    rw [f_X4_beginStep_J52] at h
    refine lv_iconst (v := 1) hx hb dX4_beginStep_52 (by decide) ?_
    refine lv_goto (tgt := 57) hx hb dX4_beginStep_53 (by decide) ?_
    exact hJ57 _ _ _ _ _ h hP hS (lv_sub hl [0, 1, 2] rfl)
  refine lv_iload_n hx hb dX4_beginStep_0 rfl (lv_at hl 1 rfl) ?_
  refine lv_bipush (v := 15) hx hb dX4_beginStep_1 (by decide) ?_
  refine lv_icmp_lt (tgt := 12) hx hb dX4_beginStep_3 (by decide) (fun c1 => ?_) (fun c1 => ?_)
  · rw [if_pos c1] at h
    refine lv_aload_n hx hb dX4_beginStep_12 rfl (lv_at hl 0 rfl) ?_
    refine gfC_4_0 X hP sC_16 bw_329 dX4_beginStep_13 ?_
    refine lv_iconst (v := 2) hx hb dX4_beginStep_16 (by decide) ?_
    obtain ⟨r2, M3, hc4, h⟩ := bnd_inv h
    refine gV_i (As := [.int (2 : Int32)]) X hP hS hl.1 (c_X7_refuse l D cA q aK aV hq hc4) sf_X7_refuse bw_637 sv_X7_refuse (rcC_7 sC_13) rfl ⟨rfl, rfl⟩ ⟨Nat.le_of_ble_eq_true rfl, Nat.le_of_ble_eq_true rfl⟩ rfl rfl (Nat.le_of_ble_eq_true rfl) dX4_beginStep_17 (fun H locs hP hS => ?_)
    obtain ⟨g5, h⟩ := gd_inv h
    exact end_z X hr hk hP hS (Decidable.not_not.mp g5) h dX4_beginStep_20
  · rw [if_neg c1] at h
    refine lv_iload_n hx hb dX4_beginStep_6 rfl (lv_at hl 1 rfl) ?_
    refine lv_bipush (v := 24) hx hb dX4_beginStep_7 (by decide) ?_
    refine lv_icmp_le (tgt := 21) hx hb dX4_beginStep_9 (by decide) (fun c6 => ?_) (fun c6 => ?_)
    · rw [if_pos c6] at h
      refine lv_aload_n hx hb dX4_beginStep_21 rfl (lv_at hl 2 rfl) ?_
      refine gfC_9_1 X hP h2 bw_48 dX4_beginStep_22 ?_
      refine lv_bipush (v := 30) hx hb dX4_beginStep_25 (by decide) ?_
      refine lv_icmp_lt (tgt := 40) hx hb dX4_beginStep_27 (by decide) (fun c7 => ?_) (fun c7 => ?_)
      · rw [if_pos c7] at h
        refine lv_iload_n hx hb dX4_beginStep_40 rfl (lv_at hl 1 rfl) ?_
        refine lv_bipush (v := 22) hx hb dX4_beginStep_41 (by decide) ?_
        refine lv_icmp_eq (tgt := 52) hx hb dX4_beginStep_43 (by decide) (fun c8 => ?_) (fun c8 => ?_)
        · rw [if_pos c8] at h
          exact hJ52  _ _ _ _ h hP hS (lv_sub hl [0, 1, 2] rfl)
        · rw [if_neg c8] at h
          refine lv_iload_n hx hb dX4_beginStep_46 rfl (lv_at hl 1 rfl) ?_
          refine lv_bipush (v := 23) hx hb dX4_beginStep_47 (by decide) ?_
          refine lv_icmp_ne (tgt := 56) hx hb dX4_beginStep_49 (by decide) (fun c9 => ?_) (fun c9 => ?_)
          · rw [if_neg c9] at h
            refine lv_iconst (v := 0) hx hb dX4_beginStep_56 (by decide) ?_
            exact hJ57 _ _ _ _ _ h hP hS (lv_sub hl [0, 1, 2] rfl)
          · rw [if_pos c9] at h
            exact hJ52  _ _ _ _ h hP hS (lv_sub hl [0, 1, 2] rfl)
      · rw [if_neg c7] at h
        refine lv_aload_n hx hb dX4_beginStep_30 rfl (lv_at hl 0 rfl) ?_
        refine gfC_4_0 X hP sC_16 bw_329 dX4_beginStep_31 ?_
        refine lv_bipush (v := 6) hx hb dX4_beginStep_34 (by decide) ?_
        obtain ⟨r10, M11, hc12, h⟩ := bnd_inv h
        refine gV_i (As := [.int (6 : Int32)]) X hP hS hl.1 (c_X7_refuse l D cA q aK aV hq hc12) sf_X7_refuse bw_637 sv_X7_refuse (rcC_7 sC_13) rfl ⟨rfl, rfl⟩ ⟨Nat.le_of_ble_eq_true rfl, Nat.le_of_ble_eq_true rfl⟩ rfl rfl (Nat.le_of_ble_eq_true rfl) dX4_beginStep_36 (fun H locs hP hS => ?_)
        obtain ⟨g13, h⟩ := gd_inv h
        exact end_z X hr hk hP hS (Decidable.not_not.mp g13) h dX4_beginStep_39
    · rw [if_neg c6] at h
      refine lv_aload_n hx hb dX4_beginStep_12 rfl (lv_at hl 0 rfl) ?_
      refine gfC_4_0 X hP sC_16 bw_329 dX4_beginStep_13 ?_
      refine lv_iconst (v := 2) hx hb dX4_beginStep_16 (by decide) ?_
      obtain ⟨r14, M15, hc16, h⟩ := bnd_inv h
      refine gV_i (As := [.int (2 : Int32)]) X hP hS hl.1 (c_X7_refuse l D cA q aK aV hq hc16) sf_X7_refuse bw_637 sv_X7_refuse (rcC_7 sC_13) rfl ⟨rfl, rfl⟩ ⟨Nat.le_of_ble_eq_true rfl, Nat.le_of_ble_eq_true rfl⟩ rfl rfl (Nat.le_of_ble_eq_true rfl) dX4_beginStep_17 (fun H locs hP hS => ?_)
      obtain ⟨g17, h⟩ := gd_inv h
      exact end_z X hr hk hP hS (Decidable.not_not.mp g17) h dX4_beginStep_20
theorem dX4_keepFound_0 : decode cX4_keepFound 0 = .ok (.aload_n 1, 1) := by decide +kernel
theorem dX4_keepFound_1 : decode cX4_keepFound 1 = .ok (.iload_n 2, 1) := by decide +kernel
theorem dX4_keepFound_2 : decode cX4_keepFound 2 = .ok (.iload_n 3, 1) := by decide +kernel
theorem dX4_keepFound_3 : decode cX4_keepFound 3 = .ok (.aload_n 0, 1) := by decide +kernel
theorem dX4_keepFound_4 : decode cX4_keepFound 4 = .ok (.getfield 19, 3) := by decide +kernel
theorem dX4_keepFound_7 : decode cX4_keepFound 7 = .ok (.invokevirtual 214, 3) := by decide +kernel
theorem dX4_keepFound_10 : decode cX4_keepFound 10 = .ok (.iconst 1, 1) := by decide +kernel
theorem dX4_keepFound_11 : decode cX4_keepFound 11 = .ok (.ireturn, 1) := by decide +kernel
set_option maxRecDepth 100000 in
set_option maxHeartbeats 8000000 in
theorem c_X4_keepFound (l : Launch) (D : va_G) (cA : Nat → ClassId) (q aK aV : Nat → Nat) (hq : injG 167 q) {a1 : Nat} {a2 : Int32} {a3 : Int32} {M M0 : Mem} {r0 : Int32} (h1 : shC a1 = 9) (h : f_X4_keepFound a1 a2 a3 M = some (r0, M0)) : Met l yX4_keepFound (.code yX4_keepFound cX4_keepFound 4 (some .boolean) :: BW) ({ frames := 3, cells := 0, slots := 0, locals := 59 } : Room) (va_Pc [.ref (q 16), .ref (q a1), .int a2, .int a3] (CB 167 (ceC cA q) D cA q aK aV M)) (Qi 167 (ceC cA q) D q r0 M0) 0 0 (AqG 167 q) := by
  refine gMet RX4 (by decide +kernel) rfl hq (Nat.le_of_ble_eq_true rfl) ?_
  intro p e s m below meth c ls X hr hk hP hS hl
  have hx := X.1
  have hb := X.2.1
  have hl : lv_has ls 4 [(0, .ref (q 16)), (1, .ref (q a1)), (2, .int a2), (3, .int a3)] := hl
  rw [f_X4_keepFound] at h
  refine lv_aload_n hx hb dX4_keepFound_0 rfl (lv_at hl 1 rfl) ?_
  refine lv_iload_n hx hb dX4_keepFound_1 rfl (lv_at hl 2 rfl) ?_
  refine lv_iload_n hx hb dX4_keepFound_2 rfl (lv_at hl 3 rfl) ?_
  refine lv_aload_n hx hb dX4_keepFound_3 rfl (lv_at hl 0 rfl) ?_
  refine gfC_4_3 X hP sC_16 bw_332 dX4_keepFound_4 ?_
  obtain ⟨_, M2, hc3, h⟩ := bnd_inv h
  refine gV_v (As := [.int a2, .int a3, .int (gI M 16 3)]) X hP hS hl.1 (c_X9_putCell l D cA q aK aV hq h1 hc3) sf_X9_putCell bw_773 sv_X9_putCell (rcC_9 h1) rfl ⟨rfl, rfl⟩ ⟨Nat.le_of_ble_eq_true rfl, Nat.le_of_ble_eq_true rfl⟩ rfl rfl (Nat.le_of_ble_eq_true rfl) dX4_keepFound_7 (fun H locs hP hS => ?_)
  refine lv_iconst (v := 1) hx hb dX4_keepFound_10 (by decide) ?_
  exact end_z X hr hk hP hS (Or.inr rfl) h dX4_keepFound_11
theorem dX4_readTest_0 : decode cX4_readTest 0 = .ok (.aload_n 0, 1) := by decide +kernel
theorem dX4_readTest_1 : decode cX4_readTest 1 = .ok (.getfield 28, 3) := by decide +kernel
theorem dX4_readTest_4 : decode cX4_readTest 4 = .ok (.getfield 43, 3) := by decide +kernel
theorem dX4_readTest_7 : decode cX4_readTest 7 = .ok (.istore 4, 2) := by decide +kernel
theorem dX4_readTest_9 : decode cX4_readTest 9 = .ok (.iload 4, 2) := by decide +kernel
theorem dX4_readTest_11 : decode cX4_readTest 11 = .ok (.bipush 25, 2) := by decide +kernel
theorem dX4_readTest_13 : decode cX4_readTest 13 = .ok (.if_icmp .eq 33, 3) := by decide +kernel
theorem dX4_readTest_16 : decode cX4_readTest 16 = .ok (.iload 4, 2) := by decide +kernel
theorem dX4_readTest_18 : decode cX4_readTest 18 = .ok (.bipush 26, 2) := by decide +kernel
theorem dX4_readTest_20 : decode cX4_readTest 20 = .ok (.if_icmp .eq 26, 3) := by decide +kernel
theorem dX4_readTest_23 : decode cX4_readTest 23 = .ok (.iload 4, 2) := by decide +kernel
theorem dX4_readTest_25 : decode cX4_readTest 25 = .ok (.bipush 27, 2) := by decide +kernel
theorem dX4_readTest_27 : decode cX4_readTest 27 = .ok (.if_icmp .eq 19, 3) := by decide +kernel
theorem dX4_readTest_30 : decode cX4_readTest 30 = .ok (.iload 4, 2) := by decide +kernel
theorem dX4_readTest_32 : decode cX4_readTest 32 = .ok (.bipush 11, 2) := by decide +kernel
theorem dX4_readTest_34 : decode cX4_readTest 34 = .ok (.if_icmp .eq 12, 3) := by decide +kernel
theorem dX4_readTest_37 : decode cX4_readTest 37 = .ok (.aload_n 0, 1) := by decide +kernel
theorem dX4_readTest_38 : decode cX4_readTest 38 = .ok (.getfield 28, 3) := by decide +kernel
theorem dX4_readTest_41 : decode cX4_readTest 41 = .ok (.iconst 2, 1) := by decide +kernel
theorem dX4_readTest_42 : decode cX4_readTest 42 = .ok (.invokevirtual 57, 3) := by decide +kernel
theorem dX4_readTest_45 : decode cX4_readTest 45 = .ok (.ireturn, 1) := by decide +kernel
theorem dX4_readTest_46 : decode cX4_readTest 46 = .ok (.aload_n 3, 1) := by decide +kernel
theorem dX4_readTest_47 : decode cX4_readTest 47 = .ok (.iload_n 1, 1) := by decide +kernel
theorem dX4_readTest_48 : decode cX4_readTest 48 = .ok (.iconst 1, 1) := by decide +kernel
theorem dX4_readTest_49 : decode cX4_readTest 49 = .ok (.iload 4, 2) := by decide +kernel
theorem dX4_readTest_51 : decode cX4_readTest 51 = .ok (.invokevirtual 214, 3) := by decide +kernel
theorem dX4_readTest_54 : decode cX4_readTest 54 = .ok (.aload_n 0, 1) := by decide +kernel
theorem dX4_readTest_55 : decode cX4_readTest 55 = .ok (.getfield 28, 3) := by decide +kernel
theorem dX4_readTest_58 : decode cX4_readTest 58 = .ok (.invokevirtual 63, 3) := by decide +kernel
theorem dX4_readTest_61 : decode cX4_readTest 61 = .ok (.iload 4, 2) := by decide +kernel
theorem dX4_readTest_63 : decode cX4_readTest 63 = .ok (.bipush 11, 2) := by decide +kernel
theorem dX4_readTest_65 : decode cX4_readTest 65 = .ok (.if_icmp .ne 36, 3) := by decide +kernel
theorem dX4_readTest_68 : decode cX4_readTest 68 = .ok (.aload_n 0, 1) := by decide +kernel
theorem dX4_readTest_69 : decode cX4_readTest 69 = .ok (.bipush 9, 2) := by decide +kernel
theorem dX4_readTest_71 : decode cX4_readTest 71 = .ok (.invokevirtual 118, 3) := by decide +kernel
theorem dX4_readTest_74 : decode cX4_readTest 74 = .ok (.ifCond .ne 5, 3) := by decide +kernel
theorem dX4_readTest_77 : decode cX4_readTest 77 = .ok (.iconst 0, 1) := by decide +kernel
theorem dX4_readTest_78 : decode cX4_readTest 78 = .ok (.ireturn, 1) := by decide +kernel
theorem dX4_readTest_79 : decode cX4_readTest 79 = .ok (.aload_n 3, 1) := by decide +kernel
theorem dX4_readTest_80 : decode cX4_readTest 80 = .ok (.iload_n 1, 1) := by decide +kernel
theorem dX4_readTest_81 : decode cX4_readTest 81 = .ok (.iconst 2, 1) := by decide +kernel
theorem dX4_readTest_82 : decode cX4_readTest 82 = .ok (.aload_n 0, 1) := by decide +kernel
theorem dX4_readTest_83 : decode cX4_readTest 83 = .ok (.getfield 22, 3) := by decide +kernel
theorem dX4_readTest_86 : decode cX4_readTest 86 = .ok (.invokevirtual 214, 3) := by decide +kernel
theorem dX4_readTest_89 : decode cX4_readTest 89 = .ok (.aload_n 3, 1) := by decide +kernel
theorem dX4_readTest_90 : decode cX4_readTest 90 = .ok (.iload_n 1, 1) := by decide +kernel
theorem dX4_readTest_91 : decode cX4_readTest 91 = .ok (.iconst 3, 1) := by decide +kernel
theorem dX4_readTest_92 : decode cX4_readTest 92 = .ok (.aload_n 0, 1) := by decide +kernel
theorem dX4_readTest_93 : decode cX4_readTest 93 = .ok (.getfield 25, 3) := by decide +kernel
theorem dX4_readTest_96 : decode cX4_readTest 96 = .ok (.invokevirtual 214, 3) := by decide +kernel
theorem dX4_readTest_99 : decode cX4_readTest 99 = .ok (.iconst 1, 1) := by decide +kernel
theorem dX4_readTest_100 : decode cX4_readTest 100 = .ok (.ireturn, 1) := by decide +kernel
theorem dX4_readTest_101 : decode cX4_readTest 101 = .ok (.aload_n 0, 1) := by decide +kernel
theorem dX4_readTest_102 : decode cX4_readTest 102 = .ok (.iconst 3, 1) := by decide +kernel
theorem dX4_readTest_103 : decode cX4_readTest 103 = .ok (.aload_n 2, 1) := by decide +kernel
theorem dX4_readTest_104 : decode cX4_readTest 104 = .ok (.invokevirtual 73, 3) := by decide +kernel
theorem dX4_readTest_107 : decode cX4_readTest 107 = .ok (.ifCond .eq 13, 3) := by decide +kernel
theorem dX4_readTest_110 : decode cX4_readTest 110 = .ok (.aload_n 0, 1) := by decide +kernel
theorem dX4_readTest_111 : decode cX4_readTest 111 = .ok (.aload_n 3, 1) := by decide +kernel
theorem dX4_readTest_112 : decode cX4_readTest 112 = .ok (.iload_n 1, 1) := by decide +kernel
theorem dX4_readTest_113 : decode cX4_readTest 113 = .ok (.iconst 2, 1) := by decide +kernel
theorem dX4_readTest_114 : decode cX4_readTest 114 = .ok (.invokevirtual 218, 3) := by decide +kernel
theorem dX4_readTest_117 : decode cX4_readTest 117 = .ok (.ifCond .ne 5, 3) := by decide +kernel
theorem dX4_readTest_120 : decode cX4_readTest 120 = .ok (.iconst 0, 1) := by decide +kernel
theorem dX4_readTest_121 : decode cX4_readTest 121 = .ok (.ireturn, 1) := by decide +kernel
theorem dX4_readTest_122 : decode cX4_readTest 122 = .ok (.iload 4, 2) := by decide +kernel
theorem dX4_readTest_124 : decode cX4_readTest 124 = .ok (.bipush 25, 2) := by decide +kernel
theorem dX4_readTest_126 : decode cX4_readTest 126 = .ok (.if_icmp .ne 22, 3) := by decide +kernel
theorem dX4_readTest_129 : decode cX4_readTest 129 = .ok (.aload_n 0, 1) := by decide +kernel
theorem dX4_readTest_130 : decode cX4_readTest 130 = .ok (.iconst 1, 1) := by decide +kernel
theorem dX4_readTest_131 : decode cX4_readTest 131 = .ok (.aload_n 2, 1) := by decide +kernel
theorem dX4_readTest_132 : decode cX4_readTest 132 = .ok (.invokevirtual 73, 3) := by decide +kernel
theorem dX4_readTest_135 : decode cX4_readTest 135 = .ok (.ifCond .eq 17, 3) := by decide +kernel
theorem dX4_readTest_138 : decode cX4_readTest 138 = .ok (.aload_n 0, 1) := by decide +kernel
theorem dX4_readTest_139 : decode cX4_readTest 139 = .ok (.aload_n 3, 1) := by decide +kernel
theorem dX4_readTest_140 : decode cX4_readTest 140 = .ok (.iload_n 1, 1) := by decide +kernel
theorem dX4_readTest_141 : decode cX4_readTest 141 = .ok (.iconst 3, 1) := by decide +kernel
theorem dX4_readTest_142 : decode cX4_readTest 142 = .ok (.invokevirtual 218, 3) := by decide +kernel
theorem dX4_readTest_145 : decode cX4_readTest 145 = .ok (.ifCond .eq 7, 3) := by decide +kernel
theorem dX4_readTest_148 : decode cX4_readTest 148 = .ok (.iconst 1, 1) := by decide +kernel
theorem dX4_readTest_149 : decode cX4_readTest 149 = .ok (.goto 4, 3) := by decide +kernel
theorem dX4_readTest_152 : decode cX4_readTest 152 = .ok (.iconst 0, 1) := by decide +kernel
theorem dX4_readTest_153 : decode cX4_readTest 153 = .ok (.ireturn, 1) := by decide +kernel
set_option maxRecDepth 100000 in
set_option maxHeartbeats 8000000 in
theorem c_X4_readTest (l : Launch) (D : va_G) (cA : Nat → ClassId) (q aK aV : Nat → Nat) (hq : injG 167 q) {a1 : Int32} {a2 : Nat} {a3 : Nat} {M M0 : Mem} {r0 : Int32} (h2 : shC a2 = 0) (h3 : shC a3 = 9) (h : f_X4_readTest a1 a2 a3 M = some (r0, M0)) : Met l yX4_readTest (.code yX4_readTest cX4_readTest 5 (some .boolean) :: BW) ({ frames := 5, cells := 0, slots := 0, locals := 101 } : Room) (va_Pc [.ref (q 16), .int a1, .ref (q a2), .ref (q a3)] (CB 167 (ceC cA q) D cA q aK aV M)) (Qi 167 (ceC cA q) D q r0 M0) 0 0 (AqG 167 q) := by
  refine gMet RX4 (by decide +kernel) rfl hq (Nat.le_of_ble_eq_true rfl) ?_
  intro p e s m below meth c ls X hr hk hP hS hl
  have hx := X.1
  have hb := X.2.1
  have hl : lv_has ls 5 [(0, .ref (q 16)), (1, .int a1), (2, .ref (q a2)), (3, .ref (q a3))] := hl
  rw [f_X4_readTest] at h
  have hJ46 : ∀ (b4 : Int32) (M : Mem) (H : Heap) (locs : List Loc) (ls : Array Slot), f_X4_readTest_J46 a1 a2 a3 b4 M = some (r0, M0) → va_P D vwCl (wsG 167 (ceC cA q) q M) H → va_S (AqG 167 q) s.heap H locs → lv_has ls 5 [(0, .ref (q 16)), (1, .int a1), (2, .ref (q a2)), (3, .ref (q a3)), (4, .int b4)] → W p l e ({ frames := 5, cells := 0, slots := 0, locals := 101 } : Room) s m [.ref (q 16), .int a1, .ref (q a2), .ref (q a3)].toArray below meth c H locs 0 0 (MQ below (Qi 167 (ceC cA q) D q r0 M0) [.ref (q 16), .int a1, .ref (q a2), .ref (q a3)].toArray s 0 0 (AqG 167 q)) (F0 m 46 ls []) := by
    intro b4 M H locs ls h hP hS hl
    rw [f_X4_readTest_J46] at h
    refine lv_aload_n hx hb dX4_readTest_46 rfl (lv_at hl 3 rfl) ?_
    refine lv_iload_n hx hb dX4_readTest_47 rfl (lv_at hl 1 rfl) ?_
    refine lv_iconst (v := 1) hx hb dX4_readTest_48 (by decide) ?_
    refine lv_iload hx hb dX4_readTest_49 (lv_at hl 4 rfl) ?_
    obtain ⟨_, M11, hc12, h⟩ := bnd_inv h
    refine gV_v (As := [.int a1, .int (1 : Int32), .int b4]) X hP hS hl.1 (c_X9_putCell l D cA q aK aV hq h3 hc12) sf_X9_putCell bw_773 sv_X9_putCell (rcC_9 h3) rfl ⟨rfl, rfl⟩ ⟨Nat.le_of_ble_eq_true rfl, Nat.le_of_ble_eq_true rfl⟩ rfl rfl (Nat.le_of_ble_eq_true rfl) dX4_readTest_51 (fun H locs hP hS => ?_)
    refine lv_aload_n hx hb dX4_readTest_54 rfl (lv_at hl 0 rfl) ?_
    refine gfC_4_0 X hP sC_16 bw_329 dX4_readTest_55 ?_
    obtain ⟨_, M14, hc15, h⟩ := bnd_inv h
    refine gV_v (As := []) X hP hS hl.1 (c_X7_goOn l D cA q aK aV hq hc15) sf_X7_goOn bw_654 sv_X7_goOn (rcC_7 sC_13) rfl ⟨rfl, rfl⟩ ⟨Nat.le_of_ble_eq_true rfl, Nat.le_of_ble_eq_true rfl⟩ rfl rfl (Nat.le_of_ble_eq_true rfl) dX4_readTest_58 (fun H locs hP hS => ?_)
    refine lv_iload hx hb dX4_readTest_61 (lv_at hl 4 rfl) ?_
    refine lv_bipush (v := 11) hx hb dX4_readTest_63 (by decide) ?_
    refine lv_icmp_ne (tgt := 101) hx hb dX4_readTest_65 (by decide) (fun c16 => ?_) (fun c16 => ?_)
    · rw [if_neg c16] at h
      refine lv_aload_n hx hb dX4_readTest_101 rfl (lv_at hl 0 rfl) ?_
      refine lv_iconst (v := 3) hx hb dX4_readTest_102 (by decide) ?_
      refine lv_aload_n hx hb dX4_readTest_103 rfl (lv_at hl 2 rfl) ?_
      obtain ⟨r17, M18, hc19, h⟩ := bnd_inv h
      refine gV_i (As := [.int (3 : Int32), .ref (q a2)]) X hP hS hl.1 (c_X4_takeName l D cA q aK aV hq h2 hc19) sf_X4_takeName bw_698 sv_X4_takeName (rcC_4 sC_16) rfl ⟨rfl, rfl⟩ ⟨Nat.le_of_ble_eq_true rfl, Nat.le_of_ble_eq_true rfl⟩ rfl rfl (Nat.le_of_ble_eq_true rfl) dX4_readTest_104 (fun H locs hP hS => ?_)
      refine lv_if_eq (tgt := 120) hx hb dX4_readTest_107 (by decide) (fun c20 => ?_) (fun c20 => ?_)
      · rw [if_pos c20] at h
        refine lv_iconst (v := 0) hx hb dX4_readTest_120 (by decide) ?_
        exact end_z X hr hk hP hS (Or.inl rfl) h dX4_readTest_121
      · rw [if_neg c20] at h
        refine lv_aload_n hx hb dX4_readTest_110 rfl (lv_at hl 0 rfl) ?_
        refine lv_aload_n hx hb dX4_readTest_111 rfl (lv_at hl 3 rfl) ?_
        refine lv_iload_n hx hb dX4_readTest_112 rfl (lv_at hl 1 rfl) ?_
        refine lv_iconst (v := 2) hx hb dX4_readTest_113 (by decide) ?_
        obtain ⟨r21, M22, hc23, h⟩ := bnd_inv h
        refine gV_i (As := [.ref (q a3), .int a1, .int (2 : Int32)]) X hP hS hl.1 (c_X4_keepFound l D cA q aK aV hq h3 hc23) sf_X4_keepFound bw_786 sv_X4_keepFound (rcC_4 sC_16) rfl ⟨rfl, rfl⟩ ⟨Nat.le_of_ble_eq_true rfl, Nat.le_of_ble_eq_true rfl⟩ rfl rfl (Nat.le_of_ble_eq_true rfl) dX4_readTest_114 (fun H locs hP hS => ?_)
        refine lv_if_ne (tgt := 122) hx hb dX4_readTest_117 (by decide) (fun c24 => ?_) (fun c24 => ?_)
        · rw [if_neg c24] at h
          refine lv_iload hx hb dX4_readTest_122 (lv_at hl 4 rfl) ?_
          refine lv_bipush (v := 25) hx hb dX4_readTest_124 (by decide) ?_
          refine lv_icmp_ne (tgt := 148) hx hb dX4_readTest_126 (by decide) (fun c25 => ?_) (fun c25 => ?_)
          · rw [if_neg c25] at h
            refine lv_iconst (v := 1) hx hb dX4_readTest_148 (by decide) ?_
            refine lv_goto (tgt := 153) hx hb dX4_readTest_149 (by decide) ?_
            exact end_z X hr hk hP hS (Or.inr rfl) h dX4_readTest_153
          · rw [if_pos c25] at h
            refine lv_aload_n hx hb dX4_readTest_129 rfl (lv_at hl 0 rfl) ?_
            refine lv_iconst (v := 1) hx hb dX4_readTest_130 (by decide) ?_
            refine lv_aload_n hx hb dX4_readTest_131 rfl (lv_at hl 2 rfl) ?_
            obtain ⟨r26, M27, hc28, h⟩ := bnd_inv h
            refine gV_i (As := [.int (1 : Int32), .ref (q a2)]) X hP hS hl.1 (c_X4_takeName l D cA q aK aV hq h2 hc28) sf_X4_takeName bw_698 sv_X4_takeName (rcC_4 sC_16) rfl ⟨rfl, rfl⟩ ⟨Nat.le_of_ble_eq_true rfl, Nat.le_of_ble_eq_true rfl⟩ rfl rfl (Nat.le_of_ble_eq_true rfl) dX4_readTest_132 (fun H locs hP hS => ?_)
            refine lv_if_eq (tgt := 152) hx hb dX4_readTest_135 (by decide) (fun c29 => ?_) (fun c29 => ?_)
            · rw [if_pos c29] at h
              refine lv_iconst (v := 0) hx hb dX4_readTest_152 (by decide) ?_
              exact end_z X hr hk hP hS (Or.inl rfl) h dX4_readTest_153
            · rw [if_neg c29] at h
              refine lv_aload_n hx hb dX4_readTest_138 rfl (lv_at hl 0 rfl) ?_
              refine lv_aload_n hx hb dX4_readTest_139 rfl (lv_at hl 3 rfl) ?_
              refine lv_iload_n hx hb dX4_readTest_140 rfl (lv_at hl 1 rfl) ?_
              refine lv_iconst (v := 3) hx hb dX4_readTest_141 (by decide) ?_
              obtain ⟨r30, M31, hc32, h⟩ := bnd_inv h
              refine gV_i (As := [.ref (q a3), .int a1, .int (3 : Int32)]) X hP hS hl.1 (c_X4_keepFound l D cA q aK aV hq h3 hc32) sf_X4_keepFound bw_786 sv_X4_keepFound (rcC_4 sC_16) rfl ⟨rfl, rfl⟩ ⟨Nat.le_of_ble_eq_true rfl, Nat.le_of_ble_eq_true rfl⟩ rfl rfl (Nat.le_of_ble_eq_true rfl) dX4_readTest_142 (fun H locs hP hS => ?_)
              refine lv_if_eq (tgt := 152) hx hb dX4_readTest_145 (by decide) (fun c33 => ?_) (fun c33 => ?_)
              · rw [if_pos c33] at h
                refine lv_iconst (v := 0) hx hb dX4_readTest_152 (by decide) ?_
                exact end_z X hr hk hP hS (Or.inl rfl) h dX4_readTest_153
              · rw [if_neg c33] at h
                refine lv_iconst (v := 1) hx hb dX4_readTest_148 (by decide) ?_
                refine lv_goto (tgt := 153) hx hb dX4_readTest_149 (by decide) ?_
                exact end_z X hr hk hP hS (Or.inr rfl) h dX4_readTest_153
        · rw [if_pos c24] at h
          refine lv_iconst (v := 0) hx hb dX4_readTest_120 (by decide) ?_
          exact end_z X hr hk hP hS (Or.inl rfl) h dX4_readTest_121
    · rw [if_pos c16] at h
      refine lv_aload_n hx hb dX4_readTest_68 rfl (lv_at hl 0 rfl) ?_
      refine lv_bipush (v := 9) hx hb dX4_readTest_69 (by decide) ?_
      obtain ⟨r34, M35, hc36, h⟩ := bnd_inv h
      refine gV_i (As := [.int (9 : Int32)]) X hP hS hl.1 (c_X4_takeCompare l D cA q aK aV hq hc36) sf_X4_takeCompare bw_715 sv_X4_takeCompare (rcC_4 sC_16) rfl ⟨rfl, rfl⟩ ⟨Nat.le_of_ble_eq_true rfl, Nat.le_of_ble_eq_true rfl⟩ rfl rfl (Nat.le_of_ble_eq_true rfl) dX4_readTest_71 (fun H locs hP hS => ?_)
      refine lv_if_ne (tgt := 79) hx hb dX4_readTest_74 (by decide) (fun c37 => ?_) (fun c37 => ?_)
      · rw [if_neg c37] at h
        refine lv_aload_n hx hb dX4_readTest_79 rfl (lv_at hl 3 rfl) ?_
        refine lv_iload_n hx hb dX4_readTest_80 rfl (lv_at hl 1 rfl) ?_
        refine lv_iconst (v := 2) hx hb dX4_readTest_81 (by decide) ?_
        refine lv_aload_n hx hb dX4_readTest_82 rfl (lv_at hl 0 rfl) ?_
        refine gfC_4_4 X hP sC_16 bw_333 dX4_readTest_83 ?_
        obtain ⟨_, M39, hc40, h⟩ := bnd_inv h
        refine gV_v (As := [.int a1, .int (2 : Int32), .int (gI M35 16 4)]) X hP hS hl.1 (c_X9_putCell l D cA q aK aV hq h3 hc40) sf_X9_putCell bw_773 sv_X9_putCell (rcC_9 h3) rfl ⟨rfl, rfl⟩ ⟨Nat.le_of_ble_eq_true rfl, Nat.le_of_ble_eq_true rfl⟩ rfl rfl (Nat.le_of_ble_eq_true rfl) dX4_readTest_86 (fun H locs hP hS => ?_)
        refine lv_aload_n hx hb dX4_readTest_89 rfl (lv_at hl 3 rfl) ?_
        refine lv_iload_n hx hb dX4_readTest_90 rfl (lv_at hl 1 rfl) ?_
        refine lv_iconst (v := 3) hx hb dX4_readTest_91 (by decide) ?_
        refine lv_aload_n hx hb dX4_readTest_92 rfl (lv_at hl 0 rfl) ?_
        refine gfC_4_5 X hP sC_16 bw_334 dX4_readTest_93 ?_
        obtain ⟨_, M42, hc43, h⟩ := bnd_inv h
        refine gV_v (As := [.int a1, .int (3 : Int32), .int (gI M39 16 5)]) X hP hS hl.1 (c_X9_putCell l D cA q aK aV hq h3 hc43) sf_X9_putCell bw_773 sv_X9_putCell (rcC_9 h3) rfl ⟨rfl, rfl⟩ ⟨Nat.le_of_ble_eq_true rfl, Nat.le_of_ble_eq_true rfl⟩ rfl rfl (Nat.le_of_ble_eq_true rfl) dX4_readTest_96 (fun H locs hP hS => ?_)
        refine lv_iconst (v := 1) hx hb dX4_readTest_99 (by decide) ?_
        exact end_z X hr hk hP hS (Or.inr rfl) h dX4_readTest_100
      · rw [if_pos c37] at h
        refine lv_iconst (v := 0) hx hb dX4_readTest_77 (by decide) ?_
        exact end_z X hr hk hP hS (Or.inl rfl) h dX4_readTest_78
  refine lv_aload_n hx hb dX4_readTest_0 rfl (lv_at hl 0 rfl) ?_
  refine gfC_4_0 X hP sC_16 bw_329 dX4_readTest_1 ?_
  refine gfC_7_6 X hP sC_13 bw_290 dX4_readTest_4 ?_
  obtain ⟨y1, ey1, h⟩ := lt_inv h
  refine topE ey1 ?_
  refine lv_istore (lv' := [(4, .int y1), (0, .ref (q 16)), (1, .int a1), (2, .ref (q a2)), (3, .ref (q a3))]) hx hb dX4_readTest_7 hl (by decide) rfl (fun ls hl => ?_)
  refine lv_iload hx hb dX4_readTest_9 (lv_at hl 0 rfl) ?_
  refine lv_bipush (v := 25) hx hb dX4_readTest_11 (by decide) ?_
  refine lv_icmp_eq (tgt := 46) hx hb dX4_readTest_13 (by decide) (fun c2 => ?_) (fun c2 => ?_)
  · rw [if_pos c2] at h
    exact hJ46 _ _ _ _ _ h hP hS (lv_sub hl [1, 2, 3, 4, 0] rfl)
  · rw [if_neg c2] at h
    refine lv_iload hx hb dX4_readTest_16 (lv_at hl 0 rfl) ?_
    refine lv_bipush (v := 26) hx hb dX4_readTest_18 (by decide) ?_
    refine lv_icmp_eq (tgt := 46) hx hb dX4_readTest_20 (by decide) (fun c3 => ?_) (fun c3 => ?_)
    · rw [if_pos c3] at h
      exact hJ46 _ _ _ _ _ h hP hS (lv_sub hl [1, 2, 3, 4, 0] rfl)
    · rw [if_neg c3] at h
      refine lv_iload hx hb dX4_readTest_23 (lv_at hl 0 rfl) ?_
      refine lv_bipush (v := 27) hx hb dX4_readTest_25 (by decide) ?_
      refine lv_icmp_eq (tgt := 46) hx hb dX4_readTest_27 (by decide) (fun c4 => ?_) (fun c4 => ?_)
      · rw [if_pos c4] at h
        exact hJ46 _ _ _ _ _ h hP hS (lv_sub hl [1, 2, 3, 4, 0] rfl)
      · rw [if_neg c4] at h
        refine lv_iload hx hb dX4_readTest_30 (lv_at hl 0 rfl) ?_
        refine lv_bipush (v := 11) hx hb dX4_readTest_32 (by decide) ?_
        refine lv_icmp_eq (tgt := 46) hx hb dX4_readTest_34 (by decide) (fun c5 => ?_) (fun c5 => ?_)
        · rw [if_pos c5] at h
          exact hJ46 _ _ _ _ _ h hP hS (lv_sub hl [1, 2, 3, 4, 0] rfl)
        · rw [if_neg c5] at h
          refine lv_aload_n hx hb dX4_readTest_37 rfl (lv_at hl 1 rfl) ?_
          refine gfC_4_0 X hP sC_16 bw_329 dX4_readTest_38 ?_
          refine lv_iconst (v := 2) hx hb dX4_readTest_41 (by decide) ?_
          obtain ⟨r6, M7, hc8, h⟩ := bnd_inv h
          refine gV_i (As := [.int (2 : Int32)]) X hP hS hl.1 (c_X7_refuse l D cA q aK aV hq hc8) sf_X7_refuse bw_637 sv_X7_refuse (rcC_7 sC_13) rfl ⟨rfl, rfl⟩ ⟨Nat.le_of_ble_eq_true rfl, Nat.le_of_ble_eq_true rfl⟩ rfl rfl (Nat.le_of_ble_eq_true rfl) dX4_readTest_42 (fun H locs hP hS => ?_)
          obtain ⟨g9, h⟩ := gd_inv h
          exact end_z X hr hk hP hS (Decidable.not_not.mp g9) h dX4_readTest_45
theorem dX4_readStep_0 : decode cX4_readStep 0 = .ok (.iload_n 1, 1) := by decide +kernel
theorem dX4_readStep_1 : decode cX4_readStep 1 = .ok (.tableswitch 206 15 23 #[51, 206, 77, 124, 124, 206, 206, 170, 179], 51) := by decide +kernel
theorem dX4_readStep_52 : decode cX4_readStep 52 = .ok (.aload_n 0, 1) := by decide +kernel
theorem dX4_readStep_53 : decode cX4_readStep 53 = .ok (.iconst 3, 1) := by decide +kernel
theorem dX4_readStep_54 : decode cX4_readStep 54 = .ok (.aload_n 3, 1) := by decide +kernel
theorem dX4_readStep_55 : decode cX4_readStep 55 = .ok (.invokevirtual 73, 3) := by decide +kernel
theorem dX4_readStep_58 : decode cX4_readStep 58 = .ok (.ifCond .eq 18, 3) := by decide +kernel
theorem dX4_readStep_61 : decode cX4_readStep 61 = .ok (.aload_n 0, 1) := by decide +kernel
theorem dX4_readStep_62 : decode cX4_readStep 62 = .ok (.aload 4, 2) := by decide +kernel
theorem dX4_readStep_64 : decode cX4_readStep 64 = .ok (.iload_n 2, 1) := by decide +kernel
theorem dX4_readStep_65 : decode cX4_readStep 65 = .ok (.iconst 2, 1) := by decide +kernel
theorem dX4_readStep_66 : decode cX4_readStep 66 = .ok (.invokevirtual 218, 3) := by decide +kernel
theorem dX4_readStep_69 : decode cX4_readStep 69 = .ok (.ifCond .eq 7, 3) := by decide +kernel
theorem dX4_readStep_72 : decode cX4_readStep 72 = .ok (.iconst 1, 1) := by decide +kernel
theorem dX4_readStep_73 : decode cX4_readStep 73 = .ok (.goto 4, 3) := by decide +kernel
theorem dX4_readStep_76 : decode cX4_readStep 76 = .ok (.iconst 0, 1) := by decide +kernel
theorem dX4_readStep_77 : decode cX4_readStep 77 = .ok (.ireturn, 1) := by decide +kernel
theorem dX4_readStep_78 : decode cX4_readStep 78 = .ok (.aload_n 0, 1) := by decide +kernel
theorem dX4_readStep_79 : decode cX4_readStep 79 = .ok (.iconst 3, 1) := by decide +kernel
theorem dX4_readStep_80 : decode cX4_readStep 80 = .ok (.aload_n 3, 1) := by decide +kernel
theorem dX4_readStep_81 : decode cX4_readStep 81 = .ok (.invokevirtual 73, 3) := by decide +kernel
theorem dX4_readStep_84 : decode cX4_readStep 84 = .ok (.ifCond .eq 39, 3) := by decide +kernel
theorem dX4_readStep_87 : decode cX4_readStep 87 = .ok (.aload_n 0, 1) := by decide +kernel
theorem dX4_readStep_88 : decode cX4_readStep 88 = .ok (.aload 4, 2) := by decide +kernel
theorem dX4_readStep_90 : decode cX4_readStep 90 = .ok (.iload_n 2, 1) := by decide +kernel
theorem dX4_readStep_91 : decode cX4_readStep 91 = .ok (.iconst 2, 1) := by decide +kernel
theorem dX4_readStep_92 : decode cX4_readStep 92 = .ok (.invokevirtual 218, 3) := by decide +kernel
theorem dX4_readStep_95 : decode cX4_readStep 95 = .ok (.ifCond .eq 28, 3) := by decide +kernel
theorem dX4_readStep_98 : decode cX4_readStep 98 = .ok (.aload_n 0, 1) := by decide +kernel
theorem dX4_readStep_99 : decode cX4_readStep 99 = .ok (.iconst 1, 1) := by decide +kernel
theorem dX4_readStep_100 : decode cX4_readStep 100 = .ok (.bipush 9, 2) := by decide +kernel
theorem dX4_readStep_102 : decode cX4_readStep 102 = .ok (.invokevirtual 151, 3) := by decide +kernel
theorem dX4_readStep_105 : decode cX4_readStep 105 = .ok (.ifCond .eq 18, 3) := by decide +kernel
theorem dX4_readStep_108 : decode cX4_readStep 108 = .ok (.aload_n 0, 1) := by decide +kernel
theorem dX4_readStep_109 : decode cX4_readStep 109 = .ok (.aload 4, 2) := by decide +kernel
theorem dX4_readStep_111 : decode cX4_readStep 111 = .ok (.iload_n 2, 1) := by decide +kernel
theorem dX4_readStep_112 : decode cX4_readStep 112 = .ok (.iconst 3, 1) := by decide +kernel
theorem dX4_readStep_113 : decode cX4_readStep 113 = .ok (.invokevirtual 218, 3) := by decide +kernel
theorem dX4_readStep_116 : decode cX4_readStep 116 = .ok (.ifCond .eq 7, 3) := by decide +kernel
theorem dX4_readStep_119 : decode cX4_readStep 119 = .ok (.iconst 1, 1) := by decide +kernel
theorem dX4_readStep_120 : decode cX4_readStep 120 = .ok (.goto 4, 3) := by decide +kernel
theorem dX4_readStep_123 : decode cX4_readStep 123 = .ok (.iconst 0, 1) := by decide +kernel
theorem dX4_readStep_124 : decode cX4_readStep 124 = .ok (.ireturn, 1) := by decide +kernel
theorem dX4_readStep_125 : decode cX4_readStep 125 = .ok (.aload_n 0, 1) := by decide +kernel
theorem dX4_readStep_126 : decode cX4_readStep 126 = .ok (.iconst 3, 1) := by decide +kernel
theorem dX4_readStep_127 : decode cX4_readStep 127 = .ok (.aload_n 3, 1) := by decide +kernel
theorem dX4_readStep_128 : decode cX4_readStep 128 = .ok (.invokevirtual 73, 3) := by decide +kernel
theorem dX4_readStep_131 : decode cX4_readStep 131 = .ok (.ifCond .eq 38, 3) := by decide +kernel
theorem dX4_readStep_134 : decode cX4_readStep 134 = .ok (.aload_n 0, 1) := by decide +kernel
theorem dX4_readStep_135 : decode cX4_readStep 135 = .ok (.aload 4, 2) := by decide +kernel
theorem dX4_readStep_137 : decode cX4_readStep 137 = .ok (.iload_n 2, 1) := by decide +kernel
theorem dX4_readStep_138 : decode cX4_readStep 138 = .ok (.iconst 2, 1) := by decide +kernel
theorem dX4_readStep_139 : decode cX4_readStep 139 = .ok (.invokevirtual 218, 3) := by decide +kernel
theorem dX4_readStep_142 : decode cX4_readStep 142 = .ok (.ifCond .eq 27, 3) := by decide +kernel
theorem dX4_readStep_145 : decode cX4_readStep 145 = .ok (.aload_n 0, 1) := by decide +kernel
theorem dX4_readStep_146 : decode cX4_readStep 146 = .ok (.iconst 0, 1) := by decide +kernel
theorem dX4_readStep_147 : decode cX4_readStep 147 = .ok (.aload_n 3, 1) := by decide +kernel
theorem dX4_readStep_148 : decode cX4_readStep 148 = .ok (.invokevirtual 73, 3) := by decide +kernel
theorem dX4_readStep_151 : decode cX4_readStep 151 = .ok (.ifCond .eq 18, 3) := by decide +kernel
theorem dX4_readStep_154 : decode cX4_readStep 154 = .ok (.aload_n 0, 1) := by decide +kernel
theorem dX4_readStep_155 : decode cX4_readStep 155 = .ok (.aload 4, 2) := by decide +kernel
theorem dX4_readStep_157 : decode cX4_readStep 157 = .ok (.iload_n 2, 1) := by decide +kernel
theorem dX4_readStep_158 : decode cX4_readStep 158 = .ok (.iconst 3, 1) := by decide +kernel
theorem dX4_readStep_159 : decode cX4_readStep 159 = .ok (.invokevirtual 218, 3) := by decide +kernel
theorem dX4_readStep_162 : decode cX4_readStep 162 = .ok (.ifCond .eq 7, 3) := by decide +kernel
theorem dX4_readStep_165 : decode cX4_readStep 165 = .ok (.iconst 1, 1) := by decide +kernel
theorem dX4_readStep_166 : decode cX4_readStep 166 = .ok (.goto 4, 3) := by decide +kernel
theorem dX4_readStep_169 : decode cX4_readStep 169 = .ok (.iconst 0, 1) := by decide +kernel
theorem dX4_readStep_170 : decode cX4_readStep 170 = .ok (.ireturn, 1) := by decide +kernel
theorem dX4_readStep_171 : decode cX4_readStep 171 = .ok (.aload_n 0, 1) := by decide +kernel
theorem dX4_readStep_172 : decode cX4_readStep 172 = .ok (.iload_n 2, 1) := by decide +kernel
theorem dX4_readStep_173 : decode cX4_readStep 173 = .ok (.aload_n 3, 1) := by decide +kernel
theorem dX4_readStep_174 : decode cX4_readStep 174 = .ok (.aload 4, 2) := by decide +kernel
theorem dX4_readStep_176 : decode cX4_readStep 176 = .ok (.invokevirtual 222, 3) := by decide +kernel
theorem dX4_readStep_179 : decode cX4_readStep 179 = .ok (.ireturn, 1) := by decide +kernel
theorem dX4_readStep_180 : decode cX4_readStep 180 = .ok (.aload_n 0, 1) := by decide +kernel
theorem dX4_readStep_181 : decode cX4_readStep 181 = .ok (.iconst 1, 1) := by decide +kernel
theorem dX4_readStep_182 : decode cX4_readStep 182 = .ok (.bipush 99, 2) := by decide +kernel
theorem dX4_readStep_184 : decode cX4_readStep 184 = .ok (.invokevirtual 151, 3) := by decide +kernel
theorem dX4_readStep_187 : decode cX4_readStep 187 = .ok (.ifCond .eq 18, 3) := by decide +kernel
theorem dX4_readStep_190 : decode cX4_readStep 190 = .ok (.aload_n 0, 1) := by decide +kernel
theorem dX4_readStep_191 : decode cX4_readStep 191 = .ok (.aload 4, 2) := by decide +kernel
theorem dX4_readStep_193 : decode cX4_readStep 193 = .ok (.iload_n 2, 1) := by decide +kernel
theorem dX4_readStep_194 : decode cX4_readStep 194 = .ok (.iconst 2, 1) := by decide +kernel
theorem dX4_readStep_195 : decode cX4_readStep 195 = .ok (.invokevirtual 218, 3) := by decide +kernel
theorem dX4_readStep_198 : decode cX4_readStep 198 = .ok (.ifCond .eq 7, 3) := by decide +kernel
theorem dX4_readStep_201 : decode cX4_readStep 201 = .ok (.iconst 1, 1) := by decide +kernel
theorem dX4_readStep_202 : decode cX4_readStep 202 = .ok (.goto 4, 3) := by decide +kernel
theorem dX4_readStep_205 : decode cX4_readStep 205 = .ok (.iconst 0, 1) := by decide +kernel
theorem dX4_readStep_206 : decode cX4_readStep 206 = .ok (.ireturn, 1) := by decide +kernel
theorem dX4_readStep_207 : decode cX4_readStep 207 = .ok (.iconst 1, 1) := by decide +kernel
theorem dX4_readStep_208 : decode cX4_readStep 208 = .ok (.ireturn, 1) := by decide +kernel
set_option maxRecDepth 100000 in
set_option maxHeartbeats 8000000 in
theorem c_X4_readStep (l : Launch) (D : va_G) (cA : Nat → ClassId) (q aK aV : Nat → Nat) (hq : injG 167 q) {a1 : Int32} {a2 : Int32} {a3 : Nat} {a4 : Nat} {M M0 : Mem} {r0 : Int32} (h3 : shC a3 = 0) (h4 : shC a4 = 9) (h : f_X4_readStep a1 a2 a3 a4 M = some (r0, M0)) : Met l yX4_readStep (.code yX4_readStep cX4_readStep 5 (some .boolean) :: BW) ({ frames := 6, cells := 0, slots := 0, locals := 125 } : Room) (va_Pc [.ref (q 16), .int a1, .int a2, .ref (q a3), .ref (q a4)] (CB 167 (ceC cA q) D cA q aK aV M)) (Qi 167 (ceC cA q) D q r0 M0) 0 0 (AqG 167 q) := by
  refine gMet RX4 (by decide +kernel) rfl hq (Nat.le_of_ble_eq_true rfl) ?_
  intro p e s m below meth c ls X hr hk hP hS hl
  have hx := X.1
  have hb := X.2.1
  have hl : lv_has ls 5 [(0, .ref (q 16)), (1, .int a1), (2, .int a2), (3, .ref (q a3)), (4, .ref (q a4))] := hl
  rw [f_X4_readStep] at h
  refine lv_iload_n hx hb dX4_readStep_0 rfl (lv_at hl 1 rfl) ?_
  by_cases c9 : a1 = 15
  · rw [if_pos c9] at h
    refine lv_tableIn (tgt := 52) hx hb dX4_readStep_1 (by rw [c9]; decide) (by rw [c9]; decide) (by rw [c9]; rfl) (by decide) ?_
    refine lv_aload_n hx hb dX4_readStep_52 rfl (lv_at hl 0 rfl) ?_
    refine lv_iconst (v := 3) hx hb dX4_readStep_53 (by decide) ?_
    refine lv_aload_n hx hb dX4_readStep_54 rfl (lv_at hl 3 rfl) ?_
    obtain ⟨r1, M2, hc3, h⟩ := bnd_inv h
    refine gV_i (As := [.int (3 : Int32), .ref (q a3)]) X hP hS hl.1 (c_X4_takeName l D cA q aK aV hq h3 hc3) sf_X4_takeName bw_698 sv_X4_takeName (rcC_4 sC_16) rfl ⟨rfl, rfl⟩ ⟨Nat.le_of_ble_eq_true rfl, Nat.le_of_ble_eq_true rfl⟩ rfl rfl (Nat.le_of_ble_eq_true rfl) dX4_readStep_55 (fun H locs hP hS => ?_)
    refine lv_if_eq (tgt := 76) hx hb dX4_readStep_58 (by decide) (fun c4 => ?_) (fun c4 => ?_)
    · rw [if_pos c4] at h
      refine lv_iconst (v := 0) hx hb dX4_readStep_76 (by decide) ?_
      exact end_z X hr hk hP hS (Or.inl rfl) h dX4_readStep_77
    · rw [if_neg c4] at h
      refine lv_aload_n hx hb dX4_readStep_61 rfl (lv_at hl 0 rfl) ?_
      refine lv_aload hx hb dX4_readStep_62 (lv_at hl 4 rfl) ?_
      refine lv_iload_n hx hb dX4_readStep_64 rfl (lv_at hl 2 rfl) ?_
      refine lv_iconst (v := 2) hx hb dX4_readStep_65 (by decide) ?_
      obtain ⟨r5, M6, hc7, h⟩ := bnd_inv h
      refine gV_i (As := [.ref (q a4), .int a2, .int (2 : Int32)]) X hP hS hl.1 (c_X4_keepFound l D cA q aK aV hq h4 hc7) sf_X4_keepFound bw_786 sv_X4_keepFound (rcC_4 sC_16) rfl ⟨rfl, rfl⟩ ⟨Nat.le_of_ble_eq_true rfl, Nat.le_of_ble_eq_true rfl⟩ rfl rfl (Nat.le_of_ble_eq_true rfl) dX4_readStep_66 (fun H locs hP hS => ?_)
      refine lv_if_eq (tgt := 76) hx hb dX4_readStep_69 (by decide) (fun c8 => ?_) (fun c8 => ?_)
      · rw [if_pos c8] at h
        refine lv_iconst (v := 0) hx hb dX4_readStep_76 (by decide) ?_
        exact end_z X hr hk hP hS (Or.inl rfl) h dX4_readStep_77
      · rw [if_neg c8] at h
        refine lv_iconst (v := 1) hx hb dX4_readStep_72 (by decide) ?_
        refine lv_goto (tgt := 77) hx hb dX4_readStep_73 (by decide) ?_
        exact end_z X hr hk hP hS (Or.inr rfl) h dX4_readStep_77
  rw [if_neg c9] at h
  by_cases c10 : a1 = 16
  · rw [if_pos c10] at h
    refine lv_tableIn (tgt := 207) hx hb dX4_readStep_1 (by rw [c10]; decide) (by rw [c10]; decide) (by rw [c10]; rfl) (by decide) ?_
    refine lv_iconst (v := 1) hx hb dX4_readStep_207 (by decide) ?_
    exact end_z X hr hk hP hS (Or.inr rfl) h dX4_readStep_208
  rw [if_neg c10] at h
  by_cases c27 : a1 = 17
  · rw [if_pos c27] at h
    refine lv_tableIn (tgt := 78) hx hb dX4_readStep_1 (by rw [c27]; decide) (by rw [c27]; decide) (by rw [c27]; rfl) (by decide) ?_
    refine lv_aload_n hx hb dX4_readStep_78 rfl (lv_at hl 0 rfl) ?_
    refine lv_iconst (v := 3) hx hb dX4_readStep_79 (by decide) ?_
    refine lv_aload_n hx hb dX4_readStep_80 rfl (lv_at hl 3 rfl) ?_
    obtain ⟨r11, M12, hc13, h⟩ := bnd_inv h
    refine gV_i (As := [.int (3 : Int32), .ref (q a3)]) X hP hS hl.1 (c_X4_takeName l D cA q aK aV hq h3 hc13) sf_X4_takeName bw_698 sv_X4_takeName (rcC_4 sC_16) rfl ⟨rfl, rfl⟩ ⟨Nat.le_of_ble_eq_true rfl, Nat.le_of_ble_eq_true rfl⟩ rfl rfl (Nat.le_of_ble_eq_true rfl) dX4_readStep_81 (fun H locs hP hS => ?_)
    refine lv_if_eq (tgt := 123) hx hb dX4_readStep_84 (by decide) (fun c14 => ?_) (fun c14 => ?_)
    · rw [if_pos c14] at h
      refine lv_iconst (v := 0) hx hb dX4_readStep_123 (by decide) ?_
      exact end_z X hr hk hP hS (Or.inl rfl) h dX4_readStep_124
    · rw [if_neg c14] at h
      refine lv_aload_n hx hb dX4_readStep_87 rfl (lv_at hl 0 rfl) ?_
      refine lv_aload hx hb dX4_readStep_88 (lv_at hl 4 rfl) ?_
      refine lv_iload_n hx hb dX4_readStep_90 rfl (lv_at hl 2 rfl) ?_
      refine lv_iconst (v := 2) hx hb dX4_readStep_91 (by decide) ?_
      obtain ⟨r15, M16, hc17, h⟩ := bnd_inv h
      refine gV_i (As := [.ref (q a4), .int a2, .int (2 : Int32)]) X hP hS hl.1 (c_X4_keepFound l D cA q aK aV hq h4 hc17) sf_X4_keepFound bw_786 sv_X4_keepFound (rcC_4 sC_16) rfl ⟨rfl, rfl⟩ ⟨Nat.le_of_ble_eq_true rfl, Nat.le_of_ble_eq_true rfl⟩ rfl rfl (Nat.le_of_ble_eq_true rfl) dX4_readStep_92 (fun H locs hP hS => ?_)
      refine lv_if_eq (tgt := 123) hx hb dX4_readStep_95 (by decide) (fun c18 => ?_) (fun c18 => ?_)
      · rw [if_pos c18] at h
        refine lv_iconst (v := 0) hx hb dX4_readStep_123 (by decide) ?_
        exact end_z X hr hk hP hS (Or.inl rfl) h dX4_readStep_124
      · rw [if_neg c18] at h
        refine lv_aload_n hx hb dX4_readStep_98 rfl (lv_at hl 0 rfl) ?_
        refine lv_iconst (v := 1) hx hb dX4_readStep_99 (by decide) ?_
        refine lv_bipush (v := 9) hx hb dX4_readStep_100 (by decide) ?_
        obtain ⟨r19, M20, hc21, h⟩ := bnd_inv h
        refine gV_i (As := [.int (1 : Int32), .int (9 : Int32)]) X hP hS hl.1 (c_X4_takeNumber l D cA q aK aV hq hc21) sf_X4_takeNumber bw_719 sv_X4_takeNumber (rcC_4 sC_16) rfl ⟨rfl, rfl⟩ ⟨Nat.le_of_ble_eq_true rfl, Nat.le_of_ble_eq_true rfl⟩ rfl rfl (Nat.le_of_ble_eq_true rfl) dX4_readStep_102 (fun H locs hP hS => ?_)
        refine lv_if_eq (tgt := 123) hx hb dX4_readStep_105 (by decide) (fun c22 => ?_) (fun c22 => ?_)
        · rw [if_pos c22] at h
          refine lv_iconst (v := 0) hx hb dX4_readStep_123 (by decide) ?_
          exact end_z X hr hk hP hS (Or.inl rfl) h dX4_readStep_124
        · rw [if_neg c22] at h
          refine lv_aload_n hx hb dX4_readStep_108 rfl (lv_at hl 0 rfl) ?_
          refine lv_aload hx hb dX4_readStep_109 (lv_at hl 4 rfl) ?_
          refine lv_iload_n hx hb dX4_readStep_111 rfl (lv_at hl 2 rfl) ?_
          refine lv_iconst (v := 3) hx hb dX4_readStep_112 (by decide) ?_
          obtain ⟨r23, M24, hc25, h⟩ := bnd_inv h
          refine gV_i (As := [.ref (q a4), .int a2, .int (3 : Int32)]) X hP hS hl.1 (c_X4_keepFound l D cA q aK aV hq h4 hc25) sf_X4_keepFound bw_786 sv_X4_keepFound (rcC_4 sC_16) rfl ⟨rfl, rfl⟩ ⟨Nat.le_of_ble_eq_true rfl, Nat.le_of_ble_eq_true rfl⟩ rfl rfl (Nat.le_of_ble_eq_true rfl) dX4_readStep_113 (fun H locs hP hS => ?_)
          refine lv_if_eq (tgt := 123) hx hb dX4_readStep_116 (by decide) (fun c26 => ?_) (fun c26 => ?_)
          · rw [if_pos c26] at h
            refine lv_iconst (v := 0) hx hb dX4_readStep_123 (by decide) ?_
            exact end_z X hr hk hP hS (Or.inl rfl) h dX4_readStep_124
          · rw [if_neg c26] at h
            refine lv_iconst (v := 1) hx hb dX4_readStep_119 (by decide) ?_
            refine lv_goto (tgt := 124) hx hb dX4_readStep_120 (by decide) ?_
            exact end_z X hr hk hP hS (Or.inr rfl) h dX4_readStep_124
  rw [if_neg c27] at h
  by_cases c44 : a1 = 18
  · rw [if_pos c44] at h
    refine lv_tableIn (tgt := 125) hx hb dX4_readStep_1 (by rw [c44]; decide) (by rw [c44]; decide) (by rw [c44]; rfl) (by decide) ?_
    refine lv_aload_n hx hb dX4_readStep_125 rfl (lv_at hl 0 rfl) ?_
    refine lv_iconst (v := 3) hx hb dX4_readStep_126 (by decide) ?_
    refine lv_aload_n hx hb dX4_readStep_127 rfl (lv_at hl 3 rfl) ?_
    obtain ⟨r28, M29, hc30, h⟩ := bnd_inv h
    refine gV_i (As := [.int (3 : Int32), .ref (q a3)]) X hP hS hl.1 (c_X4_takeName l D cA q aK aV hq h3 hc30) sf_X4_takeName bw_698 sv_X4_takeName (rcC_4 sC_16) rfl ⟨rfl, rfl⟩ ⟨Nat.le_of_ble_eq_true rfl, Nat.le_of_ble_eq_true rfl⟩ rfl rfl (Nat.le_of_ble_eq_true rfl) dX4_readStep_128 (fun H locs hP hS => ?_)
    refine lv_if_eq (tgt := 169) hx hb dX4_readStep_131 (by decide) (fun c31 => ?_) (fun c31 => ?_)
    · rw [if_pos c31] at h
      refine lv_iconst (v := 0) hx hb dX4_readStep_169 (by decide) ?_
      exact end_z X hr hk hP hS (Or.inl rfl) h dX4_readStep_170
    · rw [if_neg c31] at h
      refine lv_aload_n hx hb dX4_readStep_134 rfl (lv_at hl 0 rfl) ?_
      refine lv_aload hx hb dX4_readStep_135 (lv_at hl 4 rfl) ?_
      refine lv_iload_n hx hb dX4_readStep_137 rfl (lv_at hl 2 rfl) ?_
      refine lv_iconst (v := 2) hx hb dX4_readStep_138 (by decide) ?_
      obtain ⟨r32, M33, hc34, h⟩ := bnd_inv h
      refine gV_i (As := [.ref (q a4), .int a2, .int (2 : Int32)]) X hP hS hl.1 (c_X4_keepFound l D cA q aK aV hq h4 hc34) sf_X4_keepFound bw_786 sv_X4_keepFound (rcC_4 sC_16) rfl ⟨rfl, rfl⟩ ⟨Nat.le_of_ble_eq_true rfl, Nat.le_of_ble_eq_true rfl⟩ rfl rfl (Nat.le_of_ble_eq_true rfl) dX4_readStep_139 (fun H locs hP hS => ?_)
      refine lv_if_eq (tgt := 169) hx hb dX4_readStep_142 (by decide) (fun c35 => ?_) (fun c35 => ?_)
      · rw [if_pos c35] at h
        refine lv_iconst (v := 0) hx hb dX4_readStep_169 (by decide) ?_
        exact end_z X hr hk hP hS (Or.inl rfl) h dX4_readStep_170
      · rw [if_neg c35] at h
        refine lv_aload_n hx hb dX4_readStep_145 rfl (lv_at hl 0 rfl) ?_
        refine lv_iconst (v := 0) hx hb dX4_readStep_146 (by decide) ?_
        refine lv_aload_n hx hb dX4_readStep_147 rfl (lv_at hl 3 rfl) ?_
        obtain ⟨r36, M37, hc38, h⟩ := bnd_inv h
        refine gV_i (As := [.int (0 : Int32), .ref (q a3)]) X hP hS hl.1 (c_X4_takeName l D cA q aK aV hq h3 hc38) sf_X4_takeName bw_698 sv_X4_takeName (rcC_4 sC_16) rfl ⟨rfl, rfl⟩ ⟨Nat.le_of_ble_eq_true rfl, Nat.le_of_ble_eq_true rfl⟩ rfl rfl (Nat.le_of_ble_eq_true rfl) dX4_readStep_148 (fun H locs hP hS => ?_)
        refine lv_if_eq (tgt := 169) hx hb dX4_readStep_151 (by decide) (fun c39 => ?_) (fun c39 => ?_)
        · rw [if_pos c39] at h
          refine lv_iconst (v := 0) hx hb dX4_readStep_169 (by decide) ?_
          exact end_z X hr hk hP hS (Or.inl rfl) h dX4_readStep_170
        · rw [if_neg c39] at h
          refine lv_aload_n hx hb dX4_readStep_154 rfl (lv_at hl 0 rfl) ?_
          refine lv_aload hx hb dX4_readStep_155 (lv_at hl 4 rfl) ?_
          refine lv_iload_n hx hb dX4_readStep_157 rfl (lv_at hl 2 rfl) ?_
          refine lv_iconst (v := 3) hx hb dX4_readStep_158 (by decide) ?_
          obtain ⟨r40, M41, hc42, h⟩ := bnd_inv h
          refine gV_i (As := [.ref (q a4), .int a2, .int (3 : Int32)]) X hP hS hl.1 (c_X4_keepFound l D cA q aK aV hq h4 hc42) sf_X4_keepFound bw_786 sv_X4_keepFound (rcC_4 sC_16) rfl ⟨rfl, rfl⟩ ⟨Nat.le_of_ble_eq_true rfl, Nat.le_of_ble_eq_true rfl⟩ rfl rfl (Nat.le_of_ble_eq_true rfl) dX4_readStep_159 (fun H locs hP hS => ?_)
          refine lv_if_eq (tgt := 169) hx hb dX4_readStep_162 (by decide) (fun c43 => ?_) (fun c43 => ?_)
          · rw [if_pos c43] at h
            refine lv_iconst (v := 0) hx hb dX4_readStep_169 (by decide) ?_
            exact end_z X hr hk hP hS (Or.inl rfl) h dX4_readStep_170
          · rw [if_neg c43] at h
            refine lv_iconst (v := 1) hx hb dX4_readStep_165 (by decide) ?_
            refine lv_goto (tgt := 170) hx hb dX4_readStep_166 (by decide) ?_
            exact end_z X hr hk hP hS (Or.inr rfl) h dX4_readStep_170
  rw [if_neg c44] at h
  by_cases c61 : a1 = 19
  · rw [if_pos c61] at h
    refine lv_tableIn (tgt := 125) hx hb dX4_readStep_1 (by rw [c61]; decide) (by rw [c61]; decide) (by rw [c61]; rfl) (by decide) ?_
    refine lv_aload_n hx hb dX4_readStep_125 rfl (lv_at hl 0 rfl) ?_
    refine lv_iconst (v := 3) hx hb dX4_readStep_126 (by decide) ?_
    refine lv_aload_n hx hb dX4_readStep_127 rfl (lv_at hl 3 rfl) ?_
    obtain ⟨r45, M46, hc47, h⟩ := bnd_inv h
    refine gV_i (As := [.int (3 : Int32), .ref (q a3)]) X hP hS hl.1 (c_X4_takeName l D cA q aK aV hq h3 hc47) sf_X4_takeName bw_698 sv_X4_takeName (rcC_4 sC_16) rfl ⟨rfl, rfl⟩ ⟨Nat.le_of_ble_eq_true rfl, Nat.le_of_ble_eq_true rfl⟩ rfl rfl (Nat.le_of_ble_eq_true rfl) dX4_readStep_128 (fun H locs hP hS => ?_)
    refine lv_if_eq (tgt := 169) hx hb dX4_readStep_131 (by decide) (fun c48 => ?_) (fun c48 => ?_)
    · rw [if_pos c48] at h
      refine lv_iconst (v := 0) hx hb dX4_readStep_169 (by decide) ?_
      exact end_z X hr hk hP hS (Or.inl rfl) h dX4_readStep_170
    · rw [if_neg c48] at h
      refine lv_aload_n hx hb dX4_readStep_134 rfl (lv_at hl 0 rfl) ?_
      refine lv_aload hx hb dX4_readStep_135 (lv_at hl 4 rfl) ?_
      refine lv_iload_n hx hb dX4_readStep_137 rfl (lv_at hl 2 rfl) ?_
      refine lv_iconst (v := 2) hx hb dX4_readStep_138 (by decide) ?_
      obtain ⟨r49, M50, hc51, h⟩ := bnd_inv h
      refine gV_i (As := [.ref (q a4), .int a2, .int (2 : Int32)]) X hP hS hl.1 (c_X4_keepFound l D cA q aK aV hq h4 hc51) sf_X4_keepFound bw_786 sv_X4_keepFound (rcC_4 sC_16) rfl ⟨rfl, rfl⟩ ⟨Nat.le_of_ble_eq_true rfl, Nat.le_of_ble_eq_true rfl⟩ rfl rfl (Nat.le_of_ble_eq_true rfl) dX4_readStep_139 (fun H locs hP hS => ?_)
      refine lv_if_eq (tgt := 169) hx hb dX4_readStep_142 (by decide) (fun c52 => ?_) (fun c52 => ?_)
      · rw [if_pos c52] at h
        refine lv_iconst (v := 0) hx hb dX4_readStep_169 (by decide) ?_
        exact end_z X hr hk hP hS (Or.inl rfl) h dX4_readStep_170
      · rw [if_neg c52] at h
        refine lv_aload_n hx hb dX4_readStep_145 rfl (lv_at hl 0 rfl) ?_
        refine lv_iconst (v := 0) hx hb dX4_readStep_146 (by decide) ?_
        refine lv_aload_n hx hb dX4_readStep_147 rfl (lv_at hl 3 rfl) ?_
        obtain ⟨r53, M54, hc55, h⟩ := bnd_inv h
        refine gV_i (As := [.int (0 : Int32), .ref (q a3)]) X hP hS hl.1 (c_X4_takeName l D cA q aK aV hq h3 hc55) sf_X4_takeName bw_698 sv_X4_takeName (rcC_4 sC_16) rfl ⟨rfl, rfl⟩ ⟨Nat.le_of_ble_eq_true rfl, Nat.le_of_ble_eq_true rfl⟩ rfl rfl (Nat.le_of_ble_eq_true rfl) dX4_readStep_148 (fun H locs hP hS => ?_)
        refine lv_if_eq (tgt := 169) hx hb dX4_readStep_151 (by decide) (fun c56 => ?_) (fun c56 => ?_)
        · rw [if_pos c56] at h
          refine lv_iconst (v := 0) hx hb dX4_readStep_169 (by decide) ?_
          exact end_z X hr hk hP hS (Or.inl rfl) h dX4_readStep_170
        · rw [if_neg c56] at h
          refine lv_aload_n hx hb dX4_readStep_154 rfl (lv_at hl 0 rfl) ?_
          refine lv_aload hx hb dX4_readStep_155 (lv_at hl 4 rfl) ?_
          refine lv_iload_n hx hb dX4_readStep_157 rfl (lv_at hl 2 rfl) ?_
          refine lv_iconst (v := 3) hx hb dX4_readStep_158 (by decide) ?_
          obtain ⟨r57, M58, hc59, h⟩ := bnd_inv h
          refine gV_i (As := [.ref (q a4), .int a2, .int (3 : Int32)]) X hP hS hl.1 (c_X4_keepFound l D cA q aK aV hq h4 hc59) sf_X4_keepFound bw_786 sv_X4_keepFound (rcC_4 sC_16) rfl ⟨rfl, rfl⟩ ⟨Nat.le_of_ble_eq_true rfl, Nat.le_of_ble_eq_true rfl⟩ rfl rfl (Nat.le_of_ble_eq_true rfl) dX4_readStep_159 (fun H locs hP hS => ?_)
          refine lv_if_eq (tgt := 169) hx hb dX4_readStep_162 (by decide) (fun c60 => ?_) (fun c60 => ?_)
          · rw [if_pos c60] at h
            refine lv_iconst (v := 0) hx hb dX4_readStep_169 (by decide) ?_
            exact end_z X hr hk hP hS (Or.inl rfl) h dX4_readStep_170
          · rw [if_neg c60] at h
            refine lv_iconst (v := 1) hx hb dX4_readStep_165 (by decide) ?_
            refine lv_goto (tgt := 170) hx hb dX4_readStep_166 (by decide) ?_
            exact end_z X hr hk hP hS (Or.inr rfl) h dX4_readStep_170
  rw [if_neg c61] at h
  by_cases c62 : a1 = 20
  · rw [if_pos c62] at h
    refine lv_tableIn (tgt := 207) hx hb dX4_readStep_1 (by rw [c62]; decide) (by rw [c62]; decide) (by rw [c62]; rfl) (by decide) ?_
    refine lv_iconst (v := 1) hx hb dX4_readStep_207 (by decide) ?_
    exact end_z X hr hk hP hS (Or.inr rfl) h dX4_readStep_208
  rw [if_neg c62] at h
  by_cases c63 : a1 = 21
  · rw [if_pos c63] at h
    refine lv_tableIn (tgt := 207) hx hb dX4_readStep_1 (by rw [c63]; decide) (by rw [c63]; decide) (by rw [c63]; rfl) (by decide) ?_
    refine lv_iconst (v := 1) hx hb dX4_readStep_207 (by decide) ?_
    exact end_z X hr hk hP hS (Or.inr rfl) h dX4_readStep_208
  rw [if_neg c63] at h
  by_cases c68 : a1 = 22
  · rw [if_pos c68] at h
    refine lv_tableIn (tgt := 171) hx hb dX4_readStep_1 (by rw [c68]; decide) (by rw [c68]; decide) (by rw [c68]; rfl) (by decide) ?_
    refine lv_aload_n hx hb dX4_readStep_171 rfl (lv_at hl 0 rfl) ?_
    refine lv_iload_n hx hb dX4_readStep_172 rfl (lv_at hl 2 rfl) ?_
    refine lv_aload_n hx hb dX4_readStep_173 rfl (lv_at hl 3 rfl) ?_
    refine lv_aload hx hb dX4_readStep_174 (lv_at hl 4 rfl) ?_
    obtain ⟨r64, M65, hc66, h⟩ := bnd_inv h
    refine gV_i (As := [.int a2, .ref (q a3), .ref (q a4)]) X hP hS hl.1 (c_X4_readTest l D cA q aK aV hq h3 h4 hc66) sf_X4_readTest bw_790 sv_X4_readTest (rcC_4 sC_16) rfl ⟨rfl, rfl⟩ ⟨Nat.le_of_ble_eq_true rfl, Nat.le_of_ble_eq_true rfl⟩ rfl rfl (Nat.le_of_ble_eq_true rfl) dX4_readStep_176 (fun H locs hP hS => ?_)
    obtain ⟨g67, h⟩ := gd_inv h
    exact end_z X hr hk hP hS (Decidable.not_not.mp g67) h dX4_readStep_179
  rw [if_neg c68] at h
  by_cases c77 : a1 = 23
  · rw [if_pos c77] at h
    refine lv_tableIn (tgt := 180) hx hb dX4_readStep_1 (by rw [c77]; decide) (by rw [c77]; decide) (by rw [c77]; rfl) (by decide) ?_
    refine lv_aload_n hx hb dX4_readStep_180 rfl (lv_at hl 0 rfl) ?_
    refine lv_iconst (v := 1) hx hb dX4_readStep_181 (by decide) ?_
    refine lv_bipush (v := 99) hx hb dX4_readStep_182 (by decide) ?_
    obtain ⟨r69, M70, hc71, h⟩ := bnd_inv h
    refine gV_i (As := [.int (1 : Int32), .int (99 : Int32)]) X hP hS hl.1 (c_X4_takeNumber l D cA q aK aV hq hc71) sf_X4_takeNumber bw_719 sv_X4_takeNumber (rcC_4 sC_16) rfl ⟨rfl, rfl⟩ ⟨Nat.le_of_ble_eq_true rfl, Nat.le_of_ble_eq_true rfl⟩ rfl rfl (Nat.le_of_ble_eq_true rfl) dX4_readStep_184 (fun H locs hP hS => ?_)
    refine lv_if_eq (tgt := 205) hx hb dX4_readStep_187 (by decide) (fun c72 => ?_) (fun c72 => ?_)
    · rw [if_pos c72] at h
      refine lv_iconst (v := 0) hx hb dX4_readStep_205 (by decide) ?_
      exact end_z X hr hk hP hS (Or.inl rfl) h dX4_readStep_206
    · rw [if_neg c72] at h
      refine lv_aload_n hx hb dX4_readStep_190 rfl (lv_at hl 0 rfl) ?_
      refine lv_aload hx hb dX4_readStep_191 (lv_at hl 4 rfl) ?_
      refine lv_iload_n hx hb dX4_readStep_193 rfl (lv_at hl 2 rfl) ?_
      refine lv_iconst (v := 2) hx hb dX4_readStep_194 (by decide) ?_
      obtain ⟨r73, M74, hc75, h⟩ := bnd_inv h
      refine gV_i (As := [.ref (q a4), .int a2, .int (2 : Int32)]) X hP hS hl.1 (c_X4_keepFound l D cA q aK aV hq h4 hc75) sf_X4_keepFound bw_786 sv_X4_keepFound (rcC_4 sC_16) rfl ⟨rfl, rfl⟩ ⟨Nat.le_of_ble_eq_true rfl, Nat.le_of_ble_eq_true rfl⟩ rfl rfl (Nat.le_of_ble_eq_true rfl) dX4_readStep_195 (fun H locs hP hS => ?_)
      refine lv_if_eq (tgt := 205) hx hb dX4_readStep_198 (by decide) (fun c76 => ?_) (fun c76 => ?_)
      · rw [if_pos c76] at h
        refine lv_iconst (v := 0) hx hb dX4_readStep_205 (by decide) ?_
        exact end_z X hr hk hP hS (Or.inl rfl) h dX4_readStep_206
      · rw [if_neg c76] at h
        refine lv_iconst (v := 1) hx hb dX4_readStep_201 (by decide) ?_
        refine lv_goto (tgt := 206) hx hb dX4_readStep_202 (by decide) ?_
        exact end_z X hr hk hP hS (Or.inr rfl) h dX4_readStep_206
  rw [if_neg c77] at h
  refine lv_tableOut (tgt := 207) hx hb dX4_readStep_1 (by have nc9 := lv_neT (a := 15) c9 (by decide); have nc10 := lv_neT (a := 16) c10 (by decide); have nc27 := lv_neT (a := 17) c27 (by decide); have nc44 := lv_neT (a := 18) c44 (by decide); have nc61 := lv_neT (a := 19) c61 (by decide); have nc62 := lv_neT (a := 20) c62 (by decide); have nc63 := lv_neT (a := 21) c63 (by decide); have nc68 := lv_neT (a := 22) c68 (by decide); have nc77 := lv_neT (a := 23) c77 (by decide); omega) (by decide) ?_
  refine lv_iconst (v := 1) hx hb dX4_readStep_207 (by decide) ?_
  exact end_z X hr hk hP hS (Or.inr rfl) h dX4_readStep_208
theorem dX4_readWeeks_0 : decode cX4_readWeeks 0 = .ok (.aload_n 3, 1) := by decide +kernel
theorem dX4_readWeeks_1 : decode cX4_readWeeks 1 = .ok (.invokevirtual 188, 3) := by decide +kernel
theorem dX4_readWeeks_4 : decode cX4_readWeeks 4 = .ok (.aload_n 0, 1) := by decide +kernel
theorem dX4_readWeeks_5 : decode cX4_readWeeks 5 = .ok (.iconst 0, 1) := by decide +kernel
theorem dX4_readWeeks_6 : decode cX4_readWeeks 6 = .ok (.putfield 15, 3) := by decide +kernel
theorem dX4_readWeeks_9 : decode cX4_readWeeks 9 = .ok (.aload_n 0, 1) := by decide +kernel
theorem dX4_readWeeks_10 : decode cX4_readWeeks 10 = .ok (.getfield 28, 3) := by decide +kernel
theorem dX4_readWeeks_13 : decode cX4_readWeeks 13 = .ok (.iload_n 1, 1) := by decide +kernel
theorem dX4_readWeeks_14 : decode cX4_readWeeks 14 = .ok (.invokevirtual 37, 3) := by decide +kernel
theorem dX4_readWeeks_17 : decode cX4_readWeeks 17 = .ok (.iconst 0, 1) := by decide +kernel
theorem dX4_readWeeks_18 : decode cX4_readWeeks 18 = .ok (.istore 4, 2) := by decide +kernel
theorem dX4_readWeeks_20 : decode cX4_readWeeks 20 = .ok (.iload 4, 2) := by decide +kernel
theorem dX4_readWeeks_22 : decode cX4_readWeeks 22 = .ok (.sipush 900, 3) := by decide +kernel
theorem dX4_readWeeks_25 : decode cX4_readWeeks 25 = .ok (.if_icmp .ge 97, 3) := by decide +kernel
theorem dX4_readWeeks_28 : decode cX4_readWeeks 28 = .ok (.aload_n 0, 1) := by decide +kernel
theorem dX4_readWeeks_29 : decode cX4_readWeeks 29 = .ok (.getfield 28, 3) := by decide +kernel
theorem dX4_readWeeks_32 : decode cX4_readWeeks 32 = .ok (.getfield 43, 3) := by decide +kernel
theorem dX4_readWeeks_35 : decode cX4_readWeeks 35 = .ok (.bipush 32, 2) := by decide +kernel
theorem dX4_readWeeks_37 : decode cX4_readWeeks 37 = .ok (.if_icmp .eq 85, 3) := by decide +kernel
theorem dX4_readWeeks_40 : decode cX4_readWeeks 40 = .ok (.aload_n 0, 1) := by decide +kernel
theorem dX4_readWeeks_41 : decode cX4_readWeeks 41 = .ok (.getfield 28, 3) := by decide +kernel
theorem dX4_readWeeks_44 : decode cX4_readWeeks 44 = .ok (.getfield 43, 3) := by decide +kernel
theorem dX4_readWeeks_47 : decode cX4_readWeeks 47 = .ok (.istore 5, 2) := by decide +kernel
theorem dX4_readWeeks_49 : decode cX4_readWeeks 49 = .ok (.aload_n 3, 1) := by decide +kernel
theorem dX4_readWeeks_50 : decode cX4_readWeeks 50 = .ok (.getfield 191, 3) := by decide +kernel
theorem dX4_readWeeks_53 : decode cX4_readWeeks 53 = .ok (.istore 6, 2) := by decide +kernel
theorem dX4_readWeeks_55 : decode cX4_readWeeks 55 = .ok (.iload 5, 2) := by decide +kernel
theorem dX4_readWeeks_57 : decode cX4_readWeeks 57 = .ok (.bipush 28, 2) := by decide +kernel
theorem dX4_readWeeks_59 : decode cX4_readWeeks 59 = .ok (.if_icmp .ne 11, 3) := by decide +kernel
theorem dX4_readWeeks_62 : decode cX4_readWeeks 62 = .ok (.aload_n 0, 1) := by decide +kernel
theorem dX4_readWeeks_63 : decode cX4_readWeeks 63 = .ok (.aload_n 3, 1) := by decide +kernel
theorem dX4_readWeeks_64 : decode cX4_readWeeks 64 = .ok (.invokevirtual 194, 3) := by decide +kernel
theorem dX4_readWeeks_67 : decode cX4_readWeeks 67 = .ok (.goto 31, 3) := by decide +kernel
theorem dX4_readWeeks_70 : decode cX4_readWeeks 70 = .ok (.aload_n 0, 1) := by decide +kernel
theorem dX4_readWeeks_71 : decode cX4_readWeeks 71 = .ok (.iload 5, 2) := by decide +kernel
theorem dX4_readWeeks_73 : decode cX4_readWeeks 73 = .ok (.aload_n 3, 1) := by decide +kernel
theorem dX4_readWeeks_74 : decode cX4_readWeeks 74 = .ok (.invokevirtual 198, 3) := by decide +kernel
theorem dX4_readWeeks_77 : decode cX4_readWeeks 77 = .ok (.ifCond .eq 20, 3) := by decide +kernel
theorem dX4_readWeeks_80 : decode cX4_readWeeks 80 = .ok (.aload_n 0, 1) := by decide +kernel
theorem dX4_readWeeks_81 : decode cX4_readWeeks 81 = .ok (.iload 5, 2) := by decide +kernel
theorem dX4_readWeeks_83 : decode cX4_readWeeks 83 = .ok (.iload 6, 2) := by decide +kernel
theorem dX4_readWeeks_85 : decode cX4_readWeeks 85 = .ok (.aload_n 2, 1) := by decide +kernel
theorem dX4_readWeeks_86 : decode cX4_readWeeks 86 = .ok (.aload_n 3, 1) := by decide +kernel
theorem dX4_readWeeks_87 : decode cX4_readWeeks 87 = .ok (.invokevirtual 202, 3) := by decide +kernel
theorem dX4_readWeeks_90 : decode cX4_readWeeks 90 = .ok (.ifCond .eq 7, 3) := by decide +kernel
theorem dX4_readWeeks_93 : decode cX4_readWeeks 93 = .ok (.iconst 1, 1) := by decide +kernel
theorem dX4_readWeeks_94 : decode cX4_readWeeks 94 = .ok (.goto 4, 3) := by decide +kernel
theorem dX4_readWeeks_97 : decode cX4_readWeeks 97 = .ok (.iconst 0, 1) := by decide +kernel
theorem dX4_readWeeks_98 : decode cX4_readWeeks 98 = .ok (.istore 7, 2) := by decide +kernel
theorem dX4_readWeeks_100 : decode cX4_readWeeks 100 = .ok (.iload 7, 2) := by decide +kernel
theorem dX4_readWeeks_102 : decode cX4_readWeeks 102 = .ok (.ifCond .eq 12, 3) := by decide +kernel
theorem dX4_readWeeks_105 : decode cX4_readWeeks 105 = .ok (.aload_n 0, 1) := by decide +kernel
theorem dX4_readWeeks_106 : decode cX4_readWeeks 106 = .ok (.bipush 59, 2) := by decide +kernel
theorem dX4_readWeeks_108 : decode cX4_readWeeks 108 = .ok (.invokevirtual 53, 3) := by decide +kernel
theorem dX4_readWeeks_111 : decode cX4_readWeeks 111 = .ok (.ifCond .ne 5, 3) := by decide +kernel
theorem dX4_readWeeks_114 : decode cX4_readWeeks 114 = .ok (.iconst 0, 1) := by decide +kernel
theorem dX4_readWeeks_115 : decode cX4_readWeeks 115 = .ok (.ireturn, 1) := by decide +kernel
theorem dX4_readWeeks_116 : decode cX4_readWeeks 116 = .ok (.iinc 4 1, 3) := by decide +kernel
theorem dX4_readWeeks_119 : decode cX4_readWeeks 119 = .ok (.goto (-99), 3) := by decide +kernel
theorem dX4_readWeeks_122 : decode cX4_readWeeks 122 = .ok (.aload_n 0, 1) := by decide +kernel
theorem dX4_readWeeks_123 : decode cX4_readWeeks 123 = .ok (.getfield 15, 3) := by decide +kernel
theorem dX4_readWeeks_126 : decode cX4_readWeeks 126 = .ok (.ifCond .le 12, 3) := by decide +kernel
theorem dX4_readWeeks_129 : decode cX4_readWeeks 129 = .ok (.aload_n 0, 1) := by decide +kernel
theorem dX4_readWeeks_130 : decode cX4_readWeeks 130 = .ok (.getfield 28, 3) := by decide +kernel
theorem dX4_readWeeks_133 : decode cX4_readWeeks 133 = .ok (.iconst 2, 1) := by decide +kernel
theorem dX4_readWeeks_134 : decode cX4_readWeeks 134 = .ok (.invokevirtual 57, 3) := by decide +kernel
theorem dX4_readWeeks_137 : decode cX4_readWeeks 137 = .ok (.ireturn, 1) := by decide +kernel
theorem dX4_readWeeks_138 : decode cX4_readWeeks 138 = .ok (.aload_n 3, 1) := by decide +kernel
theorem dX4_readWeeks_139 : decode cX4_readWeeks 139 = .ok (.iconst 1, 1) := by decide +kernel
theorem dX4_readWeeks_140 : decode cX4_readWeeks 140 = .ok (.putfield 206, 3) := by decide +kernel
theorem dX4_readWeeks_143 : decode cX4_readWeeks 143 = .ok (.iconst 1, 1) := by decide +kernel
theorem dX4_readWeeks_144 : decode cX4_readWeeks 144 = .ok (.ireturn, 1) := by decide +kernel
set_option maxRecDepth 100000 in
set_option maxHeartbeats 8000000 in
theorem c_X4_readWeeks (l : Launch) (D : va_G) (cA : Nat → ClassId) (q aK aV : Nat → Nat) (hq : injG 167 q) {a1 : Int32} {a2 : Nat} {a3 : Nat} {M M0 : Mem} {r0 : Int32} (h2 : shC a2 = 0) (h3 : shC a3 = 9) (h : f_X4_readWeeks a1 a2 a3 M = some (r0, M0)) : Met l yX4_readWeeks (.code yX4_readWeeks cX4_readWeeks 8 (some .boolean) :: BW) ({ frames := 7, cells := 0, slots := 0, locals := 149 } : Room) (va_Pc [.ref (q 16), .int a1, .ref (q a2), .ref (q a3)] (CB 167 (ceC cA q) D cA q aK aV M)) (Qi 167 (ceC cA q) D q r0 M0) 0 0 (AqG 167 q) := by
  refine gMet RX4 (by decide +kernel) rfl hq (Nat.le_of_ble_eq_true rfl) ?_
  intro p e s m below meth c ls X hr hk hP hS hl
  have hx := X.1
  have hb := X.2.1
  have hl : lv_has ls 8 [(0, .ref (q 16)), (1, .int a1), (2, .ref (q a2)), (3, .ref (q a3))] := hl
  rw [f_X4_readWeeks] at h
  have hL20 : ∀ (fu : Nat) (b4 : Int32) (M : Mem) (res : (Nat) × Mem) (H : Heap) (locs : List Loc) (ls : Array Slot), f_X4_readWeeks_L20 a2 a3 fu b4 M = some res → va_P D vwCl (wsG 167 (ceC cA q) q M) H → va_S (AqG 167 q) s.heap H locs → lv_has ls 8 [(0, .ref (q 16)), (2, .ref (q a2)), (3, .ref (q a3)), (4, .int b4)] → (res.1 = 0 → ∀ (H : Heap) (locs : List Loc) (ls : Array Slot), va_P D vwCl (wsG 167 (ceC cA q) q res.2) H → va_S (AqG 167 q) s.heap H locs → lv_has ls 8 [] → W p l e ({ frames := 7, cells := 0, slots := 0, locals := 149 } : Room) s m [.ref (q 16), .int a1, .ref (q a2), .ref (q a3)].toArray below meth c H locs 0 0 (MQ below (Qi 167 (ceC cA q) D q r0 M0) [.ref (q 16), .int a1, .ref (q a2), .ref (q a3)].toArray s 0 0 (AqG 167 q)) (F0 m 114 ls [])) → (res.1 = 1 → ∀ (H : Heap) (locs : List Loc) (ls : Array Slot), va_P D vwCl (wsG 167 (ceC cA q) q res.2) H → va_S (AqG 167 q) s.heap H locs → lv_has ls 8 [(0, .ref (q 16)), (3, .ref (q a3))] → W p l e ({ frames := 7, cells := 0, slots := 0, locals := 149 } : Room) s m [.ref (q 16), .int a1, .ref (q a2), .ref (q a3)].toArray below meth c H locs 0 0 (MQ below (Qi 167 (ceC cA q) D q r0 M0) [.ref (q 16), .int a1, .ref (q a2), .ref (q a3)].toArray s 0 0 (AqG 167 q)) (F0 m 122 ls [])) → W p l e ({ frames := 7, cells := 0, slots := 0, locals := 149 } : Room) s m [.ref (q 16), .int a1, .ref (q a2), .ref (q a3)].toArray below meth c H locs 0 0 (MQ below (Qi 167 (ceC cA q) D q r0 M0) [.ref (q 16), .int a1, .ref (q a2), .ref (q a3)].toArray s 0 0 (AqG 167 q)) (F0 m 20 ls []) := by
    intro fu
    induction fu with
    | zero => intro b4 M res H locs ls h; exact absurd h (by simp [f_X4_readWeeks_L20])
    | succ fu ih =>
      intro b4 M res H locs ls h hP hS hl K20_0 K20_1
      rw [f_X4_readWeeks_L20] at h
      have hJ98 : ∀ (b4 : Int32) (s0 : Int32) (M : Mem) (H : Heap) (locs : List Loc) (ls : Array Slot), f_X4_readWeeks_J98 (f_X4_readWeeks_L20 a2 a3 fu) a2 a3 b4 s0 M = some res → va_P D vwCl (wsG 167 (ceC cA q) q M) H → va_S (AqG 167 q) s.heap H locs → lv_has ls 8 [(0, .ref (q 16)), (2, .ref (q a2)), (3, .ref (q a3)), (4, .int b4)] → W p l e ({ frames := 7, cells := 0, slots := 0, locals := 149 } : Room) s m [.ref (q 16), .int a1, .ref (q a2), .ref (q a3)].toArray below meth c H locs 0 0 (MQ below (Qi 167 (ceC cA q) D q r0 M0) [.ref (q 16), .int a1, .ref (q a2), .ref (q a3)].toArray s 0 0 (AqG 167 q)) (F0 m 98 ls [.int s0]) := by
        intro b4 s0 M H locs ls h hP hS hl
        rw [f_X4_readWeeks_J98] at h
        refine lv_istore (lv' := [(7, .int s0), (0, .ref (q 16)), (2, .ref (q a2)), (3, .ref (q a3)), (4, .int b4)]) hx hb dX4_readWeeks_98 hl (by decide) rfl (fun ls hl => ?_)
        refine lv_iload hx hb dX4_readWeeks_100 (lv_at hl 0 rfl) ?_
        refine lv_if_eq (tgt := 114) hx hb dX4_readWeeks_102 (by decide) (fun c34 => ?_) (fun c34 => ?_)
        · rw [if_pos c34] at h
          cases h
          exact K20_0 rfl _ _ _ hP hS (lv_sub hl [] rfl)
        · rw [if_neg c34] at h
          refine lv_aload_n hx hb dX4_readWeeks_105 rfl (lv_at hl 1 rfl) ?_
          refine lv_bipush (v := 59) hx hb dX4_readWeeks_106 (by decide) ?_
          obtain ⟨r35, M36, hc37, h⟩ := bnd_inv h
          refine gV_i (As := [.int (59 : Int32)]) X hP hS hl.1 (c_X4_take l D cA q aK aV hq hc37) sf_X4_take bw_685 sv_X4_take (rcC_4 sC_16) rfl ⟨rfl, rfl⟩ ⟨Nat.le_of_ble_eq_true rfl, Nat.le_of_ble_eq_true rfl⟩ rfl rfl (Nat.le_of_ble_eq_true rfl) dX4_readWeeks_108 (fun H locs hP hS => ?_)
          refine lv_if_ne (tgt := 116) hx hb dX4_readWeeks_111 (by decide) (fun c38 => ?_) (fun c38 => ?_)
          · rw [if_neg c38] at h
            obtain ⟨y39, ey39, h⟩ := lt_inv h
            refine lv_iinc (v := y39) (lv' := [(4, .int y39), (7, .int s0), (0, .ref (q 16)), (2, .ref (q a2)), (3, .ref (q a3))]) hx hb dX4_readWeeks_116 hl (k := 4) rfl (by rw [ey39]; rfl) (by decide) rfl (fun ls hl => ?_)
            refine lv_goto (tgt := 20) hx hb dX4_readWeeks_119 (by decide) ?_
            exact ih _ _ res _ _ _ h hP hS (lv_sub hl [2, 3, 4, 0] rfl) K20_0 K20_1
          · rw [if_pos c38] at h
            cases h
            exact K20_0 rfl _ _ _ hP hS (lv_sub hl [] rfl)
      have hJ97 : ∀ (b4 : Int32) (M : Mem) (H : Heap) (locs : List Loc) (ls : Array Slot), f_X4_readWeeks_J97 (f_X4_readWeeks_L20 a2 a3 fu) a2 a3 b4 M = some res → va_P D vwCl (wsG 167 (ceC cA q) q M) H → va_S (AqG 167 q) s.heap H locs → lv_has ls 8 [(0, .ref (q 16)), (2, .ref (q a2)), (3, .ref (q a3)), (4, .int b4)] → W p l e ({ frames := 7, cells := 0, slots := 0, locals := 149 } : Room) s m [.ref (q 16), .int a1, .ref (q a2), .ref (q a3)].toArray below meth c H locs 0 0 (MQ below (Qi 167 (ceC cA q) D q r0 M0) [.ref (q 16), .int a1, .ref (q a2), .ref (q a3)].toArray s 0 0 (AqG 167 q)) (F0 m 97 ls []) := by
        intro b4 M H locs ls h hP hS hl
        rw [f_X4_readWeeks_J97] at h
        refine lv_iconst (v := 0) hx hb dX4_readWeeks_97 (by decide) ?_
        exact hJ98 _ _ _ _ _ _ h hP hS (lv_sub hl [0, 1, 2, 3] rfl)
      refine lv_iload hx hb dX4_readWeeks_20 (lv_at hl 3 rfl) ?_
      refine lv_sipush (v := 900) hx hb dX4_readWeeks_22 (by decide) ?_
      refine lv_icmp_ge (tgt := 122) hx hb dX4_readWeeks_25 (by decide) (fun c18 => ?_) (fun c18 => ?_)
      · rw [if_pos c18] at h
        cases h
        exact K20_1 rfl _ _ _ hP hS (lv_sub hl [0, 2] rfl)
      · rw [if_neg c18] at h
        refine lv_aload_n hx hb dX4_readWeeks_28 rfl (lv_at hl 0 rfl) ?_
        refine gfC_4_0 X hP sC_16 bw_329 dX4_readWeeks_29 ?_
        refine gfC_7_6 X hP sC_13 bw_290 dX4_readWeeks_32 ?_
        refine lv_bipush (v := 32) hx hb dX4_readWeeks_35 (by decide) ?_
        refine lv_icmp_eq (tgt := 122) hx hb dX4_readWeeks_37 (by decide) (fun c19 => ?_) (fun c19 => ?_)
        · rw [if_pos c19] at h
          cases h
          exact K20_1 rfl _ _ _ hP hS (lv_sub hl [0, 2] rfl)
        · rw [if_neg c19] at h
          refine lv_aload_n hx hb dX4_readWeeks_40 rfl (lv_at hl 0 rfl) ?_
          refine gfC_4_0 X hP sC_16 bw_329 dX4_readWeeks_41 ?_
          refine gfC_7_6 X hP sC_13 bw_290 dX4_readWeeks_44 ?_
          obtain ⟨y20, ey20, h⟩ := lt_inv h
          refine topE ey20 ?_
          refine lv_istore (lv' := [(5, .int y20), (0, .ref (q 16)), (2, .ref (q a2)), (3, .ref (q a3)), (4, .int b4)]) hx hb dX4_readWeeks_47 hl (by decide) rfl (fun ls hl => ?_)
          refine lv_aload_n hx hb dX4_readWeeks_49 rfl (lv_at hl 3 rfl) ?_
          refine gfC_9_1 X hP h3 bw_48 dX4_readWeeks_50 ?_
          obtain ⟨y21, ey21, h⟩ := lt_inv h
          refine topE ey21 ?_
          refine lv_istore (lv' := [(6, .int y21), (5, .int y20), (0, .ref (q 16)), (2, .ref (q a2)), (3, .ref (q a3)), (4, .int b4)]) hx hb dX4_readWeeks_53 hl (by decide) rfl (fun ls hl => ?_)
          refine lv_iload hx hb dX4_readWeeks_55 (lv_at hl 1 rfl) ?_
          refine lv_bipush (v := 28) hx hb dX4_readWeeks_57 (by decide) ?_
          refine lv_icmp_ne (tgt := 70) hx hb dX4_readWeeks_59 (by decide) (fun c22 => ?_) (fun c22 => ?_)
          · rw [if_neg c22] at h
            refine lv_aload_n hx hb dX4_readWeeks_70 rfl (lv_at hl 2 rfl) ?_
            refine lv_iload hx hb dX4_readWeeks_71 (lv_at hl 1 rfl) ?_
            refine lv_aload_n hx hb dX4_readWeeks_73 rfl (lv_at hl 4 rfl) ?_
            obtain ⟨r23, M24, hc25, h⟩ := bnd_inv h
            refine gV_i (As := [.int y20, .ref (q a3)]) X hP hS hl.1 (c_X4_beginStep l D cA q aK aV hq h3 hc25) sf_X4_beginStep bw_778 sv_X4_beginStep (rcC_4 sC_16) rfl ⟨rfl, rfl⟩ ⟨Nat.le_of_ble_eq_true rfl, Nat.le_of_ble_eq_true rfl⟩ rfl rfl (Nat.le_of_ble_eq_true rfl) dX4_readWeeks_74 (fun H locs hP hS => ?_)
            refine lv_if_eq (tgt := 97) hx hb dX4_readWeeks_77 (by decide) (fun c26 => ?_) (fun c26 => ?_)
            · rw [if_pos c26] at h
              exact hJ97 _ _ _ _ _ h hP hS (lv_sub hl [2, 3, 4, 5] rfl)
            · rw [if_neg c26] at h
              refine lv_aload_n hx hb dX4_readWeeks_80 rfl (lv_at hl 2 rfl) ?_
              refine lv_iload hx hb dX4_readWeeks_81 (lv_at hl 1 rfl) ?_
              refine lv_iload hx hb dX4_readWeeks_83 (lv_at hl 0 rfl) ?_
              refine lv_aload_n hx hb dX4_readWeeks_85 rfl (lv_at hl 3 rfl) ?_
              refine lv_aload_n hx hb dX4_readWeeks_86 rfl (lv_at hl 4 rfl) ?_
              obtain ⟨r27, M28, hc29, h⟩ := bnd_inv h
              refine gV_i (As := [.int y20, .int y21, .ref (q a2), .ref (q a3)]) X hP hS hl.1 (c_X4_readStep l D cA q aK aV hq h2 h3 hc29) sf_X4_readStep bw_782 sv_X4_readStep (rcC_4 sC_16) rfl ⟨rfl, rfl⟩ ⟨Nat.le_of_ble_eq_true rfl, Nat.le_of_ble_eq_true rfl⟩ rfl rfl (Nat.le_of_ble_eq_true rfl) dX4_readWeeks_87 (fun H locs hP hS => ?_)
              refine lv_if_eq (tgt := 97) hx hb dX4_readWeeks_90 (by decide) (fun c30 => ?_) (fun c30 => ?_)
              · rw [if_pos c30] at h
                exact hJ97 _ _ _ _ _ h hP hS (lv_sub hl [2, 3, 4, 5] rfl)
              · rw [if_neg c30] at h
                refine lv_iconst (v := 1) hx hb dX4_readWeeks_93 (by decide) ?_
                refine lv_goto (tgt := 98) hx hb dX4_readWeeks_94 (by decide) ?_
                exact hJ98 _ _ _ _ _ _ h hP hS (lv_sub hl [2, 3, 4, 5] rfl)
          · rw [if_pos c22] at h
            refine lv_aload_n hx hb dX4_readWeeks_62 rfl (lv_at hl 2 rfl) ?_
            refine lv_aload_n hx hb dX4_readWeeks_63 rfl (lv_at hl 4 rfl) ?_
            obtain ⟨r31, M32, hc33, h⟩ := bnd_inv h
            refine gV_i (As := [.ref (q a3)]) X hP hS hl.1 (c_X4_closeStep l D cA q aK aV hq h3 hc33) sf_X4_closeStep bw_768 sv_X4_closeStep (rcC_4 sC_16) rfl ⟨rfl, rfl⟩ ⟨Nat.le_of_ble_eq_true rfl, Nat.le_of_ble_eq_true rfl⟩ rfl rfl (Nat.le_of_ble_eq_true rfl) dX4_readWeeks_64 (fun H locs hP hS => ?_)
            refine lv_goto (tgt := 98) hx hb dX4_readWeeks_67 (by decide) ?_
            exact hJ98 _ _ _ _ _ _ h hP hS (lv_sub hl [2, 3, 4, 5] rfl)
  refine lv_aload_n hx hb dX4_readWeeks_0 rfl (lv_at hl 3 rfl) ?_
  obtain ⟨_, M2, hc3, h⟩ := bnd_inv h
  refine gV_v (As := []) X hP hS hl.1 (c_X9_clear l D cA q aK aV hq h3 hc3) sf_X9_clear bw_767 sv_X9_clear (rcC_9 h3) rfl ⟨rfl, rfl⟩ ⟨Nat.le_of_ble_eq_true rfl, Nat.le_of_ble_eq_true rfl⟩ rfl rfl (Nat.le_of_ble_eq_true rfl) dX4_readWeeks_1 (fun H locs hP hS => ?_)
  refine lv_aload_n hx hb dX4_readWeeks_4 rfl (lv_at hl 0 rfl) ?_
  refine lv_iconst (v := 0) hx hb dX4_readWeeks_5 (by decide) ?_
  obtain ⟨M4, eM4, h⟩ := lt_inv h
  refine pfC_4_2 X hP hS sC_16 bw_331 eM4 dX4_readWeeks_6 (fun H locs hP hS => ?_)
  refine lv_aload_n hx hb dX4_readWeeks_9 rfl (lv_at hl 0 rfl) ?_
  refine gfC_4_0 X hP sC_16 bw_329 dX4_readWeeks_10 ?_
  refine lv_iload_n hx hb dX4_readWeeks_13 rfl (lv_at hl 1 rfl) ?_
  obtain ⟨_, M6, hc7, h⟩ := bnd_inv h
  refine gV_v (As := [.int a1]) X hP hS hl.1 (c_X7_begin l D cA q aK aV hq hc7) sf_X7_begin bw_605 sv_X7_begin (rcC_7 sC_13) rfl ⟨rfl, rfl⟩ ⟨Nat.le_of_ble_eq_true rfl, Nat.le_of_ble_eq_true rfl⟩ rfl rfl (Nat.le_of_ble_eq_true rfl) dX4_readWeeks_14 (fun H locs hP hS => ?_)
  refine lv_iconst (v := 0) hx hb dX4_readWeeks_17 (by decide) ?_
  refine lv_istore (lv' := [(4, .int (0 : Int32)), (0, .ref (q 16)), (1, .int a1), (2, .ref (q a2)), (3, .ref (q a3))]) hx hb dX4_readWeeks_18 hl (by decide) rfl (fun ls hl => ?_)
  obtain ⟨s8, M9, hc10, h⟩ := bnd_inv h
  obtain ⟨k11, rfl⟩ : ∃ z, z = s8 := ⟨_, rfl⟩
  try dsimp only at h
  refine hL20  fz _ _ _ _ _ _ hc10 hP hS (lv_sub hl [1, 3, 4, 0] rfl) (fun hke H locs ls hP hS hl => ?_) (fun hke H locs ls hP hS hl => ?_)
  · have hke : k11 = 0 := hke
    have hl : lv_has ls 8 [] := hl
    subst hke
    rw [if_pos rfl] at h
    refine lv_iconst (v := 0) hx hb dX4_readWeeks_114 (by decide) ?_
    exact end_z X hr hk hP hS (Or.inl rfl) h dX4_readWeeks_115
  · have hke : k11 = 1 := hke
    have hl : lv_has ls 8 [(0, .ref (q 16)), (3, .ref (q a3))] := hl
    subst hke
    rw [if_neg (by decide)] at h
    refine lv_aload_n hx hb dX4_readWeeks_122 rfl (lv_at hl 0 rfl) ?_
    refine gfC_4_2 X hP sC_16 bw_331 dX4_readWeeks_123 ?_
    refine lv_if_le (tgt := 138) hx hb dX4_readWeeks_126 (by decide) (fun c12 => ?_) (fun c12 => ?_)
    · rw [if_pos c12] at h
      refine lv_aload_n hx hb dX4_readWeeks_138 rfl (lv_at hl 1 rfl) ?_
      refine lv_iconst (v := 1) hx hb dX4_readWeeks_139 (by decide) ?_
      obtain ⟨M13, eM13, h⟩ := lt_inv h
      refine pfC_9_0 X hP hS h3 bw_45 (Or.inr rfl) eM13 dX4_readWeeks_140 (fun H locs hP hS => ?_)
      refine lv_iconst (v := 1) hx hb dX4_readWeeks_143 (by decide) ?_
      exact end_z X hr hk hP hS (Or.inr rfl) h dX4_readWeeks_144
    · rw [if_neg c12] at h
      refine lv_aload_n hx hb dX4_readWeeks_129 rfl (lv_at hl 0 rfl) ?_
      refine gfC_4_0 X hP sC_16 bw_329 dX4_readWeeks_130 ?_
      refine lv_iconst (v := 2) hx hb dX4_readWeeks_133 (by decide) ?_
      obtain ⟨r14, M15, hc16, h⟩ := bnd_inv h
      refine gV_i (As := [.int (2 : Int32)]) X hP hS hl.1 (c_X7_refuse l D cA q aK aV hq hc16) sf_X7_refuse bw_637 sv_X7_refuse (rcC_7 sC_13) rfl ⟨rfl, rfl⟩ ⟨Nat.le_of_ble_eq_true rfl, Nat.le_of_ble_eq_true rfl⟩ rfl rfl (Nat.le_of_ble_eq_true rfl) dX4_readWeeks_134 (fun H locs hP hS => ?_)
      obtain ⟨g17, h⟩ := gd_inv h
      exact end_z X hr hk hP hS (Decidable.not_not.mp g17) h dX4_readWeeks_137
theorem dX11_copyRow_0 : decode cX11_copyRow 0 = .ok (.iconst 0, 1) := by decide +kernel
theorem dX11_copyRow_1 : decode cX11_copyRow 1 = .ok (.istore_n 2, 1) := by decide +kernel
theorem dX11_copyRow_2 : decode cX11_copyRow 2 = .ok (.iload_n 2, 1) := by decide +kernel
theorem dX11_copyRow_3 : decode cX11_copyRow 3 = .ok (.aload_n 0, 1) := by decide +kernel
theorem dX11_copyRow_4 : decode cX11_copyRow 4 = .ok (.arraylength, 1) := by decide +kernel
theorem dX11_copyRow_5 : decode cX11_copyRow 5 = .ok (.if_icmp .ge 21, 3) := by decide +kernel
theorem dX11_copyRow_8 : decode cX11_copyRow 8 = .ok (.iload_n 2, 1) := by decide +kernel
theorem dX11_copyRow_9 : decode cX11_copyRow 9 = .ok (.aload_n 1, 1) := by decide +kernel
theorem dX11_copyRow_10 : decode cX11_copyRow 10 = .ok (.arraylength, 1) := by decide +kernel
theorem dX11_copyRow_11 : decode cX11_copyRow 11 = .ok (.if_icmp .ge 15, 3) := by decide +kernel
theorem dX11_copyRow_14 : decode cX11_copyRow 14 = .ok (.aload_n 1, 1) := by decide +kernel
theorem dX11_copyRow_15 : decode cX11_copyRow 15 = .ok (.iload_n 2, 1) := by decide +kernel
theorem dX11_copyRow_16 : decode cX11_copyRow 16 = .ok (.aload_n 0, 1) := by decide +kernel
theorem dX11_copyRow_17 : decode cX11_copyRow 17 = .ok (.iload_n 2, 1) := by decide +kernel
theorem dX11_copyRow_18 : decode cX11_copyRow 18 = .ok (.iaload, 1) := by decide +kernel
theorem dX11_copyRow_19 : decode cX11_copyRow 19 = .ok (.iastore, 1) := by decide +kernel
theorem dX11_copyRow_20 : decode cX11_copyRow 20 = .ok (.iinc 2 1, 3) := by decide +kernel
theorem dX11_copyRow_23 : decode cX11_copyRow 23 = .ok (.goto (-21), 3) := by decide +kernel
theorem dX11_copyRow_26 : decode cX11_copyRow 26 = .ok (.return_, 1) := by decide +kernel
set_option maxRecDepth 100000 in
set_option maxHeartbeats 8000000 in
theorem c_X11_copyRow (l : Launch) (D : va_G) (cA : Nat → ClassId) (q aK aV : Nat → Nat) (hq : injG 167 q) {a0 : Nat} {a1 : Nat} {M M0 : Mem} (h0 : shC a0 = 20) (h1 : shC a1 = 20) (h : f_X11_copyRow a0 a1 M = some ((), M0)) : Met l yX11_copyRow (.code yX11_copyRow cX11_copyRow 3 none :: BW) ({ frames := 1, cells := 0, slots := 0, locals := 14 } : Room) (va_Pc [.ref (q a0), .ref (q a1)] (CB 167 (ceC cA q) D cA q aK aV M)) (Qv 167 (ceC cA q) D q M0) 0 0 (AqG 167 q) := by
  refine gMet RX11 (by decide +kernel) rfl hq (Nat.le_of_ble_eq_true rfl) ?_
  intro p e s m below meth c ls X hr hk hP hS hl
  have hx := X.1
  have hb := X.2.1
  have hl : lv_has ls 3 [(0, .ref (q a0)), (1, .ref (q a1))] := hl
  rw [f_X11_copyRow] at h
  have hL2 : ∀ (fu : Nat) (b2 : Int32) (M : Mem) (res : (Unit) × Mem) (H : Heap) (locs : List Loc) (ls : Array Slot), f_X11_copyRow_L2 a0 a1 fu b2 M = some res → va_P D vwCl (wsG 167 (ceC cA q) q M) H → va_S (AqG 167 q) s.heap H locs → lv_has ls 3 [(0, .ref (q a0)), (1, .ref (q a1)), (2, .int b2)] → (∀ (H : Heap) (locs : List Loc) (ls : Array Slot), va_P D vwCl (wsG 167 (ceC cA q) q res.2) H → va_S (AqG 167 q) s.heap H locs → lv_has ls 3 [] → W p l e ({ frames := 1, cells := 0, slots := 0, locals := 14 } : Room) s m [.ref (q a0), .ref (q a1)].toArray below meth c H locs 0 0 (MQ below (Qv 167 (ceC cA q) D q M0) [.ref (q a0), .ref (q a1)].toArray s 0 0 (AqG 167 q)) (F0 m 26 ls [])) → W p l e ({ frames := 1, cells := 0, slots := 0, locals := 14 } : Room) s m [.ref (q a0), .ref (q a1)].toArray below meth c H locs 0 0 (MQ below (Qv 167 (ceC cA q) D q M0) [.ref (q a0), .ref (q a1)].toArray s 0 0 (AqG 167 q)) (F0 m 2 ls []) := by
    intro fu
    induction fu with
    | zero => intro b2 M res H locs ls h; exact absurd h (by simp [f_X11_copyRow_L2])
    | succ fu ih =>
      intro b2 M res H locs ls h hP hS hl K2_0
      rw [f_X11_copyRow_L2] at h
      refine lv_iload_n hx hb dX11_copyRow_2 rfl (lv_at hl 2 rfl) ?_
      refine lv_aload_n hx hb dX11_copyRow_3 rfl (lv_at hl 0 rfl) ?_
      refine alC_20 X hP h0 rfl rfl dX11_copyRow_4 ?_
      refine lv_icmp_ge (tgt := 26) hx hb dX11_copyRow_5 (by decide) (fun c4 => ?_) (fun c4 => ?_)
      · rw [if_pos c4] at h
        cases h
        exact K2_0 _ _ _ hP hS (lv_sub hl [] rfl)
      · rw [if_neg c4] at h
        refine lv_iload_n hx hb dX11_copyRow_8 rfl (lv_at hl 2 rfl) ?_
        refine lv_aload_n hx hb dX11_copyRow_9 rfl (lv_at hl 1 rfl) ?_
        refine alC_20 X hP h1 rfl rfl dX11_copyRow_10 ?_
        refine lv_icmp_ge (tgt := 26) hx hb dX11_copyRow_11 (by decide) (fun c5 => ?_) (fun c5 => ?_)
        · rw [if_pos c5] at h
          cases h
          exact K2_0 _ _ _ hP hS (lv_sub hl [] rfl)
        · rw [if_neg c5] at h
          refine lv_aload_n hx hb dX11_copyRow_14 rfl (lv_at hl 1 rfl) ?_
          refine lv_iload_n hx hb dX11_copyRow_15 rfl (lv_at hl 2 rfl) ?_
          refine lv_aload_n hx hb dX11_copyRow_16 rfl (lv_at hl 0 rfl) ?_
          refine lv_iload_n hx hb dX11_copyRow_17 rfl (lv_at hl 2 rfl) ?_
          obtain ⟨g6, h⟩ := gd_inv h
          refine ldC_ia X hP h0 rfl g6 dX11_copyRow_18 ?_
          obtain ⟨g7, h⟩ := gd_inv h
          obtain ⟨M8, eM8, h⟩ := lt_inv h
          refine stC_ia X hP hS h1 rfl g7 eM8 dX11_copyRow_19 (fun H locs hP hS => ?_)
          obtain ⟨y9, ey9, h⟩ := lt_inv h
          refine lv_iinc (v := y9) (lv' := [(2, .int y9), (0, .ref (q a0)), (1, .ref (q a1))]) hx hb dX11_copyRow_20 hl (k := 2) rfl (by rw [ey9]; rfl) (by decide) rfl (fun ls hl => ?_)
          refine lv_goto (tgt := 2) hx hb dX11_copyRow_23 (by decide) ?_
          exact ih _ _ res _ _ _ h hP hS (lv_sub hl [1, 2, 0] rfl) K2_0
  refine lv_iconst (v := 0) hx hb dX11_copyRow_0 (by decide) ?_
  refine lv_istore_n (lv' := [(2, .int (0 : Int32)), (0, .ref (q a0)), (1, .ref (q a1))]) hx hb dX11_copyRow_1 rfl hl (by decide) rfl (fun ls hl => ?_)
  obtain ⟨s1, M2, hc3, h⟩ := bnd_inv h
  try dsimp only at h
  refine hL2  fz _ _ _ _ _ _ hc3 hP hS (lv_sub hl [1, 2, 0] rfl) (fun H locs ls hP hS hl => ?_)
  have hl : lv_has ls 3 [] := hl
  exact end_v X hr hk hP hS h dX11_copyRow_26
theorem dX9_copyFrom_0 : decode cX9_copyFrom 0 = .ok (.aload_n 0, 1) := by decide +kernel
theorem dX9_copyFrom_1 : decode cX9_copyFrom 1 = .ok (.aload_n 1, 1) := by decide +kernel
theorem dX9_copyFrom_2 : decode cX9_copyFrom 2 = .ok (.getfield 7, 3) := by decide +kernel
theorem dX9_copyFrom_5 : decode cX9_copyFrom 5 = .ok (.putfield 7, 3) := by decide +kernel
theorem dX9_copyFrom_8 : decode cX9_copyFrom 8 = .ok (.aload_n 0, 1) := by decide +kernel
theorem dX9_copyFrom_9 : decode cX9_copyFrom 9 = .ok (.aload_n 1, 1) := by decide +kernel
theorem dX9_copyFrom_10 : decode cX9_copyFrom 10 = .ok (.getfield 13, 3) := by decide +kernel
theorem dX9_copyFrom_13 : decode cX9_copyFrom 13 = .ok (.putfield 13, 3) := by decide +kernel
theorem dX9_copyFrom_16 : decode cX9_copyFrom 16 = .ok (.aload_n 1, 1) := by decide +kernel
theorem dX9_copyFrom_17 : decode cX9_copyFrom 17 = .ok (.getfield 17, 3) := by decide +kernel
theorem dX9_copyFrom_20 : decode cX9_copyFrom 20 = .ok (.aload_n 0, 1) := by decide +kernel
theorem dX9_copyFrom_21 : decode cX9_copyFrom 21 = .ok (.getfield 17, 3) := by decide +kernel
theorem dX9_copyFrom_24 : decode cX9_copyFrom 24 = .ok (.invokestatic 21, 3) := by decide +kernel
theorem dX9_copyFrom_27 : decode cX9_copyFrom 27 = .ok (.return_, 1) := by decide +kernel
set_option maxRecDepth 100000 in
set_option maxHeartbeats 8000000 in
theorem c_X9_copyFrom (l : Launch) (D : va_G) (cA : Nat → ClassId) (q aK aV : Nat → Nat) (hq : injG 167 q) {a0 : Nat} {a1 : Nat} {M M0 : Mem} (h0 : shC a0 = 9) (h1 : shC a1 = 9) (h : f_X9_copyFrom a0 a1 M = some ((), M0)) : Met l yX9_copyFrom (.code yX9_copyFrom cX9_copyFrom 2 none :: BW) ({ frames := 2, cells := 0, slots := 0, locals := 36 } : Room) (va_Pc [.ref (q a0), .ref (q a1)] (CB 167 (ceC cA q) D cA q aK aV M)) (Qv 167 (ceC cA q) D q M0) 0 0 (AqG 167 q) := by
  refine gMet RX9 (by decide +kernel) rfl hq (Nat.le_of_ble_eq_true rfl) ?_
  intro p e s m below meth c ls X hr hk hP hS hl
  have hx := X.1
  have hb := X.2.1
  have hl : lv_has ls 2 [(0, .ref (q a0)), (1, .ref (q a1))] := hl
  rw [f_X9_copyFrom] at h
  refine lv_aload_n hx hb dX9_copyFrom_0 rfl (lv_at hl 0 rfl) ?_
  refine lv_aload_n hx hb dX9_copyFrom_1 rfl (lv_at hl 1 rfl) ?_
  refine gfC_9_0 X hP h1 bw_44 dX9_copyFrom_2 ?_
  obtain ⟨g1, h⟩ := gd_inv h
  obtain ⟨M2, eM2, h⟩ := lt_inv h
  refine pfC_9_0 X hP hS h0 bw_44 (Decidable.not_not.mp g1) eM2 dX9_copyFrom_5 (fun H locs hP hS => ?_)
  refine lv_aload_n hx hb dX9_copyFrom_8 rfl (lv_at hl 0 rfl) ?_
  refine lv_aload_n hx hb dX9_copyFrom_9 rfl (lv_at hl 1 rfl) ?_
  refine gfC_9_1 X hP h1 bw_47 dX9_copyFrom_10 ?_
  obtain ⟨M3, eM3, h⟩ := lt_inv h
  refine pfC_9_1 X hP hS h0 bw_47 eM3 dX9_copyFrom_13 (fun H locs hP hS => ?_)
  refine lv_aload_n hx hb dX9_copyFrom_16 rfl (lv_at hl 1 rfl) ?_
  refine gfC_9_2 X hP h1 bw_50 dX9_copyFrom_17 ?_
  refine lv_aload_n hx hb dX9_copyFrom_20 rfl (lv_at hl 0 rfl) ?_
  refine gfC_9_2 X hP h0 bw_50 dX9_copyFrom_21 ?_
  obtain ⟨_, M5, hc6, h⟩ := bnd_inv h
  refine gSN_v (As := [.ref (q (a1 + 1)), .ref (q (a0 + 1))]) X hP hS hl.1 (c_X11_copyRow l D cA q aK aV hq ((kC_9_2 h1).1) ((kC_9_2 h0).1) hc6) sf_X11_copyRow nw_18 ss_X11_copyRow ⟨rfl, rfl⟩ ⟨Nat.le_of_ble_eq_true rfl, Nat.le_of_ble_eq_true rfl⟩ rfl rfl (Nat.le_of_ble_eq_true rfl) dX9_copyFrom_24 (fun H locs hP hS => ?_)
  exact end_v X hr hk hP hS h dX9_copyFrom_27
theorem dX11_weeks_0 : decode cX11_weeks 0 = .ok (.iload_n 1, 1) := by decide +kernel
theorem dX11_weeks_1 : decode cX11_weeks 1 = .ok (.aload_n 0, 1) := by decide +kernel
theorem dX11_weeks_2 : decode cX11_weeks 2 = .ok (.getfield 41, 3) := by decide +kernel
theorem dX11_weeks_5 : decode cX11_weeks 5 = .ok (.getfield 160, 3) := by decide +kernel
theorem dX11_weeks_8 : decode cX11_weeks 8 = .ok (.iconst 1, 1) := by decide +kernel
theorem dX11_weeks_9 : decode cX11_weeks 9 = .ok (.iadd, 1) := by decide +kernel
theorem dX11_weeks_10 : decode cX11_weeks 10 = .ok (.invokestatic 104, 3) := by decide +kernel
theorem dX11_weeks_13 : decode cX11_weeks 13 = .ok (.ifCond .eq 10, 3) := by decide +kernel
theorem dX11_weeks_16 : decode cX11_weeks 16 = .ok (.iload_n 1, 1) := by decide +kernel
theorem dX11_weeks_17 : decode cX11_weeks 17 = .ok (.sipush 300, 3) := by decide +kernel
theorem dX11_weeks_20 : decode cX11_weeks 20 = .ok (.if_icmp .le 9, 3) := by decide +kernel
theorem dX11_weeks_23 : decode cX11_weeks 23 = .ok (.aload_n 0, 1) := by decide +kernel
theorem dX11_weeks_24 : decode cX11_weeks 24 = .ok (.iconst 1, 1) := by decide +kernel
theorem dX11_weeks_25 : decode cX11_weeks 25 = .ok (.invokevirtual 132, 3) := by decide +kernel
theorem dX11_weeks_28 : decode cX11_weeks 28 = .ok (.ireturn, 1) := by decide +kernel
theorem dX11_weeks_29 : decode cX11_weeks 29 = .ok (.aload_n 0, 1) := by decide +kernel
theorem dX11_weeks_30 : decode cX11_weeks 30 = .ok (.getfield 50, 3) := by decide +kernel
theorem dX11_weeks_33 : decode cX11_weeks 33 = .ok (.iload_n 1, 1) := by decide +kernel
theorem dX11_weeks_34 : decode cX11_weeks 34 = .ok (.aload_n 0, 1) := by decide +kernel
theorem dX11_weeks_35 : decode cX11_weeks 35 = .ok (.getfield 10, 3) := by decide +kernel
theorem dX11_weeks_38 : decode cX11_weeks 38 = .ok (.aload_n 0, 1) := by decide +kernel
theorem dX11_weeks_39 : decode cX11_weeks 39 = .ok (.getfield 16, 3) := by decide +kernel
theorem dX11_weeks_42 : decode cX11_weeks 42 = .ok (.getfield 174, 3) := by decide +kernel
theorem dX11_weeks_45 : decode cX11_weeks 45 = .ok (.invokevirtual 178, 3) := by decide +kernel
theorem dX11_weeks_48 : decode cX11_weeks 48 = .ok (.istore_n 2, 1) := by decide +kernel
theorem dX11_weeks_49 : decode cX11_weeks 49 = .ok (.iload_n 2, 1) := by decide +kernel
theorem dX11_weeks_50 : decode cX11_weeks 50 = .ok (.ifCond .eq 20, 3) := by decide +kernel
theorem dX11_weeks_53 : decode cX11_weeks 53 = .ok (.aload_n 0, 1) := by decide +kernel
theorem dX11_weeks_54 : decode cX11_weeks 54 = .ok (.getfield 10, 3) := by decide +kernel
theorem dX11_weeks_57 : decode cX11_weeks 57 = .ok (.getfield 174, 3) := by decide +kernel
theorem dX11_weeks_60 : decode cX11_weeks 60 = .ok (.aload_n 0, 1) := by decide +kernel
theorem dX11_weeks_61 : decode cX11_weeks 61 = .ok (.getfield 16, 3) := by decide +kernel
theorem dX11_weeks_64 : decode cX11_weeks 64 = .ok (.getfield 174, 3) := by decide +kernel
theorem dX11_weeks_67 : decode cX11_weeks 67 = .ok (.invokevirtual 182, 3) := by decide +kernel
theorem dX11_weeks_70 : decode cX11_weeks 70 = .ok (.aload_n 0, 1) := by decide +kernel
theorem dX11_weeks_71 : decode cX11_weeks 71 = .ok (.iload_n 2, 1) := by decide +kernel
theorem dX11_weeks_72 : decode cX11_weeks 72 = .ok (.aload_n 0, 1) := by decide +kernel
theorem dX11_weeks_73 : decode cX11_weeks 73 = .ok (.getfield 10, 3) := by decide +kernel
theorem dX11_weeks_76 : decode cX11_weeks 76 = .ok (.getfield 174, 3) := by decide +kernel
theorem dX11_weeks_79 : decode cX11_weeks 79 = .ok (.getfield 188, 3) := by decide +kernel
theorem dX11_weeks_82 : decode cX11_weeks 82 = .ok (.invokevirtual 170, 3) := by decide +kernel
theorem dX11_weeks_85 : decode cX11_weeks 85 = .ok (.ireturn, 1) := by decide +kernel
set_option maxRecDepth 100000 in
set_option maxHeartbeats 8000000 in
theorem c_X11_weeks (l : Launch) (D : va_G) (cA : Nat → ClassId) (q aK aV : Nat → Nat) (hq : injG 167 q) {a1 : Int32} {M M0 : Mem} {r0 : Int32} (h : f_X11_weeks a1 M = some (r0, M0)) : Met l yX11_weeks (.code yX11_weeks cX11_weeks 3 (some .int) :: BW) ({ frames := 8, cells := 0, slots := 0, locals := 176 } : Room) (va_Pc [.ref (q 0), .int a1] (CB 167 (ceC cA q) D cA q aK aV M)) (Qi 167 (ceC cA q) D q r0 M0) 0 0 (AqG 167 q) := by
  refine gMet RX11 (by decide +kernel) rfl hq (Nat.le_of_ble_eq_true rfl) ?_
  intro p e s m below meth c ls X hr hk hP hS hl
  have hx := X.1
  have hb := X.2.1
  have hl : lv_has ls 3 [(0, .ref (q 0)), (1, .int a1)] := hl
  rw [f_X11_weeks] at h
  have hJ70 : ∀ (b2 : Int32) (M : Mem) (H : Heap) (locs : List Loc) (ls : Array Slot), f_X11_weeks_J70 b2 M = some (r0, M0) → va_P D vwCl (wsG 167 (ceC cA q) q M) H → va_S (AqG 167 q) s.heap H locs → lv_has ls 3 [(0, .ref (q 0)), (2, .int b2)] → W p l e ({ frames := 8, cells := 0, slots := 0, locals := 176 } : Room) s m [.ref (q 0), .int a1].toArray below meth c H locs 0 0 (MQ below (Qi 167 (ceC cA q) D q r0 M0) [.ref (q 0), .int a1].toArray s 0 0 (AqG 167 q)) (F0 m 70 ls []) := by
    intro b2 M H locs ls h hP hS hl
    rw [f_X11_weeks_J70] at h
    refine lv_aload_n hx hb dX11_weeks_70 rfl (lv_at hl 0 rfl) ?_
    refine lv_iload_n hx hb dX11_weeks_71 rfl (lv_at hl 1 rfl) ?_
    refine lv_aload_n hx hb dX11_weeks_72 rfl (lv_at hl 0 rfl) ?_
    refine gfC_11_0 X hP sC_0 bw_430 dX11_weeks_73 ?_
    obtain ⟨g23, h⟩ := gd_inv h
    have g23 := Decidable.not_not.mp g23
    refine gfC_0_9 X hP g23 bw_164 dX11_weeks_76 ?_
    refine gfC_9_1 X hP (kC_0_9 g23) bw_49 dX11_weeks_79 ?_
    obtain ⟨r24, M25, hc26, h⟩ := bnd_inv h
    refine gV_i (As := [.int b2, .int (gI M ((gR M 0 0) + 24) 1)]) X hP hS hl.1 (c_X11_textRead l D cA q aK aV hq hc26) sf_X11_textRead bw_751 sv_X11_textRead (rcC_11 sC_0) rfl ⟨rfl, rfl⟩ ⟨Nat.le_of_ble_eq_true rfl, Nat.le_of_ble_eq_true rfl⟩ rfl rfl (Nat.le_of_ble_eq_true rfl) dX11_weeks_82 (fun H locs hP hS => ?_)
    exact end_i X hr hk hP hS h dX11_weeks_85
  refine lv_iload_n hx hb dX11_weeks_0 rfl (lv_at hl 1 rfl) ?_
  refine lv_aload_n hx hb dX11_weeks_1 rfl (lv_at hl 0 rfl) ?_
  refine gfC_11_6 X hP sC_0 bw_436 dX11_weeks_2 ?_
  refine gfC_7_2 X hP sC_13 bw_285 dX11_weeks_5 ?_
  refine lv_iconst (v := 1) hx hb dX11_weeks_8 (by decide) ?_
  refine lv_iadd hx hb dX11_weeks_9 ?_
  obtain ⟨r1, M2, hc3, h⟩ := bnd_inv h
  refine gS_i (As := [.int a1, .int ((gI M 13 2) + (1 : Int32))]) X hP hS hl.1 (c_X11_within l D cA q aK aV hq hc3) sf_X11_within bw_504 ss_X11_within ⟨rfl, rfl⟩ ⟨Nat.le_of_ble_eq_true rfl, Nat.le_of_ble_eq_true rfl⟩ rfl rfl (Nat.le_of_ble_eq_true rfl) dX11_weeks_10 (fun H locs hP hS => ?_)
  refine lv_if_eq (tgt := 23) hx hb dX11_weeks_13 (by decide) (fun c4 => ?_) (fun c4 => ?_)
  · rw [if_pos c4] at h
    refine lv_aload_n hx hb dX11_weeks_23 rfl (lv_at hl 0 rfl) ?_
    refine lv_iconst (v := 1) hx hb dX11_weeks_24 (by decide) ?_
    obtain ⟨r5, M6, hc7, h⟩ := bnd_inv h
    refine gV_i (As := [.int (1 : Int32)]) X hP hS hl.1 (c_X11_refused l D cA q aK aV hq hc7) sf_X11_refused bw_552 sv_X11_refused (rcC_11 sC_0) rfl ⟨rfl, rfl⟩ ⟨Nat.le_of_ble_eq_true rfl, Nat.le_of_ble_eq_true rfl⟩ rfl rfl (Nat.le_of_ble_eq_true rfl) dX11_weeks_25 (fun H locs hP hS => ?_)
    exact end_i X hr hk hP hS h dX11_weeks_28
  · rw [if_neg c4] at h
    refine lv_iload_n hx hb dX11_weeks_16 rfl (lv_at hl 1 rfl) ?_
    refine lv_sipush (v := 300) hx hb dX11_weeks_17 (by decide) ?_
    refine lv_icmp_le (tgt := 29) hx hb dX11_weeks_20 (by decide) (fun c8 => ?_) (fun c8 => ?_)
    · rw [if_pos c8] at h
      refine lv_aload_n hx hb dX11_weeks_29 rfl (lv_at hl 0 rfl) ?_
      refine gfC_11_7 X hP sC_0 bw_437 dX11_weeks_30 ?_
      refine lv_iload_n hx hb dX11_weeks_33 rfl (lv_at hl 1 rfl) ?_
      refine lv_aload_n hx hb dX11_weeks_34 rfl (lv_at hl 0 rfl) ?_
      refine gfC_11_0 X hP sC_0 bw_430 dX11_weeks_35 ?_
      obtain ⟨g9, h⟩ := gd_inv h
      have g9 := Decidable.not_not.mp g9
      refine lv_aload_n hx hb dX11_weeks_38 rfl (lv_at hl 0 rfl) ?_
      refine gfC_11_1 X hP sC_0 bw_431 dX11_weeks_39 ?_
      obtain ⟨g10, h⟩ := gd_inv h
      have g10 := Decidable.not_not.mp g10
      refine gfC_0_9 X hP g10 bw_164 dX11_weeks_42 ?_
      obtain ⟨r11, M12, hc13, h⟩ := bnd_inv h
      refine gV_i (As := [.int a1, .ref (q (gR M2 0 0)), .ref (q ((gR M2 0 1) + 24))]) X hP hS hl.1 (c_X4_readWeeks l D cA q aK aV hq g9 (kC_0_9 g10) hc13) sf_X4_readWeeks bw_763 sv_X4_readWeeks (rcC_4 sC_16) rfl ⟨rfl, rfl⟩ ⟨Nat.le_of_ble_eq_true rfl, Nat.le_of_ble_eq_true rfl⟩ rfl rfl (Nat.le_of_ble_eq_true rfl) dX11_weeks_45 (fun H locs hP hS => ?_)
      refine lv_istore_n (lv' := [(2, .int r11), (0, .ref (q 0)), (1, .int a1)]) hx hb dX11_weeks_48 rfl hl (by decide) rfl (fun ls hl => ?_)
      refine lv_iload_n hx hb dX11_weeks_49 rfl (lv_at hl 0 rfl) ?_
      refine lv_if_eq (tgt := 70) hx hb dX11_weeks_50 (by decide) (fun c14 => ?_) (fun c14 => ?_)
      · rw [if_pos c14] at h
        exact hJ70 _ _ _ _ _ h hP hS (lv_sub hl [1, 0] rfl)
      · rw [if_neg c14] at h
        refine lv_aload_n hx hb dX11_weeks_53 rfl (lv_at hl 1 rfl) ?_
        refine gfC_11_0 X hP sC_0 bw_430 dX11_weeks_54 ?_
        obtain ⟨g15, h⟩ := gd_inv h
        have g15 := Decidable.not_not.mp g15
        refine gfC_0_9 X hP g15 bw_164 dX11_weeks_57 ?_
        refine lv_aload_n hx hb dX11_weeks_60 rfl (lv_at hl 1 rfl) ?_
        refine gfC_11_1 X hP sC_0 bw_431 dX11_weeks_61 ?_
        obtain ⟨g16, h⟩ := gd_inv h
        have g16 := Decidable.not_not.mp g16
        refine gfC_0_9 X hP g16 bw_164 dX11_weeks_64 ?_
        obtain ⟨_, M18, hc19, h⟩ := bnd_inv h
        refine gV_v (As := [.ref (q ((gR M12 0 1) + 24))]) X hP hS hl.1 (c_X9_copyFrom l D cA q aK aV hq (kC_0_9 g15) (kC_0_9 g16) hc19) sf_X9_copyFrom bw_794 sv_X9_copyFrom (rcC_9 (kC_0_9 g15)) rfl ⟨rfl, rfl⟩ ⟨Nat.le_of_ble_eq_true rfl, Nat.le_of_ble_eq_true rfl⟩ rfl rfl (Nat.le_of_ble_eq_true rfl) dX11_weeks_67 (fun H locs hP hS => ?_)
        exact hJ70 _ _ _ _ _ h hP hS (lv_sub hl [1, 0] rfl)
    · rw [if_neg c8] at h
      refine lv_aload_n hx hb dX11_weeks_23 rfl (lv_at hl 0 rfl) ?_
      refine lv_iconst (v := 1) hx hb dX11_weeks_24 (by decide) ?_
      obtain ⟨r20, M21, hc22, h⟩ := bnd_inv h
      refine gV_i (As := [.int (1 : Int32)]) X hP hS hl.1 (c_X11_refused l D cA q aK aV hq hc22) sf_X11_refused bw_552 sv_X11_refused (rcC_11 sC_0) rfl ⟨rfl, rfl⟩ ⟨Nat.le_of_ble_eq_true rfl, Nat.le_of_ble_eq_true rfl⟩ rfl rfl (Nat.le_of_ble_eq_true rfl) dX11_weeks_25 (fun H locs hP hS => ?_)
      exact end_i X hr hk hP hS h dX11_weeks_28
theorem dX11_fault_0 : decode cX11_fault 0 = .ok (.iload_n 1, 1) := by decide +kernel
theorem dX11_fault_1 : decode cX11_fault 1 = .ok (.ifCond .ne 10, 3) := by decide +kernel
theorem dX11_fault_4 : decode cX11_fault 4 = .ok (.aload_n 0, 1) := by decide +kernel
theorem dX11_fault_5 : decode cX11_fault 5 = .ok (.getfield 92, 3) := by decide +kernel
theorem dX11_fault_8 : decode cX11_fault 8 = .ok (.goto 16, 3) := by decide +kernel
theorem dX11_fault_11 : decode cX11_fault 11 = .ok (.iload_n 1, 1) := by decide +kernel
theorem dX11_fault_12 : decode cX11_fault 12 = .ok (.iconst 1, 1) := by decide +kernel
theorem dX11_fault_13 : decode cX11_fault 13 = .ok (.if_icmp .ne 10, 3) := by decide +kernel
theorem dX11_fault_16 : decode cX11_fault 16 = .ok (.aload_n 0, 1) := by decide +kernel
theorem dX11_fault_17 : decode cX11_fault 17 = .ok (.getfield 95, 3) := by decide +kernel
theorem dX11_fault_20 : decode cX11_fault 20 = .ok (.goto 4, 3) := by decide +kernel
theorem dX11_fault_23 : decode cX11_fault 23 = .ok (.iconst (-1), 1) := by decide +kernel
theorem dX11_fault_24 : decode cX11_fault 24 = .ok (.ireturn, 1) := by decide +kernel
set_option maxRecDepth 100000 in
set_option maxHeartbeats 8000000 in
theorem c_X11_fault (l : Launch) (D : va_G) (cA : Nat → ClassId) (q aK aV : Nat → Nat) (hq : injG 167 q) {a1 : Int32} {M M0 : Mem} {r0 : Int32} (h : f_X11_fault a1 M = some (r0, M0)) : Met l yX11_fault (.code yX11_fault cX11_fault 2 (some .int) :: BW) ({ frames := 1, cells := 0, slots := 0, locals := 13 } : Room) (va_Pc [.ref (q 0), .int a1] (CB 167 (ceC cA q) D cA q aK aV M)) (Qi 167 (ceC cA q) D q r0 M0) 0 0 (AqG 167 q) := by
  refine gMet RX11 (by decide +kernel) rfl hq (Nat.le_of_ble_eq_true rfl) ?_
  intro p e s m below meth c ls X hr hk hP hS hl
  have hx := X.1
  have hb := X.2.1
  have hl : lv_has ls 2 [(0, .ref (q 0)), (1, .int a1)] := hl
  rw [f_X11_fault] at h
  refine lv_iload_n hx hb dX11_fault_0 rfl (lv_at hl 1 rfl) ?_
  refine lv_if_ne (tgt := 11) hx hb dX11_fault_1 (by decide) (fun c1 => ?_) (fun c1 => ?_)
  · rw [if_neg c1] at h
    refine lv_iload_n hx hb dX11_fault_11 rfl (lv_at hl 1 rfl) ?_
    refine lv_iconst (v := 1) hx hb dX11_fault_12 (by decide) ?_
    refine lv_icmp_ne (tgt := 23) hx hb dX11_fault_13 (by decide) (fun c2 => ?_) (fun c2 => ?_)
    · rw [if_neg c2] at h
      refine lv_iconst (v := -1) hx hb dX11_fault_23 (by decide) ?_
      exact end_i X hr hk hP hS h dX11_fault_24
    · rw [if_pos c2] at h
      refine lv_aload_n hx hb dX11_fault_16 rfl (lv_at hl 0 rfl) ?_
      refine gfC_11_16 X hP sC_0 bw_446 dX11_fault_17 ?_
      refine lv_goto (tgt := 24) hx hb dX11_fault_20 (by decide) ?_
      exact end_i X hr hk hP hS h dX11_fault_24
  · rw [if_pos c1] at h
    refine lv_aload_n hx hb dX11_fault_4 rfl (lv_at hl 0 rfl) ?_
    refine gfC_11_15 X hP sC_0 bw_445 dX11_fault_5 ?_
    refine lv_goto (tgt := 24) hx hb dX11_fault_8 (by decide) ?_
    exact end_i X hr hk hP hS h dX11_fault_24
theorem dX0_setOfFate_0 : decode cX0_setOfFate 0 = .ok (.iconst 0, 1) := by decide +kernel
theorem dX0_setOfFate_1 : decode cX0_setOfFate 1 = .ok (.istore_n 2, 1) := by decide +kernel
theorem dX0_setOfFate_2 : decode cX0_setOfFate 2 = .ok (.iconst 0, 1) := by decide +kernel
theorem dX0_setOfFate_3 : decode cX0_setOfFate 3 = .ok (.istore_n 3, 1) := by decide +kernel
theorem dX0_setOfFate_4 : decode cX0_setOfFate 4 = .ok (.iload_n 3, 1) := by decide +kernel
theorem dX0_setOfFate_5 : decode cX0_setOfFate 5 = .ok (.aload_n 0, 1) := by decide +kernel
theorem dX0_setOfFate_6 : decode cX0_setOfFate 6 = .ok (.iconst 3, 1) := by decide +kernel
theorem dX0_setOfFate_7 : decode cX0_setOfFate 7 = .ok (.invokevirtual 77, 3) := by decide +kernel
theorem dX0_setOfFate_10 : decode cX0_setOfFate 10 = .ok (.if_icmp .ge 27, 3) := by decide +kernel
theorem dX0_setOfFate_13 : decode cX0_setOfFate 13 = .ok (.aload_n 0, 1) := by decide +kernel
theorem dX0_setOfFate_14 : decode cX0_setOfFate 14 = .ok (.iload_n 3, 1) := by decide +kernel
theorem dX0_setOfFate_15 : decode cX0_setOfFate 15 = .ok (.invokevirtual 89, 3) := by decide +kernel
theorem dX0_setOfFate_18 : decode cX0_setOfFate 18 = .ok (.getfield 118, 3) := by decide +kernel
theorem dX0_setOfFate_21 : decode cX0_setOfFate 21 = .ok (.iload_n 1, 1) := by decide +kernel
theorem dX0_setOfFate_22 : decode cX0_setOfFate 22 = .ok (.if_icmp .ne 9, 3) := by decide +kernel
theorem dX0_setOfFate_25 : decode cX0_setOfFate 25 = .ok (.iload_n 2, 1) := by decide +kernel
theorem dX0_setOfFate_26 : decode cX0_setOfFate 26 = .ok (.iconst 1, 1) := by decide +kernel
theorem dX0_setOfFate_27 : decode cX0_setOfFate 27 = .ok (.iload_n 3, 1) := by decide +kernel
theorem dX0_setOfFate_28 : decode cX0_setOfFate 28 = .ok (.ishl, 1) := by decide +kernel
theorem dX0_setOfFate_29 : decode cX0_setOfFate 29 = .ok (.ior, 1) := by decide +kernel
theorem dX0_setOfFate_30 : decode cX0_setOfFate 30 = .ok (.istore_n 2, 1) := by decide +kernel
theorem dX0_setOfFate_31 : decode cX0_setOfFate 31 = .ok (.iinc 3 1, 3) := by decide +kernel
theorem dX0_setOfFate_34 : decode cX0_setOfFate 34 = .ok (.goto (-30), 3) := by decide +kernel
theorem dX0_setOfFate_37 : decode cX0_setOfFate 37 = .ok (.iload_n 2, 1) := by decide +kernel
theorem dX0_setOfFate_38 : decode cX0_setOfFate 38 = .ok (.ireturn, 1) := by decide +kernel
set_option maxRecDepth 100000 in
set_option maxHeartbeats 8000000 in
theorem c_X0_setOfFate (l : Launch) (D : va_G) (cA : Nat → ClassId) (q aK aV : Nat → Nat) (hq : injG 167 q) {a0 : Nat} {a1 : Int32} {M M0 : Mem} {r0 : Int32} (h0 : shC a0 = 0) (h : f_X0_setOfFate a0 a1 M = some (r0, M0)) : Met l yX0_setOfFate (.code yX0_setOfFate cX0_setOfFate 4 (some .int) :: BW) ({ frames := 2, cells := 0, slots := 0, locals := 36 } : Room) (va_Pc [.ref (q a0), .int a1] (CB 167 (ceC cA q) D cA q aK aV M)) (Qi 167 (ceC cA q) D q r0 M0) 0 0 (AqG 167 q) := by
  refine gMet RX0 (by decide +kernel) rfl hq (Nat.le_of_ble_eq_true rfl) ?_
  intro p e s m below meth c ls X hr hk hP hS hl
  have hx := X.1
  have hb := X.2.1
  have hl : lv_has ls 4 [(0, .ref (q a0)), (1, .int a1)] := hl
  rw [f_X0_setOfFate] at h
  have hL4 : ∀ (fu : Nat) (b2 : Int32) (b3 : Int32) (M : Mem) (res : (Int32) × Mem) (H : Heap) (locs : List Loc) (ls : Array Slot), f_X0_setOfFate_L4 a0 a1 fu b2 b3 M = some res → va_P D vwCl (wsG 167 (ceC cA q) q M) H → va_S (AqG 167 q) s.heap H locs → lv_has ls 4 [(0, .ref (q a0)), (1, .int a1), (2, .int b2), (3, .int b3)] → (∀ (H : Heap) (locs : List Loc) (ls : Array Slot), va_P D vwCl (wsG 167 (ceC cA q) q res.2) H → va_S (AqG 167 q) s.heap H locs → lv_has ls 4 [(2, .int (res.1))] → W p l e ({ frames := 2, cells := 0, slots := 0, locals := 36 } : Room) s m [.ref (q a0), .int a1].toArray below meth c H locs 0 0 (MQ below (Qi 167 (ceC cA q) D q r0 M0) [.ref (q a0), .int a1].toArray s 0 0 (AqG 167 q)) (F0 m 37 ls [])) → W p l e ({ frames := 2, cells := 0, slots := 0, locals := 36 } : Room) s m [.ref (q a0), .int a1].toArray below meth c H locs 0 0 (MQ below (Qi 167 (ceC cA q) D q r0 M0) [.ref (q a0), .int a1].toArray s 0 0 (AqG 167 q)) (F0 m 4 ls []) := by
    intro fu
    induction fu with
    | zero => intro b2 b3 M res H locs ls h; exact absurd h (by simp [f_X0_setOfFate_L4])
    | succ fu ih =>
      intro b2 b3 M res H locs ls h hP hS hl K4_0
      rw [f_X0_setOfFate_L4] at h
      refine lv_iload_n hx hb dX0_setOfFate_4 rfl (lv_at hl 3 rfl) ?_
      refine lv_aload_n hx hb dX0_setOfFate_5 rfl (lv_at hl 0 rfl) ?_
      refine lv_iconst (v := 3) hx hb dX0_setOfFate_6 (by decide) ?_
      obtain ⟨r5, M6, hc7, h⟩ := bnd_inv h
      refine gV_i (As := [.int (3 : Int32)]) X hP hS hl.1 (c_X0_countOf l D cA q aK aV hq h0 hc7) sf_X0_countOf bw_645 sv_X0_countOf (rcC_0 h0) rfl ⟨rfl, rfl⟩ ⟨Nat.le_of_ble_eq_true rfl, Nat.le_of_ble_eq_true rfl⟩ rfl rfl (Nat.le_of_ble_eq_true rfl) dX0_setOfFate_7 (fun H locs hP hS => ?_)
      refine lv_icmp_ge (tgt := 37) hx hb dX0_setOfFate_10 (by decide) (fun c8 => ?_) (fun c8 => ?_)
      · rw [if_pos c8] at h
        cases h
        exact K4_0 _ _ _ hP hS (lv_sub hl [2] rfl)
      · rw [if_neg c8] at h
        refine lv_aload_n hx hb dX0_setOfFate_13 rfl (lv_at hl 0 rfl) ?_
        refine lv_iload_n hx hb dX0_setOfFate_14 rfl (lv_at hl 3 rfl) ?_
        obtain ⟨r9, M10, hc11, h⟩ := bnd_inv h
        refine gV_r (As := [.int b3]) X hP hS hl.1 (c_X0_personAt l D cA q aK aV hq h0 hc11) sf_X0_personAt bw_813 sv_X0_personAt (rcC_0 h0) rfl ⟨rfl, rfl⟩ ⟨Nat.le_of_ble_eq_true rfl, Nat.le_of_ble_eq_true rfl⟩ rfl rfl (Nat.le_of_ble_eq_true rfl) dX0_setOfFate_15 (fun H locs hP hS => ?_)
        obtain ⟨g12, h⟩ := gd_inv h
        have g12 := Decidable.not_not.mp g12
        refine gfC_5_3 X hP g12 bw_127 dX0_setOfFate_18 ?_
        refine lv_iload_n hx hb dX0_setOfFate_21 rfl (lv_at hl 1 rfl) ?_
        refine lv_icmp_ne (tgt := 31) hx hb dX0_setOfFate_22 (by decide) (fun c13 => ?_) (fun c13 => ?_)
        · rw [if_neg c13] at h
          obtain ⟨y14, ey14, h⟩ := lt_inv h
          refine lv_iinc (v := y14) (lv' := [(3, .int y14), (0, .ref (q a0)), (1, .int a1), (2, .int b2)]) hx hb dX0_setOfFate_31 hl (k := 3) rfl (by rw [ey14]; rfl) (by decide) rfl (fun ls hl => ?_)
          refine lv_goto (tgt := 4) hx hb dX0_setOfFate_34 (by decide) ?_
          exact ih _ _ _ res _ _ _ h hP hS (lv_sub hl [1, 2, 3, 0] rfl) K4_0
        · rw [if_pos c13] at h
          refine lv_iload_n hx hb dX0_setOfFate_25 rfl (lv_at hl 2 rfl) ?_
          refine lv_iconst (v := 1) hx hb dX0_setOfFate_26 (by decide) ?_
          refine lv_iload_n hx hb dX0_setOfFate_27 rfl (lv_at hl 3 rfl) ?_
          refine lv_ishl hx hb dX0_setOfFate_28 ?_
          refine lv_ior hx hb dX0_setOfFate_29 ?_
          obtain ⟨y15, ey15, h⟩ := lt_inv h
          refine topE ey15 ?_
          refine lv_istore_n (lv' := [(2, .int y15), (0, .ref (q a0)), (1, .int a1), (3, .int b3)]) hx hb dX0_setOfFate_30 rfl hl (by decide) rfl (fun ls hl => ?_)
          obtain ⟨y16, ey16, h⟩ := lt_inv h
          refine lv_iinc (v := y16) (lv' := [(3, .int y16), (2, .int y15), (0, .ref (q a0)), (1, .int a1)]) hx hb dX0_setOfFate_31 hl (k := 3) rfl (by rw [ey16]; rfl) (by decide) rfl (fun ls hl => ?_)
          refine lv_goto (tgt := 4) hx hb dX0_setOfFate_34 (by decide) ?_
          exact ih _ _ _ res _ _ _ h hP hS (lv_sub hl [2, 3, 1, 0] rfl) K4_0
  refine lv_iconst (v := 0) hx hb dX0_setOfFate_0 (by decide) ?_
  refine lv_istore_n (lv' := [(2, .int (0 : Int32)), (0, .ref (q a0)), (1, .int a1)]) hx hb dX0_setOfFate_1 rfl hl (by decide) rfl (fun ls hl => ?_)
  refine lv_iconst (v := 0) hx hb dX0_setOfFate_2 (by decide) ?_
  refine lv_istore_n (lv' := [(3, .int (0 : Int32)), (2, .int (0 : Int32)), (0, .ref (q a0)), (1, .int a1)]) hx hb dX0_setOfFate_3 rfl hl (by decide) rfl (fun ls hl => ?_)
  obtain ⟨s1, M2, hc3, h⟩ := bnd_inv h
  obtain ⟨x4, rfl⟩ : ∃ z, z = s1 := ⟨_, rfl⟩
  try dsimp only at h
  refine hL4  fz _ _ _ _ _ _ _ hc3 hP hS (lv_sub hl [2, 3, 1, 0] rfl) (fun H locs ls hP hS hl => ?_)
  have hl : lv_has ls 4 [(2, .int x4)] := hl
  refine lv_iload_n hx hb dX0_setOfFate_37 rfl (lv_at hl 0 rfl) ?_
  exact end_i X hr hk hP hS h dX0_setOfFate_38
theorem dX0_guiltySet_0 : decode cX0_guiltySet 0 = .ok (.iconst 0, 1) := by decide +kernel
theorem dX0_guiltySet_1 : decode cX0_guiltySet 1 = .ok (.istore_n 1, 1) := by decide +kernel
theorem dX0_guiltySet_2 : decode cX0_guiltySet 2 = .ok (.iconst 0, 1) := by decide +kernel
theorem dX0_guiltySet_3 : decode cX0_guiltySet 3 = .ok (.istore_n 2, 1) := by decide +kernel
theorem dX0_guiltySet_4 : decode cX0_guiltySet 4 = .ok (.iload_n 2, 1) := by decide +kernel
theorem dX0_guiltySet_5 : decode cX0_guiltySet 5 = .ok (.aload_n 0, 1) := by decide +kernel
theorem dX0_guiltySet_6 : decode cX0_guiltySet 6 = .ok (.iconst 3, 1) := by decide +kernel
theorem dX0_guiltySet_7 : decode cX0_guiltySet 7 = .ok (.invokevirtual 77, 3) := by decide +kernel
theorem dX0_guiltySet_10 : decode cX0_guiltySet 10 = .ok (.if_icmp .ge 27, 3) := by decide +kernel
theorem dX0_guiltySet_13 : decode cX0_guiltySet 13 = .ok (.aload_n 0, 1) := by decide +kernel
theorem dX0_guiltySet_14 : decode cX0_guiltySet 14 = .ok (.iload_n 2, 1) := by decide +kernel
theorem dX0_guiltySet_15 : decode cX0_guiltySet 15 = .ok (.invokevirtual 89, 3) := by decide +kernel
theorem dX0_guiltySet_18 : decode cX0_guiltySet 18 = .ok (.getfield 121, 3) := by decide +kernel
theorem dX0_guiltySet_21 : decode cX0_guiltySet 21 = .ok (.iconst 1, 1) := by decide +kernel
theorem dX0_guiltySet_22 : decode cX0_guiltySet 22 = .ok (.if_icmp .ne 9, 3) := by decide +kernel
theorem dX0_guiltySet_25 : decode cX0_guiltySet 25 = .ok (.iload_n 1, 1) := by decide +kernel
theorem dX0_guiltySet_26 : decode cX0_guiltySet 26 = .ok (.iconst 1, 1) := by decide +kernel
theorem dX0_guiltySet_27 : decode cX0_guiltySet 27 = .ok (.iload_n 2, 1) := by decide +kernel
theorem dX0_guiltySet_28 : decode cX0_guiltySet 28 = .ok (.ishl, 1) := by decide +kernel
theorem dX0_guiltySet_29 : decode cX0_guiltySet 29 = .ok (.ior, 1) := by decide +kernel
theorem dX0_guiltySet_30 : decode cX0_guiltySet 30 = .ok (.istore_n 1, 1) := by decide +kernel
theorem dX0_guiltySet_31 : decode cX0_guiltySet 31 = .ok (.iinc 2 1, 3) := by decide +kernel
theorem dX0_guiltySet_34 : decode cX0_guiltySet 34 = .ok (.goto (-30), 3) := by decide +kernel
theorem dX0_guiltySet_37 : decode cX0_guiltySet 37 = .ok (.iload_n 1, 1) := by decide +kernel
theorem dX0_guiltySet_38 : decode cX0_guiltySet 38 = .ok (.ireturn, 1) := by decide +kernel
set_option maxRecDepth 100000 in
set_option maxHeartbeats 8000000 in
theorem c_X0_guiltySet (l : Launch) (D : va_G) (cA : Nat → ClassId) (q aK aV : Nat → Nat) (hq : injG 167 q) {a0 : Nat} {M M0 : Mem} {r0 : Int32} (h0 : shC a0 = 0) (h : f_X0_guiltySet a0 M = some (r0, M0)) : Met l yX0_guiltySet (.code yX0_guiltySet cX0_guiltySet 3 (some .int) :: BW) ({ frames := 2, cells := 0, slots := 0, locals := 36 } : Room) (va_Pc [.ref (q a0)] (CB 167 (ceC cA q) D cA q aK aV M)) (Qi 167 (ceC cA q) D q r0 M0) 0 0 (AqG 167 q) := by
  refine gMet RX0 (by decide +kernel) rfl hq (Nat.le_of_ble_eq_true rfl) ?_
  intro p e s m below meth c ls X hr hk hP hS hl
  have hx := X.1
  have hb := X.2.1
  have hl : lv_has ls 3 [(0, .ref (q a0))] := hl
  rw [f_X0_guiltySet] at h
  have hL4 : ∀ (fu : Nat) (b1 : Int32) (b2 : Int32) (M : Mem) (res : (Int32) × Mem) (H : Heap) (locs : List Loc) (ls : Array Slot), f_X0_guiltySet_L4 a0 fu b1 b2 M = some res → va_P D vwCl (wsG 167 (ceC cA q) q M) H → va_S (AqG 167 q) s.heap H locs → lv_has ls 3 [(0, .ref (q a0)), (1, .int b1), (2, .int b2)] → (∀ (H : Heap) (locs : List Loc) (ls : Array Slot), va_P D vwCl (wsG 167 (ceC cA q) q res.2) H → va_S (AqG 167 q) s.heap H locs → lv_has ls 3 [(1, .int (res.1))] → W p l e ({ frames := 2, cells := 0, slots := 0, locals := 36 } : Room) s m [.ref (q a0)].toArray below meth c H locs 0 0 (MQ below (Qi 167 (ceC cA q) D q r0 M0) [.ref (q a0)].toArray s 0 0 (AqG 167 q)) (F0 m 37 ls [])) → W p l e ({ frames := 2, cells := 0, slots := 0, locals := 36 } : Room) s m [.ref (q a0)].toArray below meth c H locs 0 0 (MQ below (Qi 167 (ceC cA q) D q r0 M0) [.ref (q a0)].toArray s 0 0 (AqG 167 q)) (F0 m 4 ls []) := by
    intro fu
    induction fu with
    | zero => intro b1 b2 M res H locs ls h; exact absurd h (by simp [f_X0_guiltySet_L4])
    | succ fu ih =>
      intro b1 b2 M res H locs ls h hP hS hl K4_0
      rw [f_X0_guiltySet_L4] at h
      refine lv_iload_n hx hb dX0_guiltySet_4 rfl (lv_at hl 2 rfl) ?_
      refine lv_aload_n hx hb dX0_guiltySet_5 rfl (lv_at hl 0 rfl) ?_
      refine lv_iconst (v := 3) hx hb dX0_guiltySet_6 (by decide) ?_
      obtain ⟨r5, M6, hc7, h⟩ := bnd_inv h
      refine gV_i (As := [.int (3 : Int32)]) X hP hS hl.1 (c_X0_countOf l D cA q aK aV hq h0 hc7) sf_X0_countOf bw_645 sv_X0_countOf (rcC_0 h0) rfl ⟨rfl, rfl⟩ ⟨Nat.le_of_ble_eq_true rfl, Nat.le_of_ble_eq_true rfl⟩ rfl rfl (Nat.le_of_ble_eq_true rfl) dX0_guiltySet_7 (fun H locs hP hS => ?_)
      refine lv_icmp_ge (tgt := 37) hx hb dX0_guiltySet_10 (by decide) (fun c8 => ?_) (fun c8 => ?_)
      · rw [if_pos c8] at h
        cases h
        exact K4_0 _ _ _ hP hS (lv_sub hl [1] rfl)
      · rw [if_neg c8] at h
        refine lv_aload_n hx hb dX0_guiltySet_13 rfl (lv_at hl 0 rfl) ?_
        refine lv_iload_n hx hb dX0_guiltySet_14 rfl (lv_at hl 2 rfl) ?_
        obtain ⟨r9, M10, hc11, h⟩ := bnd_inv h
        refine gV_r (As := [.int b2]) X hP hS hl.1 (c_X0_personAt l D cA q aK aV hq h0 hc11) sf_X0_personAt bw_813 sv_X0_personAt (rcC_0 h0) rfl ⟨rfl, rfl⟩ ⟨Nat.le_of_ble_eq_true rfl, Nat.le_of_ble_eq_true rfl⟩ rfl rfl (Nat.le_of_ble_eq_true rfl) dX0_guiltySet_15 (fun H locs hP hS => ?_)
        obtain ⟨g12, h⟩ := gd_inv h
        have g12 := Decidable.not_not.mp g12
        refine gfC_5_0 X hP g12 bw_113 dX0_guiltySet_18 ?_
        refine lv_iconst (v := 1) hx hb dX0_guiltySet_21 (by decide) ?_
        refine lv_icmp_ne (tgt := 31) hx hb dX0_guiltySet_22 (by decide) (fun c13 => ?_) (fun c13 => ?_)
        · rw [if_neg c13] at h
          obtain ⟨y14, ey14, h⟩ := lt_inv h
          refine lv_iinc (v := y14) (lv' := [(2, .int y14), (0, .ref (q a0)), (1, .int b1)]) hx hb dX0_guiltySet_31 hl (k := 2) rfl (by rw [ey14]; rfl) (by decide) rfl (fun ls hl => ?_)
          refine lv_goto (tgt := 4) hx hb dX0_guiltySet_34 (by decide) ?_
          exact ih _ _ _ res _ _ _ h hP hS (lv_sub hl [1, 2, 0] rfl) K4_0
        · rw [if_pos c13] at h
          refine lv_iload_n hx hb dX0_guiltySet_25 rfl (lv_at hl 1 rfl) ?_
          refine lv_iconst (v := 1) hx hb dX0_guiltySet_26 (by decide) ?_
          refine lv_iload_n hx hb dX0_guiltySet_27 rfl (lv_at hl 2 rfl) ?_
          refine lv_ishl hx hb dX0_guiltySet_28 ?_
          refine lv_ior hx hb dX0_guiltySet_29 ?_
          obtain ⟨y15, ey15, h⟩ := lt_inv h
          refine topE ey15 ?_
          refine lv_istore_n (lv' := [(1, .int y15), (0, .ref (q a0)), (2, .int b2)]) hx hb dX0_guiltySet_30 rfl hl (by decide) rfl (fun ls hl => ?_)
          obtain ⟨y16, ey16, h⟩ := lt_inv h
          refine lv_iinc (v := y16) (lv' := [(2, .int y16), (1, .int y15), (0, .ref (q a0))]) hx hb dX0_guiltySet_31 hl (k := 2) rfl (by rw [ey16]; rfl) (by decide) rfl (fun ls hl => ?_)
          refine lv_goto (tgt := 4) hx hb dX0_guiltySet_34 (by decide) ?_
          exact ih _ _ _ res _ _ _ h hP hS (lv_sub hl [2, 1, 0] rfl) K4_0
  refine lv_iconst (v := 0) hx hb dX0_guiltySet_0 (by decide) ?_
  refine lv_istore_n (lv' := [(1, .int (0 : Int32)), (0, .ref (q a0))]) hx hb dX0_guiltySet_1 rfl hl (by decide) rfl (fun ls hl => ?_)
  refine lv_iconst (v := 0) hx hb dX0_guiltySet_2 (by decide) ?_
  refine lv_istore_n (lv' := [(2, .int (0 : Int32)), (1, .int (0 : Int32)), (0, .ref (q a0))]) hx hb dX0_guiltySet_3 rfl hl (by decide) rfl (fun ls hl => ?_)
  obtain ⟨s1, M2, hc3, h⟩ := bnd_inv h
  obtain ⟨x4, rfl⟩ : ∃ z, z = s1 := ⟨_, rfl⟩
  try dsimp only at h
  refine hL4  fz _ _ _ _ _ _ _ hc3 hP hS (lv_sub hl [2, 1, 0] rfl) (fun H locs ls hP hS hl => ?_)
  have hl : lv_has ls 3 [(1, .int x4)] := hl
  refine lv_iload_n hx hb dX0_guiltySet_37 rfl (lv_at hl 0 rfl) ?_
  exact end_i X hr hk hP hS h dX0_guiltySet_38
