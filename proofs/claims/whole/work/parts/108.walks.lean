theorem dX2_keep_0 : decode cX2_keep 0 = .ok (.aload_n 0, 1) := by decide +kernel
theorem dX2_keep_1 : decode cX2_keep 1 = .ok (.getfield 11, 3) := by decide +kernel
theorem dX2_keep_4 : decode cX2_keep 4 = .ok (.iload_n 1, 1) := by decide +kernel
theorem dX2_keep_5 : decode cX2_keep 5 = .ok (.iload_n 2, 1) := by decide +kernel
theorem dX2_keep_6 : decode cX2_keep 6 = .ok (.invokestatic 35, 3) := by decide +kernel
theorem dX2_keep_9 : decode cX2_keep 9 = .ok (.return_, 1) := by decide +kernel
set_option maxRecDepth 100000 in
set_option maxHeartbeats 8000000 in
theorem c_X2_keep (l : Launch) (D : va_G) (cA : Nat → ClassId) (q aK aV : Nat → Nat) (hq : injG 167 q) {a1 : Int32} {a2 : Int32} {M M0 : Mem} (h : f_X2_keep a1 a2 M = some ((), M0)) : Met l yX2_keep (.code yX2_keep cX2_keep 3 none :: BW) ({ frames := 2, cells := 0, slots := 0, locals := 36 } : Room) (va_Pc [.ref (q 25), .int a1, .int a2] (CB 167 (ceC cA q) D cA q aK aV M)) (Qv 167 (ceC cA q) D q M0) 0 0 (AqG 167 q) := by
  refine gMet RX2 (by decide +kernel) rfl hq (Nat.le_of_ble_eq_true rfl) ?_
  intro p e s m below meth c ls X hr hk hP hS hl
  have hx := X.1
  have hb := X.2.1
  have hl : lv_has ls 3 [(0, .ref (q 25)), (1, .int a1), (2, .int a2)] := hl
  rw [f_X2_keep] at h
  refine lv_aload_n hx hb dX2_keep_0 rfl (lv_at hl 0 rfl) ?_
  refine gfC_2_0 X hP sC_25 bw_405 dX2_keep_1 ?_
  refine lv_iload_n hx hb dX2_keep_4 rfl (lv_at hl 1 rfl) ?_
  refine lv_iload_n hx hb dX2_keep_5 rfl (lv_at hl 2 rfl) ?_
  obtain ⟨_, M2, hc3, h⟩ := bnd_inv h
  refine gSN_v (As := [.ref (q 26), .int a1, .int a2]) X hP hS hl.1 (c_X11_put l D cA q aK aV hq sC_26 hc3) sf_X11_put nw_29 ss_X11_put ⟨rfl, rfl⟩ ⟨Nat.le_of_ble_eq_true rfl, Nat.le_of_ble_eq_true rfl⟩ rfl rfl (Nat.le_of_ble_eq_true rfl) dX2_keep_6 (fun H locs hP hS => ?_)
  exact end_v X hr hk hP hS h dX2_keep_9
theorem dX2_keepSteps_0 : decode cX2_keepSteps 0 = .ok (.aload_n 0, 1) := by decide +kernel
theorem dX2_keepSteps_1 : decode cX2_keepSteps 1 = .ok (.iconst 0, 1) := by decide +kernel
theorem dX2_keepSteps_2 : decode cX2_keepSteps 2 = .ok (.aload_n 0, 1) := by decide +kernel
theorem dX2_keepSteps_3 : decode cX2_keepSteps 3 = .ok (.getfield 26, 3) := by decide +kernel
theorem dX2_keepSteps_6 : decode cX2_keepSteps 6 = .ok (.invokevirtual 39, 3) := by decide +kernel
theorem dX2_keepSteps_9 : decode cX2_keepSteps 9 = .ok (.aload_n 0, 1) := by decide +kernel
theorem dX2_keepSteps_10 : decode cX2_keepSteps 10 = .ok (.iconst 4, 1) := by decide +kernel
theorem dX2_keepSteps_11 : decode cX2_keepSteps 11 = .ok (.aload_n 0, 1) := by decide +kernel
theorem dX2_keepSteps_12 : decode cX2_keepSteps 12 = .ok (.getfield 29, 3) := by decide +kernel
theorem dX2_keepSteps_15 : decode cX2_keepSteps 15 = .ok (.invokevirtual 39, 3) := by decide +kernel
theorem dX2_keepSteps_18 : decode cX2_keepSteps 18 = .ok (.aload_n 0, 1) := by decide +kernel
theorem dX2_keepSteps_19 : decode cX2_keepSteps 19 = .ok (.iconst 1, 1) := by decide +kernel
theorem dX2_keepSteps_20 : decode cX2_keepSteps 20 = .ok (.putfield 15, 3) := by decide +kernel
theorem dX2_keepSteps_23 : decode cX2_keepSteps 23 = .ok (.return_, 1) := by decide +kernel
set_option maxRecDepth 100000 in
set_option maxHeartbeats 8000000 in
theorem c_X2_keepSteps (l : Launch) (D : va_G) (cA : Nat → ClassId) (q aK aV : Nat → Nat) (hq : injG 167 q) {M M0 : Mem} (h : f_X2_keepSteps M = some ((), M0)) : Met l yX2_keepSteps (.code yX2_keepSteps cX2_keepSteps 1 none :: BW) ({ frames := 3, cells := 0, slots := 0, locals := 58 } : Room) (va_Pc [.ref (q 25)] (CB 167 (ceC cA q) D cA q aK aV M)) (Qv 167 (ceC cA q) D q M0) 0 0 (AqG 167 q) := by
  refine gMet RX2 (by decide +kernel) rfl hq (Nat.le_of_ble_eq_true rfl) ?_
  intro p e s m below meth c ls X hr hk hP hS hl
  have hx := X.1
  have hb := X.2.1
  have hl : lv_has ls 1 [(0, .ref (q 25))] := hl
  rw [f_X2_keepSteps] at h
  refine lv_aload_n hx hb dX2_keepSteps_0 rfl (lv_at hl 0 rfl) ?_
  refine lv_iconst (v := 0) hx hb dX2_keepSteps_1 (by decide) ?_
  refine lv_aload_n hx hb dX2_keepSteps_2 rfl (lv_at hl 0 rfl) ?_
  refine gfC_2_4 X hP sC_25 bw_412 dX2_keepSteps_3 ?_
  obtain ⟨_, M2, hc3, h⟩ := bnd_inv h
  refine gV_v (As := [.int (0 : Int32), .int (gI M 25 4)]) X hP hS hl.1 (c_X2_keep l D cA q aK aV hq hc3) sf_X2_keep bw_1288 sv_X2_keep (rcC_2 sC_25) rfl ⟨rfl, rfl⟩ ⟨Nat.le_of_ble_eq_true rfl, Nat.le_of_ble_eq_true rfl⟩ rfl rfl (Nat.le_of_ble_eq_true rfl) dX2_keepSteps_6 (fun H locs hP hS => ?_)
  refine lv_aload_n hx hb dX2_keepSteps_9 rfl (lv_at hl 0 rfl) ?_
  refine lv_iconst (v := 4) hx hb dX2_keepSteps_10 (by decide) ?_
  refine lv_aload_n hx hb dX2_keepSteps_11 rfl (lv_at hl 0 rfl) ?_
  refine gfC_2_5 X hP sC_25 bw_413 dX2_keepSteps_12 ?_
  obtain ⟨_, M5, hc6, h⟩ := bnd_inv h
  refine gV_v (As := [.int (4 : Int32), .int (gI M2 25 5)]) X hP hS hl.1 (c_X2_keep l D cA q aK aV hq hc6) sf_X2_keep bw_1288 sv_X2_keep (rcC_2 sC_25) rfl ⟨rfl, rfl⟩ ⟨Nat.le_of_ble_eq_true rfl, Nat.le_of_ble_eq_true rfl⟩ rfl rfl (Nat.le_of_ble_eq_true rfl) dX2_keepSteps_15 (fun H locs hP hS => ?_)
  refine lv_aload_n hx hb dX2_keepSteps_18 rfl (lv_at hl 0 rfl) ?_
  refine lv_iconst (v := 1) hx hb dX2_keepSteps_19 (by decide) ?_
  obtain ⟨M7, eM7, h⟩ := lt_inv h
  refine pfC_2_1 X hP hS sC_25 bw_407 (Or.inr rfl) eM7 dX2_keepSteps_20 (fun H locs hP hS => ?_)
  exact end_v X hr hk hP hS h dX2_keepSteps_23
theorem dX11_live_0 : decode cX11_live 0 = .ok (.iload_n 1, 1) := by decide +kernel
theorem dX11_live_1 : decode cX11_live 1 = .ok (.sipush 10000, 3) := by decide +kernel
theorem dX11_live_4 : decode cX11_live 4 = .ok (.invokestatic 104, 3) := by decide +kernel
theorem dX11_live_7 : decode cX11_live 7 = .ok (.ifCond .ne 9, 3) := by decide +kernel
theorem dX11_live_10 : decode cX11_live 10 = .ok (.aload_n 0, 1) := by decide +kernel
theorem dX11_live_11 : decode cX11_live 11 = .ok (.iconst 1, 1) := by decide +kernel
theorem dX11_live_12 : decode cX11_live 12 = .ok (.invokevirtual 132, 3) := by decide +kernel
theorem dX11_live_15 : decode cX11_live 15 = .ok (.ireturn, 1) := by decide +kernel
theorem dX11_live_16 : decode cX11_live 16 = .ok (.aload_n 0, 1) := by decide +kernel
theorem dX11_live_17 : decode cX11_live 17 = .ok (.getfield 10, 3) := by decide +kernel
theorem dX11_live_20 : decode cX11_live 20 = .ok (.getfield 174, 3) := by decide +kernel
theorem dX11_live_23 : decode cX11_live 23 = .ok (.getfield 397, 3) := by decide +kernel
theorem dX11_live_26 : decode cX11_live 26 = .ok (.ifCond .ne 10, 3) := by decide +kernel
theorem dX11_live_29 : decode cX11_live 29 = .ok (.aload_n 0, 1) := by decide +kernel
theorem dX11_live_30 : decode cX11_live 30 = .ok (.bipush 6, 2) := by decide +kernel
theorem dX11_live_32 : decode cX11_live 32 = .ok (.invokevirtual 132, 3) := by decide +kernel
theorem dX11_live_35 : decode cX11_live 35 = .ok (.ireturn, 1) := by decide +kernel
theorem dX11_live_36 : decode cX11_live 36 = .ok (.aload_n 0, 1) := by decide +kernel
theorem dX11_live_37 : decode cX11_live 37 = .ok (.getfield 10, 3) := by decide +kernel
theorem dX11_live_40 : decode cX11_live 40 = .ok (.getfield 197, 3) := by decide +kernel
theorem dX11_live_43 : decode cX11_live 43 = .ok (.istore_n 2, 1) := by decide +kernel
theorem dX11_live_44 : decode cX11_live 44 = .ok (.aload_n 0, 1) := by decide +kernel
theorem dX11_live_45 : decode cX11_live 45 = .ok (.getfield 10, 3) := by decide +kernel
theorem dX11_live_48 : decode cX11_live 48 = .ok (.iconst 1, 1) := by decide +kernel
theorem dX11_live_49 : decode cX11_live 49 = .ok (.invokevirtual 200, 3) := by decide +kernel
theorem dX11_live_52 : decode cX11_live 52 = .ok (.invokestatic 270, 3) := by decide +kernel
theorem dX11_live_55 : decode cX11_live 55 = .ok (.istore_n 3, 1) := by decide +kernel
theorem dX11_live_56 : decode cX11_live 56 = .ok (.aload_n 0, 1) := by decide +kernel
theorem dX11_live_57 : decode cX11_live 57 = .ok (.getfield 10, 3) := by decide +kernel
theorem dX11_live_60 : decode cX11_live 60 = .ok (.iconst 2, 1) := by decide +kernel
theorem dX11_live_61 : decode cX11_live 61 = .ok (.invokevirtual 200, 3) := by decide +kernel
theorem dX11_live_64 : decode cX11_live 64 = .ok (.invokestatic 270, 3) := by decide +kernel
theorem dX11_live_67 : decode cX11_live 67 = .ok (.istore 4, 2) := by decide +kernel
theorem dX11_live_69 : decode cX11_live 69 = .ok (.aload_n 0, 1) := by decide +kernel
theorem dX11_live_70 : decode cX11_live 70 = .ok (.getfield 78, 3) := by decide +kernel
theorem dX11_live_73 : decode cX11_live 73 = .ok (.iload_n 1, 1) := by decide +kernel
theorem dX11_live_74 : decode cX11_live 74 = .ok (.invokevirtual 401, 3) := by decide +kernel
theorem dX11_live_77 : decode cX11_live 77 = .ok (.aload_n 0, 1) := by decide +kernel
theorem dX11_live_78 : decode cX11_live 78 = .ok (.getfield 78, 3) := by decide +kernel
theorem dX11_live_81 : decode cX11_live 81 = .ok (.aload_n 0, 1) := by decide +kernel
theorem dX11_live_82 : decode cX11_live 82 = .ok (.getfield 10, 3) := by decide +kernel
theorem dX11_live_85 : decode cX11_live 85 = .ok (.iconst 0, 1) := by decide +kernel
theorem dX11_live_86 : decode cX11_live 86 = .ok (.aload_n 0, 1) := by decide +kernel
theorem dX11_live_87 : decode cX11_live 87 = .ok (.getfield 10, 3) := by decide +kernel
theorem dX11_live_90 : decode cX11_live 90 = .ok (.getfield 174, 3) := by decide +kernel
theorem dX11_live_93 : decode cX11_live 93 = .ok (.getfield 188, 3) := by decide +kernel
theorem dX11_live_96 : decode cX11_live 96 = .ok (.iconst 0, 1) := by decide +kernel
theorem dX11_live_97 : decode cX11_live 97 = .ok (.invokestatic 403, 3) := by decide +kernel
theorem dX11_live_100 : decode cX11_live 100 = .ok (.aload_n 0, 1) := by decide +kernel
theorem dX11_live_101 : decode cX11_live 101 = .ok (.getfield 78, 3) := by decide +kernel
theorem dX11_live_104 : decode cX11_live 104 = .ok (.iconst 1, 1) := by decide +kernel
theorem dX11_live_105 : decode cX11_live 105 = .ok (.aload_n 0, 1) := by decide +kernel
theorem dX11_live_106 : decode cX11_live 106 = .ok (.getfield 10, 3) := by decide +kernel
theorem dX11_live_109 : decode cX11_live 109 = .ok (.getfield 197, 3) := by decide +kernel
theorem dX11_live_112 : decode cX11_live 112 = .ok (.iload_n 2, 1) := by decide +kernel
theorem dX11_live_113 : decode cX11_live 113 = .ok (.isub, 1) := by decide +kernel
theorem dX11_live_114 : decode cX11_live 114 = .ok (.invokevirtual 407, 3) := by decide +kernel
theorem dX11_live_117 : decode cX11_live 117 = .ok (.aload_n 0, 1) := by decide +kernel
theorem dX11_live_118 : decode cX11_live 118 = .ok (.getfield 78, 3) := by decide +kernel
theorem dX11_live_121 : decode cX11_live 121 = .ok (.iconst 2, 1) := by decide +kernel
theorem dX11_live_122 : decode cX11_live 122 = .ok (.aload_n 0, 1) := by decide +kernel
theorem dX11_live_123 : decode cX11_live 123 = .ok (.getfield 10, 3) := by decide +kernel
theorem dX11_live_126 : decode cX11_live 126 = .ok (.iconst 1, 1) := by decide +kernel
theorem dX11_live_127 : decode cX11_live 127 = .ok (.invokevirtual 200, 3) := by decide +kernel
theorem dX11_live_130 : decode cX11_live 130 = .ok (.invokestatic 270, 3) := by decide +kernel
theorem dX11_live_133 : decode cX11_live 133 = .ok (.iload_n 3, 1) := by decide +kernel
theorem dX11_live_134 : decode cX11_live 134 = .ok (.isub, 1) := by decide +kernel
theorem dX11_live_135 : decode cX11_live 135 = .ok (.invokevirtual 407, 3) := by decide +kernel
theorem dX11_live_138 : decode cX11_live 138 = .ok (.aload_n 0, 1) := by decide +kernel
theorem dX11_live_139 : decode cX11_live 139 = .ok (.getfield 78, 3) := by decide +kernel
theorem dX11_live_142 : decode cX11_live 142 = .ok (.iconst 3, 1) := by decide +kernel
theorem dX11_live_143 : decode cX11_live 143 = .ok (.aload_n 0, 1) := by decide +kernel
theorem dX11_live_144 : decode cX11_live 144 = .ok (.getfield 10, 3) := by decide +kernel
theorem dX11_live_147 : decode cX11_live 147 = .ok (.iconst 2, 1) := by decide +kernel
theorem dX11_live_148 : decode cX11_live 148 = .ok (.invokevirtual 200, 3) := by decide +kernel
theorem dX11_live_151 : decode cX11_live 151 = .ok (.invokestatic 270, 3) := by decide +kernel
theorem dX11_live_154 : decode cX11_live 154 = .ok (.iload 4, 2) := by decide +kernel
theorem dX11_live_156 : decode cX11_live 156 = .ok (.isub, 1) := by decide +kernel
theorem dX11_live_157 : decode cX11_live 157 = .ok (.invokevirtual 407, 3) := by decide +kernel
theorem dX11_live_160 : decode cX11_live 160 = .ok (.aload_n 0, 1) := by decide +kernel
theorem dX11_live_161 : decode cX11_live 161 = .ok (.getfield 78, 3) := by decide +kernel
theorem dX11_live_164 : decode cX11_live 164 = .ok (.invokevirtual 410, 3) := by decide +kernel
theorem dX11_live_167 : decode cX11_live 167 = .ok (.aload_n 0, 1) := by decide +kernel
theorem dX11_live_168 : decode cX11_live 168 = .ok (.aload_n 0, 1) := by decide +kernel
theorem dX11_live_169 : decode cX11_live 169 = .ok (.getfield 78, 3) := by decide +kernel
theorem dX11_live_172 : decode cX11_live 172 = .ok (.getfield 413, 3) := by decide +kernel
theorem dX11_live_175 : decode cX11_live 175 = .ok (.invokevirtual 191, 3) := by decide +kernel
theorem dX11_live_178 : decode cX11_live 178 = .ok (.ireturn, 1) := by decide +kernel
set_option maxRecDepth 100000 in
set_option maxHeartbeats 8000000 in
theorem c_X11_live (l : Launch) (D : va_G) (cA : Nat → ClassId) (q aK aV : Nat → Nat) (hq : injG 167 q) {a1 : Int32} {M M0 : Mem} {r0 : Int32} (h : f_X11_live a1 M = some (r0, M0)) : Met l yX11_live (.code yX11_live cX11_live 5 (some .int) :: BW) ({ frames := 13, cells := 0, slots := 0, locals := 346 } : Room) (va_Pc [.ref (q 0), .int a1] (CB 167 (ceC cA q) D cA q aK aV M)) (Qi 167 (ceC cA q) D q r0 M0) 0 0 (AqG 167 q) := by
  refine gMet RX11 (by decide +kernel) rfl hq (Nat.le_of_ble_eq_true rfl) ?_
  intro p e s m below meth c ls X hr hk hP hS hl
  have hx := X.1
  have hb := X.2.1
  have hl : lv_has ls 5 [(0, .ref (q 0)), (1, .int a1)] := hl
  rw [f_X11_live] at h
  refine lv_iload_n hx hb dX11_live_0 rfl (lv_at hl 1 rfl) ?_
  refine lv_sipush (v := 10000) hx hb dX11_live_1 (by decide) ?_
  obtain ⟨r1, M2, hc3, h⟩ := bnd_inv h
  refine gS_i (As := [.int a1, .int (10000 : Int32)]) X hP hS hl.1 (c_X11_within l D cA q aK aV hq hc3) sf_X11_within bw_504 ss_X11_within ⟨rfl, rfl⟩ ⟨Nat.le_of_ble_eq_true rfl, Nat.le_of_ble_eq_true rfl⟩ rfl rfl (Nat.le_of_ble_eq_true rfl) dX11_live_4 (fun H locs hP hS => ?_)
  refine lv_if_ne (tgt := 16) hx hb dX11_live_7 (by decide) (fun c4 => ?_) (fun c4 => ?_)
  · rw [if_neg c4] at h
    refine lv_aload_n hx hb dX11_live_16 rfl (lv_at hl 0 rfl) ?_
    refine gfC_11_0 X hP sC_0 bw_430 dX11_live_17 ?_
    obtain ⟨g5, h⟩ := gd_inv h
    have g5 := Decidable.not_not.mp g5
    refine gfC_0_9 X hP g5 bw_164 dX11_live_20 ?_
    refine gfC_9_0 X hP (kC_0_9 g5) bw_46 dX11_live_23 ?_
    refine lv_if_ne (tgt := 36) hx hb dX11_live_26 (by decide) (fun c6 => ?_) (fun c6 => ?_)
    · rw [if_neg c6] at h
      refine lv_aload_n hx hb dX11_live_36 rfl (lv_at hl 0 rfl) ?_
      refine gfC_11_0 X hP sC_0 bw_430 dX11_live_37 ?_
      obtain ⟨g7, h⟩ := gd_inv h
      have g7 := Decidable.not_not.mp g7
      refine gfC_0_13 X hP g7 bw_173 dX11_live_40 ?_
      obtain ⟨y8, ey8, h⟩ := lt_inv h
      refine topE ey8 ?_
      refine lv_istore_n (lv' := [(2, .int y8), (0, .ref (q 0)), (1, .int a1)]) hx hb dX11_live_43 rfl hl (by decide) rfl (fun ls hl => ?_)
      refine lv_aload_n hx hb dX11_live_44 rfl (lv_at hl 1 rfl) ?_
      refine gfC_11_0 X hP sC_0 bw_430 dX11_live_45 ?_
      obtain ⟨g9, h⟩ := gd_inv h
      have g9 := Decidable.not_not.mp g9
      refine lv_iconst (v := 1) hx hb dX11_live_48 (by decide) ?_
      obtain ⟨r10, M11, hc12, h⟩ := bnd_inv h
      refine gV_i (As := [.int (1 : Int32)]) X hP hS hl.1 (c_X0_setOfFate l D cA q aK aV hq g9 hc12) sf_X0_setOfFate bw_809 sv_X0_setOfFate (rcC_0 g9) rfl ⟨rfl, rfl⟩ ⟨Nat.le_of_ble_eq_true rfl, Nat.le_of_ble_eq_true rfl⟩ rfl rfl (Nat.le_of_ble_eq_true rfl) dX11_live_49 (fun H locs hP hS => ?_)
      obtain ⟨r13, M14, hc15, h⟩ := bnd_inv h
      refine gS_i (As := [.int r10]) X hP hS hl.1 (c_J6_bitCount_0f7a4_C l D cA q aK aV hq hc15) sf_J6_bitCount_0f7a4 bw_894 ss_J6_bitCount_0f7a4 ⟨rfl, rfl⟩ ⟨Nat.le_of_ble_eq_true rfl, Nat.le_of_ble_eq_true rfl⟩ rfl rfl (Nat.le_of_ble_eq_true rfl) dX11_live_52 (fun H locs hP hS => ?_)
      refine lv_istore_n (lv' := [(3, .int r13), (2, .int y8), (0, .ref (q 0)), (1, .int a1)]) hx hb dX11_live_55 rfl hl (by decide) rfl (fun ls hl => ?_)
      refine lv_aload_n hx hb dX11_live_56 rfl (lv_at hl 2 rfl) ?_
      refine gfC_11_0 X hP sC_0 bw_430 dX11_live_57 ?_
      obtain ⟨g16, h⟩ := gd_inv h
      have g16 := Decidable.not_not.mp g16
      refine lv_iconst (v := 2) hx hb dX11_live_60 (by decide) ?_
      obtain ⟨r17, M18, hc19, h⟩ := bnd_inv h
      refine gV_i (As := [.int (2 : Int32)]) X hP hS hl.1 (c_X0_setOfFate l D cA q aK aV hq g16 hc19) sf_X0_setOfFate bw_809 sv_X0_setOfFate (rcC_0 g16) rfl ⟨rfl, rfl⟩ ⟨Nat.le_of_ble_eq_true rfl, Nat.le_of_ble_eq_true rfl⟩ rfl rfl (Nat.le_of_ble_eq_true rfl) dX11_live_61 (fun H locs hP hS => ?_)
      obtain ⟨r20, M21, hc22, h⟩ := bnd_inv h
      refine gS_i (As := [.int r17]) X hP hS hl.1 (c_J6_bitCount_0f7a4_C l D cA q aK aV hq hc22) sf_J6_bitCount_0f7a4 bw_894 ss_J6_bitCount_0f7a4 ⟨rfl, rfl⟩ ⟨Nat.le_of_ble_eq_true rfl, Nat.le_of_ble_eq_true rfl⟩ rfl rfl (Nat.le_of_ble_eq_true rfl) dX11_live_64 (fun H locs hP hS => ?_)
      refine lv_istore (lv' := [(4, .int r20), (3, .int r13), (2, .int y8), (0, .ref (q 0)), (1, .int a1)]) hx hb dX11_live_67 hl (by decide) rfl (fun ls hl => ?_)
      refine lv_aload_n hx hb dX11_live_69 rfl (lv_at hl 3 rfl) ?_
      refine gfC_11_11 X hP sC_0 bw_441 dX11_live_70 ?_
      refine lv_iload_n hx hb dX11_live_73 rfl (lv_at hl 4 rfl) ?_
      obtain ⟨_, M24, hc25, h⟩ := bnd_inv h
      refine gV_v (As := [.int a1]) X hP hS hl.1 (c_X2_begin l D cA q aK aV hq hc25) sf_X2_begin bw_1230 sv_X2_begin (rcC_2 sC_25) rfl ⟨rfl, rfl⟩ ⟨Nat.le_of_ble_eq_true rfl, Nat.le_of_ble_eq_true rfl⟩ rfl rfl (Nat.le_of_ble_eq_true rfl) dX11_live_74 (fun H locs hP hS => ?_)
      refine lv_aload_n hx hb dX11_live_77 rfl (lv_at hl 3 rfl) ?_
      refine gfC_11_11 X hP sC_0 bw_441 dX11_live_78 ?_
      refine lv_aload_n hx hb dX11_live_81 rfl (lv_at hl 3 rfl) ?_
      refine gfC_11_0 X hP sC_0 bw_430 dX11_live_82 ?_
      obtain ⟨g26, h⟩ := gd_inv h
      have g26 := Decidable.not_not.mp g26
      refine lv_iconst (v := 0) hx hb dX11_live_85 (by decide) ?_
      refine lv_aload_n hx hb dX11_live_86 rfl (lv_at hl 3 rfl) ?_
      refine gfC_11_0 X hP sC_0 bw_430 dX11_live_87 ?_
      obtain ⟨g27, h⟩ := gd_inv h
      have g27 := Decidable.not_not.mp g27
      refine gfC_0_9 X hP g27 bw_164 dX11_live_90 ?_
      refine gfC_9_1 X hP (kC_0_9 g27) bw_49 dX11_live_93 ?_
      refine lv_iconst (v := 0) hx hb dX11_live_96 (by decide) ?_
      obtain ⟨_, M29, hc30, h⟩ := bnd_inv h
      refine gSN_v (As := [.ref (q 25), .ref (q (gR M24 0 0)), .int (0 : Int32), .int (gI M24 ((gR M24 0 0) + 24) 1), .int (0 : Int32)]) X hP hS hl.1 (c_X2_runSteps 5 l D cA q aK aV hq _ _ _ _ _ _  g26 hc30) sf_X2_runSteps nw_27 ss_X2_runSteps ⟨rfl, rfl⟩ ⟨Nat.le_of_ble_eq_true rfl, Nat.le_of_ble_eq_true rfl⟩ rfl rfl (Nat.le_of_ble_eq_true rfl) dX11_live_97 (fun H locs hP hS => ?_)
      refine lv_aload_n hx hb dX11_live_100 rfl (lv_at hl 3 rfl) ?_
      refine gfC_11_11 X hP sC_0 bw_441 dX11_live_101 ?_
      refine lv_iconst (v := 1) hx hb dX11_live_104 (by decide) ?_
      refine lv_aload_n hx hb dX11_live_105 rfl (lv_at hl 3 rfl) ?_
      refine gfC_11_0 X hP sC_0 bw_430 dX11_live_106 ?_
      obtain ⟨g31, h⟩ := gd_inv h
      have g31 := Decidable.not_not.mp g31
      refine gfC_0_13 X hP g31 bw_173 dX11_live_109 ?_
      refine lv_iload_n hx hb dX11_live_112 rfl (lv_at hl 2 rfl) ?_
      refine lv_isub hx hb dX11_live_113 ?_
      obtain ⟨_, M33, hc34, h⟩ := bnd_inv h
      refine gV_v (As := [.int (1 : Int32), .int ((gI M29 (gR M29 0 0) 13) - y8)]) X hP hS hl.1 (c_X2_keep l D cA q aK aV hq hc34) sf_X2_keep bw_1279 sv_X2_keep (rcC_2 sC_25) rfl ⟨rfl, rfl⟩ ⟨Nat.le_of_ble_eq_true rfl, Nat.le_of_ble_eq_true rfl⟩ rfl rfl (Nat.le_of_ble_eq_true rfl) dX11_live_114 (fun H locs hP hS => ?_)
      refine lv_aload_n hx hb dX11_live_117 rfl (lv_at hl 3 rfl) ?_
      refine gfC_11_11 X hP sC_0 bw_441 dX11_live_118 ?_
      refine lv_iconst (v := 2) hx hb dX11_live_121 (by decide) ?_
      refine lv_aload_n hx hb dX11_live_122 rfl (lv_at hl 3 rfl) ?_
      refine gfC_11_0 X hP sC_0 bw_430 dX11_live_123 ?_
      obtain ⟨g35, h⟩ := gd_inv h
      have g35 := Decidable.not_not.mp g35
      refine lv_iconst (v := 1) hx hb dX11_live_126 (by decide) ?_
      obtain ⟨r36, M37, hc38, h⟩ := bnd_inv h
      refine gV_i (As := [.int (1 : Int32)]) X hP hS hl.1 (c_X0_setOfFate l D cA q aK aV hq g35 hc38) sf_X0_setOfFate bw_809 sv_X0_setOfFate (rcC_0 g35) rfl ⟨rfl, rfl⟩ ⟨Nat.le_of_ble_eq_true rfl, Nat.le_of_ble_eq_true rfl⟩ rfl rfl (Nat.le_of_ble_eq_true rfl) dX11_live_127 (fun H locs hP hS => ?_)
      obtain ⟨r39, M40, hc41, h⟩ := bnd_inv h
      refine gS_i (As := [.int r36]) X hP hS hl.1 (c_J6_bitCount_0f7a4_C l D cA q aK aV hq hc41) sf_J6_bitCount_0f7a4 bw_894 ss_J6_bitCount_0f7a4 ⟨rfl, rfl⟩ ⟨Nat.le_of_ble_eq_true rfl, Nat.le_of_ble_eq_true rfl⟩ rfl rfl (Nat.le_of_ble_eq_true rfl) dX11_live_130 (fun H locs hP hS => ?_)
      refine lv_iload_n hx hb dX11_live_133 rfl (lv_at hl 1 rfl) ?_
      refine lv_isub hx hb dX11_live_134 ?_
      obtain ⟨_, M43, hc44, h⟩ := bnd_inv h
      refine gV_v (As := [.int (2 : Int32), .int (r39 - r13)]) X hP hS hl.1 (c_X2_keep l D cA q aK aV hq hc44) sf_X2_keep bw_1279 sv_X2_keep (rcC_2 sC_25) rfl ⟨rfl, rfl⟩ ⟨Nat.le_of_ble_eq_true rfl, Nat.le_of_ble_eq_true rfl⟩ rfl rfl (Nat.le_of_ble_eq_true rfl) dX11_live_135 (fun H locs hP hS => ?_)
      refine lv_aload_n hx hb dX11_live_138 rfl (lv_at hl 3 rfl) ?_
      refine gfC_11_11 X hP sC_0 bw_441 dX11_live_139 ?_
      refine lv_iconst (v := 3) hx hb dX11_live_142 (by decide) ?_
      refine lv_aload_n hx hb dX11_live_143 rfl (lv_at hl 3 rfl) ?_
      refine gfC_11_0 X hP sC_0 bw_430 dX11_live_144 ?_
      obtain ⟨g45, h⟩ := gd_inv h
      have g45 := Decidable.not_not.mp g45
      refine lv_iconst (v := 2) hx hb dX11_live_147 (by decide) ?_
      obtain ⟨r46, M47, hc48, h⟩ := bnd_inv h
      refine gV_i (As := [.int (2 : Int32)]) X hP hS hl.1 (c_X0_setOfFate l D cA q aK aV hq g45 hc48) sf_X0_setOfFate bw_809 sv_X0_setOfFate (rcC_0 g45) rfl ⟨rfl, rfl⟩ ⟨Nat.le_of_ble_eq_true rfl, Nat.le_of_ble_eq_true rfl⟩ rfl rfl (Nat.le_of_ble_eq_true rfl) dX11_live_148 (fun H locs hP hS => ?_)
      obtain ⟨r49, M50, hc51, h⟩ := bnd_inv h
      refine gS_i (As := [.int r46]) X hP hS hl.1 (c_J6_bitCount_0f7a4_C l D cA q aK aV hq hc51) sf_J6_bitCount_0f7a4 bw_894 ss_J6_bitCount_0f7a4 ⟨rfl, rfl⟩ ⟨Nat.le_of_ble_eq_true rfl, Nat.le_of_ble_eq_true rfl⟩ rfl rfl (Nat.le_of_ble_eq_true rfl) dX11_live_151 (fun H locs hP hS => ?_)
      refine lv_iload hx hb dX11_live_154 (lv_at hl 0 rfl) ?_
      refine lv_isub hx hb dX11_live_156 ?_
      obtain ⟨_, M53, hc54, h⟩ := bnd_inv h
      refine gV_v (As := [.int (3 : Int32), .int (r49 - r20)]) X hP hS hl.1 (c_X2_keep l D cA q aK aV hq hc54) sf_X2_keep bw_1279 sv_X2_keep (rcC_2 sC_25) rfl ⟨rfl, rfl⟩ ⟨Nat.le_of_ble_eq_true rfl, Nat.le_of_ble_eq_true rfl⟩ rfl rfl (Nat.le_of_ble_eq_true rfl) dX11_live_157 (fun H locs hP hS => ?_)
      refine lv_aload_n hx hb dX11_live_160 rfl (lv_at hl 3 rfl) ?_
      refine gfC_11_11 X hP sC_0 bw_441 dX11_live_161 ?_
      obtain ⟨_, M56, hc57, h⟩ := bnd_inv h
      refine gV_v (As := []) X hP hS hl.1 (c_X2_keepSteps l D cA q aK aV hq hc57) sf_X2_keepSteps bw_1284 sv_X2_keepSteps (rcC_2 sC_25) rfl ⟨rfl, rfl⟩ ⟨Nat.le_of_ble_eq_true rfl, Nat.le_of_ble_eq_true rfl⟩ rfl rfl (Nat.le_of_ble_eq_true rfl) dX11_live_164 (fun H locs hP hS => ?_)
      refine lv_aload_n hx hb dX11_live_167 rfl (lv_at hl 3 rfl) ?_
      refine lv_aload_n hx hb dX11_live_168 rfl (lv_at hl 3 rfl) ?_
      refine gfC_11_11 X hP sC_0 bw_441 dX11_live_169 ?_
      refine gfC_2_3 X hP sC_25 bw_411 dX11_live_172 ?_
      obtain ⟨r58, M59, hc60, h⟩ := bnd_inv h
      refine gV_i (As := [.int (gI M56 25 3)]) X hP hS hl.1 (c_X11_given l D cA q aK aV hq hc60) sf_X11_given bw_755 sv_X11_given (rcC_11 sC_0) rfl ⟨rfl, rfl⟩ ⟨Nat.le_of_ble_eq_true rfl, Nat.le_of_ble_eq_true rfl⟩ rfl rfl (Nat.le_of_ble_eq_true rfl) dX11_live_175 (fun H locs hP hS => ?_)
      exact end_i X hr hk hP hS h dX11_live_178
    · rw [if_pos c6] at h
      refine lv_aload_n hx hb dX11_live_29 rfl (lv_at hl 0 rfl) ?_
      refine lv_bipush (v := 6) hx hb dX11_live_30 (by decide) ?_
      obtain ⟨r61, M62, hc63, h⟩ := bnd_inv h
      refine gV_i (As := [.int (6 : Int32)]) X hP hS hl.1 (c_X11_refused l D cA q aK aV hq hc63) sf_X11_refused bw_552 sv_X11_refused (rcC_11 sC_0) rfl ⟨rfl, rfl⟩ ⟨Nat.le_of_ble_eq_true rfl, Nat.le_of_ble_eq_true rfl⟩ rfl rfl (Nat.le_of_ble_eq_true rfl) dX11_live_32 (fun H locs hP hS => ?_)
      exact end_i X hr hk hP hS h dX11_live_35
  · rw [if_pos c4] at h
    refine lv_aload_n hx hb dX11_live_10 rfl (lv_at hl 0 rfl) ?_
    refine lv_iconst (v := 1) hx hb dX11_live_11 (by decide) ?_
    obtain ⟨r64, M65, hc66, h⟩ := bnd_inv h
    refine gV_i (As := [.int (1 : Int32)]) X hP hS hl.1 (c_X11_refused l D cA q aK aV hq hc66) sf_X11_refused bw_552 sv_X11_refused (rcC_11 sC_0) rfl ⟨rfl, rfl⟩ ⟨Nat.le_of_ble_eq_true rfl, Nat.le_of_ble_eq_true rfl⟩ rfl rfl (Nat.le_of_ble_eq_true rfl) dX11_live_12 (fun H locs hP hS => ?_)
    exact end_i X hr hk hP hS h dX11_live_15
theorem dX11_lived_0 : decode cX11_lived 0 = .ok (.iload_n 1, 1) := by decide +kernel
theorem dX11_lived_1 : decode cX11_lived 1 = .ok (.iconst 5, 1) := by decide +kernel
theorem dX11_lived_2 : decode cX11_lived 2 = .ok (.invokestatic 104, 3) := by decide +kernel
theorem dX11_lived_5 : decode cX11_lived 5 = .ok (.ifCond .ne 9, 3) := by decide +kernel
theorem dX11_lived_8 : decode cX11_lived 8 = .ok (.aload_n 0, 1) := by decide +kernel
theorem dX11_lived_9 : decode cX11_lived 9 = .ok (.iconst 1, 1) := by decide +kernel
theorem dX11_lived_10 : decode cX11_lived 10 = .ok (.invokevirtual 132, 3) := by decide +kernel
theorem dX11_lived_13 : decode cX11_lived 13 = .ok (.ireturn, 1) := by decide +kernel
theorem dX11_lived_14 : decode cX11_lived 14 = .ok (.aload_n 0, 1) := by decide +kernel
theorem dX11_lived_15 : decode cX11_lived 15 = .ok (.getfield 78, 3) := by decide +kernel
theorem dX11_lived_18 : decode cX11_lived 18 = .ok (.getfield 416, 3) := by decide +kernel
theorem dX11_lived_21 : decode cX11_lived 21 = .ok (.ifCond .eq 21, 3) := by decide +kernel
theorem dX11_lived_24 : decode cX11_lived 24 = .ok (.aload_n 0, 1) := by decide +kernel
theorem dX11_lived_25 : decode cX11_lived 25 = .ok (.aload_n 0, 1) := by decide +kernel
theorem dX11_lived_26 : decode cX11_lived 26 = .ok (.getfield 78, 3) := by decide +kernel
theorem dX11_lived_29 : decode cX11_lived 29 = .ok (.getfield 419, 3) := by decide +kernel
theorem dX11_lived_32 : decode cX11_lived 32 = .ok (.iload_n 1, 1) := by decide +kernel
theorem dX11_lived_33 : decode cX11_lived 33 = .ok (.invokestatic 254, 3) := by decide +kernel
theorem dX11_lived_36 : decode cX11_lived 36 = .ok (.invokevirtual 191, 3) := by decide +kernel
theorem dX11_lived_39 : decode cX11_lived 39 = .ok (.goto 9, 3) := by decide +kernel
theorem dX11_lived_42 : decode cX11_lived 42 = .ok (.aload_n 0, 1) := by decide +kernel
theorem dX11_lived_43 : decode cX11_lived 43 = .ok (.bipush 6, 2) := by decide +kernel
theorem dX11_lived_45 : decode cX11_lived 45 = .ok (.invokevirtual 132, 3) := by decide +kernel
theorem dX11_lived_48 : decode cX11_lived 48 = .ok (.ireturn, 1) := by decide +kernel
set_option maxRecDepth 100000 in
set_option maxHeartbeats 8000000 in
theorem c_X11_lived (l : Launch) (D : va_G) (cA : Nat → ClassId) (q aK aV : Nat → Nat) (hq : injG 167 q) {a1 : Int32} {M M0 : Mem} {r0 : Int32} (h : f_X11_lived a1 M = some (r0, M0)) : Met l yX11_lived (.code yX11_lived cX11_lived 2 (some .int) :: BW) ({ frames := 2, cells := 0, slots := 0, locals := 34 } : Room) (va_Pc [.ref (q 0), .int a1] (CB 167 (ceC cA q) D cA q aK aV M)) (Qi 167 (ceC cA q) D q r0 M0) 0 0 (AqG 167 q) := by
  refine gMet RX11 (by decide +kernel) rfl hq (Nat.le_of_ble_eq_true rfl) ?_
  intro p e s m below meth c ls X hr hk hP hS hl
  have hx := X.1
  have hb := X.2.1
  have hl : lv_has ls 2 [(0, .ref (q 0)), (1, .int a1)] := hl
  rw [f_X11_lived] at h
  refine lv_iload_n hx hb dX11_lived_0 rfl (lv_at hl 1 rfl) ?_
  refine lv_iconst (v := 5) hx hb dX11_lived_1 (by decide) ?_
  obtain ⟨r1, M2, hc3, h⟩ := bnd_inv h
  refine gS_i (As := [.int a1, .int (5 : Int32)]) X hP hS hl.1 (c_X11_within l D cA q aK aV hq hc3) sf_X11_within bw_504 ss_X11_within ⟨rfl, rfl⟩ ⟨Nat.le_of_ble_eq_true rfl, Nat.le_of_ble_eq_true rfl⟩ rfl rfl (Nat.le_of_ble_eq_true rfl) dX11_lived_2 (fun H locs hP hS => ?_)
  refine lv_if_ne (tgt := 14) hx hb dX11_lived_5 (by decide) (fun c4 => ?_) (fun c4 => ?_)
  · rw [if_neg c4] at h
    refine lv_aload_n hx hb dX11_lived_14 rfl (lv_at hl 0 rfl) ?_
    refine gfC_11_11 X hP sC_0 bw_441 dX11_lived_15 ?_
    refine gfC_2_1 X hP sC_25 bw_408 dX11_lived_18 ?_
    refine lv_if_eq (tgt := 42) hx hb dX11_lived_21 (by decide) (fun c5 => ?_) (fun c5 => ?_)
    · rw [if_pos c5] at h
      refine lv_aload_n hx hb dX11_lived_42 rfl (lv_at hl 0 rfl) ?_
      refine lv_bipush (v := 6) hx hb dX11_lived_43 (by decide) ?_
      obtain ⟨r6, M7, hc8, h⟩ := bnd_inv h
      refine gV_i (As := [.int (6 : Int32)]) X hP hS hl.1 (c_X11_refused l D cA q aK aV hq hc8) sf_X11_refused bw_552 sv_X11_refused (rcC_11 sC_0) rfl ⟨rfl, rfl⟩ ⟨Nat.le_of_ble_eq_true rfl, Nat.le_of_ble_eq_true rfl⟩ rfl rfl (Nat.le_of_ble_eq_true rfl) dX11_lived_45 (fun H locs hP hS => ?_)
      exact end_i X hr hk hP hS h dX11_lived_48
    · rw [if_neg c5] at h
      refine lv_aload_n hx hb dX11_lived_24 rfl (lv_at hl 0 rfl) ?_
      refine lv_aload_n hx hb dX11_lived_25 rfl (lv_at hl 0 rfl) ?_
      refine gfC_11_11 X hP sC_0 bw_441 dX11_lived_26 ?_
      refine gfC_2_0 X hP sC_25 bw_406 dX11_lived_29 ?_
      refine lv_iload_n hx hb dX11_lived_32 rfl (lv_at hl 1 rfl) ?_
      obtain ⟨r9, M10, hc11, h⟩ := bnd_inv h
      refine gS_i (As := [.ref (q 26), .int a1]) X hP hS hl.1 (c_X11_cell l D cA q aK aV hq sC_26 hc11) sf_X11_cell bw_857 ss_X11_cell ⟨rfl, rfl⟩ ⟨Nat.le_of_ble_eq_true rfl, Nat.le_of_ble_eq_true rfl⟩ rfl rfl (Nat.le_of_ble_eq_true rfl) dX11_lived_33 (fun H locs hP hS => ?_)
      obtain ⟨r12, M13, hc14, h⟩ := bnd_inv h
      refine gV_i (As := [.int r9]) X hP hS hl.1 (c_X11_given l D cA q aK aV hq hc14) sf_X11_given bw_755 sv_X11_given (rcC_11 sC_0) rfl ⟨rfl, rfl⟩ ⟨Nat.le_of_ble_eq_true rfl, Nat.le_of_ble_eq_true rfl⟩ rfl rfl (Nat.le_of_ble_eq_true rfl) dX11_lived_36 (fun H locs hP hS => ?_)
      refine lv_goto (tgt := 48) hx hb dX11_lived_39 (by decide) ?_
      exact end_i X hr hk hP hS h dX11_lived_48
  · rw [if_pos c4] at h
    refine lv_aload_n hx hb dX11_lived_8 rfl (lv_at hl 0 rfl) ?_
    refine lv_iconst (v := 1) hx hb dX11_lived_9 (by decide) ?_
    obtain ⟨r15, M16, hc17, h⟩ := bnd_inv h
    refine gV_i (As := [.int (1 : Int32)]) X hP hS hl.1 (c_X11_refused l D cA q aK aV hq hc17) sf_X11_refused bw_552 sv_X11_refused (rcC_11 sC_0) rfl ⟨rfl, rfl⟩ ⟨Nat.le_of_ble_eq_true rfl, Nat.le_of_ble_eq_true rfl⟩ rfl rfl (Nat.le_of_ble_eq_true rfl) dX11_lived_10 (fun H locs hP hS => ?_)
    exact end_i X hr hk hP hS h dX11_lived_13
theorem dX0_allFed_0 : decode cX0_allFed 0 = .ok (.iconst 0, 1) := by decide +kernel
theorem dX0_allFed_1 : decode cX0_allFed 1 = .ok (.istore_n 1, 1) := by decide +kernel
theorem dX0_allFed_2 : decode cX0_allFed 2 = .ok (.iconst 0, 1) := by decide +kernel
theorem dX0_allFed_3 : decode cX0_allFed 3 = .ok (.istore_n 2, 1) := by decide +kernel
theorem dX0_allFed_4 : decode cX0_allFed 4 = .ok (.iload_n 2, 1) := by decide +kernel
theorem dX0_allFed_5 : decode cX0_allFed 5 = .ok (.aload_n 0, 1) := by decide +kernel
theorem dX0_allFed_6 : decode cX0_allFed 6 = .ok (.iconst 3, 1) := by decide +kernel
theorem dX0_allFed_7 : decode cX0_allFed 7 = .ok (.invokevirtual 77, 3) := by decide +kernel
theorem dX0_allFed_10 : decode cX0_allFed 10 = .ok (.if_icmp .ge 20, 3) := by decide +kernel
theorem dX0_allFed_13 : decode cX0_allFed 13 = .ok (.iload_n 1, 1) := by decide +kernel
theorem dX0_allFed_14 : decode cX0_allFed 14 = .ok (.aload_n 0, 1) := by decide +kernel
theorem dX0_allFed_15 : decode cX0_allFed 15 = .ok (.iload_n 2, 1) := by decide +kernel
theorem dX0_allFed_16 : decode cX0_allFed 16 = .ok (.invokevirtual 89, 3) := by decide +kernel
theorem dX0_allFed_19 : decode cX0_allFed 19 = .ok (.getfield 124, 3) := by decide +kernel
theorem dX0_allFed_22 : decode cX0_allFed 22 = .ok (.iadd, 1) := by decide +kernel
theorem dX0_allFed_23 : decode cX0_allFed 23 = .ok (.istore_n 1, 1) := by decide +kernel
theorem dX0_allFed_24 : decode cX0_allFed 24 = .ok (.iinc 2 1, 3) := by decide +kernel
theorem dX0_allFed_27 : decode cX0_allFed 27 = .ok (.goto (-23), 3) := by decide +kernel
theorem dX0_allFed_30 : decode cX0_allFed 30 = .ok (.iload_n 1, 1) := by decide +kernel
theorem dX0_allFed_31 : decode cX0_allFed 31 = .ok (.ireturn, 1) := by decide +kernel
set_option maxRecDepth 100000 in
set_option maxHeartbeats 8000000 in
theorem c_X0_allFed (l : Launch) (D : va_G) (cA : Nat → ClassId) (q aK aV : Nat → Nat) (hq : injG 167 q) {a0 : Nat} {M M0 : Mem} {r0 : Int32} (h0 : shC a0 = 0) (h : f_X0_allFed a0 M = some (r0, M0)) : Met l yX0_allFed (.code yX0_allFed cX0_allFed 3 (some .int) :: BW) ({ frames := 2, cells := 0, slots := 0, locals := 36 } : Room) (va_Pc [.ref (q a0)] (CB 167 (ceC cA q) D cA q aK aV M)) (Qi 167 (ceC cA q) D q r0 M0) 0 0 (AqG 167 q) := by
  refine gMet RX0 (by decide +kernel) rfl hq (Nat.le_of_ble_eq_true rfl) ?_
  intro p e s m below meth c ls X hr hk hP hS hl
  have hx := X.1
  have hb := X.2.1
  have hl : lv_has ls 3 [(0, .ref (q a0))] := hl
  rw [f_X0_allFed] at h
  have hL4 : ∀ (fu : Nat) (b1 : Int32) (b2 : Int32) (M : Mem) (res : (Int32) × Mem) (H : Heap) (locs : List Loc) (ls : Array Slot), f_X0_allFed_L4 a0 fu b1 b2 M = some res → va_P D vwCl (wsG 167 (ceC cA q) q M) H → va_S (AqG 167 q) s.heap H locs → lv_has ls 3 [(0, .ref (q a0)), (1, .int b1), (2, .int b2)] → (∀ (H : Heap) (locs : List Loc) (ls : Array Slot), va_P D vwCl (wsG 167 (ceC cA q) q res.2) H → va_S (AqG 167 q) s.heap H locs → lv_has ls 3 [(1, .int (res.1))] → W p l e ({ frames := 2, cells := 0, slots := 0, locals := 36 } : Room) s m [.ref (q a0)].toArray below meth c H locs 0 0 (MQ below (Qi 167 (ceC cA q) D q r0 M0) [.ref (q a0)].toArray s 0 0 (AqG 167 q)) (F0 m 30 ls [])) → W p l e ({ frames := 2, cells := 0, slots := 0, locals := 36 } : Room) s m [.ref (q a0)].toArray below meth c H locs 0 0 (MQ below (Qi 167 (ceC cA q) D q r0 M0) [.ref (q a0)].toArray s 0 0 (AqG 167 q)) (F0 m 4 ls []) := by
    intro fu
    induction fu with
    | zero => intro b1 b2 M res H locs ls h; exact absurd h (by simp [f_X0_allFed_L4])
    | succ fu ih =>
      intro b1 b2 M res H locs ls h hP hS hl K4_0
      rw [f_X0_allFed_L4] at h
      refine lv_iload_n hx hb dX0_allFed_4 rfl (lv_at hl 2 rfl) ?_
      refine lv_aload_n hx hb dX0_allFed_5 rfl (lv_at hl 0 rfl) ?_
      refine lv_iconst (v := 3) hx hb dX0_allFed_6 (by decide) ?_
      obtain ⟨r5, M6, hc7, h⟩ := bnd_inv h
      refine gV_i (As := [.int (3 : Int32)]) X hP hS hl.1 (c_X0_countOf l D cA q aK aV hq h0 hc7) sf_X0_countOf bw_645 sv_X0_countOf (rcC_0 h0) rfl ⟨rfl, rfl⟩ ⟨Nat.le_of_ble_eq_true rfl, Nat.le_of_ble_eq_true rfl⟩ rfl rfl (Nat.le_of_ble_eq_true rfl) dX0_allFed_7 (fun H locs hP hS => ?_)
      refine lv_icmp_ge (tgt := 30) hx hb dX0_allFed_10 (by decide) (fun c8 => ?_) (fun c8 => ?_)
      · rw [if_pos c8] at h
        cases h
        exact K4_0 _ _ _ hP hS (lv_sub hl [1] rfl)
      · rw [if_neg c8] at h
        refine lv_iload_n hx hb dX0_allFed_13 rfl (lv_at hl 1 rfl) ?_
        refine lv_aload_n hx hb dX0_allFed_14 rfl (lv_at hl 0 rfl) ?_
        refine lv_iload_n hx hb dX0_allFed_15 rfl (lv_at hl 2 rfl) ?_
        obtain ⟨r9, M10, hc11, h⟩ := bnd_inv h
        refine gV_r (As := [.int b2]) X hP hS hl.1 (c_X0_personAt l D cA q aK aV hq h0 hc11) sf_X0_personAt bw_813 sv_X0_personAt (rcC_0 h0) rfl ⟨rfl, rfl⟩ ⟨Nat.le_of_ble_eq_true rfl, Nat.le_of_ble_eq_true rfl⟩ rfl rfl (Nat.le_of_ble_eq_true rfl) dX0_allFed_16 (fun H locs hP hS => ?_)
        obtain ⟨g12, h⟩ := gd_inv h
        have g12 := Decidable.not_not.mp g12
        refine gfC_5_1 X hP g12 bw_118 dX0_allFed_19 ?_
        refine lv_iadd hx hb dX0_allFed_22 ?_
        obtain ⟨y13, ey13, h⟩ := lt_inv h
        refine topE ey13 ?_
        refine lv_istore_n (lv' := [(1, .int y13), (0, .ref (q a0)), (2, .int b2)]) hx hb dX0_allFed_23 rfl hl (by decide) rfl (fun ls hl => ?_)
        obtain ⟨y14, ey14, h⟩ := lt_inv h
        refine lv_iinc (v := y14) (lv' := [(2, .int y14), (1, .int y13), (0, .ref (q a0))]) hx hb dX0_allFed_24 hl (k := 2) rfl (by rw [ey14]; rfl) (by decide) rfl (fun ls hl => ?_)
        refine lv_goto (tgt := 4) hx hb dX0_allFed_27 (by decide) ?_
        exact ih _ _ _ res _ _ _ h hP hS (lv_sub hl [2, 1, 0] rfl) K4_0
  refine lv_iconst (v := 0) hx hb dX0_allFed_0 (by decide) ?_
  refine lv_istore_n (lv' := [(1, .int (0 : Int32)), (0, .ref (q a0))]) hx hb dX0_allFed_1 rfl hl (by decide) rfl (fun ls hl => ?_)
  refine lv_iconst (v := 0) hx hb dX0_allFed_2 (by decide) ?_
  refine lv_istore_n (lv' := [(2, .int (0 : Int32)), (1, .int (0 : Int32)), (0, .ref (q a0))]) hx hb dX0_allFed_3 rfl hl (by decide) rfl (fun ls hl => ?_)
  obtain ⟨s1, M2, hc3, h⟩ := bnd_inv h
  obtain ⟨x4, rfl⟩ : ∃ z, z = s1 := ⟨_, rfl⟩
  try dsimp only at h
  refine hL4  fz _ _ _ _ _ _ _ hc3 hP hS (lv_sub hl [2, 1, 0] rfl) (fun H locs ls hP hS hl => ?_)
  have hl : lv_has ls 3 [(1, .int x4)] := hl
  refine lv_iload_n hx hb dX0_allFed_30 rfl (lv_at hl 0 rfl) ?_
  exact end_i X hr hk hP hS h dX0_allFed_31
theorem dX11_mean_0 : decode cX11_mean 0 = .ok (.iload_n 1, 1) := by decide +kernel
theorem dX11_mean_1 : decode cX11_mean 1 = .ok (.sipush 10000, 3) := by decide +kernel
theorem dX11_mean_4 : decode cX11_mean 4 = .ok (.invokestatic 104, 3) := by decide +kernel
theorem dX11_mean_7 : decode cX11_mean 7 = .ok (.ifCond .eq 18, 3) := by decide +kernel
theorem dX11_mean_10 : decode cX11_mean 10 = .ok (.iload_n 2, 1) := by decide +kernel
theorem dX11_mean_11 : decode cX11_mean 11 = .ok (.iconst 1, 1) := by decide +kernel
theorem dX11_mean_12 : decode cX11_mean 12 = .ok (.if_icmp .lt 13, 3) := by decide +kernel
theorem dX11_mean_15 : decode cX11_mean 15 = .ok (.iload_n 2, 1) := by decide +kernel
theorem dX11_mean_16 : decode cX11_mean 16 = .ok (.bipush 20, 2) := by decide +kernel
theorem dX11_mean_18 : decode cX11_mean 18 = .ok (.if_icmp .gt 7, 3) := by decide +kernel
theorem dX11_mean_21 : decode cX11_mean 21 = .ok (.iconst 1, 1) := by decide +kernel
theorem dX11_mean_22 : decode cX11_mean 22 = .ok (.goto 4, 3) := by decide +kernel
theorem dX11_mean_25 : decode cX11_mean 25 = .ok (.iconst 0, 1) := by decide +kernel
theorem dX11_mean_26 : decode cX11_mean 26 = .ok (.istore_n 3, 1) := by decide +kernel
theorem dX11_mean_27 : decode cX11_mean 27 = .ok (.iload_n 3, 1) := by decide +kernel
theorem dX11_mean_28 : decode cX11_mean 28 = .ok (.ifCond .eq 14, 3) := by decide +kernel
theorem dX11_mean_31 : decode cX11_mean 31 = .ok (.iload_n 1, 1) := by decide +kernel
theorem dX11_mean_32 : decode cX11_mean 32 = .ok (.iload_n 2, 1) := by decide +kernel
theorem dX11_mean_33 : decode cX11_mean 33 = .ok (.iadd, 1) := by decide +kernel
theorem dX11_mean_34 : decode cX11_mean 34 = .ok (.iconst 1, 1) := by decide +kernel
theorem dX11_mean_35 : decode cX11_mean 35 = .ok (.isub, 1) := by decide +kernel
theorem dX11_mean_36 : decode cX11_mean 36 = .ok (.sipush 9999, 3) := by decide +kernel
theorem dX11_mean_39 : decode cX11_mean 39 = .ok (.if_icmp .le 9, 3) := by decide +kernel
theorem dX11_mean_42 : decode cX11_mean 42 = .ok (.aload_n 0, 1) := by decide +kernel
theorem dX11_mean_43 : decode cX11_mean 43 = .ok (.iconst 1, 1) := by decide +kernel
theorem dX11_mean_44 : decode cX11_mean 44 = .ok (.invokevirtual 108, 3) := by decide +kernel
theorem dX11_mean_47 : decode cX11_mean 47 = .ok (.ireturn, 1) := by decide +kernel
theorem dX11_mean_48 : decode cX11_mean 48 = .ok (.aload_n 0, 1) := by decide +kernel
theorem dX11_mean_49 : decode cX11_mean 49 = .ok (.getfield 10, 3) := by decide +kernel
theorem dX11_mean_52 : decode cX11_mean 52 = .ok (.getfield 174, 3) := by decide +kernel
theorem dX11_mean_55 : decode cX11_mean 55 = .ok (.getfield 397, 3) := by decide +kernel
theorem dX11_mean_58 : decode cX11_mean 58 = .ok (.ifCond .ne 10, 3) := by decide +kernel
theorem dX11_mean_61 : decode cX11_mean 61 = .ok (.aload_n 0, 1) := by decide +kernel
theorem dX11_mean_62 : decode cX11_mean 62 = .ok (.bipush 6, 2) := by decide +kernel
theorem dX11_mean_64 : decode cX11_mean 64 = .ok (.invokevirtual 108, 3) := by decide +kernel
theorem dX11_mean_67 : decode cX11_mean 67 = .ok (.ireturn, 1) := by decide +kernel
theorem dX11_mean_68 : decode cX11_mean 68 = .ok (.iconst 0, 1) := by decide +kernel
theorem dX11_mean_69 : decode cX11_mean 69 = .ok (.istore 4, 2) := by decide +kernel
theorem dX11_mean_71 : decode cX11_mean 71 = .ok (.iconst 0, 1) := by decide +kernel
theorem dX11_mean_72 : decode cX11_mean 72 = .ok (.istore 5, 2) := by decide +kernel
theorem dX11_mean_74 : decode cX11_mean 74 = .ok (.iload 5, 2) := by decide +kernel
theorem dX11_mean_76 : decode cX11_mean 76 = .ok (.iload_n 2, 1) := by decide +kernel
theorem dX11_mean_77 : decode cX11_mean 77 = .ok (.if_icmp .ge 66, 3) := by decide +kernel
theorem dX11_mean_80 : decode cX11_mean 80 = .ok (.aload_n 0, 1) := by decide +kernel
theorem dX11_mean_81 : decode cX11_mean 81 = .ok (.getfield 16, 3) := by decide +kernel
theorem dX11_mean_84 : decode cX11_mean 84 = .ok (.aload_n 0, 1) := by decide +kernel
theorem dX11_mean_85 : decode cX11_mean 85 = .ok (.getfield 10, 3) := by decide +kernel
theorem dX11_mean_88 : decode cX11_mean 88 = .ok (.invokevirtual 324, 3) := by decide +kernel
theorem dX11_mean_91 : decode cX11_mean 91 = .ok (.aload_n 0, 1) := by decide +kernel
theorem dX11_mean_92 : decode cX11_mean 92 = .ok (.getfield 78, 3) := by decide +kernel
theorem dX11_mean_95 : decode cX11_mean 95 = .ok (.iload_n 1, 1) := by decide +kernel
theorem dX11_mean_96 : decode cX11_mean 96 = .ok (.iload 5, 2) := by decide +kernel
theorem dX11_mean_98 : decode cX11_mean 98 = .ok (.iadd, 1) := by decide +kernel
theorem dX11_mean_99 : decode cX11_mean 99 = .ok (.invokevirtual 401, 3) := by decide +kernel
theorem dX11_mean_102 : decode cX11_mean 102 = .ok (.aload_n 0, 1) := by decide +kernel
theorem dX11_mean_103 : decode cX11_mean 103 = .ok (.getfield 78, 3) := by decide +kernel
theorem dX11_mean_106 : decode cX11_mean 106 = .ok (.aload_n 0, 1) := by decide +kernel
theorem dX11_mean_107 : decode cX11_mean 107 = .ok (.getfield 16, 3) := by decide +kernel
theorem dX11_mean_110 : decode cX11_mean 110 = .ok (.iconst 0, 1) := by decide +kernel
theorem dX11_mean_111 : decode cX11_mean 111 = .ok (.aload_n 0, 1) := by decide +kernel
theorem dX11_mean_112 : decode cX11_mean 112 = .ok (.getfield 16, 3) := by decide +kernel
theorem dX11_mean_115 : decode cX11_mean 115 = .ok (.getfield 174, 3) := by decide +kernel
theorem dX11_mean_118 : decode cX11_mean 118 = .ok (.getfield 188, 3) := by decide +kernel
theorem dX11_mean_121 : decode cX11_mean 121 = .ok (.iconst 0, 1) := by decide +kernel
theorem dX11_mean_122 : decode cX11_mean 122 = .ok (.invokestatic 403, 3) := by decide +kernel
theorem dX11_mean_125 : decode cX11_mean 125 = .ok (.iload 4, 2) := by decide +kernel
theorem dX11_mean_127 : decode cX11_mean 127 = .ok (.aload_n 0, 1) := by decide +kernel
theorem dX11_mean_128 : decode cX11_mean 128 = .ok (.getfield 16, 3) := by decide +kernel
theorem dX11_mean_131 : decode cX11_mean 131 = .ok (.invokevirtual 422, 3) := by decide +kernel
theorem dX11_mean_134 : decode cX11_mean 134 = .ok (.iadd, 1) := by decide +kernel
theorem dX11_mean_135 : decode cX11_mean 135 = .ok (.istore 4, 2) := by decide +kernel
theorem dX11_mean_137 : decode cX11_mean 137 = .ok (.iinc 5 1, 3) := by decide +kernel
theorem dX11_mean_140 : decode cX11_mean 140 = .ok (.goto (-66), 3) := by decide +kernel
theorem dX11_mean_143 : decode cX11_mean 143 = .ok (.aload_n 0, 1) := by decide +kernel
theorem dX11_mean_144 : decode cX11_mean 144 = .ok (.iload 4, 2) := by decide +kernel
theorem dX11_mean_146 : decode cX11_mean 146 = .ok (.i2l, 1) := by decide +kernel
theorem dX11_mean_147 : decode cX11_mean 147 = .ok (.iload_n 2, 1) := by decide +kernel
theorem dX11_mean_148 : decode cX11_mean 148 = .ok (.i2l, 1) := by decide +kernel
theorem dX11_mean_149 : decode cX11_mean 149 = .ok (.invokevirtual 341, 3) := by decide +kernel
theorem dX11_mean_152 : decode cX11_mean 152 = .ok (.ireturn, 1) := by decide +kernel
set_option maxRecDepth 100000 in
set_option maxHeartbeats 8000000 in
theorem c_X11_mean (l : Launch) (D : va_G) (cA : Nat → ClassId) (q aK aV : Nat → Nat) (hq : injG 167 q) {a1 : Int32} {a2 : Int32} {M M0 : Mem} {r0 : Int32} (h : f_X11_mean a1 a2 M = some (r0, M0)) : Met l yX11_mean (.code yX11_mean cX11_mean 6 (some .boolean) :: BW) ({ frames := 13, cells := 0, slots := 0, locals := 346 } : Room) (va_Pc [.ref (q 0), .int a1, .int a2] (CB 167 (ceC cA q) D cA q aK aV M)) (Qi 167 (ceC cA q) D q r0 M0) 0 0 (AqG 167 q) := by
  refine gMet RX11 (by decide +kernel) rfl hq (Nat.le_of_ble_eq_true rfl) ?_
  intro p e s m below meth c ls X hr hk hP hS hl
  have hx := X.1
  have hb := X.2.1
  have hl : lv_has ls 6 [(0, .ref (q 0)), (1, .int a1), (2, .int a2)] := hl
  rw [f_X11_mean] at h
  have hL74 : ∀ (fu : Nat) (b4 : Int32) (b5 : Int32) (M : Mem) (res : (Int32) × Mem) (H : Heap) (locs : List Loc) (ls : Array Slot), f_X11_mean_L74 a1 a2 fu b4 b5 M = some res → va_P D vwCl (wsG 167 (ceC cA q) q M) H → va_S (AqG 167 q) s.heap H locs → lv_has ls 6 [(0, .ref (q 0)), (1, .int a1), (2, .int a2), (4, .int b4), (5, .int b5)] → (∀ (H : Heap) (locs : List Loc) (ls : Array Slot), va_P D vwCl (wsG 167 (ceC cA q) q res.2) H → va_S (AqG 167 q) s.heap H locs → lv_has ls 6 [(0, .ref (q 0)), (2, .int a2), (4, .int (res.1))] → W p l e ({ frames := 13, cells := 0, slots := 0, locals := 346 } : Room) s m [.ref (q 0), .int a1, .int a2].toArray below meth c H locs 0 0 (MQ below (Qi 167 (ceC cA q) D q r0 M0) [.ref (q 0), .int a1, .int a2].toArray s 0 0 (AqG 167 q)) (F0 m 143 ls [])) → W p l e ({ frames := 13, cells := 0, slots := 0, locals := 346 } : Room) s m [.ref (q 0), .int a1, .int a2].toArray below meth c H locs 0 0 (MQ below (Qi 167 (ceC cA q) D q r0 M0) [.ref (q 0), .int a1, .int a2].toArray s 0 0 (AqG 167 q)) (F0 m 74 ls []) := by
    intro fu
    induction fu with
    | zero => intro b4 b5 M res H locs ls h; exact absurd h (by simp [f_X11_mean_L74])
    | succ fu ih =>
      intro b4 b5 M res H locs ls h hP hS hl K74_0
      rw [f_X11_mean_L74] at h
      refine lv_iload hx hb dX11_mean_74 (lv_at hl 4 rfl) ?_
      refine lv_iload_n hx hb dX11_mean_76 rfl (lv_at hl 2 rfl) ?_
      refine lv_icmp_ge (tgt := 143) hx hb dX11_mean_77 (by decide) (fun c31 => ?_) (fun c31 => ?_)
      · rw [if_pos c31] at h
        cases h
        exact K74_0 _ _ _ hP hS (lv_sub hl [0, 2, 3] rfl)
      · rw [if_neg c31] at h
        refine lv_aload_n hx hb dX11_mean_80 rfl (lv_at hl 0 rfl) ?_
        refine gfC_11_1 X hP sC_0 bw_431 dX11_mean_81 ?_
        obtain ⟨g32, h⟩ := gd_inv h
        have g32 := Decidable.not_not.mp g32
        refine lv_aload_n hx hb dX11_mean_84 rfl (lv_at hl 0 rfl) ?_
        refine gfC_11_0 X hP sC_0 bw_430 dX11_mean_85 ?_
        obtain ⟨g33, h⟩ := gd_inv h
        have g33 := Decidable.not_not.mp g33
        obtain ⟨_, M35, hc36, h⟩ := bnd_inv h
        refine gV_v (As := [.ref (q (gR M 0 0))]) X hP hS hl.1 (c_X0_copyFrom l D cA q aK aV hq g32 g33 hc36) sf_X0_copyFrom bw_994 sv_X0_copyFrom (rcC_0 g32) rfl ⟨rfl, rfl⟩ ⟨Nat.le_of_ble_eq_true rfl, Nat.le_of_ble_eq_true rfl⟩ rfl rfl (Nat.le_of_ble_eq_true rfl) dX11_mean_88 (fun H locs hP hS => ?_)
        refine lv_aload_n hx hb dX11_mean_91 rfl (lv_at hl 0 rfl) ?_
        refine gfC_11_11 X hP sC_0 bw_441 dX11_mean_92 ?_
        refine lv_iload_n hx hb dX11_mean_95 rfl (lv_at hl 1 rfl) ?_
        refine lv_iload hx hb dX11_mean_96 (lv_at hl 4 rfl) ?_
        refine lv_iadd hx hb dX11_mean_98 ?_
        obtain ⟨_, M38, hc39, h⟩ := bnd_inv h
        refine gV_v (As := [.int (a1 + b5)]) X hP hS hl.1 (c_X2_begin l D cA q aK aV hq hc39) sf_X2_begin bw_1230 sv_X2_begin (rcC_2 sC_25) rfl ⟨rfl, rfl⟩ ⟨Nat.le_of_ble_eq_true rfl, Nat.le_of_ble_eq_true rfl⟩ rfl rfl (Nat.le_of_ble_eq_true rfl) dX11_mean_99 (fun H locs hP hS => ?_)
        refine lv_aload_n hx hb dX11_mean_102 rfl (lv_at hl 0 rfl) ?_
        refine gfC_11_11 X hP sC_0 bw_441 dX11_mean_103 ?_
        refine lv_aload_n hx hb dX11_mean_106 rfl (lv_at hl 0 rfl) ?_
        refine gfC_11_1 X hP sC_0 bw_431 dX11_mean_107 ?_
        obtain ⟨g40, h⟩ := gd_inv h
        have g40 := Decidable.not_not.mp g40
        refine lv_iconst (v := 0) hx hb dX11_mean_110 (by decide) ?_
        refine lv_aload_n hx hb dX11_mean_111 rfl (lv_at hl 0 rfl) ?_
        refine gfC_11_1 X hP sC_0 bw_431 dX11_mean_112 ?_
        obtain ⟨g41, h⟩ := gd_inv h
        have g41 := Decidable.not_not.mp g41
        refine gfC_0_9 X hP g41 bw_164 dX11_mean_115 ?_
        refine gfC_9_1 X hP (kC_0_9 g41) bw_49 dX11_mean_118 ?_
        refine lv_iconst (v := 0) hx hb dX11_mean_121 (by decide) ?_
        obtain ⟨_, M43, hc44, h⟩ := bnd_inv h
        refine gSN_v (As := [.ref (q 25), .ref (q (gR M38 0 1)), .int (0 : Int32), .int (gI M38 ((gR M38 0 1) + 24) 1), .int (0 : Int32)]) X hP hS hl.1 (c_X2_runSteps 5 l D cA q aK aV hq _ _ _ _ _ _  g40 hc44) sf_X2_runSteps nw_27 ss_X2_runSteps ⟨rfl, rfl⟩ ⟨Nat.le_of_ble_eq_true rfl, Nat.le_of_ble_eq_true rfl⟩ rfl rfl (Nat.le_of_ble_eq_true rfl) dX11_mean_122 (fun H locs hP hS => ?_)
        refine lv_iload hx hb dX11_mean_125 (lv_at hl 3 rfl) ?_
        refine lv_aload_n hx hb dX11_mean_127 rfl (lv_at hl 0 rfl) ?_
        refine gfC_11_1 X hP sC_0 bw_431 dX11_mean_128 ?_
        obtain ⟨g45, h⟩ := gd_inv h
        have g45 := Decidable.not_not.mp g45
        obtain ⟨r46, M47, hc48, h⟩ := bnd_inv h
        refine gV_i (As := []) X hP hS hl.1 (c_X0_allFed l D cA q aK aV hq g45 hc48) sf_X0_allFed bw_1297 sv_X0_allFed (rcC_0 g45) rfl ⟨rfl, rfl⟩ ⟨Nat.le_of_ble_eq_true rfl, Nat.le_of_ble_eq_true rfl⟩ rfl rfl (Nat.le_of_ble_eq_true rfl) dX11_mean_131 (fun H locs hP hS => ?_)
        refine lv_iadd hx hb dX11_mean_134 ?_
        obtain ⟨y49, ey49, h⟩ := lt_inv h
        refine topE ey49 ?_
        refine lv_istore (lv' := [(4, .int y49), (0, .ref (q 0)), (1, .int a1), (2, .int a2), (5, .int b5)]) hx hb dX11_mean_135 hl (by decide) rfl (fun ls hl => ?_)
        obtain ⟨y50, ey50, h⟩ := lt_inv h
        refine lv_iinc (v := y50) (lv' := [(5, .int y50), (4, .int y49), (0, .ref (q 0)), (1, .int a1), (2, .int a2)]) hx hb dX11_mean_137 hl (k := 4) rfl (by rw [ey50]; rfl) (by decide) rfl (fun ls hl => ?_)
        refine lv_goto (tgt := 74) hx hb dX11_mean_140 (by decide) ?_
        exact ih _ _ _ res _ _ _ h hP hS (lv_sub hl [2, 3, 4, 1, 0] rfl) K74_0
  have hJ26 : ∀ (s0 : Int32) (M : Mem) (H : Heap) (locs : List Loc) (ls : Array Slot), f_X11_mean_J26 a1 a2 s0 M = some (r0, M0) → va_P D vwCl (wsG 167 (ceC cA q) q M) H → va_S (AqG 167 q) s.heap H locs → lv_has ls 6 [(0, .ref (q 0)), (1, .int a1), (2, .int a2)] → W p l e ({ frames := 13, cells := 0, slots := 0, locals := 346 } : Room) s m [.ref (q 0), .int a1, .int a2].toArray below meth c H locs 0 0 (MQ below (Qi 167 (ceC cA q) D q r0 M0) [.ref (q 0), .int a1, .int a2].toArray s 0 0 (AqG 167 q)) (F0 m 26 ls [.int s0]) := by
    intro s0 M H locs ls h hP hS hl
    rw [f_X11_mean_J26] at h
    refine lv_istore_n (lv' := [(3, .int s0), (0, .ref (q 0)), (1, .int a1), (2, .int a2)]) hx hb dX11_mean_26 rfl hl (by decide) rfl (fun ls hl => ?_)
    refine lv_iload_n hx hb dX11_mean_27 rfl (lv_at hl 0 rfl) ?_
    refine lv_if_eq (tgt := 42) hx hb dX11_mean_28 (by decide) (fun c7 => ?_) (fun c7 => ?_)
    · rw [if_pos c7] at h
      refine lv_aload_n hx hb dX11_mean_42 rfl (lv_at hl 1 rfl) ?_
      refine lv_iconst (v := 1) hx hb dX11_mean_43 (by decide) ?_
      obtain ⟨r8, M9, hc10, h⟩ := bnd_inv h
      refine gV_i (As := [.int (1 : Int32)]) X hP hS hl.1 (c_X11_denied l D cA q aK aV hq hc10) sf_X11_denied bw_507 sv_X11_denied (rcC_11 sC_0) rfl ⟨rfl, rfl⟩ ⟨Nat.le_of_ble_eq_true rfl, Nat.le_of_ble_eq_true rfl⟩ rfl rfl (Nat.le_of_ble_eq_true rfl) dX11_mean_44 (fun H locs hP hS => ?_)
      obtain ⟨g11, h⟩ := gd_inv h
      exact end_z X hr hk hP hS (Decidable.not_not.mp g11) h dX11_mean_47
    · rw [if_neg c7] at h
      refine lv_iload_n hx hb dX11_mean_31 rfl (lv_at hl 2 rfl) ?_
      refine lv_iload_n hx hb dX11_mean_32 rfl (lv_at hl 3 rfl) ?_
      refine lv_iadd hx hb dX11_mean_33 ?_
      refine lv_iconst (v := 1) hx hb dX11_mean_34 (by decide) ?_
      refine lv_isub hx hb dX11_mean_35 ?_
      refine lv_sipush (v := 9999) hx hb dX11_mean_36 (by decide) ?_
      refine lv_icmp_le (tgt := 48) hx hb dX11_mean_39 (by decide) (fun c12 => ?_) (fun c12 => ?_)
      · rw [if_pos c12] at h
        refine lv_aload_n hx hb dX11_mean_48 rfl (lv_at hl 1 rfl) ?_
        refine gfC_11_0 X hP sC_0 bw_430 dX11_mean_49 ?_
        obtain ⟨g13, h⟩ := gd_inv h
        have g13 := Decidable.not_not.mp g13
        refine gfC_0_9 X hP g13 bw_164 dX11_mean_52 ?_
        refine gfC_9_0 X hP (kC_0_9 g13) bw_46 dX11_mean_55 ?_
        refine lv_if_ne (tgt := 68) hx hb dX11_mean_58 (by decide) (fun c14 => ?_) (fun c14 => ?_)
        · rw [if_neg c14] at h
          refine lv_iconst (v := 0) hx hb dX11_mean_68 (by decide) ?_
          refine lv_istore (lv' := [(4, .int (0 : Int32)), (3, .int s0), (0, .ref (q 0)), (1, .int a1), (2, .int a2)]) hx hb dX11_mean_69 hl (by decide) rfl (fun ls hl => ?_)
          refine lv_iconst (v := 0) hx hb dX11_mean_71 (by decide) ?_
          refine lv_istore (lv' := [(5, .int (0 : Int32)), (4, .int (0 : Int32)), (3, .int s0), (0, .ref (q 0)), (1, .int a1), (2, .int a2)]) hx hb dX11_mean_72 hl (by decide) rfl (fun ls hl => ?_)
          obtain ⟨s15, M16, hc17, h⟩ := bnd_inv h
          obtain ⟨x18, rfl⟩ : ∃ z, z = s15 := ⟨_, rfl⟩
          try dsimp only at h
          refine hL74  fz _ _ _ _ _ _ _ hc17 hP hS (lv_sub hl [3, 4, 5, 1, 0] rfl) (fun H locs ls hP hS hl => ?_)
          have hl : lv_has ls 6 [(0, .ref (q 0)), (2, .int a2), (4, .int x18)] := hl
          refine lv_aload_n hx hb dX11_mean_143 rfl (lv_at hl 0 rfl) ?_
          refine lv_iload hx hb dX11_mean_144 (lv_at hl 2 rfl) ?_
          refine lv_i2l hx hb dX11_mean_146 rfl ?_
          refine lv_iload_n hx hb dX11_mean_147 rfl (lv_at hl 1 rfl) ?_
          refine lv_i2l hx hb dX11_mean_148 rfl ?_
          obtain ⟨r19, M20, hc21, h⟩ := bnd_inv h
          refine gV_i (As := [.long (x18.toInt64), .long (a2.toInt64)]) X hP hS hl.1 (c_X11_tellFraction l D cA q aK aV hq hc21) sf_X11_tellFraction bw_1043 sv_X11_tellFraction (rcC_11 sC_0) rfl ⟨rfl, rfl⟩ ⟨Nat.le_of_ble_eq_true rfl, Nat.le_of_ble_eq_true rfl⟩ rfl rfl (Nat.le_of_ble_eq_true rfl) dX11_mean_149 (fun H locs hP hS => ?_)
          obtain ⟨g22, h⟩ := gd_inv h
          exact end_z X hr hk hP hS (Decidable.not_not.mp g22) h dX11_mean_152
        · rw [if_pos c14] at h
          refine lv_aload_n hx hb dX11_mean_61 rfl (lv_at hl 1 rfl) ?_
          refine lv_bipush (v := 6) hx hb dX11_mean_62 (by decide) ?_
          obtain ⟨r23, M24, hc25, h⟩ := bnd_inv h
          refine gV_i (As := [.int (6 : Int32)]) X hP hS hl.1 (c_X11_denied l D cA q aK aV hq hc25) sf_X11_denied bw_507 sv_X11_denied (rcC_11 sC_0) rfl ⟨rfl, rfl⟩ ⟨Nat.le_of_ble_eq_true rfl, Nat.le_of_ble_eq_true rfl⟩ rfl rfl (Nat.le_of_ble_eq_true rfl) dX11_mean_64 (fun H locs hP hS => ?_)
          obtain ⟨g26, h⟩ := gd_inv h
          exact end_z X hr hk hP hS (Decidable.not_not.mp g26) h dX11_mean_67
      · rw [if_neg c12] at h
        refine lv_aload_n hx hb dX11_mean_42 rfl (lv_at hl 1 rfl) ?_
        refine lv_iconst (v := 1) hx hb dX11_mean_43 (by decide) ?_
        obtain ⟨r27, M28, hc29, h⟩ := bnd_inv h
        refine gV_i (As := [.int (1 : Int32)]) X hP hS hl.1 (c_X11_denied l D cA q aK aV hq hc29) sf_X11_denied bw_507 sv_X11_denied (rcC_11 sC_0) rfl ⟨rfl, rfl⟩ ⟨Nat.le_of_ble_eq_true rfl, Nat.le_of_ble_eq_true rfl⟩ rfl rfl (Nat.le_of_ble_eq_true rfl) dX11_mean_44 (fun H locs hP hS => ?_)
        obtain ⟨g30, h⟩ := gd_inv h
        exact end_z X hr hk hP hS (Decidable.not_not.mp g30) h dX11_mean_47
  have hJ25 : ∀ (M : Mem) (H : Heap) (locs : List Loc) (ls : Array Slot), f_X11_mean_J25 a1 a2 M = some (r0, M0) → va_P D vwCl (wsG 167 (ceC cA q) q M) H → va_S (AqG 167 q) s.heap H locs → lv_has ls 6 [(0, .ref (q 0)), (1, .int a1), (2, .int a2)] → W p l e ({ frames := 13, cells := 0, slots := 0, locals := 346 } : Room) s m [.ref (q 0), .int a1, .int a2].toArray below meth c H locs 0 0 (MQ below (Qi 167 (ceC cA q) D q r0 M0) [.ref (q 0), .int a1, .int a2].toArray s 0 0 (AqG 167 q)) (F0 m 25 ls []) := by
    intro M H locs ls h hP hS hl
    rw [f_X11_mean_J25] at h
    refine lv_iconst (v := 0) hx hb dX11_mean_25 (by decide) ?_
    exact hJ26 _ _ _ _ _ h hP hS (lv_sub hl [0, 1, 2] rfl)
  refine lv_iload_n hx hb dX11_mean_0 rfl (lv_at hl 1 rfl) ?_
  refine lv_sipush (v := 10000) hx hb dX11_mean_1 (by decide) ?_
  obtain ⟨r1, M2, hc3, h⟩ := bnd_inv h
  refine gS_i (As := [.int a1, .int (10000 : Int32)]) X hP hS hl.1 (c_X11_within l D cA q aK aV hq hc3) sf_X11_within bw_504 ss_X11_within ⟨rfl, rfl⟩ ⟨Nat.le_of_ble_eq_true rfl, Nat.le_of_ble_eq_true rfl⟩ rfl rfl (Nat.le_of_ble_eq_true rfl) dX11_mean_4 (fun H locs hP hS => ?_)
  refine lv_if_eq (tgt := 25) hx hb dX11_mean_7 (by decide) (fun c4 => ?_) (fun c4 => ?_)
  · rw [if_pos c4] at h
    exact hJ25  _ _ _ _ h hP hS (lv_sub hl [0, 1, 2] rfl)
  · rw [if_neg c4] at h
    refine lv_iload_n hx hb dX11_mean_10 rfl (lv_at hl 2 rfl) ?_
    refine lv_iconst (v := 1) hx hb dX11_mean_11 (by decide) ?_
    refine lv_icmp_lt (tgt := 25) hx hb dX11_mean_12 (by decide) (fun c5 => ?_) (fun c5 => ?_)
    · rw [if_pos c5] at h
      exact hJ25  _ _ _ _ h hP hS (lv_sub hl [0, 1, 2] rfl)
    · rw [if_neg c5] at h
      refine lv_iload_n hx hb dX11_mean_15 rfl (lv_at hl 2 rfl) ?_
      refine lv_bipush (v := 20) hx hb dX11_mean_16 (by decide) ?_
      refine lv_icmp_gt (tgt := 25) hx hb dX11_mean_18 (by decide) (fun c6 => ?_) (fun c6 => ?_)
      · rw [if_pos c6] at h
        exact hJ25  _ _ _ _ h hP hS (lv_sub hl [0, 1, 2] rfl)
      · rw [if_neg c6] at h
        refine lv_iconst (v := 1) hx hb dX11_mean_21 (by decide) ?_
        refine lv_goto (tgt := 26) hx hb dX11_mean_22 (by decide) ?_
        exact hJ26 _ _ _ _ _ h hP hS (lv_sub hl [0, 1, 2] rfl)
theorem dX11_markAt_0 : decode cX11_markAt 0 = .ok (.iload_n 1, 1) := by decide +kernel
theorem dX11_markAt_1 : decode cX11_markAt 1 = .ok (.aload_n 0, 1) := by decide +kernel
theorem dX11_markAt_2 : decode cX11_markAt 2 = .ok (.getfield 19, 3) := by decide +kernel
theorem dX11_markAt_5 : decode cX11_markAt 5 = .ok (.arraylength, 1) := by decide +kernel
theorem dX11_markAt_6 : decode cX11_markAt 6 = .ok (.invokestatic 104, 3) := by decide +kernel
theorem dX11_markAt_9 : decode cX11_markAt 9 = .ok (.ifCond .eq 12, 3) := by decide +kernel
theorem dX11_markAt_12 : decode cX11_markAt 12 = .ok (.aload_n 0, 1) := by decide +kernel
theorem dX11_markAt_13 : decode cX11_markAt 13 = .ok (.getfield 19, 3) := by decide +kernel
theorem dX11_markAt_16 : decode cX11_markAt 16 = .ok (.iload_n 1, 1) := by decide +kernel
theorem dX11_markAt_17 : decode cX11_markAt 17 = .ok (.aaload, 1) := by decide +kernel
theorem dX11_markAt_18 : decode cX11_markAt 18 = .ok (.goto 7, 3) := by decide +kernel
theorem dX11_markAt_21 : decode cX11_markAt 21 = .ok (.aload_n 0, 1) := by decide +kernel
theorem dX11_markAt_22 : decode cX11_markAt 22 = .ok (.getfield 16, 3) := by decide +kernel
theorem dX11_markAt_25 : decode cX11_markAt 25 = .ok (.astore_n 2, 1) := by decide +kernel
theorem dX11_markAt_26 : decode cX11_markAt 26 = .ok (.aload_n 2, 1) := by decide +kernel
theorem dX11_markAt_27 : decode cX11_markAt 27 = .ok (.ifnull 7, 3) := by decide +kernel
theorem dX11_markAt_30 : decode cX11_markAt 30 = .ok (.aload_n 2, 1) := by decide +kernel
theorem dX11_markAt_31 : decode cX11_markAt 31 = .ok (.goto 7, 3) := by decide +kernel
theorem dX11_markAt_34 : decode cX11_markAt 34 = .ok (.aload_n 0, 1) := by decide +kernel
theorem dX11_markAt_35 : decode cX11_markAt 35 = .ok (.getfield 16, 3) := by decide +kernel
theorem dX11_markAt_38 : decode cX11_markAt 38 = .ok (.areturn, 1) := by decide +kernel
set_option maxRecDepth 100000 in
set_option maxHeartbeats 8000000 in
theorem c_X11_markAt (l : Launch) (D : va_G) (cA : Nat → ClassId) (q aK aV : Nat → Nat) (hq : injG 167 q) {a1 : Int32} {M M0 : Mem} {r0 : Nat} (h : f_X11_markAt a1 M = some (r0, M0)) : Met l yX11_markAt (.code yX11_markAt cX11_markAt 3 (some (.object "CatWitness$Court")) :: BW) ({ frames := 2, cells := 0, slots := 0, locals := 34 } : Room) (va_Pc [.ref (q 0), .int a1] (CB 167 (ceC cA q) D cA q aK aV M)) (Qr 167 (ceC cA q) D q r0 M0) 0 0 (AqG 167 q) := by
  refine gMet RX11 (by decide +kernel) rfl hq (Nat.le_of_ble_eq_true rfl) ?_
  intro p e s m below meth c ls X hr hk hP hS hl
  have hx := X.1
  have hb := X.2.1
  have hl : lv_has ls 3 [(0, .ref (q 0)), (1, .int a1)] := hl
  rw [f_X11_markAt] at h
  have hJ25 : ∀ (s0 : Nat) (hs0 : shC s0 = 0) (M : Mem) (H : Heap) (locs : List Loc) (ls : Array Slot), f_X11_markAt_J25 s0 M = some (r0, M0) → va_P D vwCl (wsG 167 (ceC cA q) q M) H → va_S (AqG 167 q) s.heap H locs → lv_has ls 3 [(0, .ref (q 0))] → W p l e ({ frames := 2, cells := 0, slots := 0, locals := 34 } : Room) s m [.ref (q 0), .int a1].toArray below meth c H locs 0 0 (MQ below (Qr 167 (ceC cA q) D q r0 M0) [.ref (q 0), .int a1].toArray s 0 0 (AqG 167 q)) (F0 m 25 ls [.ref (q s0)]) := by
    intro s0 hs0 M H locs ls h hP hS hl
    rw [f_X11_markAt_J25] at h
    refine lv_astore_n (lv' := [(2, .ref (q s0)), (0, .ref (q 0))]) hx hb dX11_markAt_25 rfl hl (by decide) rfl (fun ls hl => ?_)
    refine lv_aload_n hx hb dX11_markAt_26 rfl (lv_at hl 0 rfl) ?_
    refine lv_ifnull hx hb dX11_markAt_27 ?_
    refine lv_aload_n hx hb dX11_markAt_30 rfl (lv_at hl 0 rfl) ?_
    refine lv_goto (tgt := 38) hx hb dX11_markAt_31 (by decide) ?_
    exact end_r X hr (Or.inl ⟨_, rfl⟩) hk hP hS h dX11_markAt_38
  refine lv_iload_n hx hb dX11_markAt_0 rfl (lv_at hl 1 rfl) ?_
  refine lv_aload_n hx hb dX11_markAt_1 rfl (lv_at hl 0 rfl) ?_
  refine gfC_11_2 X hP sC_0 bw_432 dX11_markAt_2 ?_
  refine alC_26 X hP sC_1 zC_1 (v := 3) rfl dX11_markAt_5 ?_
  obtain ⟨r1, M2, hc3, h⟩ := bnd_inv h
  refine gS_i (As := [.int a1, .int (3 : Int32)]) X hP hS hl.1 (c_X11_within l D cA q aK aV hq hc3) sf_X11_within bw_504 ss_X11_within ⟨rfl, rfl⟩ ⟨Nat.le_of_ble_eq_true rfl, Nat.le_of_ble_eq_true rfl⟩ rfl rfl (Nat.le_of_ble_eq_true rfl) dX11_markAt_6 (fun H locs hP hS => ?_)
  refine lv_if_eq (tgt := 21) hx hb dX11_markAt_9 (by decide) (fun c4 => ?_) (fun c4 => ?_)
  · rw [if_pos c4] at h
    refine lv_aload_n hx hb dX11_markAt_21 rfl (lv_at hl 0 rfl) ?_
    refine gfC_11_1 X hP sC_0 bw_431 dX11_markAt_22 ?_
    obtain ⟨g5, h⟩ := gd_inv h
    have g5 := Decidable.not_not.mp g5
    exact hJ25 _ g5 _ _ _ _ h hP hS (lv_sub hl [0] rfl)
  · rw [if_neg c4] at h
    refine lv_aload_n hx hb dX11_markAt_12 rfl (lv_at hl 0 rfl) ?_
    refine gfC_11_2 X hP sC_0 bw_432 dX11_markAt_13 ?_
    refine lv_iload_n hx hb dX11_markAt_16 rfl (lv_at hl 1 rfl) ?_
    obtain ⟨g6, h⟩ := gd_inv h
    refine ldC_r26 X hP sC_1 zC_1 g6 dX11_markAt_17 ?_
    refine lv_goto (tgt := 25) hx hb dX11_markAt_18 (by decide) ?_
    exact hJ25 _ (kC_26 sC_1 g6) _ _ _ _ h hP hS (lv_sub hl [0] rfl)
theorem dX11_mark_0 : decode cX11_mark 0 = .ok (.aload_n 0, 1) := by decide +kernel
theorem dX11_mark_1 : decode cX11_mark 1 = .ok (.getfield 23, 3) := by decide +kernel
theorem dX11_mark_4 : decode cX11_mark 4 = .ok (.iconst 3, 1) := by decide +kernel
theorem dX11_mark_5 : decode cX11_mark 5 = .ok (.if_icmp .lt 9, 3) := by decide +kernel
theorem dX11_mark_8 : decode cX11_mark 8 = .ok (.aload_n 0, 1) := by decide +kernel
theorem dX11_mark_9 : decode cX11_mark 9 = .ok (.iconst 4, 1) := by decide +kernel
theorem dX11_mark_10 : decode cX11_mark 10 = .ok (.invokevirtual 132, 3) := by decide +kernel
theorem dX11_mark_13 : decode cX11_mark 13 = .ok (.ireturn, 1) := by decide +kernel
theorem dX11_mark_14 : decode cX11_mark 14 = .ok (.aload_n 0, 1) := by decide +kernel
theorem dX11_mark_15 : decode cX11_mark 15 = .ok (.aload_n 0, 1) := by decide +kernel
theorem dX11_mark_16 : decode cX11_mark 16 = .ok (.getfield 23, 3) := by decide +kernel
theorem dX11_mark_19 : decode cX11_mark 19 = .ok (.invokevirtual 425, 3) := by decide +kernel
theorem dX11_mark_22 : decode cX11_mark 22 = .ok (.aload_n 0, 1) := by decide +kernel
theorem dX11_mark_23 : decode cX11_mark 23 = .ok (.getfield 10, 3) := by decide +kernel
theorem dX11_mark_26 : decode cX11_mark 26 = .ok (.invokevirtual 324, 3) := by decide +kernel
theorem dX11_mark_29 : decode cX11_mark 29 = .ok (.aload_n 0, 1) := by decide +kernel
theorem dX11_mark_30 : decode cX11_mark 30 = .ok (.dup, 1) := by decide +kernel
theorem dX11_mark_31 : decode cX11_mark 31 = .ok (.getfield 23, 3) := by decide +kernel
theorem dX11_mark_34 : decode cX11_mark 34 = .ok (.iconst 1, 1) := by decide +kernel
theorem dX11_mark_35 : decode cX11_mark 35 = .ok (.iadd, 1) := by decide +kernel
theorem dX11_mark_36 : decode cX11_mark 36 = .ok (.putfield 23, 3) := by decide +kernel
theorem dX11_mark_39 : decode cX11_mark 39 = .ok (.aload_n 0, 1) := by decide +kernel
theorem dX11_mark_40 : decode cX11_mark 40 = .ok (.aload_n 0, 1) := by decide +kernel
theorem dX11_mark_41 : decode cX11_mark 41 = .ok (.getfield 23, 3) := by decide +kernel
theorem dX11_mark_44 : decode cX11_mark 44 = .ok (.invokevirtual 191, 3) := by decide +kernel
theorem dX11_mark_47 : decode cX11_mark 47 = .ok (.ireturn, 1) := by decide +kernel
set_option maxRecDepth 100000 in
set_option maxHeartbeats 8000000 in
theorem c_X11_mark (l : Launch) (D : va_G) (cA : Nat → ClassId) (q aK aV : Nat → Nat) (hq : injG 167 q) {M M0 : Mem} {r0 : Int32} (h : f_X11_mark M = some (r0, M0)) : Met l yX11_mark (.code yX11_mark cX11_mark 1 (some .int) :: BW) ({ frames := 4, cells := 0, slots := 0, locals := 79 } : Room) (va_Pc [.ref (q 0)] (CB 167 (ceC cA q) D cA q aK aV M)) (Qi 167 (ceC cA q) D q r0 M0) 0 0 (AqG 167 q) := by
  refine gMet RX11 (by decide +kernel) rfl hq (Nat.le_of_ble_eq_true rfl) ?_
  intro p e s m below meth c ls X hr hk hP hS hl
  have hx := X.1
  have hb := X.2.1
  have hl : lv_has ls 1 [(0, .ref (q 0))] := hl
  rw [f_X11_mark] at h
  refine lv_aload_n hx hb dX11_mark_0 rfl (lv_at hl 0 rfl) ?_
  refine gfC_11_3 X hP sC_0 bw_433 dX11_mark_1 ?_
  refine lv_iconst (v := 3) hx hb dX11_mark_4 (by decide) ?_
  refine lv_icmp_lt (tgt := 14) hx hb dX11_mark_5 (by decide) (fun c1 => ?_) (fun c1 => ?_)
  · rw [if_pos c1] at h
    refine lv_aload_n hx hb dX11_mark_14 rfl (lv_at hl 0 rfl) ?_
    refine lv_aload_n hx hb dX11_mark_15 rfl (lv_at hl 0 rfl) ?_
    refine gfC_11_3 X hP sC_0 bw_433 dX11_mark_16 ?_
    obtain ⟨r2, M3, hc4, h⟩ := bnd_inv h
    refine gV_r (As := [.int (gI M 0 3)]) X hP hS hl.1 (c_X11_markAt l D cA q aK aV hq hc4) sf_X11_markAt bw_1305 sv_X11_markAt (rcC_11 sC_0) rfl ⟨rfl, rfl⟩ ⟨Nat.le_of_ble_eq_true rfl, Nat.le_of_ble_eq_true rfl⟩ rfl rfl (Nat.le_of_ble_eq_true rfl) dX11_mark_19 (fun H locs hP hS => ?_)
    obtain ⟨g5, h⟩ := gd_inv h
    have g5 := Decidable.not_not.mp g5
    refine lv_aload_n hx hb dX11_mark_22 rfl (lv_at hl 0 rfl) ?_
    refine gfC_11_0 X hP sC_0 bw_430 dX11_mark_23 ?_
    obtain ⟨g6, h⟩ := gd_inv h
    have g6 := Decidable.not_not.mp g6
    obtain ⟨_, M8, hc9, h⟩ := bnd_inv h
    refine gV_v (As := [.ref (q (gR M3 0 0))]) X hP hS hl.1 (c_X0_copyFrom l D cA q aK aV hq g5 g6 hc9) sf_X0_copyFrom bw_994 sv_X0_copyFrom (rcC_0 g5) rfl ⟨rfl, rfl⟩ ⟨Nat.le_of_ble_eq_true rfl, Nat.le_of_ble_eq_true rfl⟩ rfl rfl (Nat.le_of_ble_eq_true rfl) dX11_mark_26 (fun H locs hP hS => ?_)
    refine lv_aload_n hx hb dX11_mark_29 rfl (lv_at hl 0 rfl) ?_
    refine lv_dup hx hb dX11_mark_30 rfl ?_
    refine gfC_11_3 X hP sC_0 bw_433 dX11_mark_31 ?_
    refine lv_iconst (v := 1) hx hb dX11_mark_34 (by decide) ?_
    refine lv_iadd hx hb dX11_mark_35 ?_
    obtain ⟨M10, eM10, h⟩ := lt_inv h
    refine pfC_11_3 X hP hS sC_0 bw_433 eM10 dX11_mark_36 (fun H locs hP hS => ?_)
    refine lv_aload_n hx hb dX11_mark_39 rfl (lv_at hl 0 rfl) ?_
    refine lv_aload_n hx hb dX11_mark_40 rfl (lv_at hl 0 rfl) ?_
    refine gfC_11_3 X hP sC_0 bw_433 dX11_mark_41 ?_
    obtain ⟨r11, M12, hc13, h⟩ := bnd_inv h
    refine gV_i (As := [.int (gI M10 0 3)]) X hP hS hl.1 (c_X11_given l D cA q aK aV hq hc13) sf_X11_given bw_755 sv_X11_given (rcC_11 sC_0) rfl ⟨rfl, rfl⟩ ⟨Nat.le_of_ble_eq_true rfl, Nat.le_of_ble_eq_true rfl⟩ rfl rfl (Nat.le_of_ble_eq_true rfl) dX11_mark_44 (fun H locs hP hS => ?_)
    exact end_i X hr hk hP hS h dX11_mark_47
  · rw [if_neg c1] at h
    refine lv_aload_n hx hb dX11_mark_8 rfl (lv_at hl 0 rfl) ?_
    refine lv_iconst (v := 4) hx hb dX11_mark_9 (by decide) ?_
    obtain ⟨r14, M15, hc16, h⟩ := bnd_inv h
    refine gV_i (As := [.int (4 : Int32)]) X hP hS hl.1 (c_X11_refused l D cA q aK aV hq hc16) sf_X11_refused bw_552 sv_X11_refused (rcC_11 sC_0) rfl ⟨rfl, rfl⟩ ⟨Nat.le_of_ble_eq_true rfl, Nat.le_of_ble_eq_true rfl⟩ rfl rfl (Nat.le_of_ble_eq_true rfl) dX11_mark_10 (fun H locs hP hS => ?_)
    exact end_i X hr hk hP hS h dX11_mark_13
theorem dX11_undo_0 : decode cX11_undo 0 = .ok (.aload_n 0, 1) := by decide +kernel
theorem dX11_undo_1 : decode cX11_undo 1 = .ok (.getfield 23, 3) := by decide +kernel
theorem dX11_undo_4 : decode cX11_undo 4 = .ok (.ifCond .gt 10, 3) := by decide +kernel
theorem dX11_undo_7 : decode cX11_undo 7 = .ok (.aload_n 0, 1) := by decide +kernel
theorem dX11_undo_8 : decode cX11_undo 8 = .ok (.bipush 6, 2) := by decide +kernel
theorem dX11_undo_10 : decode cX11_undo 10 = .ok (.invokevirtual 132, 3) := by decide +kernel
theorem dX11_undo_13 : decode cX11_undo 13 = .ok (.ireturn, 1) := by decide +kernel
theorem dX11_undo_14 : decode cX11_undo 14 = .ok (.aload_n 0, 1) := by decide +kernel
theorem dX11_undo_15 : decode cX11_undo 15 = .ok (.dup, 1) := by decide +kernel
theorem dX11_undo_16 : decode cX11_undo 16 = .ok (.getfield 23, 3) := by decide +kernel
theorem dX11_undo_19 : decode cX11_undo 19 = .ok (.iconst 1, 1) := by decide +kernel
theorem dX11_undo_20 : decode cX11_undo 20 = .ok (.isub, 1) := by decide +kernel
theorem dX11_undo_21 : decode cX11_undo 21 = .ok (.putfield 23, 3) := by decide +kernel
theorem dX11_undo_24 : decode cX11_undo 24 = .ok (.aload_n 0, 1) := by decide +kernel
theorem dX11_undo_25 : decode cX11_undo 25 = .ok (.getfield 10, 3) := by decide +kernel
theorem dX11_undo_28 : decode cX11_undo 28 = .ok (.aload_n 0, 1) := by decide +kernel
theorem dX11_undo_29 : decode cX11_undo 29 = .ok (.aload_n 0, 1) := by decide +kernel
theorem dX11_undo_30 : decode cX11_undo 30 = .ok (.getfield 23, 3) := by decide +kernel
theorem dX11_undo_33 : decode cX11_undo 33 = .ok (.invokevirtual 425, 3) := by decide +kernel
theorem dX11_undo_36 : decode cX11_undo 36 = .ok (.invokevirtual 324, 3) := by decide +kernel
theorem dX11_undo_39 : decode cX11_undo 39 = .ok (.aload_n 0, 1) := by decide +kernel
theorem dX11_undo_40 : decode cX11_undo 40 = .ok (.aload_n 0, 1) := by decide +kernel
theorem dX11_undo_41 : decode cX11_undo 41 = .ok (.getfield 23, 3) := by decide +kernel
theorem dX11_undo_44 : decode cX11_undo 44 = .ok (.invokevirtual 191, 3) := by decide +kernel
theorem dX11_undo_47 : decode cX11_undo 47 = .ok (.ireturn, 1) := by decide +kernel
set_option maxRecDepth 100000 in
set_option maxHeartbeats 8000000 in
theorem c_X11_undo (l : Launch) (D : va_G) (cA : Nat → ClassId) (q aK aV : Nat → Nat) (hq : injG 167 q) {M M0 : Mem} {r0 : Int32} (h : f_X11_undo M = some (r0, M0)) : Met l yX11_undo (.code yX11_undo cX11_undo 1 (some .int) :: BW) ({ frames := 4, cells := 0, slots := 0, locals := 79 } : Room) (va_Pc [.ref (q 0)] (CB 167 (ceC cA q) D cA q aK aV M)) (Qi 167 (ceC cA q) D q r0 M0) 0 0 (AqG 167 q) := by
  refine gMet RX11 (by decide +kernel) rfl hq (Nat.le_of_ble_eq_true rfl) ?_
  intro p e s m below meth c ls X hr hk hP hS hl
  have hx := X.1
  have hb := X.2.1
  have hl : lv_has ls 1 [(0, .ref (q 0))] := hl
  rw [f_X11_undo] at h
  refine lv_aload_n hx hb dX11_undo_0 rfl (lv_at hl 0 rfl) ?_
  refine gfC_11_3 X hP sC_0 bw_433 dX11_undo_1 ?_
  refine lv_if_gt (tgt := 14) hx hb dX11_undo_4 (by decide) (fun c1 => ?_) (fun c1 => ?_)
  · rw [if_pos c1] at h
    refine lv_aload_n hx hb dX11_undo_14 rfl (lv_at hl 0 rfl) ?_
    refine lv_dup hx hb dX11_undo_15 rfl ?_
    refine gfC_11_3 X hP sC_0 bw_433 dX11_undo_16 ?_
    refine lv_iconst (v := 1) hx hb dX11_undo_19 (by decide) ?_
    refine lv_isub hx hb dX11_undo_20 ?_
    obtain ⟨M2, eM2, h⟩ := lt_inv h
    refine pfC_11_3 X hP hS sC_0 bw_433 eM2 dX11_undo_21 (fun H locs hP hS => ?_)
    refine lv_aload_n hx hb dX11_undo_24 rfl (lv_at hl 0 rfl) ?_
    refine gfC_11_0 X hP sC_0 bw_430 dX11_undo_25 ?_
    obtain ⟨g3, h⟩ := gd_inv h
    have g3 := Decidable.not_not.mp g3
    refine lv_aload_n hx hb dX11_undo_28 rfl (lv_at hl 0 rfl) ?_
    refine lv_aload_n hx hb dX11_undo_29 rfl (lv_at hl 0 rfl) ?_
    refine gfC_11_3 X hP sC_0 bw_433 dX11_undo_30 ?_
    obtain ⟨r4, M5, hc6, h⟩ := bnd_inv h
    refine gV_r (As := [.int (gI M2 0 3)]) X hP hS hl.1 (c_X11_markAt l D cA q aK aV hq hc6) sf_X11_markAt bw_1305 sv_X11_markAt (rcC_11 sC_0) rfl ⟨rfl, rfl⟩ ⟨Nat.le_of_ble_eq_true rfl, Nat.le_of_ble_eq_true rfl⟩ rfl rfl (Nat.le_of_ble_eq_true rfl) dX11_undo_33 (fun H locs hP hS => ?_)
    obtain ⟨g7, h⟩ := gd_inv h
    have g7 := Decidable.not_not.mp g7
    obtain ⟨_, M9, hc10, h⟩ := bnd_inv h
    refine gV_v (As := [.ref (q r4)]) X hP hS hl.1 (c_X0_copyFrom l D cA q aK aV hq g3 g7 hc10) sf_X0_copyFrom bw_994 sv_X0_copyFrom (rcC_0 g3) rfl ⟨rfl, rfl⟩ ⟨Nat.le_of_ble_eq_true rfl, Nat.le_of_ble_eq_true rfl⟩ rfl rfl (Nat.le_of_ble_eq_true rfl) dX11_undo_36 (fun H locs hP hS => ?_)
    refine lv_aload_n hx hb dX11_undo_39 rfl (lv_at hl 0 rfl) ?_
    refine lv_aload_n hx hb dX11_undo_40 rfl (lv_at hl 0 rfl) ?_
    refine gfC_11_3 X hP sC_0 bw_433 dX11_undo_41 ?_
    obtain ⟨r11, M12, hc13, h⟩ := bnd_inv h
    refine gV_i (As := [.int (gI M9 0 3)]) X hP hS hl.1 (c_X11_given l D cA q aK aV hq hc13) sf_X11_given bw_755 sv_X11_given (rcC_11 sC_0) rfl ⟨rfl, rfl⟩ ⟨Nat.le_of_ble_eq_true rfl, Nat.le_of_ble_eq_true rfl⟩ rfl rfl (Nat.le_of_ble_eq_true rfl) dX11_undo_44 (fun H locs hP hS => ?_)
    exact end_i X hr hk hP hS h dX11_undo_47
  · rw [if_neg c1] at h
    refine lv_aload_n hx hb dX11_undo_7 rfl (lv_at hl 0 rfl) ?_
    refine lv_bipush (v := 6) hx hb dX11_undo_8 (by decide) ?_
    obtain ⟨r14, M15, hc16, h⟩ := bnd_inv h
    refine gV_i (As := [.int (6 : Int32)]) X hP hS hl.1 (c_X11_refused l D cA q aK aV hq hc16) sf_X11_refused bw_552 sv_X11_refused (rcC_11 sC_0) rfl ⟨rfl, rfl⟩ ⟨Nat.le_of_ble_eq_true rfl, Nat.le_of_ble_eq_true rfl⟩ rfl rfl (Nat.le_of_ble_eq_true rfl) dX11_undo_10 (fun H locs hP hS => ?_)
    exact end_i X hr hk hP hS h dX11_undo_13
theorem dX12_plain_0 : decode cX12_plain 0 = .ok (.iconst 0, 1) := by decide +kernel
theorem dX12_plain_1 : decode cX12_plain 1 = .ok (.istore_n 2, 1) := by decide +kernel
theorem dX12_plain_2 : decode cX12_plain 2 = .ok (.iload_n 2, 1) := by decide +kernel
theorem dX12_plain_3 : decode cX12_plain 3 = .ok (.sipush 502, 3) := by decide +kernel
theorem dX12_plain_6 : decode cX12_plain 6 = .ok (.if_icmp .ge 18, 3) := by decide +kernel
theorem dX12_plain_9 : decode cX12_plain 9 = .ok (.aload_n 0, 1) := by decide +kernel
theorem dX12_plain_10 : decode cX12_plain 10 = .ok (.getfield 7, 3) := by decide +kernel
theorem dX12_plain_13 : decode cX12_plain 13 = .ok (.iload_n 1, 1) := by decide +kernel
theorem dX12_plain_14 : decode cX12_plain 14 = .ok (.iload_n 2, 1) := by decide +kernel
theorem dX12_plain_15 : decode cX12_plain 15 = .ok (.iadd, 1) := by decide +kernel
theorem dX12_plain_16 : decode cX12_plain 16 = .ok (.iconst 0, 1) := by decide +kernel
theorem dX12_plain_17 : decode cX12_plain 17 = .ok (.iastore, 1) := by decide +kernel
theorem dX12_plain_18 : decode cX12_plain 18 = .ok (.iinc 2 1, 3) := by decide +kernel
theorem dX12_plain_21 : decode cX12_plain 21 = .ok (.goto (-19), 3) := by decide +kernel
theorem dX12_plain_24 : decode cX12_plain 24 = .ok (.aload_n 0, 1) := by decide +kernel
theorem dX12_plain_25 : decode cX12_plain 25 = .ok (.getfield 7, 3) := by decide +kernel
theorem dX12_plain_28 : decode cX12_plain 28 = .ok (.iload_n 1, 1) := by decide +kernel
theorem dX12_plain_29 : decode cX12_plain 29 = .ok (.bipush 8, 2) := by decide +kernel
theorem dX12_plain_31 : decode cX12_plain 31 = .ok (.iadd, 1) := by decide +kernel
theorem dX12_plain_32 : decode cX12_plain 32 = .ok (.iconst (-1), 1) := by decide +kernel
theorem dX12_plain_33 : decode cX12_plain 33 = .ok (.iastore, 1) := by decide +kernel
theorem dX12_plain_34 : decode cX12_plain 34 = .ok (.return_, 1) := by decide +kernel
set_option maxRecDepth 100000 in
set_option maxHeartbeats 8000000 in
theorem c_X12_plain (l : Launch) (D : va_G) (cA : Nat → ClassId) (q aK aV : Nat → Nat) (hq : injG 20 q) {a1 : Int32} {M M0 : Mem} (h : f_X12_plain a1 M = some ((), M0)) : Met l yX12_plain (.code yX12_plain cX12_plain 3 none :: BW) ({ frames := 1, cells := 0, slots := 0, locals := 14 } : Room) (va_Pc [.ref (q 0), .int a1] (CB 20 (ceR cA q) D cA q aK aV M)) (Qv 20 (ceR cA q) D q M0) 0 0 (AqG 20 q) := by
  refine gMet RX12 (by decide +kernel) rfl hq (Nat.le_of_ble_eq_true rfl) ?_
  intro p e s m below meth c ls X hr hk hP hS hl
  have hx := X.1
  have hb := X.2.1
  have hl : lv_has ls 3 [(0, .ref (q 0)), (1, .int a1)] := hl
  rw [f_X12_plain] at h
  have hL2 : ∀ (fu : Nat) (b2 : Int32) (M : Mem) (res : (Unit) × Mem) (H : Heap) (locs : List Loc) (ls : Array Slot), f_X12_plain_L2 a1 fu b2 M = some res → va_P D vwCl (wsG 20 (ceR cA q) q M) H → va_S (AqG 20 q) s.heap H locs → lv_has ls 3 [(0, .ref (q 0)), (1, .int a1), (2, .int b2)] → (∀ (H : Heap) (locs : List Loc) (ls : Array Slot), va_P D vwCl (wsG 20 (ceR cA q) q res.2) H → va_S (AqG 20 q) s.heap H locs → lv_has ls 3 [(0, .ref (q 0)), (1, .int a1)] → W p l e ({ frames := 1, cells := 0, slots := 0, locals := 14 } : Room) s m [.ref (q 0), .int a1].toArray below meth c H locs 0 0 (MQ below (Qv 20 (ceR cA q) D q M0) [.ref (q 0), .int a1].toArray s 0 0 (AqG 20 q)) (F0 m 24 ls [])) → W p l e ({ frames := 1, cells := 0, slots := 0, locals := 14 } : Room) s m [.ref (q 0), .int a1].toArray below meth c H locs 0 0 (MQ below (Qv 20 (ceR cA q) D q M0) [.ref (q 0), .int a1].toArray s 0 0 (AqG 20 q)) (F0 m 2 ls []) := by
    intro fu
    induction fu with
    | zero => intro b2 M res H locs ls h; exact absurd h (by simp [f_X12_plain_L2])
    | succ fu ih =>
      intro b2 M res H locs ls h hP hS hl K2_0
      rw [f_X12_plain_L2] at h
      refine lv_iload_n hx hb dX12_plain_2 rfl (lv_at hl 2 rfl) ?_
      refine lv_sipush (v := 502) hx hb dX12_plain_3 (by decide) ?_
      refine lv_icmp_ge (tgt := 24) hx hb dX12_plain_6 (by decide) (fun c6 => ?_) (fun c6 => ?_)
      · rw [if_pos c6] at h
        cases h
        exact K2_0 _ _ _ hP hS (lv_sub hl [0, 1] rfl)
      · rw [if_neg c6] at h
        refine lv_aload_n hx hb dX12_plain_9 rfl (lv_at hl 0 rfl) ?_
        refine gfR_12_0 X hP sR_0 bw_1323 dX12_plain_10 ?_
        refine lv_iload_n hx hb dX12_plain_13 rfl (lv_at hl 1 rfl) ?_
        refine lv_iload_n hx hb dX12_plain_14 rfl (lv_at hl 2 rfl) ?_
        refine lv_iadd hx hb dX12_plain_15 ?_
        refine lv_iconst (v := 0) hx hb dX12_plain_16 (by decide) ?_
        obtain ⟨g7, h⟩ := gd_inv h
        obtain ⟨M8, eM8, h⟩ := lt_inv h
        refine stR_ia X hP hS sR_1 zR_1 g7 eM8 dX12_plain_17 (fun H locs hP hS => ?_)
        obtain ⟨y9, ey9, h⟩ := lt_inv h
        refine lv_iinc (v := y9) (lv' := [(2, .int y9), (0, .ref (q 0)), (1, .int a1)]) hx hb dX12_plain_18 hl (k := 2) rfl (by rw [ey9]; rfl) (by decide) rfl (fun ls hl => ?_)
        refine lv_goto (tgt := 2) hx hb dX12_plain_21 (by decide) ?_
        exact ih _ _ res _ _ _ h hP hS (lv_sub hl [1, 2, 0] rfl) K2_0
  refine lv_iconst (v := 0) hx hb dX12_plain_0 (by decide) ?_
  refine lv_istore_n (lv' := [(2, .int (0 : Int32)), (0, .ref (q 0)), (1, .int a1)]) hx hb dX12_plain_1 rfl hl (by decide) rfl (fun ls hl => ?_)
  obtain ⟨s1, M2, hc3, h⟩ := bnd_inv h
  try dsimp only at h
  refine hL2  fz _ _ _ _ _ _ hc3 hP hS (lv_sub hl [1, 2, 0] rfl) (fun H locs ls hP hS hl => ?_)
  have hl : lv_has ls 3 [(0, .ref (q 0)), (1, .int a1)] := hl
  refine lv_aload_n hx hb dX12_plain_24 rfl (lv_at hl 0 rfl) ?_
  refine gfR_12_0 X hP sR_0 bw_1323 dX12_plain_25 ?_
  refine lv_iload_n hx hb dX12_plain_28 rfl (lv_at hl 1 rfl) ?_
  refine lv_bipush (v := 8) hx hb dX12_plain_29 (by decide) ?_
  refine lv_iadd hx hb dX12_plain_31 ?_
  refine lv_iconst (v := -1) hx hb dX12_plain_32 (by decide) ?_
  obtain ⟨g4, h⟩ := gd_inv h
  obtain ⟨M5, eM5, h⟩ := lt_inv h
  refine stR_ia X hP hS sR_1 zR_1 g4 eM5 dX12_plain_33 (fun H locs hP hS => ?_)
  exact end_v X hr hk hP hS h dX12_plain_34
theorem dX12_status_0 : decode cX12_status 0 = .ok (.aload_n 0, 1) := by decide +kernel
theorem dX12_status_1 : decode cX12_status 1 = .ok (.getfield 85, 3) := by decide +kernel
theorem dX12_status_4 : decode cX12_status 4 = .ok (.ireturn, 1) := by decide +kernel
set_option maxRecDepth 100000 in
set_option maxHeartbeats 8000000 in
theorem c_X12_status (l : Launch) (D : va_G) (cA : Nat → ClassId) (q aK aV : Nat → Nat) (hq : injG 20 q) {M M0 : Mem} {r0 : Int32} (h : f_X12_status M = some (r0, M0)) : Met l yX12_status (.code yX12_status cX12_status 1 (some .int) :: BW) ({ frames := 1, cells := 0, slots := 0, locals := 12 } : Room) (va_Pc [.ref (q 0)] (CB 20 (ceR cA q) D cA q aK aV M)) (Qi 20 (ceR cA q) D q r0 M0) 0 0 (AqG 20 q) := by
  refine gMet RX12 (by decide +kernel) rfl hq (Nat.le_of_ble_eq_true rfl) ?_
  intro p e s m below meth c ls X hr hk hP hS hl
  have hx := X.1
  have hb := X.2.1
  have hl : lv_has ls 1 [(0, .ref (q 0))] := hl
  rw [f_X12_status] at h
  refine lv_aload_n hx hb dX12_status_0 rfl (lv_at hl 0 rfl) ?_
  refine gfR_12_2 X hP sR_0 bw_1325 dX12_status_1 ?_
  exact end_i X hr hk hP hS h dX12_status_4
theorem dX12_top_0 : decode cX12_top 0 = .ok (.aload_n 0, 1) := by decide +kernel
theorem dX12_top_1 : decode cX12_top 1 = .ok (.getfield 88, 3) := by decide +kernel
theorem dX12_top_4 : decode cX12_top 4 = .ok (.lreturn, 1) := by decide +kernel
set_option maxRecDepth 100000 in
set_option maxHeartbeats 8000000 in
theorem c_X12_top (l : Launch) (D : va_G) (cA : Nat → ClassId) (q aK aV : Nat → Nat) (hq : injG 20 q) {M M0 : Mem} {r0 : Int64} (h : f_X12_top M = some (r0, M0)) : Met l yX12_top (.code yX12_top cX12_top 1 (some .long) :: BW) ({ frames := 1, cells := 0, slots := 0, locals := 12 } : Room) (va_Pc [.ref (q 0)] (CB 20 (ceR cA q) D cA q aK aV M)) (Ql 20 (ceR cA q) D q r0 M0) 0 0 (AqG 20 q) := by
  refine gMet RX12 (by decide +kernel) rfl hq (Nat.le_of_ble_eq_true rfl) ?_
  intro p e s m below meth c ls X hr hk hP hS hl
  have hx := X.1
  have hb := X.2.1
  have hl : lv_has ls 1 [(0, .ref (q 0))] := hl
  rw [f_X12_top] at h
  refine lv_aload_n hx hb dX12_top_0 rfl (lv_at hl 0 rfl) ?_
  refine gfR_12_3 X hP sR_0 bw_1326 dX12_top_1 ?_
  exact end_l X hr hk hP hS h dX12_top_4
theorem dX12_bottom_0 : decode cX12_bottom 0 = .ok (.aload_n 0, 1) := by decide +kernel
theorem dX12_bottom_1 : decode cX12_bottom 1 = .ok (.getfield 17, 3) := by decide +kernel
theorem dX12_bottom_4 : decode cX12_bottom 4 = .ok (.lreturn, 1) := by decide +kernel
set_option maxRecDepth 100000 in
set_option maxHeartbeats 8000000 in
theorem c_X12_bottom (l : Launch) (D : va_G) (cA : Nat → ClassId) (q aK aV : Nat → Nat) (hq : injG 20 q) {M M0 : Mem} {r0 : Int64} (h : f_X12_bottom M = some (r0, M0)) : Met l yX12_bottom (.code yX12_bottom cX12_bottom 1 (some .long) :: BW) ({ frames := 1, cells := 0, slots := 0, locals := 12 } : Room) (va_Pc [.ref (q 0)] (CB 20 (ceR cA q) D cA q aK aV M)) (Ql 20 (ceR cA q) D q r0 M0) 0 0 (AqG 20 q) := by
  refine gMet RX12 (by decide +kernel) rfl hq (Nat.le_of_ble_eq_true rfl) ?_
  intro p e s m below meth c ls X hr hk hP hS hl
  have hx := X.1
  have hb := X.2.1
  have hl : lv_has ls 1 [(0, .ref (q 0))] := hl
  rw [f_X12_bottom] at h
  refine lv_aload_n hx hb dX12_bottom_0 rfl (lv_at hl 0 rfl) ?_
  refine gfR_12_4 X hP sR_0 bw_1327 dX12_bottom_1 ?_
  exact end_l X hr hk hP hS h dX12_bottom_4
theorem dX12_is_0 : decode cX12_is 0 = .ok (.aload_n 0, 1) := by decide +kernel
theorem dX12_is_1 : decode cX12_is 1 = .ok (.iload_n 1, 1) := by decide +kernel
theorem dX12_is_2 : decode cX12_is 2 = .ok (.putfield 85, 3) := by decide +kernel
theorem dX12_is_5 : decode cX12_is 5 = .ok (.iload_n 1, 1) := by decide +kernel
theorem dX12_is_6 : decode cX12_is 6 = .ok (.ifCond .ne 7, 3) := by decide +kernel
theorem dX12_is_9 : decode cX12_is 9 = .ok (.iconst 1, 1) := by decide +kernel
theorem dX12_is_10 : decode cX12_is 10 = .ok (.goto 4, 3) := by decide +kernel
theorem dX12_is_13 : decode cX12_is 13 = .ok (.iconst 0, 1) := by decide +kernel
theorem dX12_is_14 : decode cX12_is 14 = .ok (.ireturn, 1) := by decide +kernel
set_option maxRecDepth 100000 in
set_option maxHeartbeats 8000000 in
theorem c_X12_is (l : Launch) (D : va_G) (cA : Nat → ClassId) (q aK aV : Nat → Nat) (hq : injG 20 q) {a1 : Int32} {M M0 : Mem} {r0 : Int32} (h : f_X12_is a1 M = some (r0, M0)) : Met l yX12_is (.code yX12_is cX12_is 2 (some .boolean) :: BW) ({ frames := 1, cells := 0, slots := 0, locals := 13 } : Room) (va_Pc [.ref (q 0), .int a1] (CB 20 (ceR cA q) D cA q aK aV M)) (Qi 20 (ceR cA q) D q r0 M0) 0 0 (AqG 20 q) := by
  refine gMet RX12 (by decide +kernel) rfl hq (Nat.le_of_ble_eq_true rfl) ?_
  intro p e s m below meth c ls X hr hk hP hS hl
  have hx := X.1
  have hb := X.2.1
  have hl : lv_has ls 2 [(0, .ref (q 0)), (1, .int a1)] := hl
  rw [f_X12_is] at h
  refine lv_aload_n hx hb dX12_is_0 rfl (lv_at hl 0 rfl) ?_
  refine lv_iload_n hx hb dX12_is_1 rfl (lv_at hl 1 rfl) ?_
  obtain ⟨M1, eM1, h⟩ := lt_inv h
  refine pfR_12_2 X hP hS sR_0 bw_1325 eM1 dX12_is_2 (fun H locs hP hS => ?_)
  refine lv_iload_n hx hb dX12_is_5 rfl (lv_at hl 1 rfl) ?_
  refine lv_if_ne (tgt := 13) hx hb dX12_is_6 (by decide) (fun c2 => ?_) (fun c2 => ?_)
  · rw [if_neg c2] at h
    refine lv_iconst (v := 0) hx hb dX12_is_13 (by decide) ?_
    exact end_z X hr hk hP hS (Or.inl rfl) h dX12_is_14
  · rw [if_pos c2] at h
    refine lv_iconst (v := 1) hx hb dX12_is_9 (by decide) ?_
    refine lv_goto (tgt := 14) hx hb dX12_is_10 (by decide) ?_
    exact end_z X hr hk hP hS (Or.inr rfl) h dX12_is_14
theorem dX12_refuse_0 : decode cX12_refuse 0 = .ok (.aload_n 0, 1) := by decide +kernel
theorem dX12_refuse_1 : decode cX12_refuse 1 = .ok (.iload_n 1, 1) := by decide +kernel
theorem dX12_refuse_2 : decode cX12_refuse 2 = .ok (.putfield 85, 3) := by decide +kernel
theorem dX12_refuse_5 : decode cX12_refuse 5 = .ok (.iconst (-1), 1) := by decide +kernel
theorem dX12_refuse_6 : decode cX12_refuse 6 = .ok (.ireturn, 1) := by decide +kernel
set_option maxRecDepth 100000 in
set_option maxHeartbeats 8000000 in
theorem c_X12_refuse (l : Launch) (D : va_G) (cA : Nat → ClassId) (q aK aV : Nat → Nat) (hq : injG 20 q) {a1 : Int32} {M M0 : Mem} {r0 : Int32} (h : f_X12_refuse a1 M = some (r0, M0)) : Met l yX12_refuse (.code yX12_refuse cX12_refuse 2 (some .int) :: BW) ({ frames := 1, cells := 0, slots := 0, locals := 13 } : Room) (va_Pc [.ref (q 0), .int a1] (CB 20 (ceR cA q) D cA q aK aV M)) (Qi 20 (ceR cA q) D q r0 M0) 0 0 (AqG 20 q) := by
  refine gMet RX12 (by decide +kernel) rfl hq (Nat.le_of_ble_eq_true rfl) ?_
  intro p e s m below meth c ls X hr hk hP hS hl
  have hx := X.1
  have hb := X.2.1
  have hl : lv_has ls 2 [(0, .ref (q 0)), (1, .int a1)] := hl
  rw [f_X12_refuse] at h
  refine lv_aload_n hx hb dX12_refuse_0 rfl (lv_at hl 0 rfl) ?_
  refine lv_iload_n hx hb dX12_refuse_1 rfl (lv_at hl 1 rfl) ?_
  obtain ⟨M1, eM1, h⟩ := lt_inv h
  refine pfR_12_2 X hP hS sR_0 bw_1325 eM1 dX12_refuse_2 (fun H locs hP hS => ?_)
  refine lv_iconst (v := -1) hx hb dX12_refuse_5 (by decide) ?_
  exact end_i X hr hk hP hS h dX12_refuse_6
theorem dX12_gives_0 : decode cX12_gives 0 = .ok (.aload_n 0, 1) := by decide +kernel
theorem dX12_gives_1 : decode cX12_gives 1 = .ok (.iconst 0, 1) := by decide +kernel
theorem dX12_gives_2 : decode cX12_gives 2 = .ok (.putfield 85, 3) := by decide +kernel
theorem dX12_gives_5 : decode cX12_gives 5 = .ok (.iload_n 1, 1) := by decide +kernel
theorem dX12_gives_6 : decode cX12_gives 6 = .ok (.ireturn, 1) := by decide +kernel
set_option maxRecDepth 100000 in
set_option maxHeartbeats 8000000 in
theorem c_X12_gives (l : Launch) (D : va_G) (cA : Nat → ClassId) (q aK aV : Nat → Nat) (hq : injG 20 q) {a1 : Int32} {M M0 : Mem} {r0 : Int32} (h : f_X12_gives a1 M = some (r0, M0)) : Met l yX12_gives (.code yX12_gives cX12_gives 2 (some .int) :: BW) ({ frames := 1, cells := 0, slots := 0, locals := 13 } : Room) (va_Pc [.ref (q 0), .int a1] (CB 20 (ceR cA q) D cA q aK aV M)) (Qi 20 (ceR cA q) D q r0 M0) 0 0 (AqG 20 q) := by
  refine gMet RX12 (by decide +kernel) rfl hq (Nat.le_of_ble_eq_true rfl) ?_
  intro p e s m below meth c ls X hr hk hP hS hl
  have hx := X.1
  have hb := X.2.1
  have hl : lv_has ls 2 [(0, .ref (q 0)), (1, .int a1)] := hl
  rw [f_X12_gives] at h
  refine lv_aload_n hx hb dX12_gives_0 rfl (lv_at hl 0 rfl) ?_
  refine lv_iconst (v := 0) hx hb dX12_gives_1 (by decide) ?_
  obtain ⟨M1, eM1, h⟩ := lt_inv h
  refine pfR_12_2 X hP hS sR_0 bw_1325 eM1 dX12_gives_2 (fun H locs hP hS => ?_)
  refine lv_iload_n hx hb dX12_gives_5 rfl (lv_at hl 1 rfl) ?_
  exact end_i X hr hk hP hS h dX12_gives_6
theorem dX12_orNone_0 : decode cX12_orNone 0 = .ok (.iload_n 1, 1) := by decide +kernel
theorem dX12_orNone_1 : decode cX12_orNone 1 = .ok (.iconst (-1), 1) := by decide +kernel
theorem dX12_orNone_2 : decode cX12_orNone 2 = .ok (.if_icmp .ne 12, 3) := by decide +kernel
theorem dX12_orNone_5 : decode cX12_orNone 5 = .ok (.aload_n 0, 1) := by decide +kernel
theorem dX12_orNone_6 : decode cX12_orNone 6 = .ok (.bipush 6, 2) := by decide +kernel
theorem dX12_orNone_8 : decode cX12_orNone 8 = .ok (.invokevirtual 91, 3) := by decide +kernel
theorem dX12_orNone_11 : decode cX12_orNone 11 = .ok (.goto 8, 3) := by decide +kernel
theorem dX12_orNone_14 : decode cX12_orNone 14 = .ok (.aload_n 0, 1) := by decide +kernel
theorem dX12_orNone_15 : decode cX12_orNone 15 = .ok (.iload_n 1, 1) := by decide +kernel
theorem dX12_orNone_16 : decode cX12_orNone 16 = .ok (.invokevirtual 95, 3) := by decide +kernel
theorem dX12_orNone_19 : decode cX12_orNone 19 = .ok (.ireturn, 1) := by decide +kernel
set_option maxRecDepth 100000 in
set_option maxHeartbeats 8000000 in
theorem c_X12_orNone (l : Launch) (D : va_G) (cA : Nat → ClassId) (q aK aV : Nat → Nat) (hq : injG 20 q) {a1 : Int32} {M M0 : Mem} {r0 : Int32} (h : f_X12_orNone a1 M = some (r0, M0)) : Met l yX12_orNone (.code yX12_orNone cX12_orNone 2 (some .int) :: BW) ({ frames := 2, cells := 0, slots := 0, locals := 34 } : Room) (va_Pc [.ref (q 0), .int a1] (CB 20 (ceR cA q) D cA q aK aV M)) (Qi 20 (ceR cA q) D q r0 M0) 0 0 (AqG 20 q) := by
  refine gMet RX12 (by decide +kernel) rfl hq (Nat.le_of_ble_eq_true rfl) ?_
  intro p e s m below meth c ls X hr hk hP hS hl
  have hx := X.1
  have hb := X.2.1
  have hl : lv_has ls 2 [(0, .ref (q 0)), (1, .int a1)] := hl
  rw [f_X12_orNone] at h
  refine lv_iload_n hx hb dX12_orNone_0 rfl (lv_at hl 1 rfl) ?_
  refine lv_iconst (v := -1) hx hb dX12_orNone_1 (by decide) ?_
  refine lv_icmp_ne (tgt := 14) hx hb dX12_orNone_2 (by decide) (fun c1 => ?_) (fun c1 => ?_)
  · rw [if_neg c1] at h
    refine lv_aload_n hx hb dX12_orNone_14 rfl (lv_at hl 0 rfl) ?_
    refine lv_iload_n hx hb dX12_orNone_15 rfl (lv_at hl 1 rfl) ?_
    obtain ⟨r2, M3, hc4, h⟩ := bnd_inv h
    refine gV_i (As := [.int a1]) X hP hS hl.1 (c_X12_gives l D cA q aK aV hq hc4) sf_X12_gives bw_1639 sv_X12_gives (rcR_12 sR_0) rfl ⟨rfl, rfl⟩ ⟨Nat.le_of_ble_eq_true rfl, Nat.le_of_ble_eq_true rfl⟩ rfl rfl (Nat.le_of_ble_eq_true rfl) dX12_orNone_16 (fun H locs hP hS => ?_)
    exact end_i X hr hk hP hS h dX12_orNone_19
  · rw [if_pos c1] at h
    refine lv_aload_n hx hb dX12_orNone_5 rfl (lv_at hl 0 rfl) ?_
    refine lv_bipush (v := 6) hx hb dX12_orNone_6 (by decide) ?_
    obtain ⟨r5, M6, hc7, h⟩ := bnd_inv h
    refine gV_i (As := [.int (6 : Int32)]) X hP hS hl.1 (c_X12_refuse l D cA q aK aV hq hc7) sf_X12_refuse bw_1530 sv_X12_refuse (rcR_12 sR_0) rfl ⟨rfl, rfl⟩ ⟨Nat.le_of_ble_eq_true rfl, Nat.le_of_ble_eq_true rfl⟩ rfl rfl (Nat.le_of_ble_eq_true rfl) dX12_orNone_8 (fun H locs hP hS => ?_)
    refine lv_goto (tgt := 19) hx hb dX12_orNone_11 (by decide) ?_
    exact end_i X hr hk hP hS h dX12_orNone_19
theorem dX12_tellsBy_0 : decode cX12_tellsBy 0 = .ok (.lload_n 1, 1) := by decide +kernel
theorem dX12_tellsBy_1 : decode cX12_tellsBy 1 = .ok (.lstore 5, 2) := by decide +kernel
theorem dX12_tellsBy_3 : decode cX12_tellsBy 3 = .ok (.lload_n 3, 1) := by decide +kernel
theorem dX12_tellsBy_4 : decode cX12_tellsBy 4 = .ok (.lstore 7, 2) := by decide +kernel
theorem dX12_tellsBy_6 : decode cX12_tellsBy 6 = .ok (.lload 7, 2) := by decide +kernel
theorem dX12_tellsBy_8 : decode cX12_tellsBy 8 = .ok (.lconst 0, 1) := by decide +kernel
theorem dX12_tellsBy_9 : decode cX12_tellsBy 9 = .ok (.lcmp, 1) := by decide +kernel
theorem dX12_tellsBy_10 : decode cX12_tellsBy 10 = .ok (.ifCond .eq 21, 3) := by decide +kernel
theorem dX12_tellsBy_13 : decode cX12_tellsBy 13 = .ok (.lload 5, 2) := by decide +kernel
theorem dX12_tellsBy_15 : decode cX12_tellsBy 15 = .ok (.lload 7, 2) := by decide +kernel
theorem dX12_tellsBy_17 : decode cX12_tellsBy 17 = .ok (.lrem, 1) := by decide +kernel
theorem dX12_tellsBy_18 : decode cX12_tellsBy 18 = .ok (.lstore 9, 2) := by decide +kernel
theorem dX12_tellsBy_20 : decode cX12_tellsBy 20 = .ok (.lload 7, 2) := by decide +kernel
theorem dX12_tellsBy_22 : decode cX12_tellsBy 22 = .ok (.lstore 5, 2) := by decide +kernel
theorem dX12_tellsBy_24 : decode cX12_tellsBy 24 = .ok (.lload 9, 2) := by decide +kernel
theorem dX12_tellsBy_26 : decode cX12_tellsBy 26 = .ok (.lstore 7, 2) := by decide +kernel
theorem dX12_tellsBy_28 : decode cX12_tellsBy 28 = .ok (.goto (-22), 3) := by decide +kernel
theorem dX12_tellsBy_31 : decode cX12_tellsBy 31 = .ok (.aload_n 0, 1) := by decide +kernel
theorem dX12_tellsBy_32 : decode cX12_tellsBy 32 = .ok (.lload_n 1, 1) := by decide +kernel
theorem dX12_tellsBy_33 : decode cX12_tellsBy 33 = .ok (.lload 5, 2) := by decide +kernel
theorem dX12_tellsBy_35 : decode cX12_tellsBy 35 = .ok (.ldiv, 1) := by decide +kernel
theorem dX12_tellsBy_36 : decode cX12_tellsBy 36 = .ok (.putfield 88, 3) := by decide +kernel
theorem dX12_tellsBy_39 : decode cX12_tellsBy 39 = .ok (.aload_n 0, 1) := by decide +kernel
theorem dX12_tellsBy_40 : decode cX12_tellsBy 40 = .ok (.lload_n 3, 1) := by decide +kernel
theorem dX12_tellsBy_41 : decode cX12_tellsBy 41 = .ok (.lload 5, 2) := by decide +kernel
theorem dX12_tellsBy_43 : decode cX12_tellsBy 43 = .ok (.ldiv, 1) := by decide +kernel
theorem dX12_tellsBy_44 : decode cX12_tellsBy 44 = .ok (.putfield 17, 3) := by decide +kernel
theorem dX12_tellsBy_47 : decode cX12_tellsBy 47 = .ok (.aload_n 0, 1) := by decide +kernel
theorem dX12_tellsBy_48 : decode cX12_tellsBy 48 = .ok (.iconst 0, 1) := by decide +kernel
theorem dX12_tellsBy_49 : decode cX12_tellsBy 49 = .ok (.invokevirtual 98, 3) := by decide +kernel
theorem dX12_tellsBy_52 : decode cX12_tellsBy 52 = .ok (.ireturn, 1) := by decide +kernel
set_option maxRecDepth 100000 in
set_option maxHeartbeats 8000000 in
theorem c_X12_tellsBy (l : Launch) (D : va_G) (cA : Nat → ClassId) (q aK aV : Nat → Nat) (hq : injG 20 q) {a1 : Int64} {a3 : Int64} {M M0 : Mem} {r0 : Int32} (h : f_X12_tellsBy a1 a3 M = some (r0, M0)) : Met l yX12_tellsBy (.code yX12_tellsBy cX12_tellsBy 11 (some .boolean) :: BW) ({ frames := 2, cells := 0, slots := 0, locals := 34 } : Room) (va_Pc [.ref (q 0), .long a1, .long a3] (CB 20 (ceR cA q) D cA q aK aV M)) (Qi 20 (ceR cA q) D q r0 M0) 0 0 (AqG 20 q) := by
  refine gMet RX12 (by decide +kernel) rfl hq (Nat.le_of_ble_eq_true rfl) ?_
  intro p e s m below meth c ls X hr hk hP hS hl
  have hx := X.1
  have hb := X.2.1
  have hl : lv_has ls 11 [(0, .ref (q 0)), (1, .long a1), (3, .long a3)] := hl
  rw [f_X12_tellsBy] at h
  have hL6 : ∀ (fu : Nat) (b5 : Int64) (b7 : Int64) (M : Mem) (res : (Int64) × Mem) (H : Heap) (locs : List Loc) (ls : Array Slot), f_X12_tellsBy_L6 a1 a3 fu b5 b7 M = some res → va_P D vwCl (wsG 20 (ceR cA q) q M) H → va_S (AqG 20 q) s.heap H locs → lv_has ls 11 [(0, .ref (q 0)), (1, .long a1), (3, .long a3), (5, .long b5), (7, .long b7)] → (∀ (H : Heap) (locs : List Loc) (ls : Array Slot), va_P D vwCl (wsG 20 (ceR cA q) q res.2) H → va_S (AqG 20 q) s.heap H locs → lv_has ls 11 [(0, .ref (q 0)), (1, .long a1), (3, .long a3), (5, .long (res.1))] → W p l e ({ frames := 2, cells := 0, slots := 0, locals := 34 } : Room) s m [.ref (q 0), .long a1, .long a3].toArray below meth c H locs 0 0 (MQ below (Qi 20 (ceR cA q) D q r0 M0) [.ref (q 0), .long a1, .long a3].toArray s 0 0 (AqG 20 q)) (F0 m 31 ls [])) → W p l e ({ frames := 2, cells := 0, slots := 0, locals := 34 } : Room) s m [.ref (q 0), .long a1, .long a3].toArray below meth c H locs 0 0 (MQ below (Qi 20 (ceR cA q) D q r0 M0) [.ref (q 0), .long a1, .long a3].toArray s 0 0 (AqG 20 q)) (F0 m 6 ls []) := by
    intro fu
    induction fu with
    | zero => intro b5 b7 M res H locs ls h; exact absurd h (by simp [f_X12_tellsBy_L6])
    | succ fu ih =>
      intro b5 b7 M res H locs ls h hP hS hl K6_0
      rw [f_X12_tellsBy_L6] at h
      refine lv_lload hx hb dX12_tellsBy_6 (lv_at hl 4 rfl) ?_
      refine lv_lconst (v := 0) hx hb dX12_tellsBy_8 (by decide) ?_
      refine W.lcmp hx hb dX12_tellsBy_9 ?_
      refine lv_if_eq (tgt := 31) hx hb dX12_tellsBy_10 (by decide) (fun c13 => ?_) (fun c13 => ?_)
      · rw [if_pos c13] at h
        cases h
        exact K6_0 _ _ _ hP hS (lv_sub hl [0, 1, 2, 3] rfl)
      · rw [if_neg c13] at h
        refine lv_lload hx hb dX12_tellsBy_13 (lv_at hl 3 rfl) ?_
        refine lv_lload hx hb dX12_tellsBy_15 (lv_at hl 4 rfl) ?_
        obtain ⟨g14, h⟩ := gd_inv h
        refine lv_lrem hx hb dX12_tellsBy_17 g14 ?_
        obtain ⟨y15, ey15, h⟩ := lt_inv h
        refine topL ey15 ?_
        refine lv_lstore (lv' := [(9, .long y15), (0, .ref (q 0)), (1, .long a1), (3, .long a3), (5, .long b5), (7, .long b7)]) hx hb dX12_tellsBy_18 hl (by decide) rfl (fun ls hl => ?_)
        refine lv_lload hx hb dX12_tellsBy_20 (lv_at hl 5 rfl) ?_
        refine lv_lstore (lv' := [(5, .long b7), (9, .long y15), (0, .ref (q 0)), (1, .long a1), (3, .long a3), (7, .long b7)]) hx hb dX12_tellsBy_22 hl (by decide) rfl (fun ls hl => ?_)
        refine lv_lload hx hb dX12_tellsBy_24 (lv_at hl 1 rfl) ?_
        refine lv_lstore (lv' := [(7, .long y15), (5, .long b7), (9, .long y15), (0, .ref (q 0)), (1, .long a1), (3, .long a3)]) hx hb dX12_tellsBy_26 hl (by decide) rfl (fun ls hl => ?_)
        refine lv_goto (tgt := 6) hx hb dX12_tellsBy_28 (by decide) ?_
        exact ih _ _ _ res _ _ _ h hP hS (lv_sub hl [3, 4, 5, 1, 0] rfl) K6_0
  refine lv_lload_n hx hb dX12_tellsBy_0 rfl (lv_at hl 1 rfl) ?_
  refine lv_lstore (lv' := [(5, .long a1), (0, .ref (q 0)), (1, .long a1), (3, .long a3)]) hx hb dX12_tellsBy_1 hl (by decide) rfl (fun ls hl => ?_)
  refine lv_lload_n hx hb dX12_tellsBy_3 rfl (lv_at hl 3 rfl) ?_
  refine lv_lstore (lv' := [(7, .long a3), (5, .long a1), (0, .ref (q 0)), (1, .long a1), (3, .long a3)]) hx hb dX12_tellsBy_4 hl (by decide) rfl (fun ls hl => ?_)
  obtain ⟨s1, M2, hc3, h⟩ := bnd_inv h
  obtain ⟨x4, rfl⟩ : ∃ z, z = s1 := ⟨_, rfl⟩
  try dsimp only at h
  refine hL6  fz _ _ _ _ _ _ _ hc3 hP hS (lv_sub hl [2, 3, 4, 1, 0] rfl) (fun H locs ls hP hS hl => ?_)
  have hl : lv_has ls 11 [(0, .ref (q 0)), (1, .long a1), (3, .long a3), (5, .long x4)] := hl
  refine lv_aload_n hx hb dX12_tellsBy_31 rfl (lv_at hl 0 rfl) ?_
  refine lv_lload_n hx hb dX12_tellsBy_32 rfl (lv_at hl 1 rfl) ?_
  refine lv_lload hx hb dX12_tellsBy_33 (lv_at hl 3 rfl) ?_
  obtain ⟨g5, h⟩ := gd_inv h
  refine lv_ldiv hx hb dX12_tellsBy_35 g5 ?_
  obtain ⟨M6, eM6, h⟩ := lt_inv h
  refine pfR_12_3 X hP hS sR_0 bw_1326 eM6 dX12_tellsBy_36 (fun H locs hP hS => ?_)
  refine lv_aload_n hx hb dX12_tellsBy_39 rfl (lv_at hl 0 rfl) ?_
  refine lv_lload_n hx hb dX12_tellsBy_40 rfl (lv_at hl 2 rfl) ?_
  refine lv_lload hx hb dX12_tellsBy_41 (lv_at hl 3 rfl) ?_
  obtain ⟨g7, h⟩ := gd_inv h
  refine lv_ldiv hx hb dX12_tellsBy_43 g7 ?_
  obtain ⟨M8, eM8, h⟩ := lt_inv h
  refine pfR_12_4 X hP hS sR_0 bw_1327 eM8 dX12_tellsBy_44 (fun H locs hP hS => ?_)
  refine lv_aload_n hx hb dX12_tellsBy_47 rfl (lv_at hl 0 rfl) ?_
  refine lv_iconst (v := 0) hx hb dX12_tellsBy_48 (by decide) ?_
  obtain ⟨r9, M10, hc11, h⟩ := bnd_inv h
  refine gV_i (As := [.int (0 : Int32)]) X hP hS hl.1 (c_X12_is l D cA q aK aV hq hc11) sf_X12_is bw_1470 sv_X12_is (rcR_12 sR_0) rfl ⟨rfl, rfl⟩ ⟨Nat.le_of_ble_eq_true rfl, Nat.le_of_ble_eq_true rfl⟩ rfl rfl (Nat.le_of_ble_eq_true rfl) dX12_tellsBy_49 (fun H locs hP hS => ?_)
  obtain ⟨g12, h⟩ := gd_inv h
  exact end_z X hr hk hP hS (Decidable.not_not.mp g12) h dX12_tellsBy_52
theorem dX12_isTray_0 : decode cX12_isTray 0 = .ok (.iload_n 0, 1) := by decide +kernel
theorem dX12_isTray_1 : decode cX12_isTray 1 = .ok (.ifCond .lt 12, 3) := by decide +kernel
theorem dX12_isTray_4 : decode cX12_isTray 4 = .ok (.iload_n 0, 1) := by decide +kernel
theorem dX12_isTray_5 : decode cX12_isTray 5 = .ok (.iconst 4, 1) := by decide +kernel
theorem dX12_isTray_6 : decode cX12_isTray 6 = .ok (.if_icmp .ge 7, 3) := by decide +kernel
theorem dX12_isTray_9 : decode cX12_isTray 9 = .ok (.iconst 1, 1) := by decide +kernel
theorem dX12_isTray_10 : decode cX12_isTray 10 = .ok (.goto 4, 3) := by decide +kernel
theorem dX12_isTray_13 : decode cX12_isTray 13 = .ok (.iconst 0, 1) := by decide +kernel
theorem dX12_isTray_14 : decode cX12_isTray 14 = .ok (.ireturn, 1) := by decide +kernel
set_option maxRecDepth 100000 in
set_option maxHeartbeats 8000000 in
theorem c_X12_isTray (l : Launch) (D : va_G) (cA : Nat → ClassId) (q aK aV : Nat → Nat) (hq : injG 20 q) {a0 : Int32} {M M0 : Mem} {r0 : Int32} (h : f_X12_isTray a0 M = some (r0, M0)) : Met l yX12_isTray (.code yX12_isTray cX12_isTray 1 (some .boolean) :: BW) ({ frames := 1, cells := 0, slots := 0, locals := 12 } : Room) (va_Pc [.int a0] (CB 20 (ceR cA q) D cA q aK aV M)) (Qi 20 (ceR cA q) D q r0 M0) 0 0 (AqG 20 q) := by
  refine gMet RX12 (by decide +kernel) rfl hq (Nat.le_of_ble_eq_true rfl) ?_
  intro p e s m below meth c ls X hr hk hP hS hl
  have hx := X.1
  have hb := X.2.1
  have hl : lv_has ls 1 [(0, .int a0)] := hl
  rw [f_X12_isTray] at h
  refine lv_iload_n hx hb dX12_isTray_0 rfl (lv_at hl 0 rfl) ?_
  refine lv_if_lt (tgt := 13) hx hb dX12_isTray_1 (by decide) (fun c1 => ?_) (fun c1 => ?_)
  · rw [if_pos c1] at h
    refine lv_iconst (v := 0) hx hb dX12_isTray_13 (by decide) ?_
    exact end_z X hr hk hP hS (Or.inl rfl) h dX12_isTray_14
  · rw [if_neg c1] at h
    refine lv_iload_n hx hb dX12_isTray_4 rfl (lv_at hl 0 rfl) ?_
    refine lv_iconst (v := 4) hx hb dX12_isTray_5 (by decide) ?_
    refine lv_icmp_ge (tgt := 13) hx hb dX12_isTray_6 (by decide) (fun c2 => ?_) (fun c2 => ?_)
    · rw [if_pos c2] at h
      refine lv_iconst (v := 0) hx hb dX12_isTray_13 (by decide) ?_
      exact end_z X hr hk hP hS (Or.inl rfl) h dX12_isTray_14
    · rw [if_neg c2] at h
      refine lv_iconst (v := 1) hx hb dX12_isTray_9 (by decide) ?_
      refine lv_goto (tgt := 14) hx hb dX12_isTray_10 (by decide) ?_
      exact end_z X hr hk hP hS (Or.inr rfl) h dX12_isTray_14
theorem dX12_cut_0 : decode cX12_cut 0 = .ok (.iload_n 2, 1) := by decide +kernel
theorem dX12_cut_1 : decode cX12_cut 1 = .ok (.ifCond .ne 10, 3) := by decide +kernel
theorem dX12_cut_4 : decode cX12_cut 4 = .ok (.lload_n 0, 1) := by decide +kernel
theorem dX12_cut_5 : decode cX12_cut 5 = .ok (.l2i, 1) := by decide +kernel
theorem dX12_cut_6 : decode cX12_cut 6 = .ok (.i2b, 1) := by decide +kernel
theorem dX12_cut_7 : decode cX12_cut 7 = .ok (.i2l, 1) := by decide +kernel
theorem dX12_cut_8 : decode cX12_cut 8 = .ok (.goto 27, 3) := by decide +kernel
theorem dX12_cut_11 : decode cX12_cut 11 = .ok (.iload_n 2, 1) := by decide +kernel
theorem dX12_cut_12 : decode cX12_cut 12 = .ok (.iconst 1, 1) := by decide +kernel
theorem dX12_cut_13 : decode cX12_cut 13 = .ok (.if_icmp .ne 10, 3) := by decide +kernel
theorem dX12_cut_16 : decode cX12_cut 16 = .ok (.lload_n 0, 1) := by decide +kernel
theorem dX12_cut_17 : decode cX12_cut 17 = .ok (.l2i, 1) := by decide +kernel
theorem dX12_cut_18 : decode cX12_cut 18 = .ok (.i2s, 1) := by decide +kernel
theorem dX12_cut_19 : decode cX12_cut 19 = .ok (.i2l, 1) := by decide +kernel
theorem dX12_cut_20 : decode cX12_cut 20 = .ok (.goto 15, 3) := by decide +kernel
theorem dX12_cut_23 : decode cX12_cut 23 = .ok (.iload_n 2, 1) := by decide +kernel
theorem dX12_cut_24 : decode cX12_cut 24 = .ok (.iconst 2, 1) := by decide +kernel
theorem dX12_cut_25 : decode cX12_cut 25 = .ok (.if_icmp .ne 9, 3) := by decide +kernel
theorem dX12_cut_28 : decode cX12_cut 28 = .ok (.lload_n 0, 1) := by decide +kernel
theorem dX12_cut_29 : decode cX12_cut 29 = .ok (.l2i, 1) := by decide +kernel
theorem dX12_cut_30 : decode cX12_cut 30 = .ok (.i2l, 1) := by decide +kernel
theorem dX12_cut_31 : decode cX12_cut 31 = .ok (.goto 4, 3) := by decide +kernel
theorem dX12_cut_34 : decode cX12_cut 34 = .ok (.lload_n 0, 1) := by decide +kernel
theorem dX12_cut_35 : decode cX12_cut 35 = .ok (.lreturn, 1) := by decide +kernel
set_option maxRecDepth 100000 in
set_option maxHeartbeats 8000000 in
theorem c_X12_cut (l : Launch) (D : va_G) (cA : Nat → ClassId) (q aK aV : Nat → Nat) (hq : injG 20 q) {a0 : Int64} {a2 : Int32} {M M0 : Mem} {r0 : Int64} (h : f_X12_cut a0 a2 M = some (r0, M0)) : Met l yX12_cut (.code yX12_cut cX12_cut 3 (some .long) :: BW) ({ frames := 1, cells := 0, slots := 0, locals := 14 } : Room) (va_Pc [.long a0, .int a2] (CB 20 (ceR cA q) D cA q aK aV M)) (Ql 20 (ceR cA q) D q r0 M0) 0 0 (AqG 20 q) := by
  refine gMet RX12 (by decide +kernel) rfl hq (Nat.le_of_ble_eq_true rfl) ?_
  intro p e s m below meth c ls X hr hk hP hS hl
  have hx := X.1
  have hb := X.2.1
  have hl : lv_has ls 3 [(0, .long a0), (2, .int a2)] := hl
  rw [f_X12_cut] at h
  refine lv_iload_n hx hb dX12_cut_0 rfl (lv_at hl 1 rfl) ?_
  refine lv_if_ne (tgt := 11) hx hb dX12_cut_1 (by decide) (fun c1 => ?_) (fun c1 => ?_)
  · rw [if_neg c1] at h
    refine lv_iload_n hx hb dX12_cut_11 rfl (lv_at hl 1 rfl) ?_
    refine lv_iconst (v := 1) hx hb dX12_cut_12 (by decide) ?_
    refine lv_icmp_ne (tgt := 23) hx hb dX12_cut_13 (by decide) (fun c2 => ?_) (fun c2 => ?_)
    · rw [if_neg c2] at h
      refine lv_iload_n hx hb dX12_cut_23 rfl (lv_at hl 1 rfl) ?_
      refine lv_iconst (v := 2) hx hb dX12_cut_24 (by decide) ?_
      refine lv_icmp_ne (tgt := 34) hx hb dX12_cut_25 (by decide) (fun c3 => ?_) (fun c3 => ?_)
      · rw [if_neg c3] at h
        refine lv_lload_n hx hb dX12_cut_34 rfl (lv_at hl 0 rfl) ?_
        exact end_l X hr hk hP hS h dX12_cut_35
      · rw [if_pos c3] at h
        refine lv_lload_n hx hb dX12_cut_28 rfl (lv_at hl 0 rfl) ?_
        refine lv_l2i hx hb dX12_cut_29 rfl ?_
        refine lv_i2l hx hb dX12_cut_30 rfl ?_
        refine lv_goto (tgt := 35) hx hb dX12_cut_31 (by decide) ?_
        exact end_l X hr hk hP hS h dX12_cut_35
    · rw [if_pos c2] at h
      refine lv_lload_n hx hb dX12_cut_16 rfl (lv_at hl 0 rfl) ?_
      refine lv_l2i hx hb dX12_cut_17 rfl ?_
      refine lv_i2s hx hb dX12_cut_18 rfl ?_
      refine lv_i2l hx hb dX12_cut_19 rfl ?_
      refine lv_goto (tgt := 35) hx hb dX12_cut_20 (by decide) ?_
      exact end_l X hr hk hP hS h dX12_cut_35
  · rw [if_pos c1] at h
    refine lv_lload_n hx hb dX12_cut_4 rfl (lv_at hl 0 rfl) ?_
    refine lv_l2i hx hb dX12_cut_5 rfl ?_
    refine lv_i2b hx hb dX12_cut_6 rfl ?_
    refine lv_i2l hx hb dX12_cut_7 rfl ?_
    refine lv_goto (tgt := 35) hx hb dX12_cut_8 (by decide) ?_
    exact end_l X hr hk hP hS h dX12_cut_35
theorem dX12_tray_0 : decode cX12_tray 0 = .ok (.iload_n 1, 1) := by decide +kernel
theorem dX12_tray_1 : decode cX12_tray 1 = .ok (.invokestatic 102, 3) := by decide +kernel
theorem dX12_tray_4 : decode cX12_tray 4 = .ok (.ifCond .eq 22, 3) := by decide +kernel
theorem dX12_tray_7 : decode cX12_tray 7 = .ok (.iload_n 2, 1) := by decide +kernel
theorem dX12_tray_8 : decode cX12_tray 8 = .ok (.ifCond .lt 18, 3) := by decide +kernel
theorem dX12_tray_11 : decode cX12_tray 11 = .ok (.iload_n 2, 1) := by decide +kernel
theorem dX12_tray_12 : decode cX12_tray 12 = .ok (.iconst 3, 1) := by decide +kernel
theorem dX12_tray_13 : decode cX12_tray 13 = .ok (.if_icmp .gt 13, 3) := by decide +kernel
theorem dX12_tray_16 : decode cX12_tray 16 = .ok (.iload_n 3, 1) := by decide +kernel
theorem dX12_tray_17 : decode cX12_tray 17 = .ok (.ifCond .lt 9, 3) := by decide +kernel
theorem dX12_tray_20 : decode cX12_tray 20 = .ok (.iload_n 3, 1) := by decide +kernel
theorem dX12_tray_21 : decode cX12_tray 21 = .ok (.bipush 60, 2) := by decide +kernel
theorem dX12_tray_23 : decode cX12_tray 23 = .ok (.if_icmp .le 9, 3) := by decide +kernel
theorem dX12_tray_26 : decode cX12_tray 26 = .ok (.aload_n 0, 1) := by decide +kernel
theorem dX12_tray_27 : decode cX12_tray 27 = .ok (.iconst 1, 1) := by decide +kernel
theorem dX12_tray_28 : decode cX12_tray 28 = .ok (.invokevirtual 98, 3) := by decide +kernel
theorem dX12_tray_31 : decode cX12_tray 31 = .ok (.ireturn, 1) := by decide +kernel
theorem dX12_tray_32 : decode cX12_tray 32 = .ok (.aload_n 0, 1) := by decide +kernel
theorem dX12_tray_33 : decode cX12_tray 33 = .ok (.getfield 21, 3) := by decide +kernel
theorem dX12_tray_36 : decode cX12_tray 36 = .ok (.iload_n 1, 1) := by decide +kernel
theorem dX12_tray_37 : decode cX12_tray 37 = .ok (.iload_n 2, 1) := by decide +kernel
theorem dX12_tray_38 : decode cX12_tray 38 = .ok (.iastore, 1) := by decide +kernel
theorem dX12_tray_39 : decode cX12_tray 39 = .ok (.aload_n 0, 1) := by decide +kernel
theorem dX12_tray_40 : decode cX12_tray 40 = .ok (.getfield 24, 3) := by decide +kernel
theorem dX12_tray_43 : decode cX12_tray 43 = .ok (.iload_n 1, 1) := by decide +kernel
theorem dX12_tray_44 : decode cX12_tray 44 = .ok (.iload_n 3, 1) := by decide +kernel
theorem dX12_tray_45 : decode cX12_tray 45 = .ok (.iastore, 1) := by decide +kernel
theorem dX12_tray_46 : decode cX12_tray 46 = .ok (.iconst 0, 1) := by decide +kernel
theorem dX12_tray_47 : decode cX12_tray 47 = .ok (.istore 4, 2) := by decide +kernel
theorem dX12_tray_49 : decode cX12_tray 49 = .ok (.iload 4, 2) := by decide +kernel
theorem dX12_tray_51 : decode cX12_tray 51 = .ok (.iload_n 3, 1) := by decide +kernel
theorem dX12_tray_52 : decode cX12_tray 52 = .ok (.if_icmp .ge 22, 3) := by decide +kernel
theorem dX12_tray_55 : decode cX12_tray 55 = .ok (.aload_n 0, 1) := by decide +kernel
theorem dX12_tray_56 : decode cX12_tray 56 = .ok (.getfield 27, 3) := by decide +kernel
theorem dX12_tray_59 : decode cX12_tray 59 = .ok (.bipush 60, 2) := by decide +kernel
theorem dX12_tray_61 : decode cX12_tray 61 = .ok (.iload_n 1, 1) := by decide +kernel
theorem dX12_tray_62 : decode cX12_tray 62 = .ok (.imul, 1) := by decide +kernel
theorem dX12_tray_63 : decode cX12_tray 63 = .ok (.iload 4, 2) := by decide +kernel
theorem dX12_tray_65 : decode cX12_tray 65 = .ok (.iadd, 1) := by decide +kernel
theorem dX12_tray_66 : decode cX12_tray 66 = .ok (.lconst 0, 1) := by decide +kernel
theorem dX12_tray_67 : decode cX12_tray 67 = .ok (.lastore, 1) := by decide +kernel
theorem dX12_tray_68 : decode cX12_tray 68 = .ok (.iinc 4 1, 3) := by decide +kernel
theorem dX12_tray_71 : decode cX12_tray 71 = .ok (.goto (-22), 3) := by decide +kernel
theorem dX12_tray_74 : decode cX12_tray 74 = .ok (.aload_n 0, 1) := by decide +kernel
theorem dX12_tray_75 : decode cX12_tray 75 = .ok (.iconst 0, 1) := by decide +kernel
theorem dX12_tray_76 : decode cX12_tray 76 = .ok (.invokevirtual 98, 3) := by decide +kernel
theorem dX12_tray_79 : decode cX12_tray 79 = .ok (.ireturn, 1) := by decide +kernel
set_option maxRecDepth 100000 in
set_option maxHeartbeats 8000000 in
theorem c_X12_tray (l : Launch) (D : va_G) (cA : Nat → ClassId) (q aK aV : Nat → Nat) (hq : injG 20 q) {a1 : Int32} {a2 : Int32} {a3 : Int32} {M M0 : Mem} {r0 : Int32} (h : f_X12_tray a1 a2 a3 M = some (r0, M0)) : Met l yX12_tray (.code yX12_tray cX12_tray 5 (some .boolean) :: BW) ({ frames := 2, cells := 0, slots := 0, locals := 34 } : Room) (va_Pc [.ref (q 0), .int a1, .int a2, .int a3] (CB 20 (ceR cA q) D cA q aK aV M)) (Qi 20 (ceR cA q) D q r0 M0) 0 0 (AqG 20 q) := by
  refine gMet RX12 (by decide +kernel) rfl hq (Nat.le_of_ble_eq_true rfl) ?_
  intro p e s m below meth c ls X hr hk hP hS hl
  have hx := X.1
  have hb := X.2.1
  have hl : lv_has ls 5 [(0, .ref (q 0)), (1, .int a1), (2, .int a2), (3, .int a3)] := hl
  rw [f_X12_tray] at h
  have hL49 : ∀ (fu : Nat) (b4 : Int32) (M : Mem) (res : (Unit) × Mem) (H : Heap) (locs : List Loc) (ls : Array Slot), f_X12_tray_L49 a1 a3 fu b4 M = some res → va_P D vwCl (wsG 20 (ceR cA q) q M) H → va_S (AqG 20 q) s.heap H locs → lv_has ls 5 [(0, .ref (q 0)), (1, .int a1), (3, .int a3), (4, .int b4)] → (∀ (H : Heap) (locs : List Loc) (ls : Array Slot), va_P D vwCl (wsG 20 (ceR cA q) q res.2) H → va_S (AqG 20 q) s.heap H locs → lv_has ls 5 [(0, .ref (q 0))] → W p l e ({ frames := 2, cells := 0, slots := 0, locals := 34 } : Room) s m [.ref (q 0), .int a1, .int a2, .int a3].toArray below meth c H locs 0 0 (MQ below (Qi 20 (ceR cA q) D q r0 M0) [.ref (q 0), .int a1, .int a2, .int a3].toArray s 0 0 (AqG 20 q)) (F0 m 74 ls [])) → W p l e ({ frames := 2, cells := 0, slots := 0, locals := 34 } : Room) s m [.ref (q 0), .int a1, .int a2, .int a3].toArray below meth c H locs 0 0 (MQ below (Qi 20 (ceR cA q) D q r0 M0) [.ref (q 0), .int a1, .int a2, .int a3].toArray s 0 0 (AqG 20 q)) (F0 m 49 ls []) := by
    intro fu
    induction fu with
    | zero => intro b4 M res H locs ls h; exact absurd h (by simp [f_X12_tray_L49])
    | succ fu ih =>
      intro b4 M res H locs ls h hP hS hl K49_0
      rw [f_X12_tray_L49] at h
      refine lv_iload hx hb dX12_tray_49 (lv_at hl 3 rfl) ?_
      refine lv_iload_n hx hb dX12_tray_51 rfl (lv_at hl 2 rfl) ?_
      refine lv_icmp_ge (tgt := 74) hx hb dX12_tray_52 (by decide) (fun c40 => ?_) (fun c40 => ?_)
      · rw [if_pos c40] at h
        cases h
        exact K49_0 _ _ _ hP hS (lv_sub hl [0] rfl)
      · rw [if_neg c40] at h
        refine lv_aload_n hx hb dX12_tray_55 rfl (lv_at hl 0 rfl) ?_
        refine gfR_12_7 X hP sR_0 bw_1330 dX12_tray_56 ?_
        refine lv_bipush (v := 60) hx hb dX12_tray_59 (by decide) ?_
        refine lv_iload_n hx hb dX12_tray_61 rfl (lv_at hl 1 rfl) ?_
        refine lv_imul hx hb dX12_tray_62 ?_
        refine lv_iload hx hb dX12_tray_63 (lv_at hl 3 rfl) ?_
        refine lv_iadd hx hb dX12_tray_65 ?_
        refine lv_lconst (v := 0) hx hb dX12_tray_66 (by decide) ?_
        obtain ⟨g41, h⟩ := gd_inv h
        obtain ⟨M42, eM42, h⟩ := lt_inv h
        refine stR_la X hP hS sR_5 zR_5 g41 eM42 dX12_tray_67 (fun H locs hP hS => ?_)
        obtain ⟨y43, ey43, h⟩ := lt_inv h
        refine lv_iinc (v := y43) (lv' := [(4, .int y43), (0, .ref (q 0)), (1, .int a1), (3, .int a3)]) hx hb dX12_tray_68 hl (k := 3) rfl (by rw [ey43]; rfl) (by decide) rfl (fun ls hl => ?_)
        refine lv_goto (tgt := 49) hx hb dX12_tray_71 (by decide) ?_
        exact ih _ _ res _ _ _ h hP hS (lv_sub hl [1, 2, 3, 0] rfl) K49_0
  refine lv_iload_n hx hb dX12_tray_0 rfl (lv_at hl 1 rfl) ?_
  obtain ⟨r1, M2, hc3, h⟩ := bnd_inv h
  refine gS_i (As := [.int a1]) X hP hS hl.1 (c_X12_isTray l D cA q aK aV hq hc3) sf_X12_isTray bw_1467 ss_X12_isTray ⟨rfl, rfl⟩ ⟨Nat.le_of_ble_eq_true rfl, Nat.le_of_ble_eq_true rfl⟩ rfl rfl (Nat.le_of_ble_eq_true rfl) dX12_tray_1 (fun H locs hP hS => ?_)
  refine lv_if_eq (tgt := 26) hx hb dX12_tray_4 (by decide) (fun c4 => ?_) (fun c4 => ?_)
  · rw [if_pos c4] at h
    refine lv_aload_n hx hb dX12_tray_26 rfl (lv_at hl 0 rfl) ?_
    refine lv_iconst (v := 1) hx hb dX12_tray_27 (by decide) ?_
    obtain ⟨r5, M6, hc7, h⟩ := bnd_inv h
    refine gV_i (As := [.int (1 : Int32)]) X hP hS hl.1 (c_X12_is l D cA q aK aV hq hc7) sf_X12_is bw_1470 sv_X12_is (rcR_12 sR_0) rfl ⟨rfl, rfl⟩ ⟨Nat.le_of_ble_eq_true rfl, Nat.le_of_ble_eq_true rfl⟩ rfl rfl (Nat.le_of_ble_eq_true rfl) dX12_tray_28 (fun H locs hP hS => ?_)
    obtain ⟨g8, h⟩ := gd_inv h
    exact end_z X hr hk hP hS (Decidable.not_not.mp g8) h dX12_tray_31
  · rw [if_neg c4] at h
    refine lv_iload_n hx hb dX12_tray_7 rfl (lv_at hl 2 rfl) ?_
    refine lv_if_lt (tgt := 26) hx hb dX12_tray_8 (by decide) (fun c9 => ?_) (fun c9 => ?_)
    · rw [if_pos c9] at h
      refine lv_aload_n hx hb dX12_tray_26 rfl (lv_at hl 0 rfl) ?_
      refine lv_iconst (v := 1) hx hb dX12_tray_27 (by decide) ?_
      obtain ⟨r10, M11, hc12, h⟩ := bnd_inv h
      refine gV_i (As := [.int (1 : Int32)]) X hP hS hl.1 (c_X12_is l D cA q aK aV hq hc12) sf_X12_is bw_1470 sv_X12_is (rcR_12 sR_0) rfl ⟨rfl, rfl⟩ ⟨Nat.le_of_ble_eq_true rfl, Nat.le_of_ble_eq_true rfl⟩ rfl rfl (Nat.le_of_ble_eq_true rfl) dX12_tray_28 (fun H locs hP hS => ?_)
      obtain ⟨g13, h⟩ := gd_inv h
      exact end_z X hr hk hP hS (Decidable.not_not.mp g13) h dX12_tray_31
    · rw [if_neg c9] at h
      refine lv_iload_n hx hb dX12_tray_11 rfl (lv_at hl 2 rfl) ?_
      refine lv_iconst (v := 3) hx hb dX12_tray_12 (by decide) ?_
      refine lv_icmp_gt (tgt := 26) hx hb dX12_tray_13 (by decide) (fun c14 => ?_) (fun c14 => ?_)
      · rw [if_pos c14] at h
        refine lv_aload_n hx hb dX12_tray_26 rfl (lv_at hl 0 rfl) ?_
        refine lv_iconst (v := 1) hx hb dX12_tray_27 (by decide) ?_
        obtain ⟨r15, M16, hc17, h⟩ := bnd_inv h
        refine gV_i (As := [.int (1 : Int32)]) X hP hS hl.1 (c_X12_is l D cA q aK aV hq hc17) sf_X12_is bw_1470 sv_X12_is (rcR_12 sR_0) rfl ⟨rfl, rfl⟩ ⟨Nat.le_of_ble_eq_true rfl, Nat.le_of_ble_eq_true rfl⟩ rfl rfl (Nat.le_of_ble_eq_true rfl) dX12_tray_28 (fun H locs hP hS => ?_)
        obtain ⟨g18, h⟩ := gd_inv h
        exact end_z X hr hk hP hS (Decidable.not_not.mp g18) h dX12_tray_31
      · rw [if_neg c14] at h
        refine lv_iload_n hx hb dX12_tray_16 rfl (lv_at hl 3 rfl) ?_
        refine lv_if_lt (tgt := 26) hx hb dX12_tray_17 (by decide) (fun c19 => ?_) (fun c19 => ?_)
        · rw [if_pos c19] at h
          refine lv_aload_n hx hb dX12_tray_26 rfl (lv_at hl 0 rfl) ?_
          refine lv_iconst (v := 1) hx hb dX12_tray_27 (by decide) ?_
          obtain ⟨r20, M21, hc22, h⟩ := bnd_inv h
          refine gV_i (As := [.int (1 : Int32)]) X hP hS hl.1 (c_X12_is l D cA q aK aV hq hc22) sf_X12_is bw_1470 sv_X12_is (rcR_12 sR_0) rfl ⟨rfl, rfl⟩ ⟨Nat.le_of_ble_eq_true rfl, Nat.le_of_ble_eq_true rfl⟩ rfl rfl (Nat.le_of_ble_eq_true rfl) dX12_tray_28 (fun H locs hP hS => ?_)
          obtain ⟨g23, h⟩ := gd_inv h
          exact end_z X hr hk hP hS (Decidable.not_not.mp g23) h dX12_tray_31
        · rw [if_neg c19] at h
          refine lv_iload_n hx hb dX12_tray_20 rfl (lv_at hl 3 rfl) ?_
          refine lv_bipush (v := 60) hx hb dX12_tray_21 (by decide) ?_
          refine lv_icmp_le (tgt := 32) hx hb dX12_tray_23 (by decide) (fun c24 => ?_) (fun c24 => ?_)
          · rw [if_pos c24] at h
            refine lv_aload_n hx hb dX12_tray_32 rfl (lv_at hl 0 rfl) ?_
            refine gfR_12_5 X hP sR_0 bw_1328 dX12_tray_33 ?_
            refine lv_iload_n hx hb dX12_tray_36 rfl (lv_at hl 1 rfl) ?_
            refine lv_iload_n hx hb dX12_tray_37 rfl (lv_at hl 2 rfl) ?_
            obtain ⟨g25, h⟩ := gd_inv h
            obtain ⟨M26, eM26, h⟩ := lt_inv h
            refine stR_ia X hP hS sR_3 zR_3 g25 eM26 dX12_tray_38 (fun H locs hP hS => ?_)
            refine lv_aload_n hx hb dX12_tray_39 rfl (lv_at hl 0 rfl) ?_
            refine gfR_12_6 X hP sR_0 bw_1329 dX12_tray_40 ?_
            refine lv_iload_n hx hb dX12_tray_43 rfl (lv_at hl 1 rfl) ?_
            refine lv_iload_n hx hb dX12_tray_44 rfl (lv_at hl 3 rfl) ?_
            obtain ⟨g27, h⟩ := gd_inv h
            obtain ⟨M28, eM28, h⟩ := lt_inv h
            refine stR_ia X hP hS sR_4 zR_4 g27 eM28 dX12_tray_45 (fun H locs hP hS => ?_)
            refine lv_iconst (v := 0) hx hb dX12_tray_46 (by decide) ?_
            refine lv_istore (lv' := [(4, .int (0 : Int32)), (0, .ref (q 0)), (1, .int a1), (2, .int a2), (3, .int a3)]) hx hb dX12_tray_47 hl (by decide) rfl (fun ls hl => ?_)
            obtain ⟨s29, M30, hc31, h⟩ := bnd_inv h
            try dsimp only at h
            refine hL49  fz _ _ _ _ _ _ hc31 hP hS (lv_sub hl [1, 2, 4, 0] rfl) (fun H locs ls hP hS hl => ?_)
            have hl : lv_has ls 5 [(0, .ref (q 0))] := hl
            refine lv_aload_n hx hb dX12_tray_74 rfl (lv_at hl 0 rfl) ?_
            refine lv_iconst (v := 0) hx hb dX12_tray_75 (by decide) ?_
            obtain ⟨r32, M33, hc34, h⟩ := bnd_inv h
            refine gV_i (As := [.int (0 : Int32)]) X hP hS hl.1 (c_X12_is l D cA q aK aV hq hc34) sf_X12_is bw_1470 sv_X12_is (rcR_12 sR_0) rfl ⟨rfl, rfl⟩ ⟨Nat.le_of_ble_eq_true rfl, Nat.le_of_ble_eq_true rfl⟩ rfl rfl (Nat.le_of_ble_eq_true rfl) dX12_tray_76 (fun H locs hP hS => ?_)
            obtain ⟨g35, h⟩ := gd_inv h
            exact end_z X hr hk hP hS (Decidable.not_not.mp g35) h dX12_tray_79
          · rw [if_neg c24] at h
            refine lv_aload_n hx hb dX12_tray_26 rfl (lv_at hl 0 rfl) ?_
            refine lv_iconst (v := 1) hx hb dX12_tray_27 (by decide) ?_
            obtain ⟨r36, M37, hc38, h⟩ := bnd_inv h
            refine gV_i (As := [.int (1 : Int32)]) X hP hS hl.1 (c_X12_is l D cA q aK aV hq hc38) sf_X12_is bw_1470 sv_X12_is (rcR_12 sR_0) rfl ⟨rfl, rfl⟩ ⟨Nat.le_of_ble_eq_true rfl, Nat.le_of_ble_eq_true rfl⟩ rfl rfl (Nat.le_of_ble_eq_true rfl) dX12_tray_28 (fun H locs hP hS => ?_)
            obtain ⟨g39, h⟩ := gd_inv h
            exact end_z X hr hk hP hS (Decidable.not_not.mp g39) h dX12_tray_31
theorem dX12_wrongPlace_0 : decode cX12_wrongPlace 0 = .ok (.iload_n 1, 1) := by decide +kernel
theorem dX12_wrongPlace_1 : decode cX12_wrongPlace 1 = .ok (.invokestatic 102, 3) := by decide +kernel
theorem dX12_wrongPlace_4 : decode cX12_wrongPlace 4 = .ok (.ifCond .ne 7, 3) := by decide +kernel
theorem dX12_wrongPlace_7 : decode cX12_wrongPlace 7 = .ok (.iconst 1, 1) := by decide +kernel
theorem dX12_wrongPlace_8 : decode cX12_wrongPlace 8 = .ok (.goto 36, 3) := by decide +kernel
theorem dX12_wrongPlace_11 : decode cX12_wrongPlace 11 = .ok (.aload_n 0, 1) := by decide +kernel
theorem dX12_wrongPlace_12 : decode cX12_wrongPlace 12 = .ok (.getfield 24, 3) := by decide +kernel
theorem dX12_wrongPlace_15 : decode cX12_wrongPlace 15 = .ok (.iload_n 1, 1) := by decide +kernel
theorem dX12_wrongPlace_16 : decode cX12_wrongPlace 16 = .ok (.iaload, 1) := by decide +kernel
theorem dX12_wrongPlace_17 : decode cX12_wrongPlace 17 = .ok (.iconst (-1), 1) := by decide +kernel
theorem dX12_wrongPlace_18 : decode cX12_wrongPlace 18 = .ok (.if_icmp .ne 7, 3) := by decide +kernel
theorem dX12_wrongPlace_21 : decode cX12_wrongPlace 21 = .ok (.iconst 2, 1) := by decide +kernel
theorem dX12_wrongPlace_22 : decode cX12_wrongPlace 22 = .ok (.goto 22, 3) := by decide +kernel
theorem dX12_wrongPlace_25 : decode cX12_wrongPlace 25 = .ok (.iload_n 2, 1) := by decide +kernel
theorem dX12_wrongPlace_26 : decode cX12_wrongPlace 26 = .ok (.ifCond .lt 13, 3) := by decide +kernel
theorem dX12_wrongPlace_29 : decode cX12_wrongPlace 29 = .ok (.iload_n 2, 1) := by decide +kernel
theorem dX12_wrongPlace_30 : decode cX12_wrongPlace 30 = .ok (.aload_n 0, 1) := by decide +kernel
theorem dX12_wrongPlace_31 : decode cX12_wrongPlace 31 = .ok (.getfield 24, 3) := by decide +kernel
theorem dX12_wrongPlace_34 : decode cX12_wrongPlace 34 = .ok (.iload_n 1, 1) := by decide +kernel
theorem dX12_wrongPlace_35 : decode cX12_wrongPlace 35 = .ok (.iaload, 1) := by decide +kernel
theorem dX12_wrongPlace_36 : decode cX12_wrongPlace 36 = .ok (.if_icmp .lt 7, 3) := by decide +kernel
theorem dX12_wrongPlace_39 : decode cX12_wrongPlace 39 = .ok (.iconst 3, 1) := by decide +kernel
theorem dX12_wrongPlace_40 : decode cX12_wrongPlace 40 = .ok (.goto 4, 3) := by decide +kernel
theorem dX12_wrongPlace_43 : decode cX12_wrongPlace 43 = .ok (.iconst 0, 1) := by decide +kernel
theorem dX12_wrongPlace_44 : decode cX12_wrongPlace 44 = .ok (.ireturn, 1) := by decide +kernel
set_option maxRecDepth 100000 in
set_option maxHeartbeats 8000000 in
theorem c_X12_wrongPlace (l : Launch) (D : va_G) (cA : Nat → ClassId) (q aK aV : Nat → Nat) (hq : injG 20 q) {a1 : Int32} {a2 : Int32} {M M0 : Mem} {r0 : Int32} (h : f_X12_wrongPlace a1 a2 M = some (r0, M0)) : Met l yX12_wrongPlace (.code yX12_wrongPlace cX12_wrongPlace 3 (some .int) :: BW) ({ frames := 2, cells := 0, slots := 0, locals := 32 } : Room) (va_Pc [.ref (q 0), .int a1, .int a2] (CB 20 (ceR cA q) D cA q aK aV M)) (Qi 20 (ceR cA q) D q r0 M0) 0 0 (AqG 20 q) := by
  refine gMet RX12 (by decide +kernel) rfl hq (Nat.le_of_ble_eq_true rfl) ?_
  intro p e s m below meth c ls X hr hk hP hS hl
  have hx := X.1
  have hb := X.2.1
  have hl : lv_has ls 3 [(0, .ref (q 0)), (1, .int a1), (2, .int a2)] := hl
  rw [f_X12_wrongPlace] at h
  refine lv_iload_n hx hb dX12_wrongPlace_0 rfl (lv_at hl 1 rfl) ?_
  obtain ⟨r1, M2, hc3, h⟩ := bnd_inv h
  refine gS_i (As := [.int a1]) X hP hS hl.1 (c_X12_isTray l D cA q aK aV hq hc3) sf_X12_isTray bw_1467 ss_X12_isTray ⟨rfl, rfl⟩ ⟨Nat.le_of_ble_eq_true rfl, Nat.le_of_ble_eq_true rfl⟩ rfl rfl (Nat.le_of_ble_eq_true rfl) dX12_wrongPlace_1 (fun H locs hP hS => ?_)
  refine lv_if_ne (tgt := 11) hx hb dX12_wrongPlace_4 (by decide) (fun c4 => ?_) (fun c4 => ?_)
  · rw [if_neg c4] at h
    refine lv_aload_n hx hb dX12_wrongPlace_11 rfl (lv_at hl 0 rfl) ?_
    refine gfR_12_6 X hP sR_0 bw_1329 dX12_wrongPlace_12 ?_
    refine lv_iload_n hx hb dX12_wrongPlace_15 rfl (lv_at hl 1 rfl) ?_
    obtain ⟨g5, h⟩ := gd_inv h
    refine ldR_ia X hP sR_4 zR_4 g5 dX12_wrongPlace_16 ?_
    refine lv_iconst (v := -1) hx hb dX12_wrongPlace_17 (by decide) ?_
    refine lv_icmp_ne (tgt := 25) hx hb dX12_wrongPlace_18 (by decide) (fun c6 => ?_) (fun c6 => ?_)
    · rw [if_neg c6] at h
      refine lv_iload_n hx hb dX12_wrongPlace_25 rfl (lv_at hl 2 rfl) ?_
      refine lv_if_lt (tgt := 39) hx hb dX12_wrongPlace_26 (by decide) (fun c7 => ?_) (fun c7 => ?_)
      · rw [if_pos c7] at h
        refine lv_iconst (v := 3) hx hb dX12_wrongPlace_39 (by decide) ?_
        refine lv_goto (tgt := 44) hx hb dX12_wrongPlace_40 (by decide) ?_
        exact end_i X hr hk hP hS h dX12_wrongPlace_44
      · rw [if_neg c7] at h
        refine lv_iload_n hx hb dX12_wrongPlace_29 rfl (lv_at hl 2 rfl) ?_
        refine lv_aload_n hx hb dX12_wrongPlace_30 rfl (lv_at hl 0 rfl) ?_
        refine gfR_12_6 X hP sR_0 bw_1329 dX12_wrongPlace_31 ?_
        refine lv_iload_n hx hb dX12_wrongPlace_34 rfl (lv_at hl 1 rfl) ?_
        obtain ⟨g8, h⟩ := gd_inv h
        refine ldR_ia X hP sR_4 zR_4 g8 dX12_wrongPlace_35 ?_
        refine lv_icmp_lt (tgt := 43) hx hb dX12_wrongPlace_36 (by decide) (fun c9 => ?_) (fun c9 => ?_)
        · rw [if_pos c9] at h
          refine lv_iconst (v := 0) hx hb dX12_wrongPlace_43 (by decide) ?_
          exact end_i X hr hk hP hS h dX12_wrongPlace_44
        · rw [if_neg c9] at h
          refine lv_iconst (v := 3) hx hb dX12_wrongPlace_39 (by decide) ?_
          refine lv_goto (tgt := 44) hx hb dX12_wrongPlace_40 (by decide) ?_
          exact end_i X hr hk hP hS h dX12_wrongPlace_44
    · rw [if_pos c6] at h
      refine lv_iconst (v := 2) hx hb dX12_wrongPlace_21 (by decide) ?_
      refine lv_goto (tgt := 44) hx hb dX12_wrongPlace_22 (by decide) ?_
      exact end_i X hr hk hP hS h dX12_wrongPlace_44
  · rw [if_pos c4] at h
    refine lv_iconst (v := 1) hx hb dX12_wrongPlace_7 (by decide) ?_
    refine lv_goto (tgt := 44) hx hb dX12_wrongPlace_8 (by decide) ?_
    exact end_i X hr hk hP hS h dX12_wrongPlace_44
theorem dX12_write_0 : decode cX12_write 0 = .ok (.aload_n 0, 1) := by decide +kernel
theorem dX12_write_1 : decode cX12_write 1 = .ok (.iload_n 1, 1) := by decide +kernel
theorem dX12_write_2 : decode cX12_write 2 = .ok (.iload_n 2, 1) := by decide +kernel
theorem dX12_write_3 : decode cX12_write 3 = .ok (.invokevirtual 105, 3) := by decide +kernel
theorem dX12_write_6 : decode cX12_write 6 = .ok (.istore 5, 2) := by decide +kernel
theorem dX12_write_8 : decode cX12_write 8 = .ok (.iload 5, 2) := by decide +kernel
theorem dX12_write_10 : decode cX12_write 10 = .ok (.ifCond .ne 24, 3) := by decide +kernel
theorem dX12_write_13 : decode cX12_write 13 = .ok (.aload_n 0, 1) := by decide +kernel
theorem dX12_write_14 : decode cX12_write 14 = .ok (.getfield 27, 3) := by decide +kernel
theorem dX12_write_17 : decode cX12_write 17 = .ok (.bipush 60, 2) := by decide +kernel
theorem dX12_write_19 : decode cX12_write 19 = .ok (.iload_n 1, 1) := by decide +kernel
theorem dX12_write_20 : decode cX12_write 20 = .ok (.imul, 1) := by decide +kernel
theorem dX12_write_21 : decode cX12_write 21 = .ok (.iload_n 2, 1) := by decide +kernel
theorem dX12_write_22 : decode cX12_write 22 = .ok (.iadd, 1) := by decide +kernel
theorem dX12_write_23 : decode cX12_write 23 = .ok (.lload_n 3, 1) := by decide +kernel
theorem dX12_write_24 : decode cX12_write 24 = .ok (.aload_n 0, 1) := by decide +kernel
theorem dX12_write_25 : decode cX12_write 25 = .ok (.getfield 21, 3) := by decide +kernel
theorem dX12_write_28 : decode cX12_write 28 = .ok (.iload_n 1, 1) := by decide +kernel
theorem dX12_write_29 : decode cX12_write 29 = .ok (.iaload, 1) := by decide +kernel
theorem dX12_write_30 : decode cX12_write 30 = .ok (.invokestatic 109, 3) := by decide +kernel
theorem dX12_write_33 : decode cX12_write 33 = .ok (.lastore, 1) := by decide +kernel
theorem dX12_write_34 : decode cX12_write 34 = .ok (.aload_n 0, 1) := by decide +kernel
theorem dX12_write_35 : decode cX12_write 35 = .ok (.iload 5, 2) := by decide +kernel
theorem dX12_write_37 : decode cX12_write 37 = .ok (.invokevirtual 98, 3) := by decide +kernel
theorem dX12_write_40 : decode cX12_write 40 = .ok (.ireturn, 1) := by decide +kernel
set_option maxRecDepth 100000 in
set_option maxHeartbeats 8000000 in
theorem c_X12_write (l : Launch) (D : va_G) (cA : Nat → ClassId) (q aK aV : Nat → Nat) (hq : injG 20 q) {a1 : Int32} {a2 : Int32} {a3 : Int64} {M M0 : Mem} {r0 : Int32} (h : f_X12_write a1 a2 a3 M = some (r0, M0)) : Met l yX12_write (.code yX12_write cX12_write 6 (some .boolean) :: BW) ({ frames := 3, cells := 0, slots := 0, locals := 54 } : Room) (va_Pc [.ref (q 0), .int a1, .int a2, .long a3] (CB 20 (ceR cA q) D cA q aK aV M)) (Qi 20 (ceR cA q) D q r0 M0) 0 0 (AqG 20 q) := by
  refine gMet RX12 (by decide +kernel) rfl hq (Nat.le_of_ble_eq_true rfl) ?_
  intro p e s m below meth c ls X hr hk hP hS hl
  have hx := X.1
  have hb := X.2.1
  have hl : lv_has ls 6 [(0, .ref (q 0)), (1, .int a1), (2, .int a2), (3, .long a3)] := hl
  rw [f_X12_write] at h
  refine lv_aload_n hx hb dX12_write_0 rfl (lv_at hl 0 rfl) ?_
  refine lv_iload_n hx hb dX12_write_1 rfl (lv_at hl 1 rfl) ?_
  refine lv_iload_n hx hb dX12_write_2 rfl (lv_at hl 2 rfl) ?_
  obtain ⟨r1, M2, hc3, h⟩ := bnd_inv h
  refine gV_i (As := [.int a1, .int a2]) X hP hS hl.1 (c_X12_wrongPlace l D cA q aK aV hq hc3) sf_X12_wrongPlace bw_1478 sv_X12_wrongPlace (rcR_12 sR_0) rfl ⟨rfl, rfl⟩ ⟨Nat.le_of_ble_eq_true rfl, Nat.le_of_ble_eq_true rfl⟩ rfl rfl (Nat.le_of_ble_eq_true rfl) dX12_write_3 (fun H locs hP hS => ?_)
  refine lv_istore (lv' := [(5, .int r1), (0, .ref (q 0)), (1, .int a1), (2, .int a2), (3, .long a3)]) hx hb dX12_write_6 hl (by decide) rfl (fun ls hl => ?_)
  refine lv_iload hx hb dX12_write_8 (lv_at hl 0 rfl) ?_
  refine lv_if_ne (tgt := 34) hx hb dX12_write_10 (by decide) (fun c4 => ?_) (fun c4 => ?_)
  · rw [if_neg c4] at h
    refine lv_aload_n hx hb dX12_write_34 rfl (lv_at hl 1 rfl) ?_
    refine lv_iload hx hb dX12_write_35 (lv_at hl 0 rfl) ?_
    obtain ⟨r5, M6, hc7, h⟩ := bnd_inv h
    refine gV_i (As := [.int r1]) X hP hS hl.1 (c_X12_is l D cA q aK aV hq hc7) sf_X12_is bw_1470 sv_X12_is (rcR_12 sR_0) rfl ⟨rfl, rfl⟩ ⟨Nat.le_of_ble_eq_true rfl, Nat.le_of_ble_eq_true rfl⟩ rfl rfl (Nat.le_of_ble_eq_true rfl) dX12_write_37 (fun H locs hP hS => ?_)
    obtain ⟨g8, h⟩ := gd_inv h
    exact end_z X hr hk hP hS (Decidable.not_not.mp g8) h dX12_write_40
  · rw [if_pos c4] at h
    refine lv_aload_n hx hb dX12_write_13 rfl (lv_at hl 1 rfl) ?_
    refine gfR_12_7 X hP sR_0 bw_1330 dX12_write_14 ?_
    refine lv_bipush (v := 60) hx hb dX12_write_17 (by decide) ?_
    refine lv_iload_n hx hb dX12_write_19 rfl (lv_at hl 2 rfl) ?_
    refine lv_imul hx hb dX12_write_20 ?_
    refine lv_iload_n hx hb dX12_write_21 rfl (lv_at hl 3 rfl) ?_
    refine lv_iadd hx hb dX12_write_22 ?_
    refine lv_lload_n hx hb dX12_write_23 rfl (lv_at hl 4 rfl) ?_
    refine lv_aload_n hx hb dX12_write_24 rfl (lv_at hl 1 rfl) ?_
    refine gfR_12_5 X hP sR_0 bw_1328 dX12_write_25 ?_
    refine lv_iload_n hx hb dX12_write_28 rfl (lv_at hl 2 rfl) ?_
    obtain ⟨g9, h⟩ := gd_inv h
    refine ldR_ia X hP sR_3 zR_3 g9 dX12_write_29 ?_
    obtain ⟨r10, M11, hc12, h⟩ := bnd_inv h
    refine gS_l (As := [.long a3, .int (gI M2 3 a1.toNatClampNeg)]) X hP hS hl.1 (c_X12_cut l D cA q aK aV hq hc12) sf_X12_cut bw_1482 ss_X12_cut ⟨rfl, rfl⟩ ⟨Nat.le_of_ble_eq_true rfl, Nat.le_of_ble_eq_true rfl⟩ rfl rfl (Nat.le_of_ble_eq_true rfl) dX12_write_30 (fun H locs hP hS => ?_)
    obtain ⟨g13, h⟩ := gd_inv h
    obtain ⟨M14, eM14, h⟩ := lt_inv h
    refine stR_la X hP hS sR_5 zR_5 g13 eM14 dX12_write_33 (fun H locs hP hS => ?_)
    refine lv_aload_n hx hb dX12_write_34 rfl (lv_at hl 1 rfl) ?_
    refine lv_iload hx hb dX12_write_35 (lv_at hl 0 rfl) ?_
    obtain ⟨r15, M16, hc17, h⟩ := bnd_inv h
    refine gV_i (As := [.int r1]) X hP hS hl.1 (c_X12_is l D cA q aK aV hq hc17) sf_X12_is bw_1470 sv_X12_is (rcR_12 sR_0) rfl ⟨rfl, rfl⟩ ⟨Nat.le_of_ble_eq_true rfl, Nat.le_of_ble_eq_true rfl⟩ rfl rfl (Nat.le_of_ble_eq_true rfl) dX12_write_37 (fun H locs hP hS => ?_)
    obtain ⟨g18, h⟩ := gd_inv h
    exact end_z X hr hk hP hS (Decidable.not_not.mp g18) h dX12_write_40
theorem dX12_read_0 : decode cX12_read 0 = .ok (.aload_n 0, 1) := by decide +kernel
theorem dX12_read_1 : decode cX12_read 1 = .ok (.aload_n 0, 1) := by decide +kernel
theorem dX12_read_2 : decode cX12_read 2 = .ok (.iload_n 1, 1) := by decide +kernel
theorem dX12_read_3 : decode cX12_read 3 = .ok (.iload_n 2, 1) := by decide +kernel
theorem dX12_read_4 : decode cX12_read 4 = .ok (.invokevirtual 105, 3) := by decide +kernel
theorem dX12_read_7 : decode cX12_read 7 = .ok (.putfield 85, 3) := by decide +kernel
theorem dX12_read_10 : decode cX12_read 10 = .ok (.aload_n 0, 1) := by decide +kernel
theorem dX12_read_11 : decode cX12_read 11 = .ok (.getfield 85, 3) := by decide +kernel
theorem dX12_read_14 : decode cX12_read 14 = .ok (.ifCond .le 9, 3) := by decide +kernel
theorem dX12_read_17 : decode cX12_read 17 = .ok (.ldc2_w 113, 3) := by decide +kernel
theorem dX12_read_20 : decode cX12_read 20 = .ok (.goto 14, 3) := by decide +kernel
theorem dX12_read_23 : decode cX12_read 23 = .ok (.aload_n 0, 1) := by decide +kernel
theorem dX12_read_24 : decode cX12_read 24 = .ok (.getfield 27, 3) := by decide +kernel
theorem dX12_read_27 : decode cX12_read 27 = .ok (.bipush 60, 2) := by decide +kernel
theorem dX12_read_29 : decode cX12_read 29 = .ok (.iload_n 1, 1) := by decide +kernel
theorem dX12_read_30 : decode cX12_read 30 = .ok (.imul, 1) := by decide +kernel
theorem dX12_read_31 : decode cX12_read 31 = .ok (.iload_n 2, 1) := by decide +kernel
theorem dX12_read_32 : decode cX12_read 32 = .ok (.iadd, 1) := by decide +kernel
theorem dX12_read_33 : decode cX12_read 33 = .ok (.laload, 1) := by decide +kernel
theorem dX12_read_34 : decode cX12_read 34 = .ok (.lreturn, 1) := by decide +kernel
set_option maxRecDepth 100000 in
set_option maxHeartbeats 8000000 in
theorem c_X12_read (l : Launch) (D : va_G) (cA : Nat → ClassId) (q aK aV : Nat → Nat) (hq : injG 20 q) {a1 : Int32} {a2 : Int32} {M M0 : Mem} {r0 : Int64} (h : f_X12_read a1 a2 M = some (r0, M0)) : Met l yX12_read (.code yX12_read cX12_read 3 (some .long) :: BW) ({ frames := 3, cells := 0, slots := 0, locals := 54 } : Room) (va_Pc [.ref (q 0), .int a1, .int a2] (CB 20 (ceR cA q) D cA q aK aV M)) (Ql 20 (ceR cA q) D q r0 M0) 0 0 (AqG 20 q) := by
  refine gMet RX12 (by decide +kernel) rfl hq (Nat.le_of_ble_eq_true rfl) ?_
  intro p e s m below meth c ls X hr hk hP hS hl
  have hx := X.1
  have hb := X.2.1
  have hl : lv_has ls 3 [(0, .ref (q 0)), (1, .int a1), (2, .int a2)] := hl
  rw [f_X12_read] at h
  refine lv_aload_n hx hb dX12_read_0 rfl (lv_at hl 0 rfl) ?_
  refine lv_aload_n hx hb dX12_read_1 rfl (lv_at hl 0 rfl) ?_
  refine lv_iload_n hx hb dX12_read_2 rfl (lv_at hl 1 rfl) ?_
  refine lv_iload_n hx hb dX12_read_3 rfl (lv_at hl 2 rfl) ?_
  obtain ⟨r1, M2, hc3, h⟩ := bnd_inv h
  refine gV_i (As := [.int a1, .int a2]) X hP hS hl.1 (c_X12_wrongPlace l D cA q aK aV hq hc3) sf_X12_wrongPlace bw_1478 sv_X12_wrongPlace (rcR_12 sR_0) rfl ⟨rfl, rfl⟩ ⟨Nat.le_of_ble_eq_true rfl, Nat.le_of_ble_eq_true rfl⟩ rfl rfl (Nat.le_of_ble_eq_true rfl) dX12_read_4 (fun H locs hP hS => ?_)
  obtain ⟨M4, eM4, h⟩ := lt_inv h
  refine pfR_12_2 X hP hS sR_0 bw_1325 eM4 dX12_read_7 (fun H locs hP hS => ?_)
  refine lv_aload_n hx hb dX12_read_10 rfl (lv_at hl 0 rfl) ?_
  refine gfR_12_2 X hP sR_0 bw_1325 dX12_read_11 ?_
  refine lv_if_le (tgt := 23) hx hb dX12_read_14 (by decide) (fun c5 => ?_) (fun c5 => ?_)
  · rw [if_pos c5] at h
    refine lv_aload_n hx hb dX12_read_23 rfl (lv_at hl 0 rfl) ?_
    refine gfR_12_7 X hP sR_0 bw_1330 dX12_read_24 ?_
    refine lv_bipush (v := 60) hx hb dX12_read_27 (by decide) ?_
    refine lv_iload_n hx hb dX12_read_29 rfl (lv_at hl 1 rfl) ?_
    refine lv_imul hx hb dX12_read_30 ?_
    refine lv_iload_n hx hb dX12_read_31 rfl (lv_at hl 2 rfl) ?_
    refine lv_iadd hx hb dX12_read_32 ?_
    obtain ⟨g6, h⟩ := gd_inv h
    refine ldR_la X hP sR_5 zR_5 g6 dX12_read_33 ?_
    exact end_l X hr hk hP hS h dX12_read_34
  · rw [if_neg c5] at h
    refine lv_ldc2 hx hb X.2.2.2.1 (X.2.2.2.2.1 _ bw_1489) dX12_read_17 ?_
    refine lv_goto (tgt := 34) hx hb dX12_read_20 (by decide) ?_
    exact end_l X hr hk hP hS h dX12_read_34
theorem dX12_pour_0 : decode cX12_pour 0 = .ok (.iload_n 1, 1) := by decide +kernel
theorem dX12_pour_1 : decode cX12_pour 1 = .ok (.invokestatic 102, 3) := by decide +kernel
theorem dX12_pour_4 : decode cX12_pour 4 = .ok (.ifCond .eq 24, 3) := by decide +kernel
theorem dX12_pour_7 : decode cX12_pour 7 = .ok (.iload_n 3, 1) := by decide +kernel
theorem dX12_pour_8 : decode cX12_pour 8 = .ok (.invokestatic 102, 3) := by decide +kernel
theorem dX12_pour_11 : decode cX12_pour 11 = .ok (.ifCond .eq 17, 3) := by decide +kernel
theorem dX12_pour_14 : decode cX12_pour 14 = .ok (.iload_n 2, 1) := by decide +kernel
theorem dX12_pour_15 : decode cX12_pour 15 = .ok (.ifCond .lt 13, 3) := by decide +kernel
theorem dX12_pour_18 : decode cX12_pour 18 = .ok (.iload 4, 2) := by decide +kernel
theorem dX12_pour_20 : decode cX12_pour 20 = .ok (.ifCond .lt 8, 3) := by decide +kernel
theorem dX12_pour_23 : decode cX12_pour 23 = .ok (.iload 5, 2) := by decide +kernel
theorem dX12_pour_25 : decode cX12_pour 25 = .ok (.ifCond .ge 9, 3) := by decide +kernel
theorem dX12_pour_28 : decode cX12_pour 28 = .ok (.aload_n 0, 1) := by decide +kernel
theorem dX12_pour_29 : decode cX12_pour 29 = .ok (.iconst 1, 1) := by decide +kernel
theorem dX12_pour_30 : decode cX12_pour 30 = .ok (.invokevirtual 98, 3) := by decide +kernel
theorem dX12_pour_33 : decode cX12_pour 33 = .ok (.ireturn, 1) := by decide +kernel
theorem dX12_pour_34 : decode cX12_pour 34 = .ok (.aload_n 0, 1) := by decide +kernel
theorem dX12_pour_35 : decode cX12_pour 35 = .ok (.getfield 24, 3) := by decide +kernel
theorem dX12_pour_38 : decode cX12_pour 38 = .ok (.iload_n 1, 1) := by decide +kernel
theorem dX12_pour_39 : decode cX12_pour 39 = .ok (.iaload, 1) := by decide +kernel
theorem dX12_pour_40 : decode cX12_pour 40 = .ok (.iconst (-1), 1) := by decide +kernel
theorem dX12_pour_41 : decode cX12_pour 41 = .ok (.if_icmp .eq 13, 3) := by decide +kernel
theorem dX12_pour_44 : decode cX12_pour 44 = .ok (.aload_n 0, 1) := by decide +kernel
theorem dX12_pour_45 : decode cX12_pour 45 = .ok (.getfield 24, 3) := by decide +kernel
theorem dX12_pour_48 : decode cX12_pour 48 = .ok (.iload_n 3, 1) := by decide +kernel
theorem dX12_pour_49 : decode cX12_pour 49 = .ok (.iaload, 1) := by decide +kernel
theorem dX12_pour_50 : decode cX12_pour 50 = .ok (.iconst (-1), 1) := by decide +kernel
theorem dX12_pour_51 : decode cX12_pour 51 = .ok (.if_icmp .ne 9, 3) := by decide +kernel
theorem dX12_pour_54 : decode cX12_pour 54 = .ok (.aload_n 0, 1) := by decide +kernel
theorem dX12_pour_55 : decode cX12_pour 55 = .ok (.iconst 2, 1) := by decide +kernel
theorem dX12_pour_56 : decode cX12_pour 56 = .ok (.invokevirtual 98, 3) := by decide +kernel
theorem dX12_pour_59 : decode cX12_pour 59 = .ok (.ireturn, 1) := by decide +kernel
theorem dX12_pour_60 : decode cX12_pour 60 = .ok (.aload_n 0, 1) := by decide +kernel
theorem dX12_pour_61 : decode cX12_pour 61 = .ok (.getfield 21, 3) := by decide +kernel
theorem dX12_pour_64 : decode cX12_pour 64 = .ok (.iload_n 1, 1) := by decide +kernel
theorem dX12_pour_65 : decode cX12_pour 65 = .ok (.iaload, 1) := by decide +kernel
theorem dX12_pour_66 : decode cX12_pour 66 = .ok (.aload_n 0, 1) := by decide +kernel
theorem dX12_pour_67 : decode cX12_pour 67 = .ok (.getfield 21, 3) := by decide +kernel
theorem dX12_pour_70 : decode cX12_pour 70 = .ok (.iload_n 3, 1) := by decide +kernel
theorem dX12_pour_71 : decode cX12_pour 71 = .ok (.iaload, 1) := by decide +kernel
theorem dX12_pour_72 : decode cX12_pour 72 = .ok (.if_icmp .eq 10, 3) := by decide +kernel
theorem dX12_pour_75 : decode cX12_pour 75 = .ok (.aload_n 0, 1) := by decide +kernel
theorem dX12_pour_76 : decode cX12_pour 76 = .ok (.bipush 8, 2) := by decide +kernel
theorem dX12_pour_78 : decode cX12_pour 78 = .ok (.invokevirtual 98, 3) := by decide +kernel
theorem dX12_pour_81 : decode cX12_pour 81 = .ok (.ireturn, 1) := by decide +kernel
theorem dX12_pour_82 : decode cX12_pour 82 = .ok (.iload 5, 2) := by decide +kernel
theorem dX12_pour_84 : decode cX12_pour 84 = .ok (.aload_n 0, 1) := by decide +kernel
theorem dX12_pour_85 : decode cX12_pour 85 = .ok (.getfield 24, 3) := by decide +kernel
theorem dX12_pour_88 : decode cX12_pour 88 = .ok (.iload_n 1, 1) := by decide +kernel
theorem dX12_pour_89 : decode cX12_pour 89 = .ok (.iaload, 1) := by decide +kernel
theorem dX12_pour_90 : decode cX12_pour 90 = .ok (.iload_n 2, 1) := by decide +kernel
theorem dX12_pour_91 : decode cX12_pour 91 = .ok (.isub, 1) := by decide +kernel
theorem dX12_pour_92 : decode cX12_pour 92 = .ok (.if_icmp .gt 17, 3) := by decide +kernel
theorem dX12_pour_95 : decode cX12_pour 95 = .ok (.iload 5, 2) := by decide +kernel
theorem dX12_pour_97 : decode cX12_pour 97 = .ok (.aload_n 0, 1) := by decide +kernel
theorem dX12_pour_98 : decode cX12_pour 98 = .ok (.getfield 24, 3) := by decide +kernel
theorem dX12_pour_101 : decode cX12_pour 101 = .ok (.iload_n 3, 1) := by decide +kernel
theorem dX12_pour_102 : decode cX12_pour 102 = .ok (.iaload, 1) := by decide +kernel
theorem dX12_pour_103 : decode cX12_pour 103 = .ok (.iload 4, 2) := by decide +kernel
theorem dX12_pour_105 : decode cX12_pour 105 = .ok (.isub, 1) := by decide +kernel
theorem dX12_pour_106 : decode cX12_pour 106 = .ok (.if_icmp .le 9, 3) := by decide +kernel
theorem dX12_pour_109 : decode cX12_pour 109 = .ok (.aload_n 0, 1) := by decide +kernel
theorem dX12_pour_110 : decode cX12_pour 110 = .ok (.iconst 3, 1) := by decide +kernel
theorem dX12_pour_111 : decode cX12_pour 111 = .ok (.invokevirtual 98, 3) := by decide +kernel
theorem dX12_pour_114 : decode cX12_pour 114 = .ok (.ireturn, 1) := by decide +kernel
theorem dX12_pour_115 : decode cX12_pour 115 = .ok (.iconst 0, 1) := by decide +kernel
theorem dX12_pour_116 : decode cX12_pour 116 = .ok (.istore 6, 2) := by decide +kernel
theorem dX12_pour_118 : decode cX12_pour 118 = .ok (.iload 6, 2) := by decide +kernel
theorem dX12_pour_120 : decode cX12_pour 120 = .ok (.iload 5, 2) := by decide +kernel
theorem dX12_pour_122 : decode cX12_pour 122 = .ok (.if_icmp .ge 58, 3) := by decide +kernel
theorem dX12_pour_125 : decode cX12_pour 125 = .ok (.iload_n 2, 1) := by decide +kernel
theorem dX12_pour_126 : decode cX12_pour 126 = .ok (.iload 4, 2) := by decide +kernel
theorem dX12_pour_128 : decode cX12_pour 128 = .ok (.if_icmp .ge 13, 3) := by decide +kernel
theorem dX12_pour_131 : decode cX12_pour 131 = .ok (.iload 5, 2) := by decide +kernel
theorem dX12_pour_133 : decode cX12_pour 133 = .ok (.iconst 1, 1) := by decide +kernel
theorem dX12_pour_134 : decode cX12_pour 134 = .ok (.isub, 1) := by decide +kernel
theorem dX12_pour_135 : decode cX12_pour 135 = .ok (.iload 6, 2) := by decide +kernel
theorem dX12_pour_137 : decode cX12_pour 137 = .ok (.isub, 1) := by decide +kernel
theorem dX12_pour_138 : decode cX12_pour 138 = .ok (.goto 5, 3) := by decide +kernel
theorem dX12_pour_141 : decode cX12_pour 141 = .ok (.iload 6, 2) := by decide +kernel
theorem dX12_pour_143 : decode cX12_pour 143 = .ok (.istore 7, 2) := by decide +kernel
theorem dX12_pour_145 : decode cX12_pour 145 = .ok (.aload_n 0, 1) := by decide +kernel
theorem dX12_pour_146 : decode cX12_pour 146 = .ok (.getfield 27, 3) := by decide +kernel
theorem dX12_pour_149 : decode cX12_pour 149 = .ok (.bipush 60, 2) := by decide +kernel
theorem dX12_pour_151 : decode cX12_pour 151 = .ok (.iload_n 3, 1) := by decide +kernel
theorem dX12_pour_152 : decode cX12_pour 152 = .ok (.imul, 1) := by decide +kernel
theorem dX12_pour_153 : decode cX12_pour 153 = .ok (.iload 4, 2) := by decide +kernel
theorem dX12_pour_155 : decode cX12_pour 155 = .ok (.iadd, 1) := by decide +kernel
theorem dX12_pour_156 : decode cX12_pour 156 = .ok (.iload 7, 2) := by decide +kernel
theorem dX12_pour_158 : decode cX12_pour 158 = .ok (.iadd, 1) := by decide +kernel
theorem dX12_pour_159 : decode cX12_pour 159 = .ok (.aload_n 0, 1) := by decide +kernel
theorem dX12_pour_160 : decode cX12_pour 160 = .ok (.getfield 27, 3) := by decide +kernel
theorem dX12_pour_163 : decode cX12_pour 163 = .ok (.bipush 60, 2) := by decide +kernel
theorem dX12_pour_165 : decode cX12_pour 165 = .ok (.iload_n 1, 1) := by decide +kernel
theorem dX12_pour_166 : decode cX12_pour 166 = .ok (.imul, 1) := by decide +kernel
theorem dX12_pour_167 : decode cX12_pour 167 = .ok (.iload_n 2, 1) := by decide +kernel
theorem dX12_pour_168 : decode cX12_pour 168 = .ok (.iadd, 1) := by decide +kernel
theorem dX12_pour_169 : decode cX12_pour 169 = .ok (.iload 7, 2) := by decide +kernel
theorem dX12_pour_171 : decode cX12_pour 171 = .ok (.iadd, 1) := by decide +kernel
theorem dX12_pour_172 : decode cX12_pour 172 = .ok (.laload, 1) := by decide +kernel
theorem dX12_pour_173 : decode cX12_pour 173 = .ok (.lastore, 1) := by decide +kernel
theorem dX12_pour_174 : decode cX12_pour 174 = .ok (.iinc 6 1, 3) := by decide +kernel
theorem dX12_pour_177 : decode cX12_pour 177 = .ok (.goto (-59), 3) := by decide +kernel
theorem dX12_pour_180 : decode cX12_pour 180 = .ok (.aload_n 0, 1) := by decide +kernel
theorem dX12_pour_181 : decode cX12_pour 181 = .ok (.iconst 0, 1) := by decide +kernel
theorem dX12_pour_182 : decode cX12_pour 182 = .ok (.invokevirtual 98, 3) := by decide +kernel
theorem dX12_pour_185 : decode cX12_pour 185 = .ok (.ireturn, 1) := by decide +kernel
set_option maxRecDepth 100000 in
set_option maxHeartbeats 8000000 in
theorem c_X12_pour (l : Launch) (D : va_G) (cA : Nat → ClassId) (q aK aV : Nat → Nat) (hq : injG 20 q) {a1 : Int32} {a2 : Int32} {a3 : Int32} {a4 : Int32} {a5 : Int32} {M M0 : Mem} {r0 : Int32} (h : f_X12_pour a1 a2 a3 a4 a5 M = some (r0, M0)) : Met l yX12_pour (.code yX12_pour cX12_pour 8 (some .boolean) :: BW) ({ frames := 2, cells := 0, slots := 0, locals := 34 } : Room) (va_Pc [.ref (q 0), .int a1, .int a2, .int a3, .int a4, .int a5] (CB 20 (ceR cA q) D cA q aK aV M)) (Qi 20 (ceR cA q) D q r0 M0) 0 0 (AqG 20 q) := by
  refine gMet RX12 (by decide +kernel) rfl hq (Nat.le_of_ble_eq_true rfl) ?_
  intro p e s m below meth c ls X hr hk hP hS hl
  have hx := X.1
  have hb := X.2.1
  have hl : lv_has ls 8 [(0, .ref (q 0)), (1, .int a1), (2, .int a2), (3, .int a3), (4, .int a4), (5, .int a5)] := hl
  rw [f_X12_pour] at h
  have hL118 : ∀ (fu : Nat) (b6 : Int32) (M : Mem) (res : (Unit) × Mem) (H : Heap) (locs : List Loc) (ls : Array Slot), f_X12_pour_L118 a1 a2 a3 a4 a5 fu b6 M = some res → va_P D vwCl (wsG 20 (ceR cA q) q M) H → va_S (AqG 20 q) s.heap H locs → lv_has ls 8 [(0, .ref (q 0)), (1, .int a1), (2, .int a2), (3, .int a3), (4, .int a4), (5, .int a5), (6, .int b6)] → (∀ (H : Heap) (locs : List Loc) (ls : Array Slot), va_P D vwCl (wsG 20 (ceR cA q) q res.2) H → va_S (AqG 20 q) s.heap H locs → lv_has ls 8 [(0, .ref (q 0))] → W p l e ({ frames := 2, cells := 0, slots := 0, locals := 34 } : Room) s m [.ref (q 0), .int a1, .int a2, .int a3, .int a4, .int a5].toArray below meth c H locs 0 0 (MQ below (Qi 20 (ceR cA q) D q r0 M0) [.ref (q 0), .int a1, .int a2, .int a3, .int a4, .int a5].toArray s 0 0 (AqG 20 q)) (F0 m 180 ls [])) → W p l e ({ frames := 2, cells := 0, slots := 0, locals := 34 } : Room) s m [.ref (q 0), .int a1, .int a2, .int a3, .int a4, .int a5].toArray below meth c H locs 0 0 (MQ below (Qi 20 (ceR cA q) D q r0 M0) [.ref (q 0), .int a1, .int a2, .int a3, .int a4, .int a5].toArray s 0 0 (AqG 20 q)) (F0 m 118 ls []) := by
    intro fu
    induction fu with
    | zero => intro b6 M res H locs ls h; exact absurd h (by simp [f_X12_pour_L118])
    | succ fu ih =>
      intro b6 M res H locs ls h hP hS hl K118_0
      rw [f_X12_pour_L118] at h
      have hJ143 : ∀ (b6 : Int32) (s0 : Int32) (M : Mem) (H : Heap) (locs : List Loc) (ls : Array Slot), f_X12_pour_J143 (f_X12_pour_L118 a1 a2 a3 a4 a5 fu) a1 a2 a3 a4 a5 b6 s0 M = some res → va_P D vwCl (wsG 20 (ceR cA q) q M) H → va_S (AqG 20 q) s.heap H locs → lv_has ls 8 [(0, .ref (q 0)), (1, .int a1), (2, .int a2), (3, .int a3), (4, .int a4), (5, .int a5), (6, .int b6)] → W p l e ({ frames := 2, cells := 0, slots := 0, locals := 34 } : Room) s m [.ref (q 0), .int a1, .int a2, .int a3, .int a4, .int a5].toArray below meth c H locs 0 0 (MQ below (Qi 20 (ceR cA q) D q r0 M0) [.ref (q 0), .int a1, .int a2, .int a3, .int a4, .int a5].toArray s 0 0 (AqG 20 q)) (F0 m 143 ls [.int s0]) := by
        intro b6 s0 M H locs ls h hP hS hl
        rw [f_X12_pour_J143] at h
        refine lv_istore (lv' := [(7, .int s0), (0, .ref (q 0)), (1, .int a1), (2, .int a2), (3, .int a3), (4, .int a4), (5, .int a5), (6, .int b6)]) hx hb dX12_pour_143 hl (by decide) rfl (fun ls hl => ?_)
        refine lv_aload_n hx hb dX12_pour_145 rfl (lv_at hl 1 rfl) ?_
        refine gfR_12_7 X hP sR_0 bw_1330 dX12_pour_146 ?_
        refine lv_bipush (v := 60) hx hb dX12_pour_149 (by decide) ?_
        refine lv_iload_n hx hb dX12_pour_151 rfl (lv_at hl 4 rfl) ?_
        refine lv_imul hx hb dX12_pour_152 ?_
        refine lv_iload hx hb dX12_pour_153 (lv_at hl 5 rfl) ?_
        refine lv_iadd hx hb dX12_pour_155 ?_
        refine lv_iload hx hb dX12_pour_156 (lv_at hl 0 rfl) ?_
        refine lv_iadd hx hb dX12_pour_158 ?_
        refine lv_aload_n hx hb dX12_pour_159 rfl (lv_at hl 1 rfl) ?_
        refine gfR_12_7 X hP sR_0 bw_1330 dX12_pour_160 ?_
        refine lv_bipush (v := 60) hx hb dX12_pour_163 (by decide) ?_
        refine lv_iload_n hx hb dX12_pour_165 rfl (lv_at hl 2 rfl) ?_
        refine lv_imul hx hb dX12_pour_166 ?_
        refine lv_iload_n hx hb dX12_pour_167 rfl (lv_at hl 3 rfl) ?_
        refine lv_iadd hx hb dX12_pour_168 ?_
        refine lv_iload hx hb dX12_pour_169 (lv_at hl 0 rfl) ?_
        refine lv_iadd hx hb dX12_pour_171 ?_
        obtain ⟨g72, h⟩ := gd_inv h
        refine ldR_la X hP sR_5 zR_5 g72 dX12_pour_172 ?_
        obtain ⟨g73, h⟩ := gd_inv h
        obtain ⟨M74, eM74, h⟩ := lt_inv h
        refine stR_la X hP hS sR_5 zR_5 g73 eM74 dX12_pour_173 (fun H locs hP hS => ?_)
        obtain ⟨y75, ey75, h⟩ := lt_inv h
        refine lv_iinc (v := y75) (lv' := [(6, .int y75), (7, .int s0), (0, .ref (q 0)), (1, .int a1), (2, .int a2), (3, .int a3), (4, .int a4), (5, .int a5)]) hx hb dX12_pour_174 hl (k := 7) rfl (by rw [ey75]; rfl) (by decide) rfl (fun ls hl => ?_)
        refine lv_goto (tgt := 118) hx hb dX12_pour_177 (by decide) ?_
        exact ih _ _ res _ _ _ h hP hS (lv_sub hl [2, 3, 4, 5, 6, 7, 0] rfl) K118_0
      refine lv_iload hx hb dX12_pour_118 (lv_at hl 6 rfl) ?_
      refine lv_iload hx hb dX12_pour_120 (lv_at hl 5 rfl) ?_
      refine lv_icmp_ge (tgt := 180) hx hb dX12_pour_122 (by decide) (fun c70 => ?_) (fun c70 => ?_)
      · rw [if_pos c70] at h
        cases h
        exact K118_0 _ _ _ hP hS (lv_sub hl [0] rfl)
      · rw [if_neg c70] at h
        refine lv_iload_n hx hb dX12_pour_125 rfl (lv_at hl 2 rfl) ?_
        refine lv_iload hx hb dX12_pour_126 (lv_at hl 4 rfl) ?_
        refine lv_icmp_ge (tgt := 141) hx hb dX12_pour_128 (by decide) (fun c71 => ?_) (fun c71 => ?_)
        · rw [if_pos c71] at h
          refine lv_iload hx hb dX12_pour_141 (lv_at hl 6 rfl) ?_
          exact hJ143 _ _ _ _ _ _ h hP hS (lv_sub hl [0, 1, 2, 3, 4, 5, 6] rfl)
        · rw [if_neg c71] at h
          refine lv_iload hx hb dX12_pour_131 (lv_at hl 5 rfl) ?_
          refine lv_iconst (v := 1) hx hb dX12_pour_133 (by decide) ?_
          refine lv_isub hx hb dX12_pour_134 ?_
          refine lv_iload hx hb dX12_pour_135 (lv_at hl 6 rfl) ?_
          refine lv_isub hx hb dX12_pour_137 ?_
          refine lv_goto (tgt := 143) hx hb dX12_pour_138 (by decide) ?_
          exact hJ143 _ _ _ _ _ _ h hP hS (lv_sub hl [0, 1, 2, 3, 4, 5, 6] rfl)
  refine lv_iload_n hx hb dX12_pour_0 rfl (lv_at hl 1 rfl) ?_
  obtain ⟨r1, M2, hc3, h⟩ := bnd_inv h
  refine gS_i (As := [.int a1]) X hP hS hl.1 (c_X12_isTray l D cA q aK aV hq hc3) sf_X12_isTray bw_1467 ss_X12_isTray ⟨rfl, rfl⟩ ⟨Nat.le_of_ble_eq_true rfl, Nat.le_of_ble_eq_true rfl⟩ rfl rfl (Nat.le_of_ble_eq_true rfl) dX12_pour_1 (fun H locs hP hS => ?_)
  refine lv_if_eq (tgt := 28) hx hb dX12_pour_4 (by decide) (fun c4 => ?_) (fun c4 => ?_)
  · rw [if_pos c4] at h
    refine lv_aload_n hx hb dX12_pour_28 rfl (lv_at hl 0 rfl) ?_
    refine lv_iconst (v := 1) hx hb dX12_pour_29 (by decide) ?_
    obtain ⟨r5, M6, hc7, h⟩ := bnd_inv h
    refine gV_i (As := [.int (1 : Int32)]) X hP hS hl.1 (c_X12_is l D cA q aK aV hq hc7) sf_X12_is bw_1470 sv_X12_is (rcR_12 sR_0) rfl ⟨rfl, rfl⟩ ⟨Nat.le_of_ble_eq_true rfl, Nat.le_of_ble_eq_true rfl⟩ rfl rfl (Nat.le_of_ble_eq_true rfl) dX12_pour_30 (fun H locs hP hS => ?_)
    obtain ⟨g8, h⟩ := gd_inv h
    exact end_z X hr hk hP hS (Decidable.not_not.mp g8) h dX12_pour_33
  · rw [if_neg c4] at h
    refine lv_iload_n hx hb dX12_pour_7 rfl (lv_at hl 3 rfl) ?_
    obtain ⟨r9, M10, hc11, h⟩ := bnd_inv h
    refine gS_i (As := [.int a3]) X hP hS hl.1 (c_X12_isTray l D cA q aK aV hq hc11) sf_X12_isTray bw_1467 ss_X12_isTray ⟨rfl, rfl⟩ ⟨Nat.le_of_ble_eq_true rfl, Nat.le_of_ble_eq_true rfl⟩ rfl rfl (Nat.le_of_ble_eq_true rfl) dX12_pour_8 (fun H locs hP hS => ?_)
    refine lv_if_eq (tgt := 28) hx hb dX12_pour_11 (by decide) (fun c12 => ?_) (fun c12 => ?_)
    · rw [if_pos c12] at h
      refine lv_aload_n hx hb dX12_pour_28 rfl (lv_at hl 0 rfl) ?_
      refine lv_iconst (v := 1) hx hb dX12_pour_29 (by decide) ?_
      obtain ⟨r13, M14, hc15, h⟩ := bnd_inv h
      refine gV_i (As := [.int (1 : Int32)]) X hP hS hl.1 (c_X12_is l D cA q aK aV hq hc15) sf_X12_is bw_1470 sv_X12_is (rcR_12 sR_0) rfl ⟨rfl, rfl⟩ ⟨Nat.le_of_ble_eq_true rfl, Nat.le_of_ble_eq_true rfl⟩ rfl rfl (Nat.le_of_ble_eq_true rfl) dX12_pour_30 (fun H locs hP hS => ?_)
      obtain ⟨g16, h⟩ := gd_inv h
      exact end_z X hr hk hP hS (Decidable.not_not.mp g16) h dX12_pour_33
    · rw [if_neg c12] at h
      refine lv_iload_n hx hb dX12_pour_14 rfl (lv_at hl 2 rfl) ?_
      refine lv_if_lt (tgt := 28) hx hb dX12_pour_15 (by decide) (fun c17 => ?_) (fun c17 => ?_)
      · rw [if_pos c17] at h
        refine lv_aload_n hx hb dX12_pour_28 rfl (lv_at hl 0 rfl) ?_
        refine lv_iconst (v := 1) hx hb dX12_pour_29 (by decide) ?_
        obtain ⟨r18, M19, hc20, h⟩ := bnd_inv h
        refine gV_i (As := [.int (1 : Int32)]) X hP hS hl.1 (c_X12_is l D cA q aK aV hq hc20) sf_X12_is bw_1470 sv_X12_is (rcR_12 sR_0) rfl ⟨rfl, rfl⟩ ⟨Nat.le_of_ble_eq_true rfl, Nat.le_of_ble_eq_true rfl⟩ rfl rfl (Nat.le_of_ble_eq_true rfl) dX12_pour_30 (fun H locs hP hS => ?_)
        obtain ⟨g21, h⟩ := gd_inv h
        exact end_z X hr hk hP hS (Decidable.not_not.mp g21) h dX12_pour_33
      · rw [if_neg c17] at h
        refine lv_iload hx hb dX12_pour_18 (lv_at hl 4 rfl) ?_
        refine lv_if_lt (tgt := 28) hx hb dX12_pour_20 (by decide) (fun c22 => ?_) (fun c22 => ?_)
        · rw [if_pos c22] at h
          refine lv_aload_n hx hb dX12_pour_28 rfl (lv_at hl 0 rfl) ?_
          refine lv_iconst (v := 1) hx hb dX12_pour_29 (by decide) ?_
          obtain ⟨r23, M24, hc25, h⟩ := bnd_inv h
          refine gV_i (As := [.int (1 : Int32)]) X hP hS hl.1 (c_X12_is l D cA q aK aV hq hc25) sf_X12_is bw_1470 sv_X12_is (rcR_12 sR_0) rfl ⟨rfl, rfl⟩ ⟨Nat.le_of_ble_eq_true rfl, Nat.le_of_ble_eq_true rfl⟩ rfl rfl (Nat.le_of_ble_eq_true rfl) dX12_pour_30 (fun H locs hP hS => ?_)
          obtain ⟨g26, h⟩ := gd_inv h
          exact end_z X hr hk hP hS (Decidable.not_not.mp g26) h dX12_pour_33
        · rw [if_neg c22] at h
          refine lv_iload hx hb dX12_pour_23 (lv_at hl 5 rfl) ?_
          refine lv_if_ge (tgt := 34) hx hb dX12_pour_25 (by decide) (fun c27 => ?_) (fun c27 => ?_)
          · rw [if_pos c27] at h
            refine lv_aload_n hx hb dX12_pour_34 rfl (lv_at hl 0 rfl) ?_
            refine gfR_12_6 X hP sR_0 bw_1329 dX12_pour_35 ?_
            refine lv_iload_n hx hb dX12_pour_38 rfl (lv_at hl 1 rfl) ?_
            obtain ⟨g28, h⟩ := gd_inv h
            refine ldR_ia X hP sR_4 zR_4 g28 dX12_pour_39 ?_
            refine lv_iconst (v := -1) hx hb dX12_pour_40 (by decide) ?_
            refine lv_icmp_eq (tgt := 54) hx hb dX12_pour_41 (by decide) (fun c29 => ?_) (fun c29 => ?_)
            · rw [if_pos c29] at h
              refine lv_aload_n hx hb dX12_pour_54 rfl (lv_at hl 0 rfl) ?_
              refine lv_iconst (v := 2) hx hb dX12_pour_55 (by decide) ?_
              obtain ⟨r30, M31, hc32, h⟩ := bnd_inv h
              refine gV_i (As := [.int (2 : Int32)]) X hP hS hl.1 (c_X12_is l D cA q aK aV hq hc32) sf_X12_is bw_1470 sv_X12_is (rcR_12 sR_0) rfl ⟨rfl, rfl⟩ ⟨Nat.le_of_ble_eq_true rfl, Nat.le_of_ble_eq_true rfl⟩ rfl rfl (Nat.le_of_ble_eq_true rfl) dX12_pour_56 (fun H locs hP hS => ?_)
              obtain ⟨g33, h⟩ := gd_inv h
              exact end_z X hr hk hP hS (Decidable.not_not.mp g33) h dX12_pour_59
            · rw [if_neg c29] at h
              refine lv_aload_n hx hb dX12_pour_44 rfl (lv_at hl 0 rfl) ?_
              refine gfR_12_6 X hP sR_0 bw_1329 dX12_pour_45 ?_
              refine lv_iload_n hx hb dX12_pour_48 rfl (lv_at hl 3 rfl) ?_
              obtain ⟨g34, h⟩ := gd_inv h
              refine ldR_ia X hP sR_4 zR_4 g34 dX12_pour_49 ?_
              refine lv_iconst (v := -1) hx hb dX12_pour_50 (by decide) ?_
              refine lv_icmp_ne (tgt := 60) hx hb dX12_pour_51 (by decide) (fun c35 => ?_) (fun c35 => ?_)
              · rw [if_neg c35] at h
                refine lv_aload_n hx hb dX12_pour_60 rfl (lv_at hl 0 rfl) ?_
                refine gfR_12_5 X hP sR_0 bw_1328 dX12_pour_61 ?_
                refine lv_iload_n hx hb dX12_pour_64 rfl (lv_at hl 1 rfl) ?_
                obtain ⟨g36, h⟩ := gd_inv h
                refine ldR_ia X hP sR_3 zR_3 g36 dX12_pour_65 ?_
                refine lv_aload_n hx hb dX12_pour_66 rfl (lv_at hl 0 rfl) ?_
                refine gfR_12_5 X hP sR_0 bw_1328 dX12_pour_67 ?_
                refine lv_iload_n hx hb dX12_pour_70 rfl (lv_at hl 3 rfl) ?_
                obtain ⟨g37, h⟩ := gd_inv h
                refine ldR_ia X hP sR_3 zR_3 g37 dX12_pour_71 ?_
                refine lv_icmp_eq (tgt := 82) hx hb dX12_pour_72 (by decide) (fun c38 => ?_) (fun c38 => ?_)
                · rw [if_pos c38] at h
                  refine lv_iload hx hb dX12_pour_82 (lv_at hl 5 rfl) ?_
                  refine lv_aload_n hx hb dX12_pour_84 rfl (lv_at hl 0 rfl) ?_
                  refine gfR_12_6 X hP sR_0 bw_1329 dX12_pour_85 ?_
                  refine lv_iload_n hx hb dX12_pour_88 rfl (lv_at hl 1 rfl) ?_
                  obtain ⟨g39, h⟩ := gd_inv h
                  refine ldR_ia X hP sR_4 zR_4 g39 dX12_pour_89 ?_
                  refine lv_iload_n hx hb dX12_pour_90 rfl (lv_at hl 2 rfl) ?_
                  refine lv_isub hx hb dX12_pour_91 ?_
                  refine lv_icmp_gt (tgt := 109) hx hb dX12_pour_92 (by decide) (fun c40 => ?_) (fun c40 => ?_)
                  · rw [if_pos c40] at h
                    refine lv_aload_n hx hb dX12_pour_109 rfl (lv_at hl 0 rfl) ?_
                    refine lv_iconst (v := 3) hx hb dX12_pour_110 (by decide) ?_
                    obtain ⟨r41, M42, hc43, h⟩ := bnd_inv h
                    refine gV_i (As := [.int (3 : Int32)]) X hP hS hl.1 (c_X12_is l D cA q aK aV hq hc43) sf_X12_is bw_1470 sv_X12_is (rcR_12 sR_0) rfl ⟨rfl, rfl⟩ ⟨Nat.le_of_ble_eq_true rfl, Nat.le_of_ble_eq_true rfl⟩ rfl rfl (Nat.le_of_ble_eq_true rfl) dX12_pour_111 (fun H locs hP hS => ?_)
                    obtain ⟨g44, h⟩ := gd_inv h
                    exact end_z X hr hk hP hS (Decidable.not_not.mp g44) h dX12_pour_114
                  · rw [if_neg c40] at h
                    refine lv_iload hx hb dX12_pour_95 (lv_at hl 5 rfl) ?_
                    refine lv_aload_n hx hb dX12_pour_97 rfl (lv_at hl 0 rfl) ?_
                    refine gfR_12_6 X hP sR_0 bw_1329 dX12_pour_98 ?_
                    refine lv_iload_n hx hb dX12_pour_101 rfl (lv_at hl 3 rfl) ?_
                    obtain ⟨g45, h⟩ := gd_inv h
                    refine ldR_ia X hP sR_4 zR_4 g45 dX12_pour_102 ?_
                    refine lv_iload hx hb dX12_pour_103 (lv_at hl 4 rfl) ?_
                    refine lv_isub hx hb dX12_pour_105 ?_
                    refine lv_icmp_le (tgt := 115) hx hb dX12_pour_106 (by decide) (fun c46 => ?_) (fun c46 => ?_)
                    · rw [if_pos c46] at h
                      refine lv_iconst (v := 0) hx hb dX12_pour_115 (by decide) ?_
                      refine lv_istore (lv' := [(6, .int (0 : Int32)), (0, .ref (q 0)), (1, .int a1), (2, .int a2), (3, .int a3), (4, .int a4), (5, .int a5)]) hx hb dX12_pour_116 hl (by decide) rfl (fun ls hl => ?_)
                      obtain ⟨s47, M48, hc49, h⟩ := bnd_inv h
                      try dsimp only at h
                      refine hL118  fz _ _ _ _ _ _ hc49 hP hS (lv_sub hl [1, 2, 3, 4, 5, 6, 0] rfl) (fun H locs ls hP hS hl => ?_)
                      have hl : lv_has ls 8 [(0, .ref (q 0))] := hl
                      refine lv_aload_n hx hb dX12_pour_180 rfl (lv_at hl 0 rfl) ?_
                      refine lv_iconst (v := 0) hx hb dX12_pour_181 (by decide) ?_
                      obtain ⟨r50, M51, hc52, h⟩ := bnd_inv h
                      refine gV_i (As := [.int (0 : Int32)]) X hP hS hl.1 (c_X12_is l D cA q aK aV hq hc52) sf_X12_is bw_1470 sv_X12_is (rcR_12 sR_0) rfl ⟨rfl, rfl⟩ ⟨Nat.le_of_ble_eq_true rfl, Nat.le_of_ble_eq_true rfl⟩ rfl rfl (Nat.le_of_ble_eq_true rfl) dX12_pour_182 (fun H locs hP hS => ?_)
                      obtain ⟨g53, h⟩ := gd_inv h
                      exact end_z X hr hk hP hS (Decidable.not_not.mp g53) h dX12_pour_185
                    · rw [if_neg c46] at h
                      refine lv_aload_n hx hb dX12_pour_109 rfl (lv_at hl 0 rfl) ?_
                      refine lv_iconst (v := 3) hx hb dX12_pour_110 (by decide) ?_
                      obtain ⟨r54, M55, hc56, h⟩ := bnd_inv h
                      refine gV_i (As := [.int (3 : Int32)]) X hP hS hl.1 (c_X12_is l D cA q aK aV hq hc56) sf_X12_is bw_1470 sv_X12_is (rcR_12 sR_0) rfl ⟨rfl, rfl⟩ ⟨Nat.le_of_ble_eq_true rfl, Nat.le_of_ble_eq_true rfl⟩ rfl rfl (Nat.le_of_ble_eq_true rfl) dX12_pour_111 (fun H locs hP hS => ?_)
                      obtain ⟨g57, h⟩ := gd_inv h
                      exact end_z X hr hk hP hS (Decidable.not_not.mp g57) h dX12_pour_114
                · rw [if_neg c38] at h
                  refine lv_aload_n hx hb dX12_pour_75 rfl (lv_at hl 0 rfl) ?_
                  refine lv_bipush (v := 8) hx hb dX12_pour_76 (by decide) ?_
                  obtain ⟨r58, M59, hc60, h⟩ := bnd_inv h
                  refine gV_i (As := [.int (8 : Int32)]) X hP hS hl.1 (c_X12_is l D cA q aK aV hq hc60) sf_X12_is bw_1470 sv_X12_is (rcR_12 sR_0) rfl ⟨rfl, rfl⟩ ⟨Nat.le_of_ble_eq_true rfl, Nat.le_of_ble_eq_true rfl⟩ rfl rfl (Nat.le_of_ble_eq_true rfl) dX12_pour_78 (fun H locs hP hS => ?_)
                  obtain ⟨g61, h⟩ := gd_inv h
                  exact end_z X hr hk hP hS (Decidable.not_not.mp g61) h dX12_pour_81
              · rw [if_pos c35] at h
                refine lv_aload_n hx hb dX12_pour_54 rfl (lv_at hl 0 rfl) ?_
                refine lv_iconst (v := 2) hx hb dX12_pour_55 (by decide) ?_
                obtain ⟨r62, M63, hc64, h⟩ := bnd_inv h
                refine gV_i (As := [.int (2 : Int32)]) X hP hS hl.1 (c_X12_is l D cA q aK aV hq hc64) sf_X12_is bw_1470 sv_X12_is (rcR_12 sR_0) rfl ⟨rfl, rfl⟩ ⟨Nat.le_of_ble_eq_true rfl, Nat.le_of_ble_eq_true rfl⟩ rfl rfl (Nat.le_of_ble_eq_true rfl) dX12_pour_56 (fun H locs hP hS => ?_)
                obtain ⟨g65, h⟩ := gd_inv h
                exact end_z X hr hk hP hS (Decidable.not_not.mp g65) h dX12_pour_59
          · rw [if_neg c27] at h
            refine lv_aload_n hx hb dX12_pour_28 rfl (lv_at hl 0 rfl) ?_
            refine lv_iconst (v := 1) hx hb dX12_pour_29 (by decide) ?_
            obtain ⟨r66, M67, hc68, h⟩ := bnd_inv h
            refine gV_i (As := [.int (1 : Int32)]) X hP hS hl.1 (c_X12_is l D cA q aK aV hq hc68) sf_X12_is bw_1470 sv_X12_is (rcR_12 sR_0) rfl ⟨rfl, rfl⟩ ⟨Nat.le_of_ble_eq_true rfl, Nat.le_of_ble_eq_true rfl⟩ rfl rfl (Nat.le_of_ble_eq_true rfl) dX12_pour_30 (fun H locs hP hS => ?_)
            obtain ⟨g69, h⟩ := gd_inv h
            exact end_z X hr hk hP hS (Decidable.not_not.mp g69) h dX12_pour_33
theorem dX12_isFrom_0 : decode cX12_isFrom 0 = .ok (.lload_n 0, 1) := by decide +kernel
theorem dX12_isFrom_1 : decode cX12_isFrom 1 = .ok (.lload_n 2, 1) := by decide +kernel
theorem dX12_isFrom_2 : decode cX12_isFrom 2 = .ok (.lcmp, 1) := by decide +kernel
theorem dX12_isFrom_3 : decode cX12_isFrom 3 = .ok (.ifCond .lt 14, 3) := by decide +kernel
theorem dX12_isFrom_6 : decode cX12_isFrom 6 = .ok (.lload_n 0, 1) := by decide +kernel
theorem dX12_isFrom_7 : decode cX12_isFrom 7 = .ok (.lload 4, 2) := by decide +kernel
theorem dX12_isFrom_9 : decode cX12_isFrom 9 = .ok (.lcmp, 1) := by decide +kernel
theorem dX12_isFrom_10 : decode cX12_isFrom 10 = .ok (.ifCond .gt 7, 3) := by decide +kernel
theorem dX12_isFrom_13 : decode cX12_isFrom 13 = .ok (.iconst 1, 1) := by decide +kernel
theorem dX12_isFrom_14 : decode cX12_isFrom 14 = .ok (.goto 4, 3) := by decide +kernel
theorem dX12_isFrom_17 : decode cX12_isFrom 17 = .ok (.iconst 0, 1) := by decide +kernel
theorem dX12_isFrom_18 : decode cX12_isFrom 18 = .ok (.ireturn, 1) := by decide +kernel
set_option maxRecDepth 100000 in
set_option maxHeartbeats 8000000 in
theorem c_X12_isFrom (l : Launch) (D : va_G) (cA : Nat → ClassId) (q aK aV : Nat → Nat) (hq : injG 20 q) {a0 : Int64} {a2 : Int64} {a4 : Int64} {M M0 : Mem} {r0 : Int32} (h : f_X12_isFrom a0 a2 a4 M = some (r0, M0)) : Met l yX12_isFrom (.code yX12_isFrom cX12_isFrom 6 (some .boolean) :: BW) ({ frames := 1, cells := 0, slots := 0, locals := 17 } : Room) (va_Pc [.long a0, .long a2, .long a4] (CB 20 (ceR cA q) D cA q aK aV M)) (Qi 20 (ceR cA q) D q r0 M0) 0 0 (AqG 20 q) := by
  refine gMet RX12 (by decide +kernel) rfl hq (Nat.le_of_ble_eq_true rfl) ?_
  intro p e s m below meth c ls X hr hk hP hS hl
  have hx := X.1
  have hb := X.2.1
  have hl : lv_has ls 6 [(0, .long a0), (2, .long a2), (4, .long a4)] := hl
  rw [f_X12_isFrom] at h
  refine lv_lload_n hx hb dX12_isFrom_0 rfl (lv_at hl 0 rfl) ?_
  refine lv_lload_n hx hb dX12_isFrom_1 rfl (lv_at hl 1 rfl) ?_
  refine W.lcmp hx hb dX12_isFrom_2 ?_
  refine lv_if_lt (tgt := 17) hx hb dX12_isFrom_3 (by decide) (fun c1 => ?_) (fun c1 => ?_)
  · rw [if_pos c1] at h
    refine lv_iconst (v := 0) hx hb dX12_isFrom_17 (by decide) ?_
    exact end_z X hr hk hP hS (Or.inl rfl) h dX12_isFrom_18
  · rw [if_neg c1] at h
    refine lv_lload_n hx hb dX12_isFrom_6 rfl (lv_at hl 0 rfl) ?_
    refine lv_lload hx hb dX12_isFrom_7 (lv_at hl 2 rfl) ?_
    refine W.lcmp hx hb dX12_isFrom_9 ?_
    refine lv_if_gt (tgt := 17) hx hb dX12_isFrom_10 (by decide) (fun c2 => ?_) (fun c2 => ?_)
    · rw [if_pos c2] at h
      refine lv_iconst (v := 0) hx hb dX12_isFrom_17 (by decide) ?_
      exact end_z X hr hk hP hS (Or.inl rfl) h dX12_isFrom_18
    · rw [if_neg c2] at h
      refine lv_iconst (v := 1) hx hb dX12_isFrom_13 (by decide) ?_
      refine lv_goto (tgt := 18) hx hb dX12_isFrom_14 (by decide) ?_
      exact end_z X hr hk hP hS (Or.inr rfl) h dX12_isFrom_18
theorem dX12_four_0 : decode cX12_four 0 = .ok (.bipush 24, 2) := by decide +kernel
theorem dX12_four_2 : decode cX12_four 2 = .ok (.istore_n 2, 1) := by decide +kernel
theorem dX12_four_3 : decode cX12_four 3 = .ok (.iload_n 2, 1) := by decide +kernel
theorem dX12_four_4 : decode cX12_four 4 = .ok (.ifCond .lt 32, 3) := by decide +kernel
theorem dX12_four_7 : decode cX12_four 7 = .ok (.aload_n 0, 1) := by decide +kernel
theorem dX12_four_8 : decode cX12_four 8 = .ok (.getfield 30, 3) := by decide +kernel
theorem dX12_four_11 : decode cX12_four 11 = .ok (.aload_n 0, 1) := by decide +kernel
theorem dX12_four_12 : decode cX12_four 12 = .ok (.getfield 115, 3) := by decide +kernel
theorem dX12_four_15 : decode cX12_four 15 = .ok (.iload_n 1, 1) := by decide +kernel
theorem dX12_four_16 : decode cX12_four 16 = .ok (.iload_n 2, 1) := by decide +kernel
theorem dX12_four_17 : decode cX12_four 17 = .ok (.ishr, 1) := by decide +kernel
theorem dX12_four_18 : decode cX12_four 18 = .ok (.i2b, 1) := by decide +kernel
theorem dX12_four_19 : decode cX12_four 19 = .ok (.bastore, 1) := by decide +kernel
theorem dX12_four_20 : decode cX12_four 20 = .ok (.aload_n 0, 1) := by decide +kernel
theorem dX12_four_21 : decode cX12_four 21 = .ok (.dup, 1) := by decide +kernel
theorem dX12_four_22 : decode cX12_four 22 = .ok (.getfield 115, 3) := by decide +kernel
theorem dX12_four_25 : decode cX12_four 25 = .ok (.iconst 1, 1) := by decide +kernel
theorem dX12_four_26 : decode cX12_four 26 = .ok (.iadd, 1) := by decide +kernel
theorem dX12_four_27 : decode cX12_four 27 = .ok (.putfield 115, 3) := by decide +kernel
theorem dX12_four_30 : decode cX12_four 30 = .ok (.iinc 2 (-8), 3) := by decide +kernel
theorem dX12_four_33 : decode cX12_four 33 = .ok (.goto (-30), 3) := by decide +kernel
theorem dX12_four_36 : decode cX12_four 36 = .ok (.return_, 1) := by decide +kernel
set_option maxRecDepth 100000 in
set_option maxHeartbeats 8000000 in
theorem c_X12_four (l : Launch) (D : va_G) (cA : Nat → ClassId) (q aK aV : Nat → Nat) (hq : injG 20 q) {a1 : Int32} {M M0 : Mem} (h : f_X12_four a1 M = some ((), M0)) : Met l yX12_four (.code yX12_four cX12_four 3 none :: BW) ({ frames := 1, cells := 0, slots := 0, locals := 14 } : Room) (va_Pc [.ref (q 0), .int a1] (CB 20 (ceR cA q) D cA q aK aV M)) (Qv 20 (ceR cA q) D q M0) 0 0 (AqG 20 q) := by
  refine gMet RX12 (by decide +kernel) rfl hq (Nat.le_of_ble_eq_true rfl) ?_
  intro p e s m below meth c ls X hr hk hP hS hl
  have hx := X.1
  have hb := X.2.1
  have hl : lv_has ls 3 [(0, .ref (q 0)), (1, .int a1)] := hl
  rw [f_X12_four] at h
  have hL3 : ∀ (fu : Nat) (b2 : Int32) (M : Mem) (res : (Unit) × Mem) (H : Heap) (locs : List Loc) (ls : Array Slot), f_X12_four_L3 a1 fu b2 M = some res → va_P D vwCl (wsG 20 (ceR cA q) q M) H → va_S (AqG 20 q) s.heap H locs → lv_has ls 3 [(0, .ref (q 0)), (1, .int a1), (2, .int b2)] → (∀ (H : Heap) (locs : List Loc) (ls : Array Slot), va_P D vwCl (wsG 20 (ceR cA q) q res.2) H → va_S (AqG 20 q) s.heap H locs → lv_has ls 3 [] → W p l e ({ frames := 1, cells := 0, slots := 0, locals := 14 } : Room) s m [.ref (q 0), .int a1].toArray below meth c H locs 0 0 (MQ below (Qv 20 (ceR cA q) D q M0) [.ref (q 0), .int a1].toArray s 0 0 (AqG 20 q)) (F0 m 36 ls [])) → W p l e ({ frames := 1, cells := 0, slots := 0, locals := 14 } : Room) s m [.ref (q 0), .int a1].toArray below meth c H locs 0 0 (MQ below (Qv 20 (ceR cA q) D q M0) [.ref (q 0), .int a1].toArray s 0 0 (AqG 20 q)) (F0 m 3 ls []) := by
    intro fu
    induction fu with
    | zero => intro b2 M res H locs ls h; exact absurd h (by simp [f_X12_four_L3])
    | succ fu ih =>
      intro b2 M res H locs ls h hP hS hl K3_0
      rw [f_X12_four_L3] at h
      refine lv_iload_n hx hb dX12_four_3 rfl (lv_at hl 2 rfl) ?_
      refine lv_if_lt (tgt := 36) hx hb dX12_four_4 (by decide) (fun c4 => ?_) (fun c4 => ?_)
      · rw [if_pos c4] at h
        cases h
        exact K3_0 _ _ _ hP hS (lv_sub hl [] rfl)
      · rw [if_neg c4] at h
        refine lv_aload_n hx hb dX12_four_7 rfl (lv_at hl 0 rfl) ?_
        refine gfR_12_8 X hP sR_0 bw_1331 dX12_four_8 ?_
        refine lv_aload_n hx hb dX12_four_11 rfl (lv_at hl 0 rfl) ?_
        refine gfR_12_10 X hP sR_0 bw_1333 dX12_four_12 ?_
        refine lv_iload_n hx hb dX12_four_15 rfl (lv_at hl 1 rfl) ?_
        refine lv_iload_n hx hb dX12_four_16 rfl (lv_at hl 2 rfl) ?_
        refine lv_ishr hx hb dX12_four_17 ?_
        refine lv_i2b hx hb dX12_four_18 rfl ?_
        obtain ⟨g5, h⟩ := gd_inv h
        obtain ⟨M6, eM6, h⟩ := lt_inv h
        refine stR_ba X hP hS sR_6 zR_6 g5 eM6 dX12_four_19 (fun H locs hP hS => ?_)
        refine lv_aload_n hx hb dX12_four_20 rfl (lv_at hl 0 rfl) ?_
        refine lv_dup hx hb dX12_four_21 rfl ?_
        refine gfR_12_10 X hP sR_0 bw_1333 dX12_four_22 ?_
        refine lv_iconst (v := 1) hx hb dX12_four_25 (by decide) ?_
        refine lv_iadd hx hb dX12_four_26 ?_
        obtain ⟨M7, eM7, h⟩ := lt_inv h
        refine pfR_12_10 X hP hS sR_0 bw_1333 eM7 dX12_four_27 (fun H locs hP hS => ?_)
        obtain ⟨y8, ey8, h⟩ := lt_inv h
        refine lv_iinc (v := y8) (lv' := [(2, .int y8), (0, .ref (q 0)), (1, .int a1)]) hx hb dX12_four_30 hl (k := 2) rfl (by rw [ey8]; rfl) (by decide) rfl (fun ls hl => ?_)
        refine lv_goto (tgt := 3) hx hb dX12_four_33 (by decide) ?_
        exact ih _ _ res _ _ _ h hP hS (lv_sub hl [1, 2, 0] rfl) K3_0
  refine lv_bipush (v := 24) hx hb dX12_four_0 (by decide) ?_
  refine lv_istore_n (lv' := [(2, .int (24 : Int32)), (0, .ref (q 0)), (1, .int a1)]) hx hb dX12_four_2 rfl hl (by decide) rfl (fun ls hl => ?_)
  obtain ⟨s1, M2, hc3, h⟩ := bnd_inv h
  try dsimp only at h
  refine hL3  fz _ _ _ _ _ _ hc3 hP hS (lv_sub hl [1, 2, 0] rfl) (fun H locs ls hP hS hl => ?_)
  have hl : lv_has ls 3 [] := hl
  exact end_v X hr hk hP hS h dX12_four_36
theorem dX12_feed_0 : decode cX12_feed 0 = .ok (.aload_n 0, 1) := by decide +kernel
theorem dX12_feed_1 : decode cX12_feed 1 = .ok (.getfield 115, 3) := by decide +kernel
theorem dX12_feed_4 : decode cX12_feed 4 = .ok (.bipush 20, 2) := by decide +kernel
theorem dX12_feed_6 : decode cX12_feed 6 = .ok (.iadd, 1) := by decide +kernel
theorem dX12_feed_7 : decode cX12_feed 7 = .ok (.sipush 900, 3) := by decide +kernel
theorem dX12_feed_10 : decode cX12_feed 10 = .ok (.if_icmp .le 5, 3) := by decide +kernel
theorem dX12_feed_13 : decode cX12_feed 13 = .ok (.iconst (-1), 1) := by decide +kernel
theorem dX12_feed_14 : decode cX12_feed 14 = .ok (.ireturn, 1) := by decide +kernel
theorem dX12_feed_15 : decode cX12_feed 15 = .ok (.aload_n 0, 1) := by decide +kernel
theorem dX12_feed_16 : decode cX12_feed 16 = .ok (.iload_n 1, 1) := by decide +kernel
theorem dX12_feed_17 : decode cX12_feed 17 = .ok (.invokevirtual 118, 3) := by decide +kernel
theorem dX12_feed_20 : decode cX12_feed 20 = .ok (.aload_n 0, 1) := by decide +kernel
theorem dX12_feed_21 : decode cX12_feed 21 = .ok (.iload_n 2, 1) := by decide +kernel
theorem dX12_feed_22 : decode cX12_feed 22 = .ok (.invokevirtual 118, 3) := by decide +kernel
theorem dX12_feed_25 : decode cX12_feed 25 = .ok (.aload_n 0, 1) := by decide +kernel
theorem dX12_feed_26 : decode cX12_feed 26 = .ok (.iload_n 3, 1) := by decide +kernel
theorem dX12_feed_27 : decode cX12_feed 27 = .ok (.invokevirtual 118, 3) := by decide +kernel
theorem dX12_feed_30 : decode cX12_feed 30 = .ok (.aload_n 0, 1) := by decide +kernel
theorem dX12_feed_31 : decode cX12_feed 31 = .ok (.iload 4, 2) := by decide +kernel
theorem dX12_feed_33 : decode cX12_feed 33 = .ok (.invokevirtual 118, 3) := by decide +kernel
theorem dX12_feed_36 : decode cX12_feed 36 = .ok (.aload_n 0, 1) := by decide +kernel
theorem dX12_feed_37 : decode cX12_feed 37 = .ok (.iload 5, 2) := by decide +kernel
theorem dX12_feed_39 : decode cX12_feed 39 = .ok (.invokevirtual 118, 3) := by decide +kernel
theorem dX12_feed_42 : decode cX12_feed 42 = .ok (.aload_n 0, 1) := by decide +kernel
theorem dX12_feed_43 : decode cX12_feed 43 = .ok (.getfield 115, 3) := by decide +kernel
theorem dX12_feed_46 : decode cX12_feed 46 = .ok (.ireturn, 1) := by decide +kernel
set_option maxRecDepth 100000 in
set_option maxHeartbeats 8000000 in
theorem c_X12_feed (l : Launch) (D : va_G) (cA : Nat → ClassId) (q aK aV : Nat → Nat) (hq : injG 20 q) {a1 : Int32} {a2 : Int32} {a3 : Int32} {a4 : Int32} {a5 : Int32} {M M0 : Mem} {r0 : Int32} (h : f_X12_feed a1 a2 a3 a4 a5 M = some (r0, M0)) : Met l yX12_feed (.code yX12_feed cX12_feed 6 (some .int) :: BW) ({ frames := 2, cells := 0, slots := 0, locals := 36 } : Room) (va_Pc [.ref (q 0), .int a1, .int a2, .int a3, .int a4, .int a5] (CB 20 (ceR cA q) D cA q aK aV M)) (Qi 20 (ceR cA q) D q r0 M0) 0 0 (AqG 20 q) := by
  refine gMet RX12 (by decide +kernel) rfl hq (Nat.le_of_ble_eq_true rfl) ?_
  intro p e s m below meth c ls X hr hk hP hS hl
  have hx := X.1
  have hb := X.2.1
  have hl : lv_has ls 6 [(0, .ref (q 0)), (1, .int a1), (2, .int a2), (3, .int a3), (4, .int a4), (5, .int a5)] := hl
  rw [f_X12_feed] at h
  refine lv_aload_n hx hb dX12_feed_0 rfl (lv_at hl 0 rfl) ?_
  refine gfR_12_10 X hP sR_0 bw_1333 dX12_feed_1 ?_
  refine lv_bipush (v := 20) hx hb dX12_feed_4 (by decide) ?_
  refine lv_iadd hx hb dX12_feed_6 ?_
  refine lv_sipush (v := 900) hx hb dX12_feed_7 (by decide) ?_
  refine lv_icmp_le (tgt := 15) hx hb dX12_feed_10 (by decide) (fun c1 => ?_) (fun c1 => ?_)
  · rw [if_pos c1] at h
    refine lv_aload_n hx hb dX12_feed_15 rfl (lv_at hl 0 rfl) ?_
    refine lv_iload_n hx hb dX12_feed_16 rfl (lv_at hl 1 rfl) ?_
    obtain ⟨_, M3, hc4, h⟩ := bnd_inv h
    refine gV_v (As := [.int a1]) X hP hS hl.1 (c_X12_four l D cA q aK aV hq hc4) sf_X12_four bw_1498 sv_X12_four (rcR_12 sR_0) rfl ⟨rfl, rfl⟩ ⟨Nat.le_of_ble_eq_true rfl, Nat.le_of_ble_eq_true rfl⟩ rfl rfl (Nat.le_of_ble_eq_true rfl) dX12_feed_17 (fun H locs hP hS => ?_)
    refine lv_aload_n hx hb dX12_feed_20 rfl (lv_at hl 0 rfl) ?_
    refine lv_iload_n hx hb dX12_feed_21 rfl (lv_at hl 2 rfl) ?_
    obtain ⟨_, M6, hc7, h⟩ := bnd_inv h
    refine gV_v (As := [.int a2]) X hP hS hl.1 (c_X12_four l D cA q aK aV hq hc7) sf_X12_four bw_1498 sv_X12_four (rcR_12 sR_0) rfl ⟨rfl, rfl⟩ ⟨Nat.le_of_ble_eq_true rfl, Nat.le_of_ble_eq_true rfl⟩ rfl rfl (Nat.le_of_ble_eq_true rfl) dX12_feed_22 (fun H locs hP hS => ?_)
    refine lv_aload_n hx hb dX12_feed_25 rfl (lv_at hl 0 rfl) ?_
    refine lv_iload_n hx hb dX12_feed_26 rfl (lv_at hl 3 rfl) ?_
    obtain ⟨_, M9, hc10, h⟩ := bnd_inv h
    refine gV_v (As := [.int a3]) X hP hS hl.1 (c_X12_four l D cA q aK aV hq hc10) sf_X12_four bw_1498 sv_X12_four (rcR_12 sR_0) rfl ⟨rfl, rfl⟩ ⟨Nat.le_of_ble_eq_true rfl, Nat.le_of_ble_eq_true rfl⟩ rfl rfl (Nat.le_of_ble_eq_true rfl) dX12_feed_27 (fun H locs hP hS => ?_)
    refine lv_aload_n hx hb dX12_feed_30 rfl (lv_at hl 0 rfl) ?_
    refine lv_iload hx hb dX12_feed_31 (lv_at hl 4 rfl) ?_
    obtain ⟨_, M12, hc13, h⟩ := bnd_inv h
    refine gV_v (As := [.int a4]) X hP hS hl.1 (c_X12_four l D cA q aK aV hq hc13) sf_X12_four bw_1498 sv_X12_four (rcR_12 sR_0) rfl ⟨rfl, rfl⟩ ⟨Nat.le_of_ble_eq_true rfl, Nat.le_of_ble_eq_true rfl⟩ rfl rfl (Nat.le_of_ble_eq_true rfl) dX12_feed_33 (fun H locs hP hS => ?_)
    refine lv_aload_n hx hb dX12_feed_36 rfl (lv_at hl 0 rfl) ?_
    refine lv_iload hx hb dX12_feed_37 (lv_at hl 5 rfl) ?_
    obtain ⟨_, M15, hc16, h⟩ := bnd_inv h
    refine gV_v (As := [.int a5]) X hP hS hl.1 (c_X12_four l D cA q aK aV hq hc16) sf_X12_four bw_1498 sv_X12_four (rcR_12 sR_0) rfl ⟨rfl, rfl⟩ ⟨Nat.le_of_ble_eq_true rfl, Nat.le_of_ble_eq_true rfl⟩ rfl rfl (Nat.le_of_ble_eq_true rfl) dX12_feed_39 (fun H locs hP hS => ?_)
    refine lv_aload_n hx hb dX12_feed_42 rfl (lv_at hl 0 rfl) ?_
    refine gfR_12_10 X hP sR_0 bw_1333 dX12_feed_43 ?_
    exact end_i X hr hk hP hS h dX12_feed_46
  · rw [if_neg c1] at h
    refine lv_iconst (v := -1) hx hb dX12_feed_13 (by decide) ?_
    exact end_i X hr hk hP hS h dX12_feed_14
