theorem dX12_byteAt_0 : decode cX12_byteAt 0 = .ok (.iload_n 1, 1) := by decide +kernel
theorem dX12_byteAt_1 : decode cX12_byteAt 1 = .ok (.aload_n 0, 1) := by decide +kernel
theorem dX12_byteAt_2 : decode cX12_byteAt 2 = .ok (.getfield 121, 3) := by decide +kernel
theorem dX12_byteAt_5 : decode cX12_byteAt 5 = .ok (.if_icmp .ge 16, 3) := by decide +kernel
theorem dX12_byteAt_8 : decode cX12_byteAt 8 = .ok (.aload_n 0, 1) := by decide +kernel
theorem dX12_byteAt_9 : decode cX12_byteAt 9 = .ok (.getfield 34, 3) := by decide +kernel
theorem dX12_byteAt_12 : decode cX12_byteAt 12 = .ok (.iload_n 1, 1) := by decide +kernel
theorem dX12_byteAt_13 : decode cX12_byteAt 13 = .ok (.baload, 1) := by decide +kernel
theorem dX12_byteAt_14 : decode cX12_byteAt 14 = .ok (.sipush 255, 3) := by decide +kernel
theorem dX12_byteAt_17 : decode cX12_byteAt 17 = .ok (.iand, 1) := by decide +kernel
theorem dX12_byteAt_18 : decode cX12_byteAt 18 = .ok (.goto 4, 3) := by decide +kernel
theorem dX12_byteAt_21 : decode cX12_byteAt 21 = .ok (.iconst (-1), 1) := by decide +kernel
theorem dX12_byteAt_22 : decode cX12_byteAt 22 = .ok (.ireturn, 1) := by decide +kernel
set_option maxRecDepth 100000 in
set_option maxHeartbeats 8000000 in
theorem c_X12_byteAt (l : Launch) (D : va_G) (cA : Nat → ClassId) (q aK aV : Nat → Nat) (hq : injG 20 q) {a1 : Int32} {M M0 : Mem} {r0 : Int32} (h : f_X12_byteAt a1 M = some (r0, M0)) : Met l yX12_byteAt (.code yX12_byteAt cX12_byteAt 2 (some .int) :: BW) ({ frames := 1, cells := 0, slots := 0, locals := 13 } : Room) (va_Pc [.ref (q 0), .int a1] (CB 20 (ceR cA q) D cA q aK aV M)) (Qi 20 (ceR cA q) D q r0 M0) 0 0 (AqG 20 q) := by
  refine gMet RX12 (by decide +kernel) rfl hq (Nat.le_of_ble_eq_true rfl) ?_
  intro p e s m below meth c ls X hr hk hP hS hl
  have hx := X.1
  have hb := X.2.1
  have hl : lv_has ls 2 [(0, .ref (q 0)), (1, .int a1)] := hl
  rw [f_X12_byteAt] at h
  refine lv_iload_n hx hb dX12_byteAt_0 rfl (lv_at hl 1 rfl) ?_
  refine lv_aload_n hx hb dX12_byteAt_1 rfl (lv_at hl 0 rfl) ?_
  refine gfR_12_11 X hP sR_0 bw_1334 dX12_byteAt_2 ?_
  refine lv_icmp_ge (tgt := 21) hx hb dX12_byteAt_5 (by decide) (fun c1 => ?_) (fun c1 => ?_)
  · rw [if_pos c1] at h
    refine lv_iconst (v := -1) hx hb dX12_byteAt_21 (by decide) ?_
    exact end_i X hr hk hP hS h dX12_byteAt_22
  · rw [if_neg c1] at h
    refine lv_aload_n hx hb dX12_byteAt_8 rfl (lv_at hl 0 rfl) ?_
    refine gfR_12_9 X hP sR_0 bw_1332 dX12_byteAt_9 ?_
    refine lv_iload_n hx hb dX12_byteAt_12 rfl (lv_at hl 1 rfl) ?_
    obtain ⟨g2, h⟩ := gd_inv h
    refine ldR_ba X hP sR_7 zR_7 g2 dX12_byteAt_13 ?_
    refine lv_sipush (v := 255) hx hb dX12_byteAt_14 (by decide) ?_
    refine lv_iand hx hb dX12_byteAt_17 ?_
    refine lv_goto (tgt := 22) hx hb dX12_byteAt_18 (by decide) ?_
    exact end_i X hr hk hP hS h dX12_byteAt_22
theorem dX12_isSmall_0 : decode cX12_isSmall 0 = .ok (.iload_n 0, 1) := by decide +kernel
theorem dX12_isSmall_1 : decode cX12_isSmall 1 = .ok (.bipush 97, 2) := by decide +kernel
theorem dX12_isSmall_3 : decode cX12_isSmall 3 = .ok (.if_icmp .lt 13, 3) := by decide +kernel
theorem dX12_isSmall_6 : decode cX12_isSmall 6 = .ok (.iload_n 0, 1) := by decide +kernel
theorem dX12_isSmall_7 : decode cX12_isSmall 7 = .ok (.bipush 122, 2) := by decide +kernel
theorem dX12_isSmall_9 : decode cX12_isSmall 9 = .ok (.if_icmp .gt 7, 3) := by decide +kernel
theorem dX12_isSmall_12 : decode cX12_isSmall 12 = .ok (.iconst 1, 1) := by decide +kernel
theorem dX12_isSmall_13 : decode cX12_isSmall 13 = .ok (.goto 4, 3) := by decide +kernel
theorem dX12_isSmall_16 : decode cX12_isSmall 16 = .ok (.iconst 0, 1) := by decide +kernel
theorem dX12_isSmall_17 : decode cX12_isSmall 17 = .ok (.ireturn, 1) := by decide +kernel
set_option maxRecDepth 100000 in
set_option maxHeartbeats 8000000 in
theorem c_X12_isSmall (l : Launch) (D : va_G) (cA : Nat → ClassId) (q aK aV : Nat → Nat) (hq : injG 20 q) {a0 : Int32} {M M0 : Mem} {r0 : Int32} (h : f_X12_isSmall a0 M = some (r0, M0)) : Met l yX12_isSmall (.code yX12_isSmall cX12_isSmall 1 (some .boolean) :: BW) ({ frames := 1, cells := 0, slots := 0, locals := 12 } : Room) (va_Pc [.int a0] (CB 20 (ceR cA q) D cA q aK aV M)) (Qi 20 (ceR cA q) D q r0 M0) 0 0 (AqG 20 q) := by
  refine gMet RX12 (by decide +kernel) rfl hq (Nat.le_of_ble_eq_true rfl) ?_
  intro p e s m below meth c ls X hr hk hP hS hl
  have hx := X.1
  have hb := X.2.1
  have hl : lv_has ls 1 [(0, .int a0)] := hl
  rw [f_X12_isSmall] at h
  refine lv_iload_n hx hb dX12_isSmall_0 rfl (lv_at hl 0 rfl) ?_
  refine lv_bipush (v := 97) hx hb dX12_isSmall_1 (by decide) ?_
  refine lv_icmp_lt (tgt := 16) hx hb dX12_isSmall_3 (by decide) (fun c1 => ?_) (fun c1 => ?_)
  · rw [if_pos c1] at h
    refine lv_iconst (v := 0) hx hb dX12_isSmall_16 (by decide) ?_
    exact end_z X hr hk hP hS (Or.inl rfl) h dX12_isSmall_17
  · rw [if_neg c1] at h
    refine lv_iload_n hx hb dX12_isSmall_6 rfl (lv_at hl 0 rfl) ?_
    refine lv_bipush (v := 122) hx hb dX12_isSmall_7 (by decide) ?_
    refine lv_icmp_gt (tgt := 16) hx hb dX12_isSmall_9 (by decide) (fun c2 => ?_) (fun c2 => ?_)
    · rw [if_pos c2] at h
      refine lv_iconst (v := 0) hx hb dX12_isSmall_16 (by decide) ?_
      exact end_z X hr hk hP hS (Or.inl rfl) h dX12_isSmall_17
    · rw [if_neg c2] at h
      refine lv_iconst (v := 1) hx hb dX12_isSmall_12 (by decide) ?_
      refine lv_goto (tgt := 17) hx hb dX12_isSmall_13 (by decide) ?_
      exact end_z X hr hk hP hS (Or.inr rfl) h dX12_isSmall_17
theorem dX12_isDigit_0 : decode cX12_isDigit 0 = .ok (.iload_n 0, 1) := by decide +kernel
theorem dX12_isDigit_1 : decode cX12_isDigit 1 = .ok (.bipush 48, 2) := by decide +kernel
theorem dX12_isDigit_3 : decode cX12_isDigit 3 = .ok (.if_icmp .lt 13, 3) := by decide +kernel
theorem dX12_isDigit_6 : decode cX12_isDigit 6 = .ok (.iload_n 0, 1) := by decide +kernel
theorem dX12_isDigit_7 : decode cX12_isDigit 7 = .ok (.bipush 57, 2) := by decide +kernel
theorem dX12_isDigit_9 : decode cX12_isDigit 9 = .ok (.if_icmp .gt 7, 3) := by decide +kernel
theorem dX12_isDigit_12 : decode cX12_isDigit 12 = .ok (.iconst 1, 1) := by decide +kernel
theorem dX12_isDigit_13 : decode cX12_isDigit 13 = .ok (.goto 4, 3) := by decide +kernel
theorem dX12_isDigit_16 : decode cX12_isDigit 16 = .ok (.iconst 0, 1) := by decide +kernel
theorem dX12_isDigit_17 : decode cX12_isDigit 17 = .ok (.ireturn, 1) := by decide +kernel
set_option maxRecDepth 100000 in
set_option maxHeartbeats 8000000 in
theorem c_X12_isDigit (l : Launch) (D : va_G) (cA : Nat → ClassId) (q aK aV : Nat → Nat) (hq : injG 20 q) {a0 : Int32} {M M0 : Mem} {r0 : Int32} (h : f_X12_isDigit a0 M = some (r0, M0)) : Met l yX12_isDigit (.code yX12_isDigit cX12_isDigit 1 (some .boolean) :: BW) ({ frames := 1, cells := 0, slots := 0, locals := 12 } : Room) (va_Pc [.int a0] (CB 20 (ceR cA q) D cA q aK aV M)) (Qi 20 (ceR cA q) D q r0 M0) 0 0 (AqG 20 q) := by
  refine gMet RX12 (by decide +kernel) rfl hq (Nat.le_of_ble_eq_true rfl) ?_
  intro p e s m below meth c ls X hr hk hP hS hl
  have hx := X.1
  have hb := X.2.1
  have hl : lv_has ls 1 [(0, .int a0)] := hl
  rw [f_X12_isDigit] at h
  refine lv_iload_n hx hb dX12_isDigit_0 rfl (lv_at hl 0 rfl) ?_
  refine lv_bipush (v := 48) hx hb dX12_isDigit_1 (by decide) ?_
  refine lv_icmp_lt (tgt := 16) hx hb dX12_isDigit_3 (by decide) (fun c1 => ?_) (fun c1 => ?_)
  · rw [if_pos c1] at h
    refine lv_iconst (v := 0) hx hb dX12_isDigit_16 (by decide) ?_
    exact end_z X hr hk hP hS (Or.inl rfl) h dX12_isDigit_17
  · rw [if_neg c1] at h
    refine lv_iload_n hx hb dX12_isDigit_6 rfl (lv_at hl 0 rfl) ?_
    refine lv_bipush (v := 57) hx hb dX12_isDigit_7 (by decide) ?_
    refine lv_icmp_gt (tgt := 16) hx hb dX12_isDigit_9 (by decide) (fun c2 => ?_) (fun c2 => ?_)
    · rw [if_pos c2] at h
      refine lv_iconst (v := 0) hx hb dX12_isDigit_16 (by decide) ?_
      exact end_z X hr hk hP hS (Or.inl rfl) h dX12_isDigit_17
    · rw [if_neg c2] at h
      refine lv_iconst (v := 1) hx hb dX12_isDigit_12 (by decide) ?_
      refine lv_goto (tgt := 17) hx hb dX12_isDigit_13 (by decide) ?_
      exact end_z X hr hk hP hS (Or.inr rfl) h dX12_isDigit_17
theorem dX12_ahead_0 : decode cX12_ahead 0 = .ok (.aload_n 0, 1) := by decide +kernel
theorem dX12_ahead_1 : decode cX12_ahead 1 = .ok (.aload_n 0, 1) := by decide +kernel
theorem dX12_ahead_2 : decode cX12_ahead 2 = .ok (.getfield 124, 3) := by decide +kernel
theorem dX12_ahead_5 : decode cX12_ahead 5 = .ok (.invokevirtual 127, 3) := by decide +kernel
theorem dX12_ahead_8 : decode cX12_ahead 8 = .ok (.bipush 32, 2) := by decide +kernel
theorem dX12_ahead_10 : decode cX12_ahead 10 = .ok (.if_icmp .eq 16, 3) := by decide +kernel
theorem dX12_ahead_13 : decode cX12_ahead 13 = .ok (.aload_n 0, 1) := by decide +kernel
theorem dX12_ahead_14 : decode cX12_ahead 14 = .ok (.aload_n 0, 1) := by decide +kernel
theorem dX12_ahead_15 : decode cX12_ahead 15 = .ok (.getfield 124, 3) := by decide +kernel
theorem dX12_ahead_18 : decode cX12_ahead 18 = .ok (.invokevirtual 127, 3) := by decide +kernel
theorem dX12_ahead_21 : decode cX12_ahead 21 = .ok (.bipush 10, 2) := by decide +kernel
theorem dX12_ahead_23 : decode cX12_ahead 23 = .ok (.if_icmp .ne 16, 3) := by decide +kernel
theorem dX12_ahead_26 : decode cX12_ahead 26 = .ok (.aload_n 0, 1) := by decide +kernel
theorem dX12_ahead_27 : decode cX12_ahead 27 = .ok (.dup, 1) := by decide +kernel
theorem dX12_ahead_28 : decode cX12_ahead 28 = .ok (.getfield 124, 3) := by decide +kernel
theorem dX12_ahead_31 : decode cX12_ahead 31 = .ok (.iconst 1, 1) := by decide +kernel
theorem dX12_ahead_32 : decode cX12_ahead 32 = .ok (.iadd, 1) := by decide +kernel
theorem dX12_ahead_33 : decode cX12_ahead 33 = .ok (.putfield 124, 3) := by decide +kernel
theorem dX12_ahead_36 : decode cX12_ahead 36 = .ok (.goto (-36), 3) := by decide +kernel
theorem dX12_ahead_39 : decode cX12_ahead 39 = .ok (.aload_n 0, 1) := by decide +kernel
theorem dX12_ahead_40 : decode cX12_ahead 40 = .ok (.aload_n 0, 1) := by decide +kernel
theorem dX12_ahead_41 : decode cX12_ahead 41 = .ok (.getfield 124, 3) := by decide +kernel
theorem dX12_ahead_44 : decode cX12_ahead 44 = .ok (.putfield 130, 3) := by decide +kernel
theorem dX12_ahead_47 : decode cX12_ahead 47 = .ok (.aload_n 0, 1) := by decide +kernel
theorem dX12_ahead_48 : decode cX12_ahead 48 = .ok (.aload_n 0, 1) := by decide +kernel
theorem dX12_ahead_49 : decode cX12_ahead 49 = .ok (.getfield 124, 3) := by decide +kernel
theorem dX12_ahead_52 : decode cX12_ahead 52 = .ok (.invokevirtual 127, 3) := by decide +kernel
theorem dX12_ahead_55 : decode cX12_ahead 55 = .ok (.istore_n 1, 1) := by decide +kernel
theorem dX12_ahead_56 : decode cX12_ahead 56 = .ok (.aload_n 0, 1) := by decide +kernel
theorem dX12_ahead_57 : decode cX12_ahead 57 = .ok (.iload_n 1, 1) := by decide +kernel
theorem dX12_ahead_58 : decode cX12_ahead 58 = .ok (.putfield 133, 3) := by decide +kernel
theorem dX12_ahead_61 : decode cX12_ahead 61 = .ok (.iload_n 1, 1) := by decide +kernel
theorem dX12_ahead_62 : decode cX12_ahead 62 = .ok (.iconst (-1), 1) := by decide +kernel
theorem dX12_ahead_63 : decode cX12_ahead 63 = .ok (.if_icmp .ne 11, 3) := by decide +kernel
theorem dX12_ahead_66 : decode cX12_ahead 66 = .ok (.aload_n 0, 1) := by decide +kernel
theorem dX12_ahead_67 : decode cX12_ahead 67 = .ok (.iconst 0, 1) := by decide +kernel
theorem dX12_ahead_68 : decode cX12_ahead 68 = .ok (.putfield 136, 3) := by decide +kernel
theorem dX12_ahead_71 : decode cX12_ahead 71 = .ok (.goto 180, 3) := by decide +kernel
theorem dX12_ahead_74 : decode cX12_ahead 74 = .ok (.iload_n 1, 1) := by decide +kernel
theorem dX12_ahead_75 : decode cX12_ahead 75 = .ok (.invokestatic 139, 3) := by decide +kernel
theorem dX12_ahead_78 : decode cX12_ahead 78 = .ok (.ifCond .eq 38, 3) := by decide +kernel
theorem dX12_ahead_81 : decode cX12_ahead 81 = .ok (.aload_n 0, 1) := by decide +kernel
theorem dX12_ahead_82 : decode cX12_ahead 82 = .ok (.aload_n 0, 1) := by decide +kernel
theorem dX12_ahead_83 : decode cX12_ahead 83 = .ok (.getfield 124, 3) := by decide +kernel
theorem dX12_ahead_86 : decode cX12_ahead 86 = .ok (.invokevirtual 127, 3) := by decide +kernel
theorem dX12_ahead_89 : decode cX12_ahead 89 = .ok (.invokestatic 139, 3) := by decide +kernel
theorem dX12_ahead_92 : decode cX12_ahead 92 = .ok (.ifCond .eq 16, 3) := by decide +kernel
theorem dX12_ahead_95 : decode cX12_ahead 95 = .ok (.aload_n 0, 1) := by decide +kernel
theorem dX12_ahead_96 : decode cX12_ahead 96 = .ok (.dup, 1) := by decide +kernel
theorem dX12_ahead_97 : decode cX12_ahead 97 = .ok (.getfield 124, 3) := by decide +kernel
theorem dX12_ahead_100 : decode cX12_ahead 100 = .ok (.iconst 1, 1) := by decide +kernel
theorem dX12_ahead_101 : decode cX12_ahead 101 = .ok (.iadd, 1) := by decide +kernel
theorem dX12_ahead_102 : decode cX12_ahead 102 = .ok (.putfield 124, 3) := by decide +kernel
theorem dX12_ahead_105 : decode cX12_ahead 105 = .ok (.goto (-24), 3) := by decide +kernel
theorem dX12_ahead_108 : decode cX12_ahead 108 = .ok (.aload_n 0, 1) := by decide +kernel
theorem dX12_ahead_109 : decode cX12_ahead 109 = .ok (.iconst 2, 1) := by decide +kernel
theorem dX12_ahead_110 : decode cX12_ahead 110 = .ok (.putfield 136, 3) := by decide +kernel
theorem dX12_ahead_113 : decode cX12_ahead 113 = .ok (.goto 138, 3) := by decide +kernel
theorem dX12_ahead_116 : decode cX12_ahead 116 = .ok (.iload_n 1, 1) := by decide +kernel
theorem dX12_ahead_117 : decode cX12_ahead 117 = .ok (.invokestatic 142, 3) := by decide +kernel
theorem dX12_ahead_120 : decode cX12_ahead 120 = .ok (.ifCond .eq 88, 3) := by decide +kernel
theorem dX12_ahead_123 : decode cX12_ahead 123 = .ok (.aload_n 0, 1) := by decide +kernel
theorem dX12_ahead_124 : decode cX12_ahead 124 = .ok (.iconst 0, 1) := by decide +kernel
theorem dX12_ahead_125 : decode cX12_ahead 125 = .ok (.putfield 133, 3) := by decide +kernel
theorem dX12_ahead_128 : decode cX12_ahead 128 = .ok (.aload_n 0, 1) := by decide +kernel
theorem dX12_ahead_129 : decode cX12_ahead 129 = .ok (.aload_n 0, 1) := by decide +kernel
theorem dX12_ahead_130 : decode cX12_ahead 130 = .ok (.getfield 124, 3) := by decide +kernel
theorem dX12_ahead_133 : decode cX12_ahead 133 = .ok (.invokevirtual 127, 3) := by decide +kernel
theorem dX12_ahead_136 : decode cX12_ahead 136 = .ok (.invokestatic 142, 3) := by decide +kernel
theorem dX12_ahead_139 : decode cX12_ahead 139 = .ok (.ifCond .eq 44, 3) := by decide +kernel
theorem dX12_ahead_142 : decode cX12_ahead 142 = .ok (.aload_n 0, 1) := by decide +kernel
theorem dX12_ahead_143 : decode cX12_ahead 143 = .ok (.ldc 145, 2) := by decide +kernel
theorem dX12_ahead_145 : decode cX12_ahead 145 = .ok (.bipush 10, 2) := by decide +kernel
theorem dX12_ahead_147 : decode cX12_ahead 147 = .ok (.aload_n 0, 1) := by decide +kernel
theorem dX12_ahead_148 : decode cX12_ahead 148 = .ok (.getfield 133, 3) := by decide +kernel
theorem dX12_ahead_151 : decode cX12_ahead 151 = .ok (.imul, 1) := by decide +kernel
theorem dX12_ahead_152 : decode cX12_ahead 152 = .ok (.aload_n 0, 1) := by decide +kernel
theorem dX12_ahead_153 : decode cX12_ahead 153 = .ok (.aload_n 0, 1) := by decide +kernel
theorem dX12_ahead_154 : decode cX12_ahead 154 = .ok (.getfield 124, 3) := by decide +kernel
theorem dX12_ahead_157 : decode cX12_ahead 157 = .ok (.invokevirtual 127, 3) := by decide +kernel
theorem dX12_ahead_160 : decode cX12_ahead 160 = .ok (.iadd, 1) := by decide +kernel
theorem dX12_ahead_161 : decode cX12_ahead 161 = .ok (.bipush 48, 2) := by decide +kernel
theorem dX12_ahead_163 : decode cX12_ahead 163 = .ok (.isub, 1) := by decide +kernel
theorem dX12_ahead_164 : decode cX12_ahead 164 = .ok (.invokestatic 146, 3) := by decide +kernel
theorem dX12_ahead_167 : decode cX12_ahead 167 = .ok (.putfield 133, 3) := by decide +kernel
theorem dX12_ahead_170 : decode cX12_ahead 170 = .ok (.aload_n 0, 1) := by decide +kernel
theorem dX12_ahead_171 : decode cX12_ahead 171 = .ok (.dup, 1) := by decide +kernel
theorem dX12_ahead_172 : decode cX12_ahead 172 = .ok (.getfield 124, 3) := by decide +kernel
theorem dX12_ahead_175 : decode cX12_ahead 175 = .ok (.iconst 1, 1) := by decide +kernel
theorem dX12_ahead_176 : decode cX12_ahead 176 = .ok (.iadd, 1) := by decide +kernel
theorem dX12_ahead_177 : decode cX12_ahead 177 = .ok (.putfield 124, 3) := by decide +kernel
theorem dX12_ahead_180 : decode cX12_ahead 180 = .ok (.goto (-52), 3) := by decide +kernel
theorem dX12_ahead_183 : decode cX12_ahead 183 = .ok (.aload_n 0, 1) := by decide +kernel
theorem dX12_ahead_184 : decode cX12_ahead 184 = .ok (.aload_n 0, 1) := by decide +kernel
theorem dX12_ahead_185 : decode cX12_ahead 185 = .ok (.getfield 124, 3) := by decide +kernel
theorem dX12_ahead_188 : decode cX12_ahead 188 = .ok (.aload_n 0, 1) := by decide +kernel
theorem dX12_ahead_189 : decode cX12_ahead 189 = .ok (.getfield 130, 3) := by decide +kernel
theorem dX12_ahead_192 : decode cX12_ahead 192 = .ok (.isub, 1) := by decide +kernel
theorem dX12_ahead_193 : decode cX12_ahead 193 = .ok (.iconst 4, 1) := by decide +kernel
theorem dX12_ahead_194 : decode cX12_ahead 194 = .ok (.if_icmp .le 7, 3) := by decide +kernel
theorem dX12_ahead_197 : decode cX12_ahead 197 = .ok (.iconst 1, 1) := by decide +kernel
theorem dX12_ahead_198 : decode cX12_ahead 198 = .ok (.goto 4, 3) := by decide +kernel
theorem dX12_ahead_201 : decode cX12_ahead 201 = .ok (.iconst 3, 1) := by decide +kernel
theorem dX12_ahead_202 : decode cX12_ahead 202 = .ok (.putfield 136, 3) := by decide +kernel
theorem dX12_ahead_205 : decode cX12_ahead 205 = .ok (.goto 46, 3) := by decide +kernel
theorem dX12_ahead_208 : decode cX12_ahead 208 = .ok (.aload_n 0, 1) := by decide +kernel
theorem dX12_ahead_209 : decode cX12_ahead 209 = .ok (.dup, 1) := by decide +kernel
theorem dX12_ahead_210 : decode cX12_ahead 210 = .ok (.getfield 124, 3) := by decide +kernel
theorem dX12_ahead_213 : decode cX12_ahead 213 = .ok (.iconst 1, 1) := by decide +kernel
theorem dX12_ahead_214 : decode cX12_ahead 214 = .ok (.iadd, 1) := by decide +kernel
theorem dX12_ahead_215 : decode cX12_ahead 215 = .ok (.putfield 124, 3) := by decide +kernel
theorem dX12_ahead_218 : decode cX12_ahead 218 = .ok (.aload_n 0, 1) := by decide +kernel
theorem dX12_ahead_219 : decode cX12_ahead 219 = .ok (.iload_n 1, 1) := by decide +kernel
theorem dX12_ahead_220 : decode cX12_ahead 220 = .ok (.bipush 59, 2) := by decide +kernel
theorem dX12_ahead_222 : decode cX12_ahead 222 = .ok (.if_icmp .eq 21, 3) := by decide +kernel
theorem dX12_ahead_225 : decode cX12_ahead 225 = .ok (.iload_n 1, 1) := by decide +kernel
theorem dX12_ahead_226 : decode cX12_ahead 226 = .ok (.bipush 60, 2) := by decide +kernel
theorem dX12_ahead_228 : decode cX12_ahead 228 = .ok (.if_icmp .eq 15, 3) := by decide +kernel
theorem dX12_ahead_231 : decode cX12_ahead 231 = .ok (.iload_n 1, 1) := by decide +kernel
theorem dX12_ahead_232 : decode cX12_ahead 232 = .ok (.bipush 62, 2) := by decide +kernel
theorem dX12_ahead_234 : decode cX12_ahead 234 = .ok (.if_icmp .eq 9, 3) := by decide +kernel
theorem dX12_ahead_237 : decode cX12_ahead 237 = .ok (.iload_n 1, 1) := by decide +kernel
theorem dX12_ahead_238 : decode cX12_ahead 238 = .ok (.bipush 61, 2) := by decide +kernel
theorem dX12_ahead_240 : decode cX12_ahead 240 = .ok (.if_icmp .ne 7, 3) := by decide +kernel
theorem dX12_ahead_243 : decode cX12_ahead 243 = .ok (.iconst 4, 1) := by decide +kernel
theorem dX12_ahead_244 : decode cX12_ahead 244 = .ok (.goto 4, 3) := by decide +kernel
theorem dX12_ahead_247 : decode cX12_ahead 247 = .ok (.iconst 1, 1) := by decide +kernel
theorem dX12_ahead_248 : decode cX12_ahead 248 = .ok (.putfield 136, 3) := by decide +kernel
theorem dX12_ahead_251 : decode cX12_ahead 251 = .ok (.return_, 1) := by decide +kernel
set_option maxRecDepth 100000 in
set_option maxHeartbeats 8000000 in
theorem c_X12_ahead (l : Launch) (D : va_G) (cA : Nat → ClassId) (q aK aV : Nat → Nat) (hq : injG 20 q) {M M0 : Mem} (h : f_X12_ahead M = some ((), M0)) : Met l yX12_ahead (.code yX12_ahead cX12_ahead 2 none :: BW) ({ frames := 2, cells := 0, slots := 0, locals := 40 } : Room) (va_Pc [.ref (q 0)] (CB 20 (ceR cA q) D cA q aK aV M)) (Qv 20 (ceR cA q) D q M0) 0 0 (AqG 20 q) := by
  refine gMet RX12 (by decide +kernel) rfl hq (Nat.le_of_ble_eq_true rfl) ?_
  intro p e s m below meth c ls X hr hk hP hS hl
  have hx := X.1
  have hb := X.2.1
  have hl : lv_has ls 2 [(0, .ref (q 0))] := hl
  rw [f_X12_ahead] at h
  have hL128 : ∀ (fu : Nat) (M : Mem) (res : (Unit) × Mem) (H : Heap) (locs : List Loc) (ls : Array Slot), f_X12_ahead_L128 fu M = some res → va_P D vwCl (wsG 20 (ceR cA q) q M) H → va_S (AqG 20 q) s.heap H locs → lv_has ls 2 [(0, .ref (q 0))] → (∀ (H : Heap) (locs : List Loc) (ls : Array Slot), va_P D vwCl (wsG 20 (ceR cA q) q res.2) H → va_S (AqG 20 q) s.heap H locs → lv_has ls 2 [(0, .ref (q 0))] → W p l e ({ frames := 2, cells := 0, slots := 0, locals := 40 } : Room) s m [.ref (q 0)].toArray below meth c H locs 0 0 (MQ below (Qv 20 (ceR cA q) D q M0) [.ref (q 0)].toArray s 0 0 (AqG 20 q)) (F0 m 183 ls [])) → W p l e ({ frames := 2, cells := 0, slots := 0, locals := 40 } : Room) s m [.ref (q 0)].toArray below meth c H locs 0 0 (MQ below (Qv 20 (ceR cA q) D q M0) [.ref (q 0)].toArray s 0 0 (AqG 20 q)) (F0 m 128 ls []) := by
    intro fu
    induction fu with
    | zero => intro M res H locs ls h; exact absurd h (by simp [f_X12_ahead_L128])
    | succ fu ih =>
      intro M res H locs ls h hP hS hl K128_0
      rw [f_X12_ahead_L128] at h
      refine lv_aload_n hx hb dX12_ahead_128 rfl (lv_at hl 0 rfl) ?_
      refine lv_aload_n hx hb dX12_ahead_129 rfl (lv_at hl 0 rfl) ?_
      refine gfR_12_14 X hP sR_0 bw_1337 dX12_ahead_130 ?_
      obtain ⟨r57, M58, hc59, h⟩ := bnd_inv h
      refine gV_i (As := [.int (gI M 0 14)]) X hP hS hl.1 (c_X12_byteAt l D cA q aK aV hq hc59) sf_X12_byteAt bw_1518 sv_X12_byteAt (rcR_12 sR_0) rfl ⟨rfl, rfl⟩ ⟨Nat.le_of_ble_eq_true rfl, Nat.le_of_ble_eq_true rfl⟩ rfl rfl (Nat.le_of_ble_eq_true rfl) dX12_ahead_133 (fun H locs hP hS => ?_)
      obtain ⟨r60, M61, hc62, h⟩ := bnd_inv h
      refine gS_i (As := [.int r57]) X hP hS hl.1 (c_X12_isDigit l D cA q aK aV hq hc62) sf_X12_isDigit bw_1525 ss_X12_isDigit ⟨rfl, rfl⟩ ⟨Nat.le_of_ble_eq_true rfl, Nat.le_of_ble_eq_true rfl⟩ rfl rfl (Nat.le_of_ble_eq_true rfl) dX12_ahead_136 (fun H locs hP hS => ?_)
      refine lv_if_eq (tgt := 183) hx hb dX12_ahead_139 (by decide) (fun c63 => ?_) (fun c63 => ?_)
      · rw [if_pos c63] at h
        cases h
        exact K128_0 _ _ _ hP hS (lv_sub hl [0] rfl)
      · rw [if_neg c63] at h
        refine lv_aload_n hx hb dX12_ahead_142 rfl (lv_at hl 0 rfl) ?_
        refine lv_ldc hx hb X.2.2.2.1 (X.2.2.2.2.1 _ bw_1528) dX12_ahead_143 ?_
        refine lv_bipush (v := 10) hx hb dX12_ahead_145 (by decide) ?_
        refine lv_aload_n hx hb dX12_ahead_147 rfl (lv_at hl 0 rfl) ?_
        refine gfR_12_15 X hP sR_0 bw_1338 dX12_ahead_148 ?_
        refine lv_imul hx hb dX12_ahead_151 ?_
        refine lv_aload_n hx hb dX12_ahead_152 rfl (lv_at hl 0 rfl) ?_
        refine lv_aload_n hx hb dX12_ahead_153 rfl (lv_at hl 0 rfl) ?_
        refine gfR_12_14 X hP sR_0 bw_1337 dX12_ahead_154 ?_
        obtain ⟨r64, M65, hc66, h⟩ := bnd_inv h
        refine gV_i (As := [.int (gI M61 0 14)]) X hP hS hl.1 (c_X12_byteAt l D cA q aK aV hq hc66) sf_X12_byteAt bw_1518 sv_X12_byteAt (rcR_12 sR_0) rfl ⟨rfl, rfl⟩ ⟨Nat.le_of_ble_eq_true rfl, Nat.le_of_ble_eq_true rfl⟩ rfl rfl (Nat.le_of_ble_eq_true rfl) dX12_ahead_157 (fun H locs hP hS => ?_)
        refine lv_iadd hx hb dX12_ahead_160 ?_
        refine lv_bipush (v := 48) hx hb dX12_ahead_161 (by decide) ?_
        refine lv_isub hx hb dX12_ahead_163 ?_
        obtain ⟨y67, ey67, h⟩ := lt_inv h
        refine va_mmin hx hb (by rw [X.2.2.1]; exact hl.1.symm) X.2.2.2.1 (X.2.2.2.2.1 _ bw_1529) (X.2.2.2.2.1 _ bw_888) (X.2.2.2.2.1 _ bw_18) (X.2.2.2.2.1 _ bw_889) (Nat.le_of_ble_eq_true rfl) (Nat.le_of_ble_eq_true rfl) (Nat.zero_le _) (Nat.zero_le _) dX12_ahead_164 ?_
        refine topE ey67 ?_
        obtain ⟨M68, eM68, h⟩ := lt_inv h
        refine pfR_12_15 X hP hS sR_0 bw_1338 eM68 dX12_ahead_167 (fun H locs hP hS => ?_)
        refine lv_aload_n hx hb dX12_ahead_170 rfl (lv_at hl 0 rfl) ?_
        refine lv_dup hx hb dX12_ahead_171 rfl ?_
        refine gfR_12_14 X hP sR_0 bw_1337 dX12_ahead_172 ?_
        refine lv_iconst (v := 1) hx hb dX12_ahead_175 (by decide) ?_
        refine lv_iadd hx hb dX12_ahead_176 ?_
        obtain ⟨M69, eM69, h⟩ := lt_inv h
        refine pfR_12_14 X hP hS sR_0 bw_1337 eM69 dX12_ahead_177 (fun H locs hP hS => ?_)
        refine lv_goto (tgt := 128) hx hb dX12_ahead_180 (by decide) ?_
        exact ih _ res _ _ _ h hP hS (lv_sub hl [0] rfl) K128_0
  have hL81 : ∀ (fu : Nat) (M : Mem) (res : (Unit) × Mem) (H : Heap) (locs : List Loc) (ls : Array Slot), f_X12_ahead_L81 fu M = some res → va_P D vwCl (wsG 20 (ceR cA q) q M) H → va_S (AqG 20 q) s.heap H locs → lv_has ls 2 [(0, .ref (q 0))] → (∀ (H : Heap) (locs : List Loc) (ls : Array Slot), va_P D vwCl (wsG 20 (ceR cA q) q res.2) H → va_S (AqG 20 q) s.heap H locs → lv_has ls 2 [(0, .ref (q 0))] → W p l e ({ frames := 2, cells := 0, slots := 0, locals := 40 } : Room) s m [.ref (q 0)].toArray below meth c H locs 0 0 (MQ below (Qv 20 (ceR cA q) D q M0) [.ref (q 0)].toArray s 0 0 (AqG 20 q)) (F0 m 108 ls [])) → W p l e ({ frames := 2, cells := 0, slots := 0, locals := 40 } : Room) s m [.ref (q 0)].toArray below meth c H locs 0 0 (MQ below (Qv 20 (ceR cA q) D q M0) [.ref (q 0)].toArray s 0 0 (AqG 20 q)) (F0 m 81 ls []) := by
    intro fu
    induction fu with
    | zero => intro M res H locs ls h; exact absurd h (by simp [f_X12_ahead_L81])
    | succ fu ih =>
      intro M res H locs ls h hP hS hl K81_0
      rw [f_X12_ahead_L81] at h
      refine lv_aload_n hx hb dX12_ahead_81 rfl (lv_at hl 0 rfl) ?_
      refine lv_aload_n hx hb dX12_ahead_82 rfl (lv_at hl 0 rfl) ?_
      refine gfR_12_14 X hP sR_0 bw_1337 dX12_ahead_83 ?_
      obtain ⟨r49, M50, hc51, h⟩ := bnd_inv h
      refine gV_i (As := [.int (gI M 0 14)]) X hP hS hl.1 (c_X12_byteAt l D cA q aK aV hq hc51) sf_X12_byteAt bw_1518 sv_X12_byteAt (rcR_12 sR_0) rfl ⟨rfl, rfl⟩ ⟨Nat.le_of_ble_eq_true rfl, Nat.le_of_ble_eq_true rfl⟩ rfl rfl (Nat.le_of_ble_eq_true rfl) dX12_ahead_86 (fun H locs hP hS => ?_)
      obtain ⟨r52, M53, hc54, h⟩ := bnd_inv h
      refine gS_i (As := [.int r49]) X hP hS hl.1 (c_X12_isSmall l D cA q aK aV hq hc54) sf_X12_isSmall bw_1522 ss_X12_isSmall ⟨rfl, rfl⟩ ⟨Nat.le_of_ble_eq_true rfl, Nat.le_of_ble_eq_true rfl⟩ rfl rfl (Nat.le_of_ble_eq_true rfl) dX12_ahead_89 (fun H locs hP hS => ?_)
      refine lv_if_eq (tgt := 108) hx hb dX12_ahead_92 (by decide) (fun c55 => ?_) (fun c55 => ?_)
      · rw [if_pos c55] at h
        cases h
        exact K81_0 _ _ _ hP hS (lv_sub hl [0] rfl)
      · rw [if_neg c55] at h
        refine lv_aload_n hx hb dX12_ahead_95 rfl (lv_at hl 0 rfl) ?_
        refine lv_dup hx hb dX12_ahead_96 rfl ?_
        refine gfR_12_14 X hP sR_0 bw_1337 dX12_ahead_97 ?_
        refine lv_iconst (v := 1) hx hb dX12_ahead_100 (by decide) ?_
        refine lv_iadd hx hb dX12_ahead_101 ?_
        obtain ⟨M56, eM56, h⟩ := lt_inv h
        refine pfR_12_14 X hP hS sR_0 bw_1337 eM56 dX12_ahead_102 (fun H locs hP hS => ?_)
        refine lv_goto (tgt := 81) hx hb dX12_ahead_105 (by decide) ?_
        exact ih _ res _ _ _ h hP hS (lv_sub hl [0] rfl) K81_0
  have hL0 : ∀ (fu : Nat) (M : Mem) (res : (Unit) × Mem) (H : Heap) (locs : List Loc) (ls : Array Slot), f_X12_ahead_L0 fu M = some res → va_P D vwCl (wsG 20 (ceR cA q) q M) H → va_S (AqG 20 q) s.heap H locs → lv_has ls 2 [(0, .ref (q 0))] → (∀ (H : Heap) (locs : List Loc) (ls : Array Slot), va_P D vwCl (wsG 20 (ceR cA q) q res.2) H → va_S (AqG 20 q) s.heap H locs → lv_has ls 2 [(0, .ref (q 0))] → W p l e ({ frames := 2, cells := 0, slots := 0, locals := 40 } : Room) s m [.ref (q 0)].toArray below meth c H locs 0 0 (MQ below (Qv 20 (ceR cA q) D q M0) [.ref (q 0)].toArray s 0 0 (AqG 20 q)) (F0 m 39 ls [])) → W p l e ({ frames := 2, cells := 0, slots := 0, locals := 40 } : Room) s m [.ref (q 0)].toArray below meth c H locs 0 0 (MQ below (Qv 20 (ceR cA q) D q M0) [.ref (q 0)].toArray s 0 0 (AqG 20 q)) (F0 m 0 ls []) := by
    intro fu
    induction fu with
    | zero => intro M res H locs ls h; exact absurd h (by simp [f_X12_ahead_L0])
    | succ fu ih =>
      intro M res H locs ls h hP hS hl K0_0
      rw [f_X12_ahead_L0] at h
      have hJ26 : ∀ (M : Mem) (H : Heap) (locs : List Loc) (ls : Array Slot), f_X12_ahead_J26 (f_X12_ahead_L0 fu) M = some res → va_P D vwCl (wsG 20 (ceR cA q) q M) H → va_S (AqG 20 q) s.heap H locs → lv_has ls 2 [(0, .ref (q 0))] → W p l e ({ frames := 2, cells := 0, slots := 0, locals := 40 } : Room) s m [.ref (q 0)].toArray below meth c H locs 0 0 (MQ below (Qv 20 (ceR cA q) D q M0) [.ref (q 0)].toArray s 0 0 (AqG 20 q)) (F0 m 26 ls []) := by
        intro M H locs ls h hP hS hl
        rw [f_X12_ahead_J26] at h
        refine lv_aload_n hx hb dX12_ahead_26 rfl (lv_at hl 0 rfl) ?_
        refine lv_dup hx hb dX12_ahead_27 rfl ?_
        refine gfR_12_14 X hP sR_0 bw_1337 dX12_ahead_28 ?_
        refine lv_iconst (v := 1) hx hb dX12_ahead_31 (by decide) ?_
        refine lv_iadd hx hb dX12_ahead_32 ?_
        obtain ⟨M48, eM48, h⟩ := lt_inv h
        refine pfR_12_14 X hP hS sR_0 bw_1337 eM48 dX12_ahead_33 (fun H locs hP hS => ?_)
        refine lv_goto (tgt := 0) hx hb dX12_ahead_36 (by decide) ?_
        exact ih _ res _ _ _ h hP hS (lv_sub hl [0] rfl) K0_0
      refine lv_aload_n hx hb dX12_ahead_0 rfl (lv_at hl 0 rfl) ?_
      refine lv_aload_n hx hb dX12_ahead_1 rfl (lv_at hl 0 rfl) ?_
      refine gfR_12_14 X hP sR_0 bw_1337 dX12_ahead_2 ?_
      obtain ⟨r40, M41, hc42, h⟩ := bnd_inv h
      refine gV_i (As := [.int (gI M 0 14)]) X hP hS hl.1 (c_X12_byteAt l D cA q aK aV hq hc42) sf_X12_byteAt bw_1518 sv_X12_byteAt (rcR_12 sR_0) rfl ⟨rfl, rfl⟩ ⟨Nat.le_of_ble_eq_true rfl, Nat.le_of_ble_eq_true rfl⟩ rfl rfl (Nat.le_of_ble_eq_true rfl) dX12_ahead_5 (fun H locs hP hS => ?_)
      refine lv_bipush (v := 32) hx hb dX12_ahead_8 (by decide) ?_
      refine lv_icmp_eq (tgt := 26) hx hb dX12_ahead_10 (by decide) (fun c43 => ?_) (fun c43 => ?_)
      · rw [if_pos c43] at h
        exact hJ26  _ _ _ _ h hP hS (lv_sub hl [0] rfl)
      · rw [if_neg c43] at h
        refine lv_aload_n hx hb dX12_ahead_13 rfl (lv_at hl 0 rfl) ?_
        refine lv_aload_n hx hb dX12_ahead_14 rfl (lv_at hl 0 rfl) ?_
        refine gfR_12_14 X hP sR_0 bw_1337 dX12_ahead_15 ?_
        obtain ⟨r44, M45, hc46, h⟩ := bnd_inv h
        refine gV_i (As := [.int (gI M41 0 14)]) X hP hS hl.1 (c_X12_byteAt l D cA q aK aV hq hc46) sf_X12_byteAt bw_1518 sv_X12_byteAt (rcR_12 sR_0) rfl ⟨rfl, rfl⟩ ⟨Nat.le_of_ble_eq_true rfl, Nat.le_of_ble_eq_true rfl⟩ rfl rfl (Nat.le_of_ble_eq_true rfl) dX12_ahead_18 (fun H locs hP hS => ?_)
        refine lv_bipush (v := 10) hx hb dX12_ahead_21 (by decide) ?_
        refine lv_icmp_ne (tgt := 39) hx hb dX12_ahead_23 (by decide) (fun c47 => ?_) (fun c47 => ?_)
        · rw [if_neg c47] at h
          cases h
          exact K0_0 _ _ _ hP hS (lv_sub hl [0] rfl)
        · rw [if_pos c47] at h
          exact hJ26  _ _ _ _ h hP hS (lv_sub hl [0] rfl)
  obtain ⟨s1, M2, hc3, h⟩ := bnd_inv h
  try dsimp only at h
  refine hL0  fz  _ _ _ _ _ hc3 hP hS (lv_sub hl [0] rfl) (fun H locs ls hP hS hl => ?_)
  have hl : lv_has ls 2 [(0, .ref (q 0))] := hl
  refine lv_aload_n hx hb dX12_ahead_39 rfl (lv_at hl 0 rfl) ?_
  refine lv_aload_n hx hb dX12_ahead_40 rfl (lv_at hl 0 rfl) ?_
  refine gfR_12_14 X hP sR_0 bw_1337 dX12_ahead_41 ?_
  obtain ⟨M4, eM4, h⟩ := lt_inv h
  refine pfR_12_13 X hP hS sR_0 bw_1336 eM4 dX12_ahead_44 (fun H locs hP hS => ?_)
  refine lv_aload_n hx hb dX12_ahead_47 rfl (lv_at hl 0 rfl) ?_
  refine lv_aload_n hx hb dX12_ahead_48 rfl (lv_at hl 0 rfl) ?_
  refine gfR_12_14 X hP sR_0 bw_1337 dX12_ahead_49 ?_
  obtain ⟨r5, M6, hc7, h⟩ := bnd_inv h
  refine gV_i (As := [.int (gI M4 0 14)]) X hP hS hl.1 (c_X12_byteAt l D cA q aK aV hq hc7) sf_X12_byteAt bw_1518 sv_X12_byteAt (rcR_12 sR_0) rfl ⟨rfl, rfl⟩ ⟨Nat.le_of_ble_eq_true rfl, Nat.le_of_ble_eq_true rfl⟩ rfl rfl (Nat.le_of_ble_eq_true rfl) dX12_ahead_52 (fun H locs hP hS => ?_)
  refine lv_istore_n (lv' := [(1, .int r5), (0, .ref (q 0))]) hx hb dX12_ahead_55 rfl hl (by decide) rfl (fun ls hl => ?_)
  refine lv_aload_n hx hb dX12_ahead_56 rfl (lv_at hl 1 rfl) ?_
  refine lv_iload_n hx hb dX12_ahead_57 rfl (lv_at hl 0 rfl) ?_
  obtain ⟨M8, eM8, h⟩ := lt_inv h
  refine pfR_12_15 X hP hS sR_0 bw_1338 eM8 dX12_ahead_58 (fun H locs hP hS => ?_)
  refine lv_iload_n hx hb dX12_ahead_61 rfl (lv_at hl 0 rfl) ?_
  refine lv_iconst (v := -1) hx hb dX12_ahead_62 (by decide) ?_
  refine lv_icmp_ne (tgt := 74) hx hb dX12_ahead_63 (by decide) (fun c9 => ?_) (fun c9 => ?_)
  · rw [if_neg c9] at h
    refine lv_iload_n hx hb dX12_ahead_74 rfl (lv_at hl 0 rfl) ?_
    obtain ⟨r10, M11, hc12, h⟩ := bnd_inv h
    refine gS_i (As := [.int r5]) X hP hS hl.1 (c_X12_isSmall l D cA q aK aV hq hc12) sf_X12_isSmall bw_1522 ss_X12_isSmall ⟨rfl, rfl⟩ ⟨Nat.le_of_ble_eq_true rfl, Nat.le_of_ble_eq_true rfl⟩ rfl rfl (Nat.le_of_ble_eq_true rfl) dX12_ahead_75 (fun H locs hP hS => ?_)
    refine lv_if_eq (tgt := 116) hx hb dX12_ahead_78 (by decide) (fun c13 => ?_) (fun c13 => ?_)
    · rw [if_pos c13] at h
      refine lv_iload_n hx hb dX12_ahead_116 rfl (lv_at hl 0 rfl) ?_
      obtain ⟨r14, M15, hc16, h⟩ := bnd_inv h
      refine gS_i (As := [.int r5]) X hP hS hl.1 (c_X12_isDigit l D cA q aK aV hq hc16) sf_X12_isDigit bw_1525 ss_X12_isDigit ⟨rfl, rfl⟩ ⟨Nat.le_of_ble_eq_true rfl, Nat.le_of_ble_eq_true rfl⟩ rfl rfl (Nat.le_of_ble_eq_true rfl) dX12_ahead_117 (fun H locs hP hS => ?_)
      refine lv_if_eq (tgt := 208) hx hb dX12_ahead_120 (by decide) (fun c17 => ?_) (fun c17 => ?_)
      · rw [if_pos c17] at h
        refine lv_aload_n hx hb dX12_ahead_208 rfl (lv_at hl 1 rfl) ?_
        refine lv_dup hx hb dX12_ahead_209 rfl ?_
        refine gfR_12_14 X hP sR_0 bw_1337 dX12_ahead_210 ?_
        refine lv_iconst (v := 1) hx hb dX12_ahead_213 (by decide) ?_
        refine lv_iadd hx hb dX12_ahead_214 ?_
        obtain ⟨M18, eM18, h⟩ := lt_inv h
        refine pfR_12_14 X hP hS sR_0 bw_1337 eM18 dX12_ahead_215 (fun H locs hP hS => ?_)
        refine lv_aload_n hx hb dX12_ahead_218 rfl (lv_at hl 1 rfl) ?_
        refine lv_iload_n hx hb dX12_ahead_219 rfl (lv_at hl 0 rfl) ?_
        refine lv_bipush (v := 59) hx hb dX12_ahead_220 (by decide) ?_
        refine lv_icmp_eq (tgt := 243) hx hb dX12_ahead_222 (by decide) (fun c19 => ?_) (fun c19 => ?_)
        · rw [if_pos c19] at h
          refine lv_iconst (v := 4) hx hb dX12_ahead_243 (by decide) ?_
          refine lv_goto (tgt := 248) hx hb dX12_ahead_244 (by decide) ?_
          obtain ⟨M20, eM20, h⟩ := lt_inv h
          refine pfR_12_12 X hP hS sR_0 bw_1335 eM20 dX12_ahead_248 (fun H locs hP hS => ?_)
          exact end_v X hr hk hP hS h dX12_ahead_251
        · rw [if_neg c19] at h
          refine lv_iload_n hx hb dX12_ahead_225 rfl (lv_at hl 0 rfl) ?_
          refine lv_bipush (v := 60) hx hb dX12_ahead_226 (by decide) ?_
          refine lv_icmp_eq (tgt := 243) hx hb dX12_ahead_228 (by decide) (fun c21 => ?_) (fun c21 => ?_)
          · rw [if_pos c21] at h
            refine lv_iconst (v := 4) hx hb dX12_ahead_243 (by decide) ?_
            refine lv_goto (tgt := 248) hx hb dX12_ahead_244 (by decide) ?_
            obtain ⟨M22, eM22, h⟩ := lt_inv h
            refine pfR_12_12 X hP hS sR_0 bw_1335 eM22 dX12_ahead_248 (fun H locs hP hS => ?_)
            exact end_v X hr hk hP hS h dX12_ahead_251
          · rw [if_neg c21] at h
            refine lv_iload_n hx hb dX12_ahead_231 rfl (lv_at hl 0 rfl) ?_
            refine lv_bipush (v := 62) hx hb dX12_ahead_232 (by decide) ?_
            refine lv_icmp_eq (tgt := 243) hx hb dX12_ahead_234 (by decide) (fun c23 => ?_) (fun c23 => ?_)
            · rw [if_pos c23] at h
              refine lv_iconst (v := 4) hx hb dX12_ahead_243 (by decide) ?_
              refine lv_goto (tgt := 248) hx hb dX12_ahead_244 (by decide) ?_
              obtain ⟨M24, eM24, h⟩ := lt_inv h
              refine pfR_12_12 X hP hS sR_0 bw_1335 eM24 dX12_ahead_248 (fun H locs hP hS => ?_)
              exact end_v X hr hk hP hS h dX12_ahead_251
            · rw [if_neg c23] at h
              refine lv_iload_n hx hb dX12_ahead_237 rfl (lv_at hl 0 rfl) ?_
              refine lv_bipush (v := 61) hx hb dX12_ahead_238 (by decide) ?_
              refine lv_icmp_ne (tgt := 247) hx hb dX12_ahead_240 (by decide) (fun c25 => ?_) (fun c25 => ?_)
              · rw [if_neg c25] at h
                refine lv_iconst (v := 1) hx hb dX12_ahead_247 (by decide) ?_
                obtain ⟨M26, eM26, h⟩ := lt_inv h
                refine pfR_12_12 X hP hS sR_0 bw_1335 eM26 dX12_ahead_248 (fun H locs hP hS => ?_)
                exact end_v X hr hk hP hS h dX12_ahead_251
              · rw [if_pos c25] at h
                refine lv_iconst (v := 4) hx hb dX12_ahead_243 (by decide) ?_
                refine lv_goto (tgt := 248) hx hb dX12_ahead_244 (by decide) ?_
                obtain ⟨M27, eM27, h⟩ := lt_inv h
                refine pfR_12_12 X hP hS sR_0 bw_1335 eM27 dX12_ahead_248 (fun H locs hP hS => ?_)
                exact end_v X hr hk hP hS h dX12_ahead_251
      · rw [if_neg c17] at h
        refine lv_aload_n hx hb dX12_ahead_123 rfl (lv_at hl 1 rfl) ?_
        refine lv_iconst (v := 0) hx hb dX12_ahead_124 (by decide) ?_
        obtain ⟨M28, eM28, h⟩ := lt_inv h
        refine pfR_12_15 X hP hS sR_0 bw_1338 eM28 dX12_ahead_125 (fun H locs hP hS => ?_)
        obtain ⟨s29, M30, hc31, h⟩ := bnd_inv h
        try dsimp only at h
        refine hL128  fz  _ _ _ _ _ hc31 hP hS (lv_sub hl [1] rfl) (fun H locs ls hP hS hl => ?_)
        have hl : lv_has ls 2 [(0, .ref (q 0))] := hl
        refine lv_aload_n hx hb dX12_ahead_183 rfl (lv_at hl 0 rfl) ?_
        refine lv_aload_n hx hb dX12_ahead_184 rfl (lv_at hl 0 rfl) ?_
        refine gfR_12_14 X hP sR_0 bw_1337 dX12_ahead_185 ?_
        refine lv_aload_n hx hb dX12_ahead_188 rfl (lv_at hl 0 rfl) ?_
        refine gfR_12_13 X hP sR_0 bw_1336 dX12_ahead_189 ?_
        refine lv_isub hx hb dX12_ahead_192 ?_
        refine lv_iconst (v := 4) hx hb dX12_ahead_193 (by decide) ?_
        refine lv_icmp_le (tgt := 201) hx hb dX12_ahead_194 (by decide) (fun c32 => ?_) (fun c32 => ?_)
        · rw [if_pos c32] at h
          refine lv_iconst (v := 3) hx hb dX12_ahead_201 (by decide) ?_
          obtain ⟨M33, eM33, h⟩ := lt_inv h
          refine pfR_12_12 X hP hS sR_0 bw_1335 eM33 dX12_ahead_202 (fun H locs hP hS => ?_)
          refine lv_goto (tgt := 251) hx hb dX12_ahead_205 (by decide) ?_
          exact end_v X hr hk hP hS h dX12_ahead_251
        · rw [if_neg c32] at h
          refine lv_iconst (v := 1) hx hb dX12_ahead_197 (by decide) ?_
          refine lv_goto (tgt := 202) hx hb dX12_ahead_198 (by decide) ?_
          obtain ⟨M34, eM34, h⟩ := lt_inv h
          refine pfR_12_12 X hP hS sR_0 bw_1335 eM34 dX12_ahead_202 (fun H locs hP hS => ?_)
          refine lv_goto (tgt := 251) hx hb dX12_ahead_205 (by decide) ?_
          exact end_v X hr hk hP hS h dX12_ahead_251
    · rw [if_neg c13] at h
      obtain ⟨s35, M36, hc37, h⟩ := bnd_inv h
      try dsimp only at h
      refine hL81  fz  _ _ _ _ _ hc37 hP hS (lv_sub hl [1] rfl) (fun H locs ls hP hS hl => ?_)
      have hl : lv_has ls 2 [(0, .ref (q 0))] := hl
      refine lv_aload_n hx hb dX12_ahead_108 rfl (lv_at hl 0 rfl) ?_
      refine lv_iconst (v := 2) hx hb dX12_ahead_109 (by decide) ?_
      obtain ⟨M38, eM38, h⟩ := lt_inv h
      refine pfR_12_12 X hP hS sR_0 bw_1335 eM38 dX12_ahead_110 (fun H locs hP hS => ?_)
      refine lv_goto (tgt := 251) hx hb dX12_ahead_113 (by decide) ?_
      exact end_v X hr hk hP hS h dX12_ahead_251
  · rw [if_pos c9] at h
    refine lv_aload_n hx hb dX12_ahead_66 rfl (lv_at hl 1 rfl) ?_
    refine lv_iconst (v := 0) hx hb dX12_ahead_67 (by decide) ?_
    obtain ⟨M39, eM39, h⟩ := lt_inv h
    refine pfR_12_12 X hP hS sR_0 bw_1335 eM39 dX12_ahead_68 (fun H locs hP hS => ?_)
    refine lv_goto (tgt := 251) hx hb dX12_ahead_71 (by decide) ?_
    exact end_v X hr hk hP hS h dX12_ahead_251
theorem dX12_isSign_0 : decode cX12_isSign 0 = .ok (.aload_n 0, 1) := by decide +kernel
theorem dX12_isSign_1 : decode cX12_isSign 1 = .ok (.getfield 136, 3) := by decide +kernel
theorem dX12_isSign_4 : decode cX12_isSign 4 = .ok (.iconst 4, 1) := by decide +kernel
theorem dX12_isSign_5 : decode cX12_isSign 5 = .ok (.if_icmp .ne 15, 3) := by decide +kernel
theorem dX12_isSign_8 : decode cX12_isSign 8 = .ok (.aload_n 0, 1) := by decide +kernel
theorem dX12_isSign_9 : decode cX12_isSign 9 = .ok (.getfield 133, 3) := by decide +kernel
theorem dX12_isSign_12 : decode cX12_isSign 12 = .ok (.iload_n 1, 1) := by decide +kernel
theorem dX12_isSign_13 : decode cX12_isSign 13 = .ok (.if_icmp .ne 7, 3) := by decide +kernel
theorem dX12_isSign_16 : decode cX12_isSign 16 = .ok (.iconst 1, 1) := by decide +kernel
theorem dX12_isSign_17 : decode cX12_isSign 17 = .ok (.goto 4, 3) := by decide +kernel
theorem dX12_isSign_20 : decode cX12_isSign 20 = .ok (.iconst 0, 1) := by decide +kernel
theorem dX12_isSign_21 : decode cX12_isSign 21 = .ok (.ireturn, 1) := by decide +kernel
set_option maxRecDepth 100000 in
set_option maxHeartbeats 8000000 in
theorem c_X12_isSign (l : Launch) (D : va_G) (cA : Nat → ClassId) (q aK aV : Nat → Nat) (hq : injG 20 q) {a1 : Int32} {M M0 : Mem} {r0 : Int32} (h : f_X12_isSign a1 M = some (r0, M0)) : Met l yX12_isSign (.code yX12_isSign cX12_isSign 2 (some .boolean) :: BW) ({ frames := 1, cells := 0, slots := 0, locals := 13 } : Room) (va_Pc [.ref (q 0), .int a1] (CB 20 (ceR cA q) D cA q aK aV M)) (Qi 20 (ceR cA q) D q r0 M0) 0 0 (AqG 20 q) := by
  refine gMet RX12 (by decide +kernel) rfl hq (Nat.le_of_ble_eq_true rfl) ?_
  intro p e s m below meth c ls X hr hk hP hS hl
  have hx := X.1
  have hb := X.2.1
  have hl : lv_has ls 2 [(0, .ref (q 0)), (1, .int a1)] := hl
  rw [f_X12_isSign] at h
  refine lv_aload_n hx hb dX12_isSign_0 rfl (lv_at hl 0 rfl) ?_
  refine gfR_12_12 X hP sR_0 bw_1335 dX12_isSign_1 ?_
  refine lv_iconst (v := 4) hx hb dX12_isSign_4 (by decide) ?_
  refine lv_icmp_ne (tgt := 20) hx hb dX12_isSign_5 (by decide) (fun c1 => ?_) (fun c1 => ?_)
  · rw [if_neg c1] at h
    refine lv_iconst (v := 0) hx hb dX12_isSign_20 (by decide) ?_
    exact end_z X hr hk hP hS (Or.inl rfl) h dX12_isSign_21
  · rw [if_pos c1] at h
    refine lv_aload_n hx hb dX12_isSign_8 rfl (lv_at hl 0 rfl) ?_
    refine gfR_12_15 X hP sR_0 bw_1338 dX12_isSign_9 ?_
    refine lv_iload_n hx hb dX12_isSign_12 rfl (lv_at hl 1 rfl) ?_
    refine lv_icmp_ne (tgt := 20) hx hb dX12_isSign_13 (by decide) (fun c2 => ?_) (fun c2 => ?_)
    · rw [if_neg c2] at h
      refine lv_iconst (v := 0) hx hb dX12_isSign_20 (by decide) ?_
      exact end_z X hr hk hP hS (Or.inl rfl) h dX12_isSign_21
    · rw [if_pos c2] at h
      refine lv_iconst (v := 1) hx hb dX12_isSign_16 (by decide) ?_
      refine lv_goto (tgt := 21) hx hb dX12_isSign_17 (by decide) ?_
      exact end_z X hr hk hP hS (Or.inr rfl) h dX12_isSign_21
theorem dX12_inWords_0 : decode cX12_inWords 0 = .ok (.aload_n 0, 1) := by decide +kernel
theorem dX12_inWords_1 : decode cX12_inWords 1 = .ok (.getfield 136, 3) := by decide +kernel
theorem dX12_inWords_4 : decode cX12_inWords 4 = .ok (.iconst 2, 1) := by decide +kernel
theorem dX12_inWords_5 : decode cX12_inWords 5 = .ok (.if_icmp .eq 5, 3) := by decide +kernel
theorem dX12_inWords_8 : decode cX12_inWords 8 = .ok (.iconst (-1), 1) := by decide +kernel
theorem dX12_inWords_9 : decode cX12_inWords 9 = .ok (.ireturn, 1) := by decide +kernel
theorem dX12_inWords_10 : decode cX12_inWords 10 = .ok (.iconst 0, 1) := by decide +kernel
theorem dX12_inWords_11 : decode cX12_inWords 11 = .ok (.istore_n 2, 1) := by decide +kernel
theorem dX12_inWords_12 : decode cX12_inWords 12 = .ok (.iconst 1, 1) := by decide +kernel
theorem dX12_inWords_13 : decode cX12_inWords 13 = .ok (.istore_n 3, 1) := by decide +kernel
theorem dX12_inWords_14 : decode cX12_inWords 14 = .ok (.iload_n 3, 1) := by decide +kernel
theorem dX12_inWords_15 : decode cX12_inWords 15 = .ok (.aload_n 1, 1) := by decide +kernel
theorem dX12_inWords_16 : decode cX12_inWords 16 = .ok (.invokevirtual 151, 3) := by decide +kernel
theorem dX12_inWords_19 : decode cX12_inWords 19 = .ok (.if_icmp .ge 114, 3) := by decide +kernel
theorem dX12_inWords_22 : decode cX12_inWords 22 = .ok (.iload_n 3, 1) := by decide +kernel
theorem dX12_inWords_23 : decode cX12_inWords 23 = .ok (.istore 4, 2) := by decide +kernel
theorem dX12_inWords_25 : decode cX12_inWords 25 = .ok (.aload_n 1, 1) := by decide +kernel
theorem dX12_inWords_26 : decode cX12_inWords 26 = .ok (.iload 4, 2) := by decide +kernel
theorem dX12_inWords_28 : decode cX12_inWords 28 = .ok (.invokevirtual 157, 3) := by decide +kernel
theorem dX12_inWords_31 : decode cX12_inWords 31 = .ok (.bipush 32, 2) := by decide +kernel
theorem dX12_inWords_33 : decode cX12_inWords 33 = .ok (.if_icmp .eq 9, 3) := by decide +kernel
theorem dX12_inWords_36 : decode cX12_inWords 36 = .ok (.iinc 4 1, 3) := by decide +kernel
theorem dX12_inWords_39 : decode cX12_inWords 39 = .ok (.goto (-14), 3) := by decide +kernel
theorem dX12_inWords_42 : decode cX12_inWords 42 = .ok (.iload 4, 2) := by decide +kernel
theorem dX12_inWords_44 : decode cX12_inWords 44 = .ok (.iload_n 3, 1) := by decide +kernel
theorem dX12_inWords_45 : decode cX12_inWords 45 = .ok (.isub, 1) := by decide +kernel
theorem dX12_inWords_46 : decode cX12_inWords 46 = .ok (.aload_n 0, 1) := by decide +kernel
theorem dX12_inWords_47 : decode cX12_inWords 47 = .ok (.getfield 124, 3) := by decide +kernel
theorem dX12_inWords_50 : decode cX12_inWords 50 = .ok (.aload_n 0, 1) := by decide +kernel
theorem dX12_inWords_51 : decode cX12_inWords 51 = .ok (.getfield 130, 3) := by decide +kernel
theorem dX12_inWords_54 : decode cX12_inWords 54 = .ok (.isub, 1) := by decide +kernel
theorem dX12_inWords_55 : decode cX12_inWords 55 = .ok (.if_icmp .ne 7, 3) := by decide +kernel
theorem dX12_inWords_58 : decode cX12_inWords 58 = .ok (.iconst 1, 1) := by decide +kernel
theorem dX12_inWords_59 : decode cX12_inWords 59 = .ok (.goto 4, 3) := by decide +kernel
theorem dX12_inWords_62 : decode cX12_inWords 62 = .ok (.iconst 0, 1) := by decide +kernel
theorem dX12_inWords_63 : decode cX12_inWords 63 = .ok (.istore 5, 2) := by decide +kernel
theorem dX12_inWords_65 : decode cX12_inWords 65 = .ok (.iload_n 3, 1) := by decide +kernel
theorem dX12_inWords_66 : decode cX12_inWords 66 = .ok (.istore 6, 2) := by decide +kernel
theorem dX12_inWords_68 : decode cX12_inWords 68 = .ok (.iload 6, 2) := by decide +kernel
theorem dX12_inWords_70 : decode cX12_inWords 70 = .ok (.iload 4, 2) := by decide +kernel
theorem dX12_inWords_72 : decode cX12_inWords 72 = .ok (.if_icmp .ge 43, 3) := by decide +kernel
theorem dX12_inWords_75 : decode cX12_inWords 75 = .ok (.iload 5, 2) := by decide +kernel
theorem dX12_inWords_77 : decode cX12_inWords 77 = .ok (.ifCond .eq 38, 3) := by decide +kernel
theorem dX12_inWords_80 : decode cX12_inWords 80 = .ok (.aload_n 1, 1) := by decide +kernel
theorem dX12_inWords_81 : decode cX12_inWords 81 = .ok (.iload 6, 2) := by decide +kernel
theorem dX12_inWords_83 : decode cX12_inWords 83 = .ok (.invokevirtual 157, 3) := by decide +kernel
theorem dX12_inWords_86 : decode cX12_inWords 86 = .ok (.aload_n 0, 1) := by decide +kernel
theorem dX12_inWords_87 : decode cX12_inWords 87 = .ok (.aload_n 0, 1) := by decide +kernel
theorem dX12_inWords_88 : decode cX12_inWords 88 = .ok (.getfield 130, 3) := by decide +kernel
theorem dX12_inWords_91 : decode cX12_inWords 91 = .ok (.iload 6, 2) := by decide +kernel
theorem dX12_inWords_93 : decode cX12_inWords 93 = .ok (.iadd, 1) := by decide +kernel
theorem dX12_inWords_94 : decode cX12_inWords 94 = .ok (.iload_n 3, 1) := by decide +kernel
theorem dX12_inWords_95 : decode cX12_inWords 95 = .ok (.isub, 1) := by decide +kernel
theorem dX12_inWords_96 : decode cX12_inWords 96 = .ok (.invokevirtual 127, 3) := by decide +kernel
theorem dX12_inWords_99 : decode cX12_inWords 99 = .ok (.if_icmp .ne 7, 3) := by decide +kernel
theorem dX12_inWords_102 : decode cX12_inWords 102 = .ok (.iconst 1, 1) := by decide +kernel
theorem dX12_inWords_103 : decode cX12_inWords 103 = .ok (.goto 4, 3) := by decide +kernel
theorem dX12_inWords_106 : decode cX12_inWords 106 = .ok (.iconst 0, 1) := by decide +kernel
theorem dX12_inWords_107 : decode cX12_inWords 107 = .ok (.istore 5, 2) := by decide +kernel
theorem dX12_inWords_109 : decode cX12_inWords 109 = .ok (.iinc 6 1, 3) := by decide +kernel
theorem dX12_inWords_112 : decode cX12_inWords 112 = .ok (.goto (-44), 3) := by decide +kernel
theorem dX12_inWords_115 : decode cX12_inWords 115 = .ok (.iload 5, 2) := by decide +kernel
theorem dX12_inWords_117 : decode cX12_inWords 117 = .ok (.ifCond .eq 5, 3) := by decide +kernel
theorem dX12_inWords_120 : decode cX12_inWords 120 = .ok (.iload_n 2, 1) := by decide +kernel
theorem dX12_inWords_121 : decode cX12_inWords 121 = .ok (.ireturn, 1) := by decide +kernel
theorem dX12_inWords_122 : decode cX12_inWords 122 = .ok (.iinc 2 1, 3) := by decide +kernel
theorem dX12_inWords_125 : decode cX12_inWords 125 = .ok (.iload 4, 2) := by decide +kernel
theorem dX12_inWords_127 : decode cX12_inWords 127 = .ok (.iconst 1, 1) := by decide +kernel
theorem dX12_inWords_128 : decode cX12_inWords 128 = .ok (.iadd, 1) := by decide +kernel
theorem dX12_inWords_129 : decode cX12_inWords 129 = .ok (.istore_n 3, 1) := by decide +kernel
theorem dX12_inWords_130 : decode cX12_inWords 130 = .ok (.goto (-116), 3) := by decide +kernel
theorem dX12_inWords_133 : decode cX12_inWords 133 = .ok (.iconst (-1), 1) := by decide +kernel
theorem dX12_inWords_134 : decode cX12_inWords 134 = .ok (.ireturn, 1) := by decide +kernel
set_option maxRecDepth 100000 in
set_option maxHeartbeats 8000000 in
theorem c_X12_inWords (l : Launch) (D : va_G) (cA : Nat → ClassId) (q aK aV : Nat → Nat) (hq : injG 20 q) {M M0 : Mem} {r0 : Int32} (h : f_X12_inWords M = some (r0, M0)) : Met l yX12_inWords (.code yX12_inWords cX12_inWords 7 (some .int) :: BW) ({ frames := 7, cells := 0, slots := 0, locals := 181 } : Room) (va_Pc [.ref (q 0), .ref (aK 1)] (CB 20 (ceR cA q) D cA q aK aV M)) (Qi 20 (ceR cA q) D q r0 M0) 0 0 (AqG 20 q) := by
  refine gMet RX12 (by decide +kernel) rfl hq (Nat.le_of_ble_eq_true rfl) ?_
  intro p e s m below meth c ls X hr hk hP hS hl
  have hx := X.1
  have hb := X.2.1
  have hl : lv_has ls 7 [(0, .ref (q 0)), (1, .ref (aK 1))] := hl
  rw [f_X12_inWords] at h
  have hL14 : ∀ (fu : Nat) (b2 : Int32) (b3 : Int32) (M : Mem) (res : (Nat × Int32) × Mem) (H : Heap) (locs : List Loc) (ls : Array Slot), f_X12_inWords_L14 fu b2 b3 M = some res → va_P D vwCl (wsG 20 (ceR cA q) q M) H → va_S (AqG 20 q) s.heap H locs → lv_has ls 7 [(0, .ref (q 0)), (1, .ref (aK 1)), (2, .int b2), (3, .int b3)] → (res.1.1 = 0 → ∀ (H : Heap) (locs : List Loc) (ls : Array Slot), va_P D vwCl (wsG 20 (ceR cA q) q res.2) H → va_S (AqG 20 q) s.heap H locs → lv_has ls 7 [(2, .int (res.1.2))] → W p l e ({ frames := 7, cells := 0, slots := 0, locals := 181 } : Room) s m [.ref (q 0), .ref (aK 1)].toArray below meth c H locs 0 0 (MQ below (Qi 20 (ceR cA q) D q r0 M0) [.ref (q 0), .ref (aK 1)].toArray s 0 0 (AqG 20 q)) (F0 m 120 ls [])) → (res.1.1 = 1 → ∀ (H : Heap) (locs : List Loc) (ls : Array Slot), va_P D vwCl (wsG 20 (ceR cA q) q res.2) H → va_S (AqG 20 q) s.heap H locs → lv_has ls 7 [] → W p l e ({ frames := 7, cells := 0, slots := 0, locals := 181 } : Room) s m [.ref (q 0), .ref (aK 1)].toArray below meth c H locs 0 0 (MQ below (Qi 20 (ceR cA q) D q r0 M0) [.ref (q 0), .ref (aK 1)].toArray s 0 0 (AqG 20 q)) (F0 m 133 ls [])) → W p l e ({ frames := 7, cells := 0, slots := 0, locals := 181 } : Room) s m [.ref (q 0), .ref (aK 1)].toArray below meth c H locs 0 0 (MQ below (Qi 20 (ceR cA q) D q r0 M0) [.ref (q 0), .ref (aK 1)].toArray s 0 0 (AqG 20 q)) (F0 m 14 ls []) := by
    intro fu
    induction fu with
    | zero => intro b2 b3 M res H locs ls h; exact absurd h (by simp [f_X12_inWords_L14])
    | succ fu ih =>
      intro b2 b3 M res H locs ls h hP hS hl K14_0 K14_1
      rw [f_X12_inWords_L14] at h
      have hL68 : ∀ (b2 : Int32) (b3 : Int32) (b4 : Int32) (fu : Nat) (b5 : Int32) (b6 : Int32) (M : Mem) (res : (Int32) × Mem) (H : Heap) (locs : List Loc) (ls : Array Slot), f_X12_inWords_L68 b2 b3 b4 fu b5 b6 M = some res → va_P D vwCl (wsG 20 (ceR cA q) q M) H → va_S (AqG 20 q) s.heap H locs → lv_has ls 7 [(0, .ref (q 0)), (1, .ref (aK 1)), (2, .int b2), (3, .int b3), (4, .int b4), (5, .int b5), (6, .int b6)] → (∀ (H : Heap) (locs : List Loc) (ls : Array Slot), va_P D vwCl (wsG 20 (ceR cA q) q res.2) H → va_S (AqG 20 q) s.heap H locs → lv_has ls 7 [(0, .ref (q 0)), (1, .ref (aK 1)), (2, .int b2), (4, .int b4), (5, .int (res.1))] → W p l e ({ frames := 7, cells := 0, slots := 0, locals := 181 } : Room) s m [.ref (q 0), .ref (aK 1)].toArray below meth c H locs 0 0 (MQ below (Qi 20 (ceR cA q) D q r0 M0) [.ref (q 0), .ref (aK 1)].toArray s 0 0 (AqG 20 q)) (F0 m 115 ls [])) → W p l e ({ frames := 7, cells := 0, slots := 0, locals := 181 } : Room) s m [.ref (q 0), .ref (aK 1)].toArray below meth c H locs 0 0 (MQ below (Qi 20 (ceR cA q) D q r0 M0) [.ref (q 0), .ref (aK 1)].toArray s 0 0 (AqG 20 q)) (F0 m 68 ls []) := by
        intro b2 b3 b4 fu
        induction fu with
        | zero => intro b5 b6 M res H locs ls h; exact absurd h (by simp [f_X12_inWords_L68])
        | succ fu ih =>
          intro b5 b6 M res H locs ls h hP hS hl K68_0
          rw [f_X12_inWords_L68] at h
          refine lv_iload hx hb dX12_inWords_68 (lv_at hl 6 rfl) ?_
          refine lv_iload hx hb dX12_inWords_70 (lv_at hl 4 rfl) ?_
          refine lv_icmp_ge (tgt := 115) hx hb dX12_inWords_72 (by decide) (fun c28 => ?_) (fun c28 => ?_)
          · rw [if_pos c28] at h
            cases h
            exact K68_0 _ _ _ hP hS (lv_sub hl [0, 1, 2, 4, 5] rfl)
          · rw [if_neg c28] at h
            refine lv_iload hx hb dX12_inWords_75 (lv_at hl 5 rfl) ?_
            refine lv_if_eq (tgt := 115) hx hb dX12_inWords_77 (by decide) (fun c29 => ?_) (fun c29 => ?_)
            · rw [if_pos c29] at h
              cases h
              exact K68_0 _ _ _ hP hS (lv_sub hl [0, 1, 2, 4, 5] rfl)
            · rw [if_neg c29] at h
              refine lv_aload_n hx hb dX12_inWords_80 rfl (lv_at hl 1 rfl) ?_
              refine lv_iload hx hb dX12_inWords_81 (lv_at hl 6 rfl) ?_
              obtain ⟨r30, M31, hc32, h⟩ := bnd_inv h
              refine gK_i (As := [.int b6]) X hP hS hl.1 (c_J0_charAt_5068e l D cA q aK aV hq (i := 1) (by decide) hc32) sf_J0_charAt_5068e bw_1544 sv_J0_charAt_5068e (by decide) rfl ⟨rfl, rfl⟩ ⟨Nat.le_of_ble_eq_true rfl, Nat.le_of_ble_eq_true rfl⟩ rfl rfl (Nat.le_of_ble_eq_true rfl) dX12_inWords_83 (fun H locs hP hS => ?_)
              refine lv_aload_n hx hb dX12_inWords_86 rfl (lv_at hl 0 rfl) ?_
              refine lv_aload_n hx hb dX12_inWords_87 rfl (lv_at hl 0 rfl) ?_
              refine gfR_12_13 X hP sR_0 bw_1336 dX12_inWords_88 ?_
              refine lv_iload hx hb dX12_inWords_91 (lv_at hl 6 rfl) ?_
              refine lv_iadd hx hb dX12_inWords_93 ?_
              refine lv_iload_n hx hb dX12_inWords_94 rfl (lv_at hl 3 rfl) ?_
              refine lv_isub hx hb dX12_inWords_95 ?_
              obtain ⟨r33, M34, hc35, h⟩ := bnd_inv h
              refine gV_i (As := [.int (((gI M31 0 13) + b6) - b3)]) X hP hS hl.1 (c_X12_byteAt l D cA q aK aV hq hc35) sf_X12_byteAt bw_1518 sv_X12_byteAt (rcR_12 sR_0) rfl ⟨rfl, rfl⟩ ⟨Nat.le_of_ble_eq_true rfl, Nat.le_of_ble_eq_true rfl⟩ rfl rfl (Nat.le_of_ble_eq_true rfl) dX12_inWords_96 (fun H locs hP hS => ?_)
              refine lv_icmp_ne (tgt := 106) hx hb dX12_inWords_99 (by decide) (fun c36 => ?_) (fun c36 => ?_)
              · rw [if_neg c36] at h
                refine lv_iconst (v := 0) hx hb dX12_inWords_106 (by decide) ?_
                refine lv_istore (lv' := [(5, .int (0 : Int32)), (0, .ref (q 0)), (1, .ref (aK 1)), (2, .int b2), (3, .int b3), (4, .int b4), (6, .int b6)]) hx hb dX12_inWords_107 hl (by decide) rfl (fun ls hl => ?_)
                obtain ⟨y37, ey37, h⟩ := lt_inv h
                refine lv_iinc (v := y37) (lv' := [(6, .int y37), (5, .int (0 : Int32)), (0, .ref (q 0)), (1, .ref (aK 1)), (2, .int b2), (3, .int b3), (4, .int b4)]) hx hb dX12_inWords_109 hl (k := 6) rfl (by rw [ey37]; rfl) (by decide) rfl (fun ls hl => ?_)
                refine lv_goto (tgt := 68) hx hb dX12_inWords_112 (by decide) ?_
                exact ih _ _ _ res _ _ _ h hP hS (lv_sub hl [2, 3, 4, 5, 6, 1, 0] rfl) K68_0
              · rw [if_pos c36] at h
                refine lv_iconst (v := 1) hx hb dX12_inWords_102 (by decide) ?_
                refine lv_goto (tgt := 107) hx hb dX12_inWords_103 (by decide) ?_
                refine lv_istore (lv' := [(5, .int (1 : Int32)), (0, .ref (q 0)), (1, .ref (aK 1)), (2, .int b2), (3, .int b3), (4, .int b4), (6, .int b6)]) hx hb dX12_inWords_107 hl (by decide) rfl (fun ls hl => ?_)
                obtain ⟨y38, ey38, h⟩ := lt_inv h
                refine lv_iinc (v := y38) (lv' := [(6, .int y38), (5, .int (1 : Int32)), (0, .ref (q 0)), (1, .ref (aK 1)), (2, .int b2), (3, .int b3), (4, .int b4)]) hx hb dX12_inWords_109 hl (k := 6) rfl (by rw [ey38]; rfl) (by decide) rfl (fun ls hl => ?_)
                refine lv_goto (tgt := 68) hx hb dX12_inWords_112 (by decide) ?_
                exact ih _ _ _ res _ _ _ h hP hS (lv_sub hl [2, 3, 4, 5, 6, 1, 0] rfl) K68_0
      have hJ63 : ∀ (b2 : Int32) (b3 : Int32) (b4 : Int32) (s0 : Int32) (M : Mem) (H : Heap) (locs : List Loc) (ls : Array Slot), f_X12_inWords_J63 (f_X12_inWords_L14 fu) b2 b3 b4 s0 M = some res → va_P D vwCl (wsG 20 (ceR cA q) q M) H → va_S (AqG 20 q) s.heap H locs → lv_has ls 7 [(0, .ref (q 0)), (1, .ref (aK 1)), (2, .int b2), (3, .int b3), (4, .int b4)] → W p l e ({ frames := 7, cells := 0, slots := 0, locals := 181 } : Room) s m [.ref (q 0), .ref (aK 1)].toArray below meth c H locs 0 0 (MQ below (Qi 20 (ceR cA q) D q r0 M0) [.ref (q 0), .ref (aK 1)].toArray s 0 0 (AqG 20 q)) (F0 m 63 ls [.int s0]) := by
        intro b2 b3 b4 s0 M H locs ls h hP hS hl
        rw [f_X12_inWords_J63] at h
        refine lv_istore (lv' := [(5, .int s0), (0, .ref (q 0)), (1, .ref (aK 1)), (2, .int b2), (3, .int b3), (4, .int b4)]) hx hb dX12_inWords_63 hl (by decide) rfl (fun ls hl => ?_)
        refine lv_iload_n hx hb dX12_inWords_65 rfl (lv_at hl 4 rfl) ?_
        refine lv_istore (lv' := [(6, .int b3), (5, .int s0), (0, .ref (q 0)), (1, .ref (aK 1)), (2, .int b2), (3, .int b3), (4, .int b4)]) hx hb dX12_inWords_66 hl (by decide) rfl (fun ls hl => ?_)
        obtain ⟨s21, M22, hc23, h⟩ := bnd_inv h
        obtain ⟨x24, rfl⟩ : ∃ z, z = s21 := ⟨_, rfl⟩
        try dsimp only at h
        refine hL68 _ _ _ fz _ _ _ _ _ _ _ hc23 hP hS (lv_sub hl [2, 3, 4, 5, 6, 1, 0] rfl) (fun H locs ls hP hS hl => ?_)
        have hl : lv_has ls 7 [(0, .ref (q 0)), (1, .ref (aK 1)), (2, .int b2), (4, .int b4), (5, .int x24)] := hl
        refine lv_iload hx hb dX12_inWords_115 (lv_at hl 4 rfl) ?_
        refine lv_if_eq (tgt := 122) hx hb dX12_inWords_117 (by decide) (fun c25 => ?_) (fun c25 => ?_)
        · rw [if_pos c25] at h
          obtain ⟨y26, ey26, h⟩ := lt_inv h
          refine lv_iinc (v := y26) (lv' := [(2, .int y26), (0, .ref (q 0)), (1, .ref (aK 1)), (4, .int b4), (5, .int x24)]) hx hb dX12_inWords_122 hl (k := 2) rfl (by rw [ey26]; rfl) (by decide) rfl (fun ls hl => ?_)
          refine lv_iload hx hb dX12_inWords_125 (lv_at hl 3 rfl) ?_
          refine lv_iconst (v := 1) hx hb dX12_inWords_127 (by decide) ?_
          refine lv_iadd hx hb dX12_inWords_128 ?_
          obtain ⟨y27, ey27, h⟩ := lt_inv h
          refine topE ey27 ?_
          refine lv_istore_n (lv' := [(3, .int y27), (2, .int y26), (0, .ref (q 0)), (1, .ref (aK 1)), (4, .int b4), (5, .int x24)]) hx hb dX12_inWords_129 rfl hl (by decide) rfl (fun ls hl => ?_)
          refine lv_goto (tgt := 14) hx hb dX12_inWords_130 (by decide) ?_
          exact ih _ _ _ res _ _ _ h hP hS (lv_sub hl [2, 3, 1, 0] rfl) K14_0 K14_1
        · rw [if_neg c25] at h
          cases h
          exact K14_0 rfl _ _ _ hP hS (lv_sub hl [2] rfl)
      have hL25 : ∀ (b2 : Int32) (b3 : Int32) (fu : Nat) (b4 : Int32) (M : Mem) (res : (Int32) × Mem) (H : Heap) (locs : List Loc) (ls : Array Slot), f_X12_inWords_L25 b2 b3 fu b4 M = some res → va_P D vwCl (wsG 20 (ceR cA q) q M) H → va_S (AqG 20 q) s.heap H locs → lv_has ls 7 [(0, .ref (q 0)), (1, .ref (aK 1)), (2, .int b2), (3, .int b3), (4, .int b4)] → (∀ (H : Heap) (locs : List Loc) (ls : Array Slot), va_P D vwCl (wsG 20 (ceR cA q) q res.2) H → va_S (AqG 20 q) s.heap H locs → lv_has ls 7 [(0, .ref (q 0)), (1, .ref (aK 1)), (2, .int b2), (3, .int b3), (4, .int (res.1))] → W p l e ({ frames := 7, cells := 0, slots := 0, locals := 181 } : Room) s m [.ref (q 0), .ref (aK 1)].toArray below meth c H locs 0 0 (MQ below (Qi 20 (ceR cA q) D q r0 M0) [.ref (q 0), .ref (aK 1)].toArray s 0 0 (AqG 20 q)) (F0 m 42 ls [])) → W p l e ({ frames := 7, cells := 0, slots := 0, locals := 181 } : Room) s m [.ref (q 0), .ref (aK 1)].toArray below meth c H locs 0 0 (MQ below (Qi 20 (ceR cA q) D q r0 M0) [.ref (q 0), .ref (aK 1)].toArray s 0 0 (AqG 20 q)) (F0 m 25 ls []) := by
        intro b2 b3 fu
        induction fu with
        | zero => intro b4 M res H locs ls h; exact absurd h (by simp [f_X12_inWords_L25])
        | succ fu ih =>
          intro b4 M res H locs ls h hP hS hl K25_0
          rw [f_X12_inWords_L25] at h
          refine lv_aload_n hx hb dX12_inWords_25 rfl (lv_at hl 1 rfl) ?_
          refine lv_iload hx hb dX12_inWords_26 (lv_at hl 4 rfl) ?_
          obtain ⟨r16, M17, hc18, h⟩ := bnd_inv h
          refine gK_i (As := [.int b4]) X hP hS hl.1 (c_J0_charAt_5068e l D cA q aK aV hq (i := 1) (by decide) hc18) sf_J0_charAt_5068e bw_1544 sv_J0_charAt_5068e (by decide) rfl ⟨rfl, rfl⟩ ⟨Nat.le_of_ble_eq_true rfl, Nat.le_of_ble_eq_true rfl⟩ rfl rfl (Nat.le_of_ble_eq_true rfl) dX12_inWords_28 (fun H locs hP hS => ?_)
          refine lv_bipush (v := 32) hx hb dX12_inWords_31 (by decide) ?_
          refine lv_icmp_eq (tgt := 42) hx hb dX12_inWords_33 (by decide) (fun c19 => ?_) (fun c19 => ?_)
          · rw [if_pos c19] at h
            cases h
            exact K25_0 _ _ _ hP hS (lv_sub hl [0, 1, 2, 3, 4] rfl)
          · rw [if_neg c19] at h
            obtain ⟨y20, ey20, h⟩ := lt_inv h
            refine lv_iinc (v := y20) (lv' := [(4, .int y20), (0, .ref (q 0)), (1, .ref (aK 1)), (2, .int b2), (3, .int b3)]) hx hb dX12_inWords_36 hl (k := 4) rfl (by rw [ey20]; rfl) (by decide) rfl (fun ls hl => ?_)
            refine lv_goto (tgt := 25) hx hb dX12_inWords_39 (by decide) ?_
            exact ih _ _ res _ _ _ h hP hS (lv_sub hl [1, 2, 3, 4, 0] rfl) K25_0
      refine lv_iload_n hx hb dX12_inWords_14 rfl (lv_at hl 3 rfl) ?_
      refine lv_aload_n hx hb dX12_inWords_15 rfl (lv_at hl 1 rfl) ?_
      obtain ⟨r7, M8, hc9, h⟩ := bnd_inv h
      refine gK_i (As := []) X hP hS hl.1 (c_J0_length_8abf5 l D cA q aK aV hq (i := 1) (by decide) hc9) sf_J0_length_8abf5 bw_1543 sv_J0_length_8abf5 (by decide) rfl ⟨rfl, rfl⟩ ⟨Nat.le_of_ble_eq_true rfl, Nat.le_of_ble_eq_true rfl⟩ rfl rfl (Nat.le_of_ble_eq_true rfl) dX12_inWords_16 (fun H locs hP hS => ?_)
      refine lv_icmp_ge (tgt := 133) hx hb dX12_inWords_19 (by decide) (fun c10 => ?_) (fun c10 => ?_)
      · rw [if_pos c10] at h
        cases h
        exact K14_1 rfl _ _ _ hP hS (lv_sub hl [] rfl)
      · rw [if_neg c10] at h
        refine lv_iload_n hx hb dX12_inWords_22 rfl (lv_at hl 3 rfl) ?_
        refine lv_istore (lv' := [(4, .int b3), (0, .ref (q 0)), (1, .ref (aK 1)), (2, .int b2), (3, .int b3)]) hx hb dX12_inWords_23 hl (by decide) rfl (fun ls hl => ?_)
        obtain ⟨s11, M12, hc13, h⟩ := bnd_inv h
        obtain ⟨x14, rfl⟩ : ∃ z, z = s11 := ⟨_, rfl⟩
        try dsimp only at h
        refine hL25 _ _ fz _ _ _ _ _ _ hc13 hP hS (lv_sub hl [1, 2, 3, 4, 0] rfl) (fun H locs ls hP hS hl => ?_)
        have hl : lv_has ls 7 [(0, .ref (q 0)), (1, .ref (aK 1)), (2, .int b2), (3, .int b3), (4, .int x14)] := hl
        refine lv_iload hx hb dX12_inWords_42 (lv_at hl 4 rfl) ?_
        refine lv_iload_n hx hb dX12_inWords_44 rfl (lv_at hl 3 rfl) ?_
        refine lv_isub hx hb dX12_inWords_45 ?_
        refine lv_aload_n hx hb dX12_inWords_46 rfl (lv_at hl 0 rfl) ?_
        refine gfR_12_14 X hP sR_0 bw_1337 dX12_inWords_47 ?_
        refine lv_aload_n hx hb dX12_inWords_50 rfl (lv_at hl 0 rfl) ?_
        refine gfR_12_13 X hP sR_0 bw_1336 dX12_inWords_51 ?_
        refine lv_isub hx hb dX12_inWords_54 ?_
        refine lv_icmp_ne (tgt := 62) hx hb dX12_inWords_55 (by decide) (fun c15 => ?_) (fun c15 => ?_)
        · rw [if_neg c15] at h
          refine lv_iconst (v := 0) hx hb dX12_inWords_62 (by decide) ?_
          exact hJ63 _ _ _ _ _ _ _ _ h hP hS (lv_sub hl [0, 1, 2, 3, 4] rfl)
        · rw [if_pos c15] at h
          refine lv_iconst (v := 1) hx hb dX12_inWords_58 (by decide) ?_
          refine lv_goto (tgt := 63) hx hb dX12_inWords_59 (by decide) ?_
          exact hJ63 _ _ _ _ _ _ _ _ h hP hS (lv_sub hl [0, 1, 2, 3, 4] rfl)
  refine lv_aload_n hx hb dX12_inWords_0 rfl (lv_at hl 0 rfl) ?_
  refine gfR_12_12 X hP sR_0 bw_1335 dX12_inWords_1 ?_
  refine lv_iconst (v := 2) hx hb dX12_inWords_4 (by decide) ?_
  refine lv_icmp_eq (tgt := 10) hx hb dX12_inWords_5 (by decide) (fun c1 => ?_) (fun c1 => ?_)
  · rw [if_pos c1] at h
    refine lv_iconst (v := 0) hx hb dX12_inWords_10 (by decide) ?_
    refine lv_istore_n (lv' := [(2, .int (0 : Int32)), (0, .ref (q 0)), (1, .ref (aK 1))]) hx hb dX12_inWords_11 rfl hl (by decide) rfl (fun ls hl => ?_)
    refine lv_iconst (v := 1) hx hb dX12_inWords_12 (by decide) ?_
    refine lv_istore_n (lv' := [(3, .int (1 : Int32)), (2, .int (0 : Int32)), (0, .ref (q 0)), (1, .ref (aK 1))]) hx hb dX12_inWords_13 rfl hl (by decide) rfl (fun ls hl => ?_)
    obtain ⟨s2, M3, hc4, h⟩ := bnd_inv h
    obtain ⟨k5, x6⟩ := s2
    try dsimp only at h
    refine hL14  fz _ _ _ _ _ _ _ hc4 hP hS (lv_sub hl [2, 3, 1, 0] rfl) (fun hke H locs ls hP hS hl => ?_) (fun hke H locs ls hP hS hl => ?_)
    · have hke : k5 = 0 := hke
      have hl : lv_has ls 7 [(2, .int x6)] := hl
      subst hke
      rw [if_pos rfl] at h
      refine lv_iload_n hx hb dX12_inWords_120 rfl (lv_at hl 0 rfl) ?_
      exact end_i X hr hk hP hS h dX12_inWords_121
    · have hke : k5 = 1 := hke
      have hl : lv_has ls 7 [] := hl
      subst hke
      rw [if_neg (by decide)] at h
      refine lv_iconst (v := -1) hx hb dX12_inWords_133 (by decide) ?_
      exact end_i X hr hk hP hS h dX12_inWords_134
  · rw [if_neg c1] at h
    refine lv_iconst (v := -1) hx hb dX12_inWords_8 (by decide) ?_
    exact end_i X hr hk hP hS h dX12_inWords_9
theorem dX12_fails_0 : decode cX12_fails 0 = .ok (.aload_n 0, 1) := by decide +kernel
theorem dX12_fails_1 : decode cX12_fails 1 = .ok (.getfield 161, 3) := by decide +kernel
theorem dX12_fails_4 : decode cX12_fails 4 = .ok (.ifCond .ne 28, 3) := by decide +kernel
theorem dX12_fails_7 : decode cX12_fails 7 = .ok (.aload_n 0, 1) := by decide +kernel
theorem dX12_fails_8 : decode cX12_fails 8 = .ok (.aload_n 0, 1) := by decide +kernel
theorem dX12_fails_9 : decode cX12_fails 9 = .ok (.getfield 136, 3) := by decide +kernel
theorem dX12_fails_12 : decode cX12_fails 12 = .ok (.iconst 1, 1) := by decide +kernel
theorem dX12_fails_13 : decode cX12_fails 13 = .ok (.if_icmp .ne 7, 3) := by decide +kernel
theorem dX12_fails_16 : decode cX12_fails 16 = .ok (.iconst 1, 1) := by decide +kernel
theorem dX12_fails_17 : decode cX12_fails 17 = .ok (.goto 4, 3) := by decide +kernel
theorem dX12_fails_20 : decode cX12_fails 20 = .ok (.iload_n 1, 1) := by decide +kernel
theorem dX12_fails_21 : decode cX12_fails 21 = .ok (.putfield 161, 3) := by decide +kernel
theorem dX12_fails_24 : decode cX12_fails 24 = .ok (.aload_n 0, 1) := by decide +kernel
theorem dX12_fails_25 : decode cX12_fails 25 = .ok (.aload_n 0, 1) := by decide +kernel
theorem dX12_fails_26 : decode cX12_fails 26 = .ok (.getfield 130, 3) := by decide +kernel
theorem dX12_fails_29 : decode cX12_fails 29 = .ok (.putfield 41, 3) := by decide +kernel
theorem dX12_fails_32 : decode cX12_fails 32 = .ok (.iconst 0, 1) := by decide +kernel
theorem dX12_fails_33 : decode cX12_fails 33 = .ok (.ireturn, 1) := by decide +kernel
set_option maxRecDepth 100000 in
set_option maxHeartbeats 8000000 in
theorem c_X12_fails (l : Launch) (D : va_G) (cA : Nat → ClassId) (q aK aV : Nat → Nat) (hq : injG 20 q) {a1 : Int32} {M M0 : Mem} {r0 : Int32} (h : f_X12_fails a1 M = some (r0, M0)) : Met l yX12_fails (.code yX12_fails cX12_fails 2 (some .boolean) :: BW) ({ frames := 1, cells := 0, slots := 0, locals := 13 } : Room) (va_Pc [.ref (q 0), .int a1] (CB 20 (ceR cA q) D cA q aK aV M)) (Qi 20 (ceR cA q) D q r0 M0) 0 0 (AqG 20 q) := by
  refine gMet RX12 (by decide +kernel) rfl hq (Nat.le_of_ble_eq_true rfl) ?_
  intro p e s m below meth c ls X hr hk hP hS hl
  have hx := X.1
  have hb := X.2.1
  have hl : lv_has ls 2 [(0, .ref (q 0)), (1, .int a1)] := hl
  rw [f_X12_fails] at h
  have hJ21 : ∀ (s1 : Int32) (M : Mem) (H : Heap) (locs : List Loc) (ls : Array Slot), f_X12_fails_J21 s1 M = some (r0, M0) → va_P D vwCl (wsG 20 (ceR cA q) q M) H → va_S (AqG 20 q) s.heap H locs → lv_has ls 2 [(0, .ref (q 0))] → W p l e ({ frames := 1, cells := 0, slots := 0, locals := 13 } : Room) s m [.ref (q 0), .int a1].toArray below meth c H locs 0 0 (MQ below (Qi 20 (ceR cA q) D q r0 M0) [.ref (q 0), .int a1].toArray s 0 0 (AqG 20 q)) (F0 m 21 ls [.int s1, .ref (q 0)]) := by
    intro s1 M H locs ls h hP hS hl
    rw [f_X12_fails_J21] at h
    obtain ⟨M3, eM3, h⟩ := lt_inv h
    refine pfR_12_18 X hP hS sR_0 bw_1341 eM3 dX12_fails_21 (fun H locs hP hS => ?_)
    refine lv_aload_n hx hb dX12_fails_24 rfl (lv_at hl 0 rfl) ?_
    refine lv_aload_n hx hb dX12_fails_25 rfl (lv_at hl 0 rfl) ?_
    refine gfR_12_13 X hP sR_0 bw_1336 dX12_fails_26 ?_
    obtain ⟨M4, eM4, h⟩ := lt_inv h
    refine pfR_12_17 X hP hS sR_0 bw_1340 eM4 dX12_fails_29 (fun H locs hP hS => ?_)
    refine lv_iconst (v := 0) hx hb dX12_fails_32 (by decide) ?_
    exact end_z X hr hk hP hS (Or.inl rfl) h dX12_fails_33
  refine lv_aload_n hx hb dX12_fails_0 rfl (lv_at hl 0 rfl) ?_
  refine gfR_12_18 X hP sR_0 bw_1341 dX12_fails_1 ?_
  refine lv_if_ne (tgt := 32) hx hb dX12_fails_4 (by decide) (fun c1 => ?_) (fun c1 => ?_)
  · rw [if_neg c1] at h
    refine lv_iconst (v := 0) hx hb dX12_fails_32 (by decide) ?_
    exact end_z X hr hk hP hS (Or.inl rfl) h dX12_fails_33
  · rw [if_pos c1] at h
    refine lv_aload_n hx hb dX12_fails_7 rfl (lv_at hl 0 rfl) ?_
    refine lv_aload_n hx hb dX12_fails_8 rfl (lv_at hl 0 rfl) ?_
    refine gfR_12_12 X hP sR_0 bw_1335 dX12_fails_9 ?_
    refine lv_iconst (v := 1) hx hb dX12_fails_12 (by decide) ?_
    refine lv_icmp_ne (tgt := 20) hx hb dX12_fails_13 (by decide) (fun c2 => ?_) (fun c2 => ?_)
    · rw [if_neg c2] at h
      refine lv_iload_n hx hb dX12_fails_20 rfl (lv_at hl 1 rfl) ?_
      exact hJ21 _ _ _ _ _ h hP hS (lv_sub hl [0] rfl)
    · rw [if_pos c2] at h
      refine lv_iconst (v := 1) hx hb dX12_fails_16 (by decide) ?_
      refine lv_goto (tgt := 21) hx hb dX12_fails_17 (by decide) ?_
      exact hJ21 _ _ _ _ _ h hP hS (lv_sub hl [0] rfl)
theorem dX12_begins_0 : decode cX12_begins 0 = .ok (.iload_n 1, 1) := by decide +kernel
theorem dX12_begins_1 : decode cX12_begins 1 = .ok (.ifCond .lt 16, 3) := by decide +kernel
theorem dX12_begins_4 : decode cX12_begins 4 = .ok (.iload_n 1, 1) := by decide +kernel
theorem dX12_begins_5 : decode cX12_begins 5 = .ok (.aload_n 0, 1) := by decide +kernel
theorem dX12_begins_6 : decode cX12_begins 6 = .ok (.getfield 115, 3) := by decide +kernel
theorem dX12_begins_9 : decode cX12_begins 9 = .ok (.if_icmp .gt 8, 3) := by decide +kernel
theorem dX12_begins_12 : decode cX12_begins 12 = .ok (.iload_n 1, 1) := by decide +kernel
theorem dX12_begins_13 : decode cX12_begins 13 = .ok (.iload_n 2, 1) := by decide +kernel
theorem dX12_begins_14 : decode cX12_begins 14 = .ok (.if_icmp .le 5, 3) := by decide +kernel
theorem dX12_begins_17 : decode cX12_begins 17 = .ok (.iconst 0, 1) := by decide +kernel
theorem dX12_begins_18 : decode cX12_begins 18 = .ok (.ireturn, 1) := by decide +kernel
theorem dX12_begins_19 : decode cX12_begins 19 = .ok (.aload_n 0, 1) := by decide +kernel
theorem dX12_begins_20 : decode cX12_begins 20 = .ok (.iload_n 1, 1) := by decide +kernel
theorem dX12_begins_21 : decode cX12_begins 21 = .ok (.putfield 121, 3) := by decide +kernel
theorem dX12_begins_24 : decode cX12_begins 24 = .ok (.iconst 0, 1) := by decide +kernel
theorem dX12_begins_25 : decode cX12_begins 25 = .ok (.istore_n 3, 1) := by decide +kernel
theorem dX12_begins_26 : decode cX12_begins 26 = .ok (.iload_n 3, 1) := by decide +kernel
theorem dX12_begins_27 : decode cX12_begins 27 = .ok (.iload_n 1, 1) := by decide +kernel
theorem dX12_begins_28 : decode cX12_begins 28 = .ok (.if_icmp .ge 21, 3) := by decide +kernel
theorem dX12_begins_31 : decode cX12_begins 31 = .ok (.aload_n 0, 1) := by decide +kernel
theorem dX12_begins_32 : decode cX12_begins 32 = .ok (.getfield 34, 3) := by decide +kernel
theorem dX12_begins_35 : decode cX12_begins 35 = .ok (.iload_n 3, 1) := by decide +kernel
theorem dX12_begins_36 : decode cX12_begins 36 = .ok (.aload_n 0, 1) := by decide +kernel
theorem dX12_begins_37 : decode cX12_begins 37 = .ok (.getfield 30, 3) := by decide +kernel
theorem dX12_begins_40 : decode cX12_begins 40 = .ok (.iload_n 3, 1) := by decide +kernel
theorem dX12_begins_41 : decode cX12_begins 41 = .ok (.baload, 1) := by decide +kernel
theorem dX12_begins_42 : decode cX12_begins 42 = .ok (.bastore, 1) := by decide +kernel
theorem dX12_begins_43 : decode cX12_begins 43 = .ok (.iinc 3 1, 3) := by decide +kernel
theorem dX12_begins_46 : decode cX12_begins 46 = .ok (.goto (-20), 3) := by decide +kernel
theorem dX12_begins_49 : decode cX12_begins 49 = .ok (.aload_n 0, 1) := by decide +kernel
theorem dX12_begins_50 : decode cX12_begins 50 = .ok (.iconst 0, 1) := by decide +kernel
theorem dX12_begins_51 : decode cX12_begins 51 = .ok (.putfield 115, 3) := by decide +kernel
theorem dX12_begins_54 : decode cX12_begins 54 = .ok (.aload_n 0, 1) := by decide +kernel
theorem dX12_begins_55 : decode cX12_begins 55 = .ok (.iconst 0, 1) := by decide +kernel
theorem dX12_begins_56 : decode cX12_begins 56 = .ok (.putfield 161, 3) := by decide +kernel
theorem dX12_begins_59 : decode cX12_begins 59 = .ok (.aload_n 0, 1) := by decide +kernel
theorem dX12_begins_60 : decode cX12_begins 60 = .ok (.iconst (-1), 1) := by decide +kernel
theorem dX12_begins_61 : decode cX12_begins 61 = .ok (.putfield 41, 3) := by decide +kernel
theorem dX12_begins_64 : decode cX12_begins 64 = .ok (.aload_n 0, 1) := by decide +kernel
theorem dX12_begins_65 : decode cX12_begins 65 = .ok (.iconst 0, 1) := by decide +kernel
theorem dX12_begins_66 : decode cX12_begins 66 = .ok (.putfield 124, 3) := by decide +kernel
theorem dX12_begins_69 : decode cX12_begins 69 = .ok (.aload_n 0, 1) := by decide +kernel
theorem dX12_begins_70 : decode cX12_begins 70 = .ok (.iconst 0, 1) := by decide +kernel
theorem dX12_begins_71 : decode cX12_begins 71 = .ok (.putfield 164, 3) := by decide +kernel
theorem dX12_begins_74 : decode cX12_begins 74 = .ok (.aload_n 0, 1) := by decide +kernel
theorem dX12_begins_75 : decode cX12_begins 75 = .ok (.invokevirtual 167, 3) := by decide +kernel
theorem dX12_begins_78 : decode cX12_begins 78 = .ok (.iconst 1, 1) := by decide +kernel
theorem dX12_begins_79 : decode cX12_begins 79 = .ok (.ireturn, 1) := by decide +kernel
set_option maxRecDepth 100000 in
set_option maxHeartbeats 8000000 in
theorem c_X12_begins (l : Launch) (D : va_G) (cA : Nat → ClassId) (q aK aV : Nat → Nat) (hq : injG 20 q) {a1 : Int32} {a2 : Int32} {M M0 : Mem} {r0 : Int32} (h : f_X12_begins a1 a2 M = some (r0, M0)) : Met l yX12_begins (.code yX12_begins cX12_begins 4 (some .boolean) :: BW) ({ frames := 3, cells := 0, slots := 0, locals := 61 } : Room) (va_Pc [.ref (q 0), .int a1, .int a2] (CB 20 (ceR cA q) D cA q aK aV M)) (Qi 20 (ceR cA q) D q r0 M0) 0 0 (AqG 20 q) := by
  refine gMet RX12 (by decide +kernel) rfl hq (Nat.le_of_ble_eq_true rfl) ?_
  intro p e s m below meth c ls X hr hk hP hS hl
  have hx := X.1
  have hb := X.2.1
  have hl : lv_has ls 4 [(0, .ref (q 0)), (1, .int a1), (2, .int a2)] := hl
  rw [f_X12_begins] at h
  have hL26 : ∀ (fu : Nat) (b3 : Int32) (M : Mem) (res : (Unit) × Mem) (H : Heap) (locs : List Loc) (ls : Array Slot), f_X12_begins_L26 a1 fu b3 M = some res → va_P D vwCl (wsG 20 (ceR cA q) q M) H → va_S (AqG 20 q) s.heap H locs → lv_has ls 4 [(0, .ref (q 0)), (1, .int a1), (3, .int b3)] → (∀ (H : Heap) (locs : List Loc) (ls : Array Slot), va_P D vwCl (wsG 20 (ceR cA q) q res.2) H → va_S (AqG 20 q) s.heap H locs → lv_has ls 4 [(0, .ref (q 0))] → W p l e ({ frames := 3, cells := 0, slots := 0, locals := 61 } : Room) s m [.ref (q 0), .int a1, .int a2].toArray below meth c H locs 0 0 (MQ below (Qi 20 (ceR cA q) D q r0 M0) [.ref (q 0), .int a1, .int a2].toArray s 0 0 (AqG 20 q)) (F0 m 49 ls [])) → W p l e ({ frames := 3, cells := 0, slots := 0, locals := 61 } : Room) s m [.ref (q 0), .int a1, .int a2].toArray below meth c H locs 0 0 (MQ below (Qi 20 (ceR cA q) D q r0 M0) [.ref (q 0), .int a1, .int a2].toArray s 0 0 (AqG 20 q)) (F0 m 26 ls []) := by
    intro fu
    induction fu with
    | zero => intro b3 M res H locs ls h; exact absurd h (by simp [f_X12_begins_L26])
    | succ fu ih =>
      intro b3 M res H locs ls h hP hS hl K26_0
      rw [f_X12_begins_L26] at h
      refine lv_iload_n hx hb dX12_begins_26 rfl (lv_at hl 2 rfl) ?_
      refine lv_iload_n hx hb dX12_begins_27 rfl (lv_at hl 1 rfl) ?_
      refine lv_icmp_ge (tgt := 49) hx hb dX12_begins_28 (by decide) (fun c16 => ?_) (fun c16 => ?_)
      · rw [if_pos c16] at h
        cases h
        exact K26_0 _ _ _ hP hS (lv_sub hl [0] rfl)
      · rw [if_neg c16] at h
        refine lv_aload_n hx hb dX12_begins_31 rfl (lv_at hl 0 rfl) ?_
        refine gfR_12_9 X hP sR_0 bw_1332 dX12_begins_32 ?_
        refine lv_iload_n hx hb dX12_begins_35 rfl (lv_at hl 2 rfl) ?_
        refine lv_aload_n hx hb dX12_begins_36 rfl (lv_at hl 0 rfl) ?_
        refine gfR_12_8 X hP sR_0 bw_1331 dX12_begins_37 ?_
        refine lv_iload_n hx hb dX12_begins_40 rfl (lv_at hl 2 rfl) ?_
        obtain ⟨g17, h⟩ := gd_inv h
        refine ldR_ba X hP sR_6 zR_6 g17 dX12_begins_41 ?_
        obtain ⟨g18, h⟩ := gd_inv h
        obtain ⟨M19, eM19, h⟩ := lt_inv h
        refine stR_ba X hP hS sR_7 zR_7 g18 eM19 dX12_begins_42 (fun H locs hP hS => ?_)
        obtain ⟨y20, ey20, h⟩ := lt_inv h
        refine lv_iinc (v := y20) (lv' := [(3, .int y20), (0, .ref (q 0)), (1, .int a1)]) hx hb dX12_begins_43 hl (k := 2) rfl (by rw [ey20]; rfl) (by decide) rfl (fun ls hl => ?_)
        refine lv_goto (tgt := 26) hx hb dX12_begins_46 (by decide) ?_
        exact ih _ _ res _ _ _ h hP hS (lv_sub hl [1, 2, 0] rfl) K26_0
  refine lv_iload_n hx hb dX12_begins_0 rfl (lv_at hl 1 rfl) ?_
  refine lv_if_lt (tgt := 17) hx hb dX12_begins_1 (by decide) (fun c1 => ?_) (fun c1 => ?_)
  · rw [if_pos c1] at h
    refine lv_iconst (v := 0) hx hb dX12_begins_17 (by decide) ?_
    exact end_z X hr hk hP hS (Or.inl rfl) h dX12_begins_18
  · rw [if_neg c1] at h
    refine lv_iload_n hx hb dX12_begins_4 rfl (lv_at hl 1 rfl) ?_
    refine lv_aload_n hx hb dX12_begins_5 rfl (lv_at hl 0 rfl) ?_
    refine gfR_12_10 X hP sR_0 bw_1333 dX12_begins_6 ?_
    refine lv_icmp_gt (tgt := 17) hx hb dX12_begins_9 (by decide) (fun c2 => ?_) (fun c2 => ?_)
    · rw [if_pos c2] at h
      refine lv_iconst (v := 0) hx hb dX12_begins_17 (by decide) ?_
      exact end_z X hr hk hP hS (Or.inl rfl) h dX12_begins_18
    · rw [if_neg c2] at h
      refine lv_iload_n hx hb dX12_begins_12 rfl (lv_at hl 1 rfl) ?_
      refine lv_iload_n hx hb dX12_begins_13 rfl (lv_at hl 2 rfl) ?_
      refine lv_icmp_le (tgt := 19) hx hb dX12_begins_14 (by decide) (fun c3 => ?_) (fun c3 => ?_)
      · rw [if_pos c3] at h
        refine lv_aload_n hx hb dX12_begins_19 rfl (lv_at hl 0 rfl) ?_
        refine lv_iload_n hx hb dX12_begins_20 rfl (lv_at hl 1 rfl) ?_
        obtain ⟨M4, eM4, h⟩ := lt_inv h
        refine pfR_12_11 X hP hS sR_0 bw_1334 eM4 dX12_begins_21 (fun H locs hP hS => ?_)
        refine lv_iconst (v := 0) hx hb dX12_begins_24 (by decide) ?_
        refine lv_istore_n (lv' := [(3, .int (0 : Int32)), (0, .ref (q 0)), (1, .int a1), (2, .int a2)]) hx hb dX12_begins_25 rfl hl (by decide) rfl (fun ls hl => ?_)
        obtain ⟨s5, M6, hc7, h⟩ := bnd_inv h
        try dsimp only at h
        refine hL26  fz _ _ _ _ _ _ hc7 hP hS (lv_sub hl [1, 2, 0] rfl) (fun H locs ls hP hS hl => ?_)
        have hl : lv_has ls 4 [(0, .ref (q 0))] := hl
        refine lv_aload_n hx hb dX12_begins_49 rfl (lv_at hl 0 rfl) ?_
        refine lv_iconst (v := 0) hx hb dX12_begins_50 (by decide) ?_
        obtain ⟨M8, eM8, h⟩ := lt_inv h
        refine pfR_12_10 X hP hS sR_0 bw_1333 eM8 dX12_begins_51 (fun H locs hP hS => ?_)
        refine lv_aload_n hx hb dX12_begins_54 rfl (lv_at hl 0 rfl) ?_
        refine lv_iconst (v := 0) hx hb dX12_begins_55 (by decide) ?_
        obtain ⟨M9, eM9, h⟩ := lt_inv h
        refine pfR_12_18 X hP hS sR_0 bw_1341 eM9 dX12_begins_56 (fun H locs hP hS => ?_)
        refine lv_aload_n hx hb dX12_begins_59 rfl (lv_at hl 0 rfl) ?_
        refine lv_iconst (v := -1) hx hb dX12_begins_60 (by decide) ?_
        obtain ⟨M10, eM10, h⟩ := lt_inv h
        refine pfR_12_17 X hP hS sR_0 bw_1340 eM10 dX12_begins_61 (fun H locs hP hS => ?_)
        refine lv_aload_n hx hb dX12_begins_64 rfl (lv_at hl 0 rfl) ?_
        refine lv_iconst (v := 0) hx hb dX12_begins_65 (by decide) ?_
        obtain ⟨M11, eM11, h⟩ := lt_inv h
        refine pfR_12_14 X hP hS sR_0 bw_1337 eM11 dX12_begins_66 (fun H locs hP hS => ?_)
        refine lv_aload_n hx hb dX12_begins_69 rfl (lv_at hl 0 rfl) ?_
        refine lv_iconst (v := 0) hx hb dX12_begins_70 (by decide) ?_
        obtain ⟨M12, eM12, h⟩ := lt_inv h
        refine pfR_12_19 X hP hS sR_0 bw_1342 eM12 dX12_begins_71 (fun H locs hP hS => ?_)
        refine lv_aload_n hx hb dX12_begins_74 rfl (lv_at hl 0 rfl) ?_
        obtain ⟨_, M14, hc15, h⟩ := bnd_inv h
        refine gV_v (As := []) X hP hS hl.1 (c_X12_ahead l D cA q aK aV hq hc15) sf_X12_ahead bw_1514 sv_X12_ahead (rcR_12 sR_0) rfl ⟨rfl, rfl⟩ ⟨Nat.le_of_ble_eq_true rfl, Nat.le_of_ble_eq_true rfl⟩ rfl rfl (Nat.le_of_ble_eq_true rfl) dX12_begins_75 (fun H locs hP hS => ?_)
        refine lv_iconst (v := 1) hx hb dX12_begins_78 (by decide) ?_
        exact end_z X hr hk hP hS (Or.inr rfl) h dX12_begins_79
      · rw [if_neg c3] at h
        refine lv_iconst (v := 0) hx hb dX12_begins_17 (by decide) ?_
        exact end_z X hr hk hP hS (Or.inl rfl) h dX12_begins_18
theorem dX12_wantSign_0 : decode cX12_wantSign 0 = .ok (.aload_n 0, 1) := by decide +kernel
theorem dX12_wantSign_1 : decode cX12_wantSign 1 = .ok (.iload_n 1, 1) := by decide +kernel
theorem dX12_wantSign_2 : decode cX12_wantSign 2 = .ok (.invokevirtual 170, 3) := by decide +kernel
theorem dX12_wantSign_5 : decode cX12_wantSign 5 = .ok (.ifCond .ne 9, 3) := by decide +kernel
theorem dX12_wantSign_8 : decode cX12_wantSign 8 = .ok (.aload_n 0, 1) := by decide +kernel
theorem dX12_wantSign_9 : decode cX12_wantSign 9 = .ok (.iconst 2, 1) := by decide +kernel
theorem dX12_wantSign_10 : decode cX12_wantSign 10 = .ok (.invokevirtual 173, 3) := by decide +kernel
theorem dX12_wantSign_13 : decode cX12_wantSign 13 = .ok (.ireturn, 1) := by decide +kernel
theorem dX12_wantSign_14 : decode cX12_wantSign 14 = .ok (.aload_n 0, 1) := by decide +kernel
theorem dX12_wantSign_15 : decode cX12_wantSign 15 = .ok (.invokevirtual 167, 3) := by decide +kernel
theorem dX12_wantSign_18 : decode cX12_wantSign 18 = .ok (.iconst 1, 1) := by decide +kernel
theorem dX12_wantSign_19 : decode cX12_wantSign 19 = .ok (.ireturn, 1) := by decide +kernel
set_option maxRecDepth 100000 in
set_option maxHeartbeats 8000000 in
theorem c_X12_wantSign (l : Launch) (D : va_G) (cA : Nat → ClassId) (q aK aV : Nat → Nat) (hq : injG 20 q) {a1 : Int32} {M M0 : Mem} {r0 : Int32} (h : f_X12_wantSign a1 M = some (r0, M0)) : Met l yX12_wantSign (.code yX12_wantSign cX12_wantSign 2 (some .boolean) :: BW) ({ frames := 3, cells := 0, slots := 0, locals := 61 } : Room) (va_Pc [.ref (q 0), .int a1] (CB 20 (ceR cA q) D cA q aK aV M)) (Qi 20 (ceR cA q) D q r0 M0) 0 0 (AqG 20 q) := by
  refine gMet RX12 (by decide +kernel) rfl hq (Nat.le_of_ble_eq_true rfl) ?_
  intro p e s m below meth c ls X hr hk hP hS hl
  have hx := X.1
  have hb := X.2.1
  have hl : lv_has ls 2 [(0, .ref (q 0)), (1, .int a1)] := hl
  rw [f_X12_wantSign] at h
  refine lv_aload_n hx hb dX12_wantSign_0 rfl (lv_at hl 0 rfl) ?_
  refine lv_iload_n hx hb dX12_wantSign_1 rfl (lv_at hl 1 rfl) ?_
  obtain ⟨r1, M2, hc3, h⟩ := bnd_inv h
  refine gV_i (As := [.int a1]) X hP hS hl.1 (c_X12_isSign l D cA q aK aV hq hc3) sf_X12_isSign bw_1604 sv_X12_isSign (rcR_12 sR_0) rfl ⟨rfl, rfl⟩ ⟨Nat.le_of_ble_eq_true rfl, Nat.le_of_ble_eq_true rfl⟩ rfl rfl (Nat.le_of_ble_eq_true rfl) dX12_wantSign_2 (fun H locs hP hS => ?_)
  refine lv_if_ne (tgt := 14) hx hb dX12_wantSign_5 (by decide) (fun c4 => ?_) (fun c4 => ?_)
  · rw [if_neg c4] at h
    refine lv_aload_n hx hb dX12_wantSign_14 rfl (lv_at hl 0 rfl) ?_
    obtain ⟨_, M6, hc7, h⟩ := bnd_inv h
    refine gV_v (As := []) X hP hS hl.1 (c_X12_ahead l D cA q aK aV hq hc7) sf_X12_ahead bw_1514 sv_X12_ahead (rcR_12 sR_0) rfl ⟨rfl, rfl⟩ ⟨Nat.le_of_ble_eq_true rfl, Nat.le_of_ble_eq_true rfl⟩ rfl rfl (Nat.le_of_ble_eq_true rfl) dX12_wantSign_15 (fun H locs hP hS => ?_)
    refine lv_iconst (v := 1) hx hb dX12_wantSign_18 (by decide) ?_
    exact end_z X hr hk hP hS (Or.inr rfl) h dX12_wantSign_19
  · rw [if_pos c4] at h
    refine lv_aload_n hx hb dX12_wantSign_8 rfl (lv_at hl 0 rfl) ?_
    refine lv_iconst (v := 2) hx hb dX12_wantSign_9 (by decide) ?_
    obtain ⟨r8, M9, hc10, h⟩ := bnd_inv h
    refine gV_i (As := [.int (2 : Int32)]) X hP hS hl.1 (c_X12_fails l D cA q aK aV hq hc10) sf_X12_fails bw_1545 sv_X12_fails (rcR_12 sR_0) rfl ⟨rfl, rfl⟩ ⟨Nat.le_of_ble_eq_true rfl, Nat.le_of_ble_eq_true rfl⟩ rfl rfl (Nat.le_of_ble_eq_true rfl) dX12_wantSign_10 (fun H locs hP hS => ?_)
    obtain ⟨g11, h⟩ := gd_inv h
    exact end_z X hr hk hP hS (Decidable.not_not.mp g11) h dX12_wantSign_13
theorem dX12_wantWord_0 : decode cX12_wantWord 0 = .ok (.aload_n 0, 1) := by decide +kernel
theorem dX12_wantWord_1 : decode cX12_wantWord 1 = .ok (.aload_n 1, 1) := by decide +kernel
theorem dX12_wantWord_2 : decode cX12_wantWord 2 = .ok (.invokevirtual 176, 3) := by decide +kernel
theorem dX12_wantWord_5 : decode cX12_wantWord 5 = .ok (.iload_n 2, 1) := by decide +kernel
theorem dX12_wantWord_6 : decode cX12_wantWord 6 = .ok (.if_icmp .eq 9, 3) := by decide +kernel
theorem dX12_wantWord_9 : decode cX12_wantWord 9 = .ok (.aload_n 0, 1) := by decide +kernel
theorem dX12_wantWord_10 : decode cX12_wantWord 10 = .ok (.iconst 2, 1) := by decide +kernel
theorem dX12_wantWord_11 : decode cX12_wantWord 11 = .ok (.invokevirtual 173, 3) := by decide +kernel
theorem dX12_wantWord_14 : decode cX12_wantWord 14 = .ok (.ireturn, 1) := by decide +kernel
theorem dX12_wantWord_15 : decode cX12_wantWord 15 = .ok (.aload_n 0, 1) := by decide +kernel
theorem dX12_wantWord_16 : decode cX12_wantWord 16 = .ok (.invokevirtual 167, 3) := by decide +kernel
theorem dX12_wantWord_19 : decode cX12_wantWord 19 = .ok (.iconst 1, 1) := by decide +kernel
theorem dX12_wantWord_20 : decode cX12_wantWord 20 = .ok (.ireturn, 1) := by decide +kernel
set_option maxRecDepth 100000 in
set_option maxHeartbeats 8000000 in
theorem c_X12_wantWord (l : Launch) (D : va_G) (cA : Nat → ClassId) (q aK aV : Nat → Nat) (hq : injG 20 q) {a2 : Int32} {M M0 : Mem} {r0 : Int32} (h : f_X12_wantWord a2 M = some (r0, M0)) : Met l yX12_wantWord (.code yX12_wantWord cX12_wantWord 3 (some .boolean) :: BW) ({ frames := 8, cells := 0, slots := 0, locals := 207 } : Room) (va_Pc [.ref (q 0), .ref (aK 1), .int a2] (CB 20 (ceR cA q) D cA q aK aV M)) (Qi 20 (ceR cA q) D q r0 M0) 0 0 (AqG 20 q) := by
  refine gMet RX12 (by decide +kernel) rfl hq (Nat.le_of_ble_eq_true rfl) ?_
  intro p e s m below meth c ls X hr hk hP hS hl
  have hx := X.1
  have hb := X.2.1
  have hl : lv_has ls 3 [(0, .ref (q 0)), (1, .ref (aK 1)), (2, .int a2)] := hl
  rw [f_X12_wantWord] at h
  refine lv_aload_n hx hb dX12_wantWord_0 rfl (lv_at hl 0 rfl) ?_
  refine lv_aload_n hx hb dX12_wantWord_1 rfl (lv_at hl 1 rfl) ?_
  obtain ⟨r1, M2, hc3, h⟩ := bnd_inv h
  refine gV_i (As := [.ref (aK 1)]) X hP hS hl.1 (c_X12_inWords l D cA q aK aV hq hc3) sf_X12_inWords bw_1539 sv_X12_inWords (rcR_12 sR_0) rfl ⟨rfl, rfl⟩ ⟨Nat.le_of_ble_eq_true rfl, Nat.le_of_ble_eq_true rfl⟩ rfl rfl (Nat.le_of_ble_eq_true rfl) dX12_wantWord_2 (fun H locs hP hS => ?_)
  refine lv_iload_n hx hb dX12_wantWord_5 rfl (lv_at hl 2 rfl) ?_
  refine lv_icmp_eq (tgt := 15) hx hb dX12_wantWord_6 (by decide) (fun c4 => ?_) (fun c4 => ?_)
  · rw [if_pos c4] at h
    refine lv_aload_n hx hb dX12_wantWord_15 rfl (lv_at hl 0 rfl) ?_
    obtain ⟨_, M6, hc7, h⟩ := bnd_inv h
    refine gV_v (As := []) X hP hS hl.1 (c_X12_ahead l D cA q aK aV hq hc7) sf_X12_ahead bw_1514 sv_X12_ahead (rcR_12 sR_0) rfl ⟨rfl, rfl⟩ ⟨Nat.le_of_ble_eq_true rfl, Nat.le_of_ble_eq_true rfl⟩ rfl rfl (Nat.le_of_ble_eq_true rfl) dX12_wantWord_16 (fun H locs hP hS => ?_)
    refine lv_iconst (v := 1) hx hb dX12_wantWord_19 (by decide) ?_
    exact end_z X hr hk hP hS (Or.inr rfl) h dX12_wantWord_20
  · rw [if_neg c4] at h
    refine lv_aload_n hx hb dX12_wantWord_9 rfl (lv_at hl 0 rfl) ?_
    refine lv_iconst (v := 2) hx hb dX12_wantWord_10 (by decide) ?_
    obtain ⟨r8, M9, hc10, h⟩ := bnd_inv h
    refine gV_i (As := [.int (2 : Int32)]) X hP hS hl.1 (c_X12_fails l D cA q aK aV hq hc10) sf_X12_fails bw_1545 sv_X12_fails (rcR_12 sR_0) rfl ⟨rfl, rfl⟩ ⟨Nat.le_of_ble_eq_true rfl, Nat.le_of_ble_eq_true rfl⟩ rfl rfl (Nat.le_of_ble_eq_true rfl) dX12_wantWord_11 (fun H locs hP hS => ?_)
    obtain ⟨g11, h⟩ := gd_inv h
    exact end_z X hr hk hP hS (Decidable.not_not.mp g11) h dX12_wantWord_14
theorem dX12_number_0 : decode cX12_number 0 = .ok (.aload_n 0, 1) := by decide +kernel
theorem dX12_number_1 : decode cX12_number 1 = .ok (.getfield 136, 3) := by decide +kernel
theorem dX12_number_4 : decode cX12_number 4 = .ok (.iconst 3, 1) := by decide +kernel
theorem dX12_number_5 : decode cX12_number 5 = .ok (.if_icmp .eq 9, 3) := by decide +kernel
theorem dX12_number_8 : decode cX12_number 8 = .ok (.aload_n 0, 1) := by decide +kernel
theorem dX12_number_9 : decode cX12_number 9 = .ok (.iconst 2, 1) := by decide +kernel
theorem dX12_number_10 : decode cX12_number 10 = .ok (.invokevirtual 173, 3) := by decide +kernel
theorem dX12_number_13 : decode cX12_number 13 = .ok (.ireturn, 1) := by decide +kernel
theorem dX12_number_14 : decode cX12_number 14 = .ok (.aload_n 0, 1) := by decide +kernel
theorem dX12_number_15 : decode cX12_number 15 = .ok (.getfield 133, 3) := by decide +kernel
theorem dX12_number_18 : decode cX12_number 18 = .ok (.iload_n 2, 1) := by decide +kernel
theorem dX12_number_19 : decode cX12_number 19 = .ok (.if_icmp .lt 11, 3) := by decide +kernel
theorem dX12_number_22 : decode cX12_number 22 = .ok (.aload_n 0, 1) := by decide +kernel
theorem dX12_number_23 : decode cX12_number 23 = .ok (.getfield 133, 3) := by decide +kernel
theorem dX12_number_26 : decode cX12_number 26 = .ok (.iload_n 3, 1) := by decide +kernel
theorem dX12_number_27 : decode cX12_number 27 = .ok (.if_icmp .le 9, 3) := by decide +kernel
theorem dX12_number_30 : decode cX12_number 30 = .ok (.aload_n 0, 1) := by decide +kernel
theorem dX12_number_31 : decode cX12_number 31 = .ok (.iconst 4, 1) := by decide +kernel
theorem dX12_number_32 : decode cX12_number 32 = .ok (.invokevirtual 173, 3) := by decide +kernel
theorem dX12_number_35 : decode cX12_number 35 = .ok (.ireturn, 1) := by decide +kernel
theorem dX12_number_36 : decode cX12_number 36 = .ok (.aload_n 0, 1) := by decide +kernel
theorem dX12_number_37 : decode cX12_number 37 = .ok (.getfield 7, 3) := by decide +kernel
theorem dX12_number_40 : decode cX12_number 40 = .ok (.iload_n 1, 1) := by decide +kernel
theorem dX12_number_41 : decode cX12_number 41 = .ok (.aload_n 0, 1) := by decide +kernel
theorem dX12_number_42 : decode cX12_number 42 = .ok (.getfield 133, 3) := by decide +kernel
theorem dX12_number_45 : decode cX12_number 45 = .ok (.iastore, 1) := by decide +kernel
theorem dX12_number_46 : decode cX12_number 46 = .ok (.aload_n 0, 1) := by decide +kernel
theorem dX12_number_47 : decode cX12_number 47 = .ok (.invokevirtual 167, 3) := by decide +kernel
theorem dX12_number_50 : decode cX12_number 50 = .ok (.iconst 1, 1) := by decide +kernel
theorem dX12_number_51 : decode cX12_number 51 = .ok (.ireturn, 1) := by decide +kernel
set_option maxRecDepth 100000 in
set_option maxHeartbeats 8000000 in
theorem c_X12_number (l : Launch) (D : va_G) (cA : Nat → ClassId) (q aK aV : Nat → Nat) (hq : injG 20 q) {a1 : Int32} {a2 : Int32} {a3 : Int32} {M M0 : Mem} {r0 : Int32} (h : f_X12_number a1 a2 a3 M = some (r0, M0)) : Met l yX12_number (.code yX12_number cX12_number 4 (some .boolean) :: BW) ({ frames := 3, cells := 0, slots := 0, locals := 61 } : Room) (va_Pc [.ref (q 0), .int a1, .int a2, .int a3] (CB 20 (ceR cA q) D cA q aK aV M)) (Qi 20 (ceR cA q) D q r0 M0) 0 0 (AqG 20 q) := by
  refine gMet RX12 (by decide +kernel) rfl hq (Nat.le_of_ble_eq_true rfl) ?_
  intro p e s m below meth c ls X hr hk hP hS hl
  have hx := X.1
  have hb := X.2.1
  have hl : lv_has ls 4 [(0, .ref (q 0)), (1, .int a1), (2, .int a2), (3, .int a3)] := hl
  rw [f_X12_number] at h
  refine lv_aload_n hx hb dX12_number_0 rfl (lv_at hl 0 rfl) ?_
  refine gfR_12_12 X hP sR_0 bw_1335 dX12_number_1 ?_
  refine lv_iconst (v := 3) hx hb dX12_number_4 (by decide) ?_
  refine lv_icmp_eq (tgt := 14) hx hb dX12_number_5 (by decide) (fun c1 => ?_) (fun c1 => ?_)
  · rw [if_pos c1] at h
    refine lv_aload_n hx hb dX12_number_14 rfl (lv_at hl 0 rfl) ?_
    refine gfR_12_15 X hP sR_0 bw_1338 dX12_number_15 ?_
    refine lv_iload_n hx hb dX12_number_18 rfl (lv_at hl 2 rfl) ?_
    refine lv_icmp_lt (tgt := 30) hx hb dX12_number_19 (by decide) (fun c2 => ?_) (fun c2 => ?_)
    · rw [if_pos c2] at h
      refine lv_aload_n hx hb dX12_number_30 rfl (lv_at hl 0 rfl) ?_
      refine lv_iconst (v := 4) hx hb dX12_number_31 (by decide) ?_
      obtain ⟨r3, M4, hc5, h⟩ := bnd_inv h
      refine gV_i (As := [.int (4 : Int32)]) X hP hS hl.1 (c_X12_fails l D cA q aK aV hq hc5) sf_X12_fails bw_1545 sv_X12_fails (rcR_12 sR_0) rfl ⟨rfl, rfl⟩ ⟨Nat.le_of_ble_eq_true rfl, Nat.le_of_ble_eq_true rfl⟩ rfl rfl (Nat.le_of_ble_eq_true rfl) dX12_number_32 (fun H locs hP hS => ?_)
      obtain ⟨g6, h⟩ := gd_inv h
      exact end_z X hr hk hP hS (Decidable.not_not.mp g6) h dX12_number_35
    · rw [if_neg c2] at h
      refine lv_aload_n hx hb dX12_number_22 rfl (lv_at hl 0 rfl) ?_
      refine gfR_12_15 X hP sR_0 bw_1338 dX12_number_23 ?_
      refine lv_iload_n hx hb dX12_number_26 rfl (lv_at hl 3 rfl) ?_
      refine lv_icmp_le (tgt := 36) hx hb dX12_number_27 (by decide) (fun c7 => ?_) (fun c7 => ?_)
      · rw [if_pos c7] at h
        refine lv_aload_n hx hb dX12_number_36 rfl (lv_at hl 0 rfl) ?_
        refine gfR_12_0 X hP sR_0 bw_1323 dX12_number_37 ?_
        refine lv_iload_n hx hb dX12_number_40 rfl (lv_at hl 1 rfl) ?_
        refine lv_aload_n hx hb dX12_number_41 rfl (lv_at hl 0 rfl) ?_
        refine gfR_12_15 X hP sR_0 bw_1338 dX12_number_42 ?_
        obtain ⟨g8, h⟩ := gd_inv h
        obtain ⟨M9, eM9, h⟩ := lt_inv h
        refine stR_ia X hP hS sR_1 zR_1 g8 eM9 dX12_number_45 (fun H locs hP hS => ?_)
        refine lv_aload_n hx hb dX12_number_46 rfl (lv_at hl 0 rfl) ?_
        obtain ⟨_, M11, hc12, h⟩ := bnd_inv h
        refine gV_v (As := []) X hP hS hl.1 (c_X12_ahead l D cA q aK aV hq hc12) sf_X12_ahead bw_1514 sv_X12_ahead (rcR_12 sR_0) rfl ⟨rfl, rfl⟩ ⟨Nat.le_of_ble_eq_true rfl, Nat.le_of_ble_eq_true rfl⟩ rfl rfl (Nat.le_of_ble_eq_true rfl) dX12_number_47 (fun H locs hP hS => ?_)
        refine lv_iconst (v := 1) hx hb dX12_number_50 (by decide) ?_
        exact end_z X hr hk hP hS (Or.inr rfl) h dX12_number_51
      · rw [if_neg c7] at h
        refine lv_aload_n hx hb dX12_number_30 rfl (lv_at hl 0 rfl) ?_
        refine lv_iconst (v := 4) hx hb dX12_number_31 (by decide) ?_
        obtain ⟨r13, M14, hc15, h⟩ := bnd_inv h
        refine gV_i (As := [.int (4 : Int32)]) X hP hS hl.1 (c_X12_fails l D cA q aK aV hq hc15) sf_X12_fails bw_1545 sv_X12_fails (rcR_12 sR_0) rfl ⟨rfl, rfl⟩ ⟨Nat.le_of_ble_eq_true rfl, Nat.le_of_ble_eq_true rfl⟩ rfl rfl (Nat.le_of_ble_eq_true rfl) dX12_number_32 (fun H locs hP hS => ?_)
        obtain ⟨g16, h⟩ := gd_inv h
        exact end_z X hr hk hP hS (Decidable.not_not.mp g16) h dX12_number_35
  · rw [if_neg c1] at h
    refine lv_aload_n hx hb dX12_number_8 rfl (lv_at hl 0 rfl) ?_
    refine lv_iconst (v := 2) hx hb dX12_number_9 (by decide) ?_
    obtain ⟨r17, M18, hc19, h⟩ := bnd_inv h
    refine gV_i (As := [.int (2 : Int32)]) X hP hS hl.1 (c_X12_fails l D cA q aK aV hq hc19) sf_X12_fails bw_1545 sv_X12_fails (rcR_12 sR_0) rfl ⟨rfl, rfl⟩ ⟨Nat.le_of_ble_eq_true rfl, Nat.le_of_ble_eq_true rfl⟩ rfl rfl (Nat.le_of_ble_eq_true rfl) dX12_number_10 (fun H locs hP hS => ?_)
    obtain ⟨g20, h⟩ := gd_inv h
    exact end_z X hr hk hP hS (Decidable.not_not.mp g20) h dX12_number_13
theorem dX12_isName_0 : decode cX12_isName 0 = .ok (.aload_n 0, 1) := by decide +kernel
theorem dX12_isName_1 : decode cX12_isName 1 = .ok (.getfield 136, 3) := by decide +kernel
theorem dX12_isName_4 : decode cX12_isName 4 = .ok (.iconst 2, 1) := by decide +kernel
theorem dX12_isName_5 : decode cX12_isName 5 = .ok (.if_icmp .ne 30, 3) := by decide +kernel
theorem dX12_isName_8 : decode cX12_isName 8 = .ok (.aload_n 0, 1) := by decide +kernel
theorem dX12_isName_9 : decode cX12_isName 9 = .ok (.getfield 124, 3) := by decide +kernel
theorem dX12_isName_12 : decode cX12_isName 12 = .ok (.aload_n 0, 1) := by decide +kernel
theorem dX12_isName_13 : decode cX12_isName 13 = .ok (.getfield 130, 3) := by decide +kernel
theorem dX12_isName_16 : decode cX12_isName 16 = .ok (.isub, 1) := by decide +kernel
theorem dX12_isName_17 : decode cX12_isName 17 = .ok (.bipush 8, 2) := by decide +kernel
theorem dX12_isName_19 : decode cX12_isName 19 = .ok (.if_icmp .gt 16, 3) := by decide +kernel
theorem dX12_isName_22 : decode cX12_isName 22 = .ok (.aload_n 0, 1) := by decide +kernel
theorem dX12_isName_23 : decode cX12_isName 23 = .ok (.aload_n 1, 1) := by decide +kernel
theorem dX12_isName_24 : decode cX12_isName 24 = .ok (.invokevirtual 176, 3) := by decide +kernel
theorem dX12_isName_27 : decode cX12_isName 27 = .ok (.iconst (-1), 1) := by decide +kernel
theorem dX12_isName_28 : decode cX12_isName 28 = .ok (.if_icmp .ne 7, 3) := by decide +kernel
theorem dX12_isName_31 : decode cX12_isName 31 = .ok (.iconst 1, 1) := by decide +kernel
theorem dX12_isName_32 : decode cX12_isName 32 = .ok (.goto 4, 3) := by decide +kernel
theorem dX12_isName_35 : decode cX12_isName 35 = .ok (.iconst 0, 1) := by decide +kernel
theorem dX12_isName_36 : decode cX12_isName 36 = .ok (.ireturn, 1) := by decide +kernel
set_option maxRecDepth 100000 in
set_option maxHeartbeats 8000000 in
theorem c_X12_isName (l : Launch) (D : va_G) (cA : Nat → ClassId) (q aK aV : Nat → Nat) (hq : injG 20 q) {M M0 : Mem} {r0 : Int32} (h : f_X12_isName M = some (r0, M0)) : Met l yX12_isName (.code yX12_isName cX12_isName 2 (some .boolean) :: BW) ({ frames := 8, cells := 0, slots := 0, locals := 207 } : Room) (va_Pc [.ref (q 0), .ref (aK 1)] (CB 20 (ceR cA q) D cA q aK aV M)) (Qi 20 (ceR cA q) D q r0 M0) 0 0 (AqG 20 q) := by
  refine gMet RX12 (by decide +kernel) rfl hq (Nat.le_of_ble_eq_true rfl) ?_
  intro p e s m below meth c ls X hr hk hP hS hl
  have hx := X.1
  have hb := X.2.1
  have hl : lv_has ls 2 [(0, .ref (q 0)), (1, .ref (aK 1))] := hl
  rw [f_X12_isName] at h
  refine lv_aload_n hx hb dX12_isName_0 rfl (lv_at hl 0 rfl) ?_
  refine gfR_12_12 X hP sR_0 bw_1335 dX12_isName_1 ?_
  refine lv_iconst (v := 2) hx hb dX12_isName_4 (by decide) ?_
  refine lv_icmp_ne (tgt := 35) hx hb dX12_isName_5 (by decide) (fun c1 => ?_) (fun c1 => ?_)
  · rw [if_neg c1] at h
    refine lv_iconst (v := 0) hx hb dX12_isName_35 (by decide) ?_
    exact end_z X hr hk hP hS (Or.inl rfl) h dX12_isName_36
  · rw [if_pos c1] at h
    refine lv_aload_n hx hb dX12_isName_8 rfl (lv_at hl 0 rfl) ?_
    refine gfR_12_14 X hP sR_0 bw_1337 dX12_isName_9 ?_
    refine lv_aload_n hx hb dX12_isName_12 rfl (lv_at hl 0 rfl) ?_
    refine gfR_12_13 X hP sR_0 bw_1336 dX12_isName_13 ?_
    refine lv_isub hx hb dX12_isName_16 ?_
    refine lv_bipush (v := 8) hx hb dX12_isName_17 (by decide) ?_
    refine lv_icmp_gt (tgt := 35) hx hb dX12_isName_19 (by decide) (fun c2 => ?_) (fun c2 => ?_)
    · rw [if_pos c2] at h
      refine lv_iconst (v := 0) hx hb dX12_isName_35 (by decide) ?_
      exact end_z X hr hk hP hS (Or.inl rfl) h dX12_isName_36
    · rw [if_neg c2] at h
      refine lv_aload_n hx hb dX12_isName_22 rfl (lv_at hl 0 rfl) ?_
      refine lv_aload_n hx hb dX12_isName_23 rfl (lv_at hl 1 rfl) ?_
      obtain ⟨r3, M4, hc5, h⟩ := bnd_inv h
      refine gV_i (As := [.ref (aK 1)]) X hP hS hl.1 (c_X12_inWords l D cA q aK aV hq hc5) sf_X12_inWords bw_1539 sv_X12_inWords (rcR_12 sR_0) rfl ⟨rfl, rfl⟩ ⟨Nat.le_of_ble_eq_true rfl, Nat.le_of_ble_eq_true rfl⟩ rfl rfl (Nat.le_of_ble_eq_true rfl) dX12_isName_24 (fun H locs hP hS => ?_)
      refine lv_iconst (v := -1) hx hb dX12_isName_27 (by decide) ?_
      refine lv_icmp_ne (tgt := 35) hx hb dX12_isName_28 (by decide) (fun c6 => ?_) (fun c6 => ?_)
      · rw [if_neg c6] at h
        refine lv_iconst (v := 0) hx hb dX12_isName_35 (by decide) ?_
        exact end_z X hr hk hP hS (Or.inl rfl) h dX12_isName_36
      · rw [if_pos c6] at h
        refine lv_iconst (v := 1) hx hb dX12_isName_31 (by decide) ?_
        refine lv_goto (tgt := 36) hx hb dX12_isName_32 (by decide) ?_
        exact end_z X hr hk hP hS (Or.inr rfl) h dX12_isName_36
theorem dX12_nameHere_0 : decode cX12_nameHere 0 = .ok (.lconst 0, 1) := by decide +kernel
theorem dX12_nameHere_1 : decode cX12_nameHere 1 = .ok (.lstore_n 1, 1) := by decide +kernel
theorem dX12_nameHere_2 : decode cX12_nameHere 2 = .ok (.aload_n 0, 1) := by decide +kernel
theorem dX12_nameHere_3 : decode cX12_nameHere 3 = .ok (.getfield 130, 3) := by decide +kernel
theorem dX12_nameHere_6 : decode cX12_nameHere 6 = .ok (.istore_n 3, 1) := by decide +kernel
theorem dX12_nameHere_7 : decode cX12_nameHere 7 = .ok (.iload_n 3, 1) := by decide +kernel
theorem dX12_nameHere_8 : decode cX12_nameHere 8 = .ok (.aload_n 0, 1) := by decide +kernel
theorem dX12_nameHere_9 : decode cX12_nameHere 9 = .ok (.getfield 124, 3) := by decide +kernel
theorem dX12_nameHere_12 : decode cX12_nameHere 12 = .ok (.if_icmp .ge 21, 3) := by decide +kernel
theorem dX12_nameHere_15 : decode cX12_nameHere 15 = .ok (.lload_n 1, 1) := by decide +kernel
theorem dX12_nameHere_16 : decode cX12_nameHere 16 = .ok (.bipush 8, 2) := by decide +kernel
theorem dX12_nameHere_18 : decode cX12_nameHere 18 = .ok (.lshl, 1) := by decide +kernel
theorem dX12_nameHere_19 : decode cX12_nameHere 19 = .ok (.aload_n 0, 1) := by decide +kernel
theorem dX12_nameHere_20 : decode cX12_nameHere 20 = .ok (.iload_n 3, 1) := by decide +kernel
theorem dX12_nameHere_21 : decode cX12_nameHere 21 = .ok (.invokevirtual 127, 3) := by decide +kernel
theorem dX12_nameHere_24 : decode cX12_nameHere 24 = .ok (.i2l, 1) := by decide +kernel
theorem dX12_nameHere_25 : decode cX12_nameHere 25 = .ok (.lor, 1) := by decide +kernel
theorem dX12_nameHere_26 : decode cX12_nameHere 26 = .ok (.lstore_n 1, 1) := by decide +kernel
theorem dX12_nameHere_27 : decode cX12_nameHere 27 = .ok (.iinc 3 1, 3) := by decide +kernel
theorem dX12_nameHere_30 : decode cX12_nameHere 30 = .ok (.goto (-23), 3) := by decide +kernel
theorem dX12_nameHere_33 : decode cX12_nameHere 33 = .ok (.lload_n 1, 1) := by decide +kernel
theorem dX12_nameHere_34 : decode cX12_nameHere 34 = .ok (.lreturn, 1) := by decide +kernel
set_option maxRecDepth 100000 in
set_option maxHeartbeats 8000000 in
theorem c_X12_nameHere (l : Launch) (D : va_G) (cA : Nat → ClassId) (q aK aV : Nat → Nat) (hq : injG 20 q) {M M0 : Mem} {r0 : Int64} (h : f_X12_nameHere M = some (r0, M0)) : Met l yX12_nameHere (.code yX12_nameHere cX12_nameHere 4 (some .long) :: BW) ({ frames := 2, cells := 0, slots := 0, locals := 34 } : Room) (va_Pc [.ref (q 0)] (CB 20 (ceR cA q) D cA q aK aV M)) (Ql 20 (ceR cA q) D q r0 M0) 0 0 (AqG 20 q) := by
  refine gMet RX12 (by decide +kernel) rfl hq (Nat.le_of_ble_eq_true rfl) ?_
  intro p e s m below meth c ls X hr hk hP hS hl
  have hx := X.1
  have hb := X.2.1
  have hl : lv_has ls 4 [(0, .ref (q 0))] := hl
  rw [f_X12_nameHere] at h
  have hL7 : ∀ (fu : Nat) (b1 : Int64) (b3 : Int32) (M : Mem) (res : (Int64) × Mem) (H : Heap) (locs : List Loc) (ls : Array Slot), f_X12_nameHere_L7 fu b1 b3 M = some res → va_P D vwCl (wsG 20 (ceR cA q) q M) H → va_S (AqG 20 q) s.heap H locs → lv_has ls 4 [(0, .ref (q 0)), (1, .long b1), (3, .int b3)] → (∀ (H : Heap) (locs : List Loc) (ls : Array Slot), va_P D vwCl (wsG 20 (ceR cA q) q res.2) H → va_S (AqG 20 q) s.heap H locs → lv_has ls 4 [(1, .long (res.1))] → W p l e ({ frames := 2, cells := 0, slots := 0, locals := 34 } : Room) s m [.ref (q 0)].toArray below meth c H locs 0 0 (MQ below (Ql 20 (ceR cA q) D q r0 M0) [.ref (q 0)].toArray s 0 0 (AqG 20 q)) (F0 m 33 ls [])) → W p l e ({ frames := 2, cells := 0, slots := 0, locals := 34 } : Room) s m [.ref (q 0)].toArray below meth c H locs 0 0 (MQ below (Ql 20 (ceR cA q) D q r0 M0) [.ref (q 0)].toArray s 0 0 (AqG 20 q)) (F0 m 7 ls []) := by
    intro fu
    induction fu with
    | zero => intro b1 b3 M res H locs ls h; exact absurd h (by simp [f_X12_nameHere_L7])
    | succ fu ih =>
      intro b1 b3 M res H locs ls h hP hS hl K7_0
      rw [f_X12_nameHere_L7] at h
      refine lv_iload_n hx hb dX12_nameHere_7 rfl (lv_at hl 2 rfl) ?_
      refine lv_aload_n hx hb dX12_nameHere_8 rfl (lv_at hl 0 rfl) ?_
      refine gfR_12_14 X hP sR_0 bw_1337 dX12_nameHere_9 ?_
      refine lv_icmp_ge (tgt := 33) hx hb dX12_nameHere_12 (by decide) (fun c6 => ?_) (fun c6 => ?_)
      · rw [if_pos c6] at h
        cases h
        exact K7_0 _ _ _ hP hS (lv_sub hl [1] rfl)
      · rw [if_neg c6] at h
        refine lv_lload_n hx hb dX12_nameHere_15 rfl (lv_at hl 1 rfl) ?_
        refine lv_bipush (v := 8) hx hb dX12_nameHere_16 (by decide) ?_
        refine lv_lshl hx hb dX12_nameHere_18 rfl ?_
        refine lv_aload_n hx hb dX12_nameHere_19 rfl (lv_at hl 0 rfl) ?_
        refine lv_iload_n hx hb dX12_nameHere_20 rfl (lv_at hl 2 rfl) ?_
        obtain ⟨r7, M8, hc9, h⟩ := bnd_inv h
        refine gV_i (As := [.int b3]) X hP hS hl.1 (c_X12_byteAt l D cA q aK aV hq hc9) sf_X12_byteAt bw_1518 sv_X12_byteAt (rcR_12 sR_0) rfl ⟨rfl, rfl⟩ ⟨Nat.le_of_ble_eq_true rfl, Nat.le_of_ble_eq_true rfl⟩ rfl rfl (Nat.le_of_ble_eq_true rfl) dX12_nameHere_21 (fun H locs hP hS => ?_)
        refine lv_i2l hx hb dX12_nameHere_24 rfl ?_
        refine lv_lor hx hb dX12_nameHere_25 ?_
        obtain ⟨y10, ey10, h⟩ := lt_inv h
        refine topL ey10 ?_
        refine lv_lstore_n (lv' := [(1, .long y10), (0, .ref (q 0)), (3, .int b3)]) hx hb dX12_nameHere_26 rfl hl (by decide) rfl (fun ls hl => ?_)
        obtain ⟨y11, ey11, h⟩ := lt_inv h
        refine lv_iinc (v := y11) (lv' := [(3, .int y11), (1, .long y10), (0, .ref (q 0))]) hx hb dX12_nameHere_27 hl (k := 2) rfl (by rw [ey11]; rfl) (by decide) rfl (fun ls hl => ?_)
        refine lv_goto (tgt := 7) hx hb dX12_nameHere_30 (by decide) ?_
        exact ih _ _ _ res _ _ _ h hP hS (lv_sub hl [2, 1, 0] rfl) K7_0
  refine lv_lconst (v := 0) hx hb dX12_nameHere_0 (by decide) ?_
  refine lv_lstore_n (lv' := [(1, .long (0 : Int64)), (0, .ref (q 0))]) hx hb dX12_nameHere_1 rfl hl (by decide) rfl (fun ls hl => ?_)
  refine lv_aload_n hx hb dX12_nameHere_2 rfl (lv_at hl 1 rfl) ?_
  refine gfR_12_13 X hP sR_0 bw_1336 dX12_nameHere_3 ?_
  obtain ⟨y1, ey1, h⟩ := lt_inv h
  refine topE ey1 ?_
  refine lv_istore_n (lv' := [(3, .int y1), (1, .long (0 : Int64)), (0, .ref (q 0))]) hx hb dX12_nameHere_6 rfl hl (by decide) rfl (fun ls hl => ?_)
  obtain ⟨s2, M3, hc4, h⟩ := bnd_inv h
  obtain ⟨x5, rfl⟩ : ∃ z, z = s2 := ⟨_, rfl⟩
  try dsimp only at h
  refine hL7  fz _ _ _ _ _ _ _ hc4 hP hS (lv_sub hl [2, 1, 0] rfl) (fun H locs ls hP hS hl => ?_)
  have hl : lv_has ls 4 [(1, .long x5)] := hl
  refine lv_lload_n hx hb dX12_nameHere_33 rfl (lv_at hl 0 rfl) ?_
  exact end_l X hr hk hP hS h dX12_nameHere_34
theorem dX12_findHere_0 : decode cX12_findHere 0 = .ok (.iconst 0, 1) := by decide +kernel
theorem dX12_findHere_1 : decode cX12_findHere 1 = .ok (.istore_n 3, 1) := by decide +kernel
theorem dX12_findHere_2 : decode cX12_findHere 2 = .ok (.iload_n 3, 1) := by decide +kernel
theorem dX12_findHere_3 : decode cX12_findHere 3 = .ok (.iload_n 2, 1) := by decide +kernel
theorem dX12_findHere_4 : decode cX12_findHere 4 = .ok (.if_icmp .ge 27, 3) := by decide +kernel
theorem dX12_findHere_7 : decode cX12_findHere 7 = .ok (.aload_n 0, 1) := by decide +kernel
theorem dX12_findHere_8 : decode cX12_findHere 8 = .ok (.getfield 13, 3) := by decide +kernel
theorem dX12_findHere_11 : decode cX12_findHere 11 = .ok (.iload_n 1, 1) := by decide +kernel
theorem dX12_findHere_12 : decode cX12_findHere 12 = .ok (.iload_n 3, 1) := by decide +kernel
theorem dX12_findHere_13 : decode cX12_findHere 13 = .ok (.iadd, 1) := by decide +kernel
theorem dX12_findHere_14 : decode cX12_findHere 14 = .ok (.laload, 1) := by decide +kernel
theorem dX12_findHere_15 : decode cX12_findHere 15 = .ok (.aload_n 0, 1) := by decide +kernel
theorem dX12_findHere_16 : decode cX12_findHere 16 = .ok (.invokevirtual 180, 3) := by decide +kernel
theorem dX12_findHere_19 : decode cX12_findHere 19 = .ok (.lcmp, 1) := by decide +kernel
theorem dX12_findHere_20 : decode cX12_findHere 20 = .ok (.ifCond .ne 5, 3) := by decide +kernel
theorem dX12_findHere_23 : decode cX12_findHere 23 = .ok (.iload_n 3, 1) := by decide +kernel
theorem dX12_findHere_24 : decode cX12_findHere 24 = .ok (.ireturn, 1) := by decide +kernel
theorem dX12_findHere_25 : decode cX12_findHere 25 = .ok (.iinc 3 1, 3) := by decide +kernel
theorem dX12_findHere_28 : decode cX12_findHere 28 = .ok (.goto (-26), 3) := by decide +kernel
theorem dX12_findHere_31 : decode cX12_findHere 31 = .ok (.iconst (-1), 1) := by decide +kernel
theorem dX12_findHere_32 : decode cX12_findHere 32 = .ok (.ireturn, 1) := by decide +kernel
set_option maxRecDepth 100000 in
set_option maxHeartbeats 8000000 in
theorem c_X12_findHere (l : Launch) (D : va_G) (cA : Nat → ClassId) (q aK aV : Nat → Nat) (hq : injG 20 q) {a1 : Int32} {a2 : Int32} {M M0 : Mem} {r0 : Int32} (h : f_X12_findHere a1 a2 M = some (r0, M0)) : Met l yX12_findHere (.code yX12_findHere cX12_findHere 4 (some .int) :: BW) ({ frames := 3, cells := 0, slots := 0, locals := 57 } : Room) (va_Pc [.ref (q 0), .int a1, .int a2] (CB 20 (ceR cA q) D cA q aK aV M)) (Qi 20 (ceR cA q) D q r0 M0) 0 0 (AqG 20 q) := by
  refine gMet RX12 (by decide +kernel) rfl hq (Nat.le_of_ble_eq_true rfl) ?_
  intro p e s m below meth c ls X hr hk hP hS hl
  have hx := X.1
  have hb := X.2.1
  have hl : lv_has ls 4 [(0, .ref (q 0)), (1, .int a1), (2, .int a2)] := hl
  rw [f_X12_findHere] at h
  have hL2 : ∀ (fu : Nat) (b3 : Int32) (M : Mem) (res : (Nat × Int32) × Mem) (H : Heap) (locs : List Loc) (ls : Array Slot), f_X12_findHere_L2 a1 a2 fu b3 M = some res → va_P D vwCl (wsG 20 (ceR cA q) q M) H → va_S (AqG 20 q) s.heap H locs → lv_has ls 4 [(0, .ref (q 0)), (1, .int a1), (2, .int a2), (3, .int b3)] → (res.1.1 = 0 → ∀ (H : Heap) (locs : List Loc) (ls : Array Slot), va_P D vwCl (wsG 20 (ceR cA q) q res.2) H → va_S (AqG 20 q) s.heap H locs → lv_has ls 4 [(3, .int (res.1.2))] → W p l e ({ frames := 3, cells := 0, slots := 0, locals := 57 } : Room) s m [.ref (q 0), .int a1, .int a2].toArray below meth c H locs 0 0 (MQ below (Qi 20 (ceR cA q) D q r0 M0) [.ref (q 0), .int a1, .int a2].toArray s 0 0 (AqG 20 q)) (F0 m 23 ls [])) → (res.1.1 = 1 → ∀ (H : Heap) (locs : List Loc) (ls : Array Slot), va_P D vwCl (wsG 20 (ceR cA q) q res.2) H → va_S (AqG 20 q) s.heap H locs → lv_has ls 4 [] → W p l e ({ frames := 3, cells := 0, slots := 0, locals := 57 } : Room) s m [.ref (q 0), .int a1, .int a2].toArray below meth c H locs 0 0 (MQ below (Qi 20 (ceR cA q) D q r0 M0) [.ref (q 0), .int a1, .int a2].toArray s 0 0 (AqG 20 q)) (F0 m 31 ls [])) → W p l e ({ frames := 3, cells := 0, slots := 0, locals := 57 } : Room) s m [.ref (q 0), .int a1, .int a2].toArray below meth c H locs 0 0 (MQ below (Qi 20 (ceR cA q) D q r0 M0) [.ref (q 0), .int a1, .int a2].toArray s 0 0 (AqG 20 q)) (F0 m 2 ls []) := by
    intro fu
    induction fu with
    | zero => intro b3 M res H locs ls h; exact absurd h (by simp [f_X12_findHere_L2])
    | succ fu ih =>
      intro b3 M res H locs ls h hP hS hl K2_0 K2_1
      rw [f_X12_findHere_L2] at h
      refine lv_iload_n hx hb dX12_findHere_2 rfl (lv_at hl 3 rfl) ?_
      refine lv_iload_n hx hb dX12_findHere_3 rfl (lv_at hl 2 rfl) ?_
      refine lv_icmp_ge (tgt := 31) hx hb dX12_findHere_4 (by decide) (fun c6 => ?_) (fun c6 => ?_)
      · rw [if_pos c6] at h
        cases h
        exact K2_1 rfl _ _ _ hP hS (lv_sub hl [] rfl)
      · rw [if_neg c6] at h
        refine lv_aload_n hx hb dX12_findHere_7 rfl (lv_at hl 0 rfl) ?_
        refine gfR_12_1 X hP sR_0 bw_1324 dX12_findHere_8 ?_
        refine lv_iload_n hx hb dX12_findHere_11 rfl (lv_at hl 1 rfl) ?_
        refine lv_iload_n hx hb dX12_findHere_12 rfl (lv_at hl 3 rfl) ?_
        refine lv_iadd hx hb dX12_findHere_13 ?_
        obtain ⟨g7, h⟩ := gd_inv h
        refine ldR_la X hP sR_2 zR_2 g7 dX12_findHere_14 ?_
        refine lv_aload_n hx hb dX12_findHere_15 rfl (lv_at hl 0 rfl) ?_
        obtain ⟨r8, M9, hc10, h⟩ := bnd_inv h
        refine gV_l (As := []) X hP hS hl.1 (c_X12_nameHere l D cA q aK aV hq hc10) sf_X12_nameHere bw_1573 sv_X12_nameHere (rcR_12 sR_0) rfl ⟨rfl, rfl⟩ ⟨Nat.le_of_ble_eq_true rfl, Nat.le_of_ble_eq_true rfl⟩ rfl rfl (Nat.le_of_ble_eq_true rfl) dX12_findHere_16 (fun H locs hP hS => ?_)
        refine W.lcmp hx hb dX12_findHere_19 ?_
        refine lv_if_ne (tgt := 25) hx hb dX12_findHere_20 (by decide) (fun c11 => ?_) (fun c11 => ?_)
        · rw [if_neg c11] at h
          obtain ⟨y12, ey12, h⟩ := lt_inv h
          refine lv_iinc (v := y12) (lv' := [(3, .int y12), (0, .ref (q 0)), (1, .int a1), (2, .int a2)]) hx hb dX12_findHere_25 hl (k := 3) rfl (by rw [ey12]; rfl) (by decide) rfl (fun ls hl => ?_)
          refine lv_goto (tgt := 2) hx hb dX12_findHere_28 (by decide) ?_
          exact ih _ _ res _ _ _ h hP hS (lv_sub hl [1, 2, 3, 0] rfl) K2_0 K2_1
        · rw [if_pos c11] at h
          cases h
          exact K2_0 rfl _ _ _ hP hS (lv_sub hl [3] rfl)
  refine lv_iconst (v := 0) hx hb dX12_findHere_0 (by decide) ?_
  refine lv_istore_n (lv' := [(3, .int (0 : Int32)), (0, .ref (q 0)), (1, .int a1), (2, .int a2)]) hx hb dX12_findHere_1 rfl hl (by decide) rfl (fun ls hl => ?_)
  obtain ⟨s1, M2, hc3, h⟩ := bnd_inv h
  obtain ⟨k4, x5⟩ := s1
  try dsimp only at h
  refine hL2  fz _ _ _ _ _ _ hc3 hP hS (lv_sub hl [1, 2, 3, 0] rfl) (fun hke H locs ls hP hS hl => ?_) (fun hke H locs ls hP hS hl => ?_)
  · have hke : k4 = 0 := hke
    have hl : lv_has ls 4 [(3, .int x5)] := hl
    subst hke
    rw [if_pos rfl] at h
    refine lv_iload_n hx hb dX12_findHere_23 rfl (lv_at hl 0 rfl) ?_
    exact end_i X hr hk hP hS h dX12_findHere_24
  · have hke : k4 = 1 := hke
    have hl : lv_has ls 4 [] := hl
    subst hke
    rw [if_neg (by decide)] at h
    refine lv_iconst (v := -1) hx hb dX12_findHere_31 (by decide) ?_
    exact end_i X hr hk hP hS h dX12_findHere_32
theorem dX12_fault_0 : decode cX12_fault 0 = .ok (.iload_n 1, 1) := by decide +kernel
theorem dX12_fault_1 : decode cX12_fault 1 = .ok (.ifCond .ne 10, 3) := by decide +kernel
theorem dX12_fault_4 : decode cX12_fault 4 = .ok (.aload_n 0, 1) := by decide +kernel
theorem dX12_fault_5 : decode cX12_fault 5 = .ok (.getfield 37, 3) := by decide +kernel
theorem dX12_fault_8 : decode cX12_fault 8 = .ok (.goto 16, 3) := by decide +kernel
theorem dX12_fault_11 : decode cX12_fault 11 = .ok (.iload_n 1, 1) := by decide +kernel
theorem dX12_fault_12 : decode cX12_fault 12 = .ok (.iconst 1, 1) := by decide +kernel
theorem dX12_fault_13 : decode cX12_fault 13 = .ok (.if_icmp .ne 10, 3) := by decide +kernel
theorem dX12_fault_16 : decode cX12_fault 16 = .ok (.aload_n 0, 1) := by decide +kernel
theorem dX12_fault_17 : decode cX12_fault 17 = .ok (.getfield 41, 3) := by decide +kernel
theorem dX12_fault_20 : decode cX12_fault 20 = .ok (.goto 4, 3) := by decide +kernel
theorem dX12_fault_23 : decode cX12_fault 23 = .ok (.iconst (-1), 1) := by decide +kernel
theorem dX12_fault_24 : decode cX12_fault 24 = .ok (.ireturn, 1) := by decide +kernel
set_option maxRecDepth 100000 in
set_option maxHeartbeats 8000000 in
theorem c_X12_fault (l : Launch) (D : va_G) (cA : Nat → ClassId) (q aK aV : Nat → Nat) (hq : injG 20 q) {a1 : Int32} {M M0 : Mem} {r0 : Int32} (h : f_X12_fault a1 M = some (r0, M0)) : Met l yX12_fault (.code yX12_fault cX12_fault 2 (some .int) :: BW) ({ frames := 1, cells := 0, slots := 0, locals := 13 } : Room) (va_Pc [.ref (q 0), .int a1] (CB 20 (ceR cA q) D cA q aK aV M)) (Qi 20 (ceR cA q) D q r0 M0) 0 0 (AqG 20 q) := by
  refine gMet RX12 (by decide +kernel) rfl hq (Nat.le_of_ble_eq_true rfl) ?_
  intro p e s m below meth c ls X hr hk hP hS hl
  have hx := X.1
  have hb := X.2.1
  have hl : lv_has ls 2 [(0, .ref (q 0)), (1, .int a1)] := hl
  rw [f_X12_fault] at h
  refine lv_iload_n hx hb dX12_fault_0 rfl (lv_at hl 1 rfl) ?_
  refine lv_if_ne (tgt := 11) hx hb dX12_fault_1 (by decide) (fun c1 => ?_) (fun c1 => ?_)
  · rw [if_neg c1] at h
    refine lv_iload_n hx hb dX12_fault_11 rfl (lv_at hl 1 rfl) ?_
    refine lv_iconst (v := 1) hx hb dX12_fault_12 (by decide) ?_
    refine lv_icmp_ne (tgt := 23) hx hb dX12_fault_13 (by decide) (fun c2 => ?_) (fun c2 => ?_)
    · rw [if_neg c2] at h
      refine lv_iconst (v := -1) hx hb dX12_fault_23 (by decide) ?_
      exact end_i X hr hk hP hS h dX12_fault_24
    · rw [if_pos c2] at h
      refine lv_aload_n hx hb dX12_fault_16 rfl (lv_at hl 0 rfl) ?_
      refine gfR_12_17 X hP sR_0 bw_1340 dX12_fault_17 ?_
      refine lv_goto (tgt := 24) hx hb dX12_fault_20 (by decide) ?_
      exact end_i X hr hk hP hS h dX12_fault_24
  · rw [if_pos c1] at h
    refine lv_aload_n hx hb dX12_fault_4 rfl (lv_at hl 0 rfl) ?_
    refine gfR_12_16 X hP sR_0 bw_1339 dX12_fault_5 ?_
    refine lv_goto (tgt := 24) hx hb dX12_fault_8 (by decide) ?_
    exact end_i X hr hk hP hS h dX12_fault_24
theorem dX12_taken_0 : decode cX12_taken 0 = .ok (.aload_n 0, 1) := by decide +kernel
theorem dX12_taken_1 : decode cX12_taken 1 = .ok (.aload_n 0, 1) := by decide +kernel
theorem dX12_taken_2 : decode cX12_taken 2 = .ok (.getfield 161, 3) := by decide +kernel
theorem dX12_taken_5 : decode cX12_taken 5 = .ok (.putfield 37, 3) := by decide +kernel
theorem dX12_taken_8 : decode cX12_taken 8 = .ok (.aload_n 0, 1) := by decide +kernel
theorem dX12_taken_9 : decode cX12_taken 9 = .ok (.getfield 161, 3) := by decide +kernel
theorem dX12_taken_12 : decode cX12_taken 12 = .ok (.ifCond .le 12, 3) := by decide +kernel
theorem dX12_taken_15 : decode cX12_taken 15 = .ok (.aload_n 0, 1) := by decide +kernel
theorem dX12_taken_16 : decode cX12_taken 16 = .ok (.bipush 9, 2) := by decide +kernel
theorem dX12_taken_18 : decode cX12_taken 18 = .ok (.invokevirtual 91, 3) := by decide +kernel
theorem dX12_taken_21 : decode cX12_taken 21 = .ok (.goto 8, 3) := by decide +kernel
theorem dX12_taken_24 : decode cX12_taken 24 = .ok (.aload_n 0, 1) := by decide +kernel
theorem dX12_taken_25 : decode cX12_taken 25 = .ok (.iload_n 1, 1) := by decide +kernel
theorem dX12_taken_26 : decode cX12_taken 26 = .ok (.invokevirtual 95, 3) := by decide +kernel
theorem dX12_taken_29 : decode cX12_taken 29 = .ok (.ireturn, 1) := by decide +kernel
set_option maxRecDepth 100000 in
set_option maxHeartbeats 8000000 in
theorem c_X12_taken (l : Launch) (D : va_G) (cA : Nat → ClassId) (q aK aV : Nat → Nat) (hq : injG 20 q) {a1 : Int32} {M M0 : Mem} {r0 : Int32} (h : f_X12_taken a1 M = some (r0, M0)) : Met l yX12_taken (.code yX12_taken cX12_taken 2 (some .int) :: BW) ({ frames := 2, cells := 0, slots := 0, locals := 34 } : Room) (va_Pc [.ref (q 0), .int a1] (CB 20 (ceR cA q) D cA q aK aV M)) (Qi 20 (ceR cA q) D q r0 M0) 0 0 (AqG 20 q) := by
  refine gMet RX12 (by decide +kernel) rfl hq (Nat.le_of_ble_eq_true rfl) ?_
  intro p e s m below meth c ls X hr hk hP hS hl
  have hx := X.1
  have hb := X.2.1
  have hl : lv_has ls 2 [(0, .ref (q 0)), (1, .int a1)] := hl
  rw [f_X12_taken] at h
  refine lv_aload_n hx hb dX12_taken_0 rfl (lv_at hl 0 rfl) ?_
  refine lv_aload_n hx hb dX12_taken_1 rfl (lv_at hl 0 rfl) ?_
  refine gfR_12_18 X hP sR_0 bw_1341 dX12_taken_2 ?_
  obtain ⟨M1, eM1, h⟩ := lt_inv h
  refine pfR_12_16 X hP hS sR_0 bw_1339 eM1 dX12_taken_5 (fun H locs hP hS => ?_)
  refine lv_aload_n hx hb dX12_taken_8 rfl (lv_at hl 0 rfl) ?_
  refine gfR_12_18 X hP sR_0 bw_1341 dX12_taken_9 ?_
  refine lv_if_le (tgt := 24) hx hb dX12_taken_12 (by decide) (fun c2 => ?_) (fun c2 => ?_)
  · rw [if_pos c2] at h
    refine lv_aload_n hx hb dX12_taken_24 rfl (lv_at hl 0 rfl) ?_
    refine lv_iload_n hx hb dX12_taken_25 rfl (lv_at hl 1 rfl) ?_
    obtain ⟨r3, M4, hc5, h⟩ := bnd_inv h
    refine gV_i (As := [.int a1]) X hP hS hl.1 (c_X12_gives l D cA q aK aV hq hc5) sf_X12_gives bw_1639 sv_X12_gives (rcR_12 sR_0) rfl ⟨rfl, rfl⟩ ⟨Nat.le_of_ble_eq_true rfl, Nat.le_of_ble_eq_true rfl⟩ rfl rfl (Nat.le_of_ble_eq_true rfl) dX12_taken_26 (fun H locs hP hS => ?_)
    exact end_i X hr hk hP hS h dX12_taken_29
  · rw [if_neg c2] at h
    refine lv_aload_n hx hb dX12_taken_15 rfl (lv_at hl 0 rfl) ?_
    refine lv_bipush (v := 9) hx hb dX12_taken_16 (by decide) ?_
    obtain ⟨r6, M7, hc8, h⟩ := bnd_inv h
    refine gV_i (As := [.int (9 : Int32)]) X hP hS hl.1 (c_X12_refuse l D cA q aK aV hq hc8) sf_X12_refuse bw_1530 sv_X12_refuse (rcR_12 sR_0) rfl ⟨rfl, rfl⟩ ⟨Nat.le_of_ble_eq_true rfl, Nat.le_of_ble_eq_true rfl⟩ rfl rfl (Nat.le_of_ble_eq_true rfl) dX12_taken_18 (fun H locs hP hS => ?_)
    refine lv_goto (tgt := 29) hx hb dX12_taken_21 (by decide) ?_
    exact end_i X hr hk hP hS h dX12_taken_29
theorem dX12_ruleRow_0 : decode cX12_ruleRow 0 = .ok (.bipush 16, 2) := by decide +kernel
theorem dX12_ruleRow_2 : decode cX12_ruleRow 2 = .ok (.bipush 7, 2) := by decide +kernel
theorem dX12_ruleRow_4 : decode cX12_ruleRow 4 = .ok (.iload_n 0, 1) := by decide +kernel
theorem dX12_ruleRow_5 : decode cX12_ruleRow 5 = .ok (.imul, 1) := by decide +kernel
theorem dX12_ruleRow_6 : decode cX12_ruleRow 6 = .ok (.iadd, 1) := by decide +kernel
theorem dX12_ruleRow_7 : decode cX12_ruleRow 7 = .ok (.ireturn, 1) := by decide +kernel
set_option maxRecDepth 100000 in
set_option maxHeartbeats 8000000 in
theorem c_X12_ruleRow (l : Launch) (D : va_G) (cA : Nat → ClassId) (q aK aV : Nat → Nat) (hq : injG 20 q) {a0 : Int32} {M M0 : Mem} {r0 : Int32} (h : f_X12_ruleRow a0 M = some (r0, M0)) : Met l yX12_ruleRow (.code yX12_ruleRow cX12_ruleRow 1 (some .int) :: BW) ({ frames := 1, cells := 0, slots := 0, locals := 12 } : Room) (va_Pc [.int a0] (CB 20 (ceR cA q) D cA q aK aV M)) (Qi 20 (ceR cA q) D q r0 M0) 0 0 (AqG 20 q) := by
  refine gMet RX12 (by decide +kernel) rfl hq (Nat.le_of_ble_eq_true rfl) ?_
  intro p e s m below meth c ls X hr hk hP hS hl
  have hx := X.1
  have hb := X.2.1
  have hl : lv_has ls 1 [(0, .int a0)] := hl
  rw [f_X12_ruleRow] at h
  refine lv_bipush (v := 16) hx hb dX12_ruleRow_0 (by decide) ?_
  refine lv_bipush (v := 7) hx hb dX12_ruleRow_2 (by decide) ?_
  refine lv_iload_n hx hb dX12_ruleRow_4 rfl (lv_at hl 0 rfl) ?_
  refine lv_imul hx hb dX12_ruleRow_5 ?_
  refine lv_iadd hx hb dX12_ruleRow_6 ?_
  exact end_i X hr hk hP hS h dX12_ruleRow_7
theorem dX12_personRow_0 : decode cX12_personRow 0 = .ok (.bipush 72, 2) := by decide +kernel
theorem dX12_personRow_2 : decode cX12_personRow 2 = .ok (.iconst 5, 1) := by decide +kernel
theorem dX12_personRow_3 : decode cX12_personRow 3 = .ok (.iload_n 0, 1) := by decide +kernel
theorem dX12_personRow_4 : decode cX12_personRow 4 = .ok (.imul, 1) := by decide +kernel
theorem dX12_personRow_5 : decode cX12_personRow 5 = .ok (.iadd, 1) := by decide +kernel
theorem dX12_personRow_6 : decode cX12_personRow 6 = .ok (.ireturn, 1) := by decide +kernel
set_option maxRecDepth 100000 in
set_option maxHeartbeats 8000000 in
theorem c_X12_personRow (l : Launch) (D : va_G) (cA : Nat → ClassId) (q aK aV : Nat → Nat) (hq : injG 20 q) {a0 : Int32} {M M0 : Mem} {r0 : Int32} (h : f_X12_personRow a0 M = some (r0, M0)) : Met l yX12_personRow (.code yX12_personRow cX12_personRow 1 (some .int) :: BW) ({ frames := 1, cells := 0, slots := 0, locals := 12 } : Room) (va_Pc [.int a0] (CB 20 (ceR cA q) D cA q aK aV M)) (Qi 20 (ceR cA q) D q r0 M0) 0 0 (AqG 20 q) := by
  refine gMet RX12 (by decide +kernel) rfl hq (Nat.le_of_ble_eq_true rfl) ?_
  intro p e s m below meth c ls X hr hk hP hS hl
  have hx := X.1
  have hb := X.2.1
  have hl : lv_has ls 1 [(0, .int a0)] := hl
  rw [f_X12_personRow] at h
  refine lv_bipush (v := 72) hx hb dX12_personRow_0 (by decide) ?_
  refine lv_iconst (v := 5) hx hb dX12_personRow_2 (by decide) ?_
  refine lv_iload_n hx hb dX12_personRow_3 rfl (lv_at hl 0 rfl) ?_
  refine lv_imul hx hb dX12_personRow_4 ?_
  refine lv_iadd hx hb dX12_personRow_5 ?_
  exact end_i X hr hk hP hS h dX12_personRow_6
theorem dX12_isThere_0 : decode cX12_isThere 0 = .ok (.aload_n 0, 1) := by decide +kernel
theorem dX12_isThere_1 : decode cX12_isThere 1 = .ok (.ldc 184, 2) := by decide +kernel
theorem dX12_isThere_3 : decode cX12_isThere 3 = .ok (.invokevirtual 176, 3) := by decide +kernel
theorem dX12_isThere_6 : decode cX12_isThere 6 = .ok (.iload_n 1, 1) := by decide +kernel
theorem dX12_isThere_7 : decode cX12_isThere 7 = .ok (.if_icmp .eq 5, 3) := by decide +kernel
theorem dX12_isThere_10 : decode cX12_isThere 10 = .ok (.iconst 0, 1) := by decide +kernel
theorem dX12_isThere_11 : decode cX12_isThere 11 = .ok (.ireturn, 1) := by decide +kernel
theorem dX12_isThere_12 : decode cX12_isThere 12 = .ok (.aload_n 0, 1) := by decide +kernel
theorem dX12_isThere_13 : decode cX12_isThere 13 = .ok (.invokevirtual 167, 3) := by decide +kernel
theorem dX12_isThere_16 : decode cX12_isThere 16 = .ok (.iconst 1, 1) := by decide +kernel
theorem dX12_isThere_17 : decode cX12_isThere 17 = .ok (.ireturn, 1) := by decide +kernel
set_option maxRecDepth 100000 in
set_option maxHeartbeats 8000000 in
theorem c_X12_isThere (l : Launch) (D : va_G) (cA : Nat → ClassId) (q aK aV : Nat → Nat) (hq : injG 20 q) {a1 : Int32} {M M0 : Mem} {r0 : Int32} (h : f_X12_isThere a1 M = some (r0, M0)) : Met l yX12_isThere (.code yX12_isThere cX12_isThere 2 (some .boolean) :: BW) ({ frames := 8, cells := 0, slots := 0, locals := 207 } : Room) (va_Pc [.ref (q 0), .int a1] (CB 20 (ceR cA q) D cA q aK aV M)) (Qi 20 (ceR cA q) D q r0 M0) 0 0 (AqG 20 q) := by
  refine gMet RX12 (by decide +kernel) rfl hq (Nat.le_of_ble_eq_true rfl) ?_
  intro p e s m below meth c ls X hr hk hP hS hl
  have hx := X.1
  have hb := X.2.1
  have hl : lv_has ls 2 [(0, .ref (q 0)), (1, .int a1)] := hl
  rw [f_X12_isThere] at h
  refine lv_aload_n hx hb dX12_isThere_0 rfl (lv_at hl 0 rfl) ?_
  refine va_ldcS hx hb X.2.2.2.1 (X_k1 X) dX12_isThere_1 ?_
  obtain ⟨r1, M2, hc3, h⟩ := bnd_inv h
  refine gV_i (As := [.ref (aK 1)]) X hP hS hl.1 (c_X12_inWords l D cA q aK aV hq hc3) sf_X12_inWords bw_1539 sv_X12_inWords (rcR_12 sR_0) rfl ⟨rfl, rfl⟩ ⟨Nat.le_of_ble_eq_true rfl, Nat.le_of_ble_eq_true rfl⟩ rfl rfl (Nat.le_of_ble_eq_true rfl) dX12_isThere_3 (fun H locs hP hS => ?_)
  refine lv_iload_n hx hb dX12_isThere_6 rfl (lv_at hl 1 rfl) ?_
  refine lv_icmp_eq (tgt := 12) hx hb dX12_isThere_7 (by decide) (fun c4 => ?_) (fun c4 => ?_)
  · rw [if_pos c4] at h
    refine lv_aload_n hx hb dX12_isThere_12 rfl (lv_at hl 0 rfl) ?_
    obtain ⟨_, M6, hc7, h⟩ := bnd_inv h
    refine gV_v (As := []) X hP hS hl.1 (c_X12_ahead l D cA q aK aV hq hc7) sf_X12_ahead bw_1514 sv_X12_ahead (rcR_12 sR_0) rfl ⟨rfl, rfl⟩ ⟨Nat.le_of_ble_eq_true rfl, Nat.le_of_ble_eq_true rfl⟩ rfl rfl (Nat.le_of_ble_eq_true rfl) dX12_isThere_13 (fun H locs hP hS => ?_)
    refine lv_iconst (v := 1) hx hb dX12_isThere_16 (by decide) ?_
    exact end_z X hr hk hP hS (Or.inr rfl) h dX12_isThere_17
  · rw [if_neg c4] at h
    refine lv_iconst (v := 0) hx hb dX12_isThere_10 (by decide) ?_
    exact end_z X hr hk hP hS (Or.inl rfl) h dX12_isThere_11
theorem dX12_isTaken_0 : decode cX12_isTaken 0 = .ok (.aload_n 0, 1) := by decide +kernel
theorem dX12_isTaken_1 : decode cX12_isTaken 1 = .ok (.bipush 92, 2) := by decide +kernel
theorem dX12_isTaken_3 : decode cX12_isTaken 3 = .ok (.aload_n 0, 1) := by decide +kernel
theorem dX12_isTaken_4 : decode cX12_isTaken 4 = .ok (.getfield 7, 3) := by decide +kernel
theorem dX12_isTaken_7 : decode cX12_isTaken 7 = .ok (.sipush 2008, 3) := by decide +kernel
theorem dX12_isTaken_10 : decode cX12_isTaken 10 = .ok (.iaload, 1) := by decide +kernel
theorem dX12_isTaken_11 : decode cX12_isTaken 11 = .ok (.invokevirtual 186, 3) := by decide +kernel
theorem dX12_isTaken_14 : decode cX12_isTaken 14 = .ok (.iconst (-1), 1) := by decide +kernel
theorem dX12_isTaken_15 : decode cX12_isTaken 15 = .ok (.if_icmp .ne 21, 3) := by decide +kernel
theorem dX12_isTaken_18 : decode cX12_isTaken 18 = .ok (.aload_n 0, 1) := by decide +kernel
theorem dX12_isTaken_19 : decode cX12_isTaken 19 = .ok (.bipush 97, 2) := by decide +kernel
theorem dX12_isTaken_21 : decode cX12_isTaken 21 = .ok (.aload_n 0, 1) := by decide +kernel
theorem dX12_isTaken_22 : decode cX12_isTaken 22 = .ok (.getfield 7, 3) := by decide +kernel
theorem dX12_isTaken_25 : decode cX12_isTaken 25 = .ok (.sipush 2009, 3) := by decide +kernel
theorem dX12_isTaken_28 : decode cX12_isTaken 28 = .ok (.iaload, 1) := by decide +kernel
theorem dX12_isTaken_29 : decode cX12_isTaken 29 = .ok (.invokevirtual 186, 3) := by decide +kernel
theorem dX12_isTaken_32 : decode cX12_isTaken 32 = .ok (.iconst (-1), 1) := by decide +kernel
theorem dX12_isTaken_33 : decode cX12_isTaken 33 = .ok (.if_icmp .eq 5, 3) := by decide +kernel
theorem dX12_isTaken_36 : decode cX12_isTaken 36 = .ok (.iconst 1, 1) := by decide +kernel
theorem dX12_isTaken_37 : decode cX12_isTaken 37 = .ok (.ireturn, 1) := by decide +kernel
theorem dX12_isTaken_38 : decode cX12_isTaken 38 = .ok (.aload_n 0, 1) := by decide +kernel
theorem dX12_isTaken_39 : decode cX12_isTaken 39 = .ok (.bipush 103, 2) := by decide +kernel
theorem dX12_isTaken_41 : decode cX12_isTaken 41 = .ok (.aload_n 0, 1) := by decide +kernel
theorem dX12_isTaken_42 : decode cX12_isTaken 42 = .ok (.getfield 7, 3) := by decide +kernel
theorem dX12_isTaken_45 : decode cX12_isTaken 45 = .ok (.sipush 2011, 3) := by decide +kernel
theorem dX12_isTaken_48 : decode cX12_isTaken 48 = .ok (.iaload, 1) := by decide +kernel
theorem dX12_isTaken_49 : decode cX12_isTaken 49 = .ok (.invokevirtual 186, 3) := by decide +kernel
theorem dX12_isTaken_52 : decode cX12_isTaken 52 = .ok (.iconst (-1), 1) := by decide +kernel
theorem dX12_isTaken_53 : decode cX12_isTaken 53 = .ok (.if_icmp .ne 21, 3) := by decide +kernel
theorem dX12_isTaken_56 : decode cX12_isTaken 56 = .ok (.aload_n 0, 1) := by decide +kernel
theorem dX12_isTaken_57 : decode cX12_isTaken 57 = .ok (.bipush 109, 2) := by decide +kernel
theorem dX12_isTaken_59 : decode cX12_isTaken 59 = .ok (.aload_n 0, 1) := by decide +kernel
theorem dX12_isTaken_60 : decode cX12_isTaken 60 = .ok (.getfield 7, 3) := by decide +kernel
theorem dX12_isTaken_63 : decode cX12_isTaken 63 = .ok (.sipush 2012, 3) := by decide +kernel
theorem dX12_isTaken_66 : decode cX12_isTaken 66 = .ok (.iaload, 1) := by decide +kernel
theorem dX12_isTaken_67 : decode cX12_isTaken 67 = .ok (.invokevirtual 186, 3) := by decide +kernel
theorem dX12_isTaken_70 : decode cX12_isTaken 70 = .ok (.iconst (-1), 1) := by decide +kernel
theorem dX12_isTaken_71 : decode cX12_isTaken 71 = .ok (.if_icmp .eq 7, 3) := by decide +kernel
theorem dX12_isTaken_74 : decode cX12_isTaken 74 = .ok (.iconst 1, 1) := by decide +kernel
theorem dX12_isTaken_75 : decode cX12_isTaken 75 = .ok (.goto 4, 3) := by decide +kernel
theorem dX12_isTaken_78 : decode cX12_isTaken 78 = .ok (.iconst 0, 1) := by decide +kernel
theorem dX12_isTaken_79 : decode cX12_isTaken 79 = .ok (.ireturn, 1) := by decide +kernel
set_option maxRecDepth 100000 in
set_option maxHeartbeats 8000000 in
theorem c_X12_isTaken (l : Launch) (D : va_G) (cA : Nat → ClassId) (q aK aV : Nat → Nat) (hq : injG 20 q) {M M0 : Mem} {r0 : Int32} (h : f_X12_isTaken M = some (r0, M0)) : Met l yX12_isTaken (.code yX12_isTaken cX12_isTaken 1 (some .boolean) :: BW) ({ frames := 4, cells := 0, slots := 0, locals := 80 } : Room) (va_Pc [.ref (q 0)] (CB 20 (ceR cA q) D cA q aK aV M)) (Qi 20 (ceR cA q) D q r0 M0) 0 0 (AqG 20 q) := by
  refine gMet RX12 (by decide +kernel) rfl hq (Nat.le_of_ble_eq_true rfl) ?_
  intro p e s m below meth c ls X hr hk hP hS hl
  have hx := X.1
  have hb := X.2.1
  have hl : lv_has ls 1 [(0, .ref (q 0))] := hl
  rw [f_X12_isTaken] at h
  refine lv_aload_n hx hb dX12_isTaken_0 rfl (lv_at hl 0 rfl) ?_
  refine lv_bipush (v := 92) hx hb dX12_isTaken_1 (by decide) ?_
  refine lv_aload_n hx hb dX12_isTaken_3 rfl (lv_at hl 0 rfl) ?_
  refine gfR_12_0 X hP sR_0 bw_1323 dX12_isTaken_4 ?_
  refine lv_sipush (v := 2008) hx hb dX12_isTaken_7 (by decide) ?_
  refine ldR_ia X hP sR_1 zR_1 (by decide) dX12_isTaken_10 ?_
  refine topE (y := (gI M 1 2008)) rfl ?_
  obtain ⟨r1, M2, hc3, h⟩ := bnd_inv h
  refine gV_i (As := [.int (92 : Int32), .int (gI M 1 2008)]) X hP hS hl.1 (c_X12_findHere l D cA q aK aV hq hc3) sf_X12_findHere bw_1569 sv_X12_findHere (rcR_12 sR_0) rfl ⟨rfl, rfl⟩ ⟨Nat.le_of_ble_eq_true rfl, Nat.le_of_ble_eq_true rfl⟩ rfl rfl (Nat.le_of_ble_eq_true rfl) dX12_isTaken_11 (fun H locs hP hS => ?_)
  refine lv_iconst (v := -1) hx hb dX12_isTaken_14 (by decide) ?_
  refine lv_icmp_ne (tgt := 36) hx hb dX12_isTaken_15 (by decide) (fun c4 => ?_) (fun c4 => ?_)
  · rw [if_neg c4] at h
    refine lv_iconst (v := 1) hx hb dX12_isTaken_36 (by decide) ?_
    exact end_z X hr hk hP hS (Or.inr rfl) h dX12_isTaken_37
  · rw [if_pos c4] at h
    refine lv_aload_n hx hb dX12_isTaken_18 rfl (lv_at hl 0 rfl) ?_
    refine lv_bipush (v := 97) hx hb dX12_isTaken_19 (by decide) ?_
    refine lv_aload_n hx hb dX12_isTaken_21 rfl (lv_at hl 0 rfl) ?_
    refine gfR_12_0 X hP sR_0 bw_1323 dX12_isTaken_22 ?_
    refine lv_sipush (v := 2009) hx hb dX12_isTaken_25 (by decide) ?_
    refine ldR_ia X hP sR_1 zR_1 (by decide) dX12_isTaken_28 ?_
    refine topE (y := (gI M2 1 2009)) rfl ?_
    obtain ⟨r5, M6, hc7, h⟩ := bnd_inv h
    refine gV_i (As := [.int (97 : Int32), .int (gI M2 1 2009)]) X hP hS hl.1 (c_X12_findHere l D cA q aK aV hq hc7) sf_X12_findHere bw_1569 sv_X12_findHere (rcR_12 sR_0) rfl ⟨rfl, rfl⟩ ⟨Nat.le_of_ble_eq_true rfl, Nat.le_of_ble_eq_true rfl⟩ rfl rfl (Nat.le_of_ble_eq_true rfl) dX12_isTaken_29 (fun H locs hP hS => ?_)
    refine lv_iconst (v := -1) hx hb dX12_isTaken_32 (by decide) ?_
    refine lv_icmp_eq (tgt := 38) hx hb dX12_isTaken_33 (by decide) (fun c8 => ?_) (fun c8 => ?_)
    · rw [if_pos c8] at h
      refine lv_aload_n hx hb dX12_isTaken_38 rfl (lv_at hl 0 rfl) ?_
      refine lv_bipush (v := 103) hx hb dX12_isTaken_39 (by decide) ?_
      refine lv_aload_n hx hb dX12_isTaken_41 rfl (lv_at hl 0 rfl) ?_
      refine gfR_12_0 X hP sR_0 bw_1323 dX12_isTaken_42 ?_
      refine lv_sipush (v := 2011) hx hb dX12_isTaken_45 (by decide) ?_
      refine ldR_ia X hP sR_1 zR_1 (by decide) dX12_isTaken_48 ?_
      refine topE (y := (gI M6 1 2011)) rfl ?_
      obtain ⟨r9, M10, hc11, h⟩ := bnd_inv h
      refine gV_i (As := [.int (103 : Int32), .int (gI M6 1 2011)]) X hP hS hl.1 (c_X12_findHere l D cA q aK aV hq hc11) sf_X12_findHere bw_1569 sv_X12_findHere (rcR_12 sR_0) rfl ⟨rfl, rfl⟩ ⟨Nat.le_of_ble_eq_true rfl, Nat.le_of_ble_eq_true rfl⟩ rfl rfl (Nat.le_of_ble_eq_true rfl) dX12_isTaken_49 (fun H locs hP hS => ?_)
      refine lv_iconst (v := -1) hx hb dX12_isTaken_52 (by decide) ?_
      refine lv_icmp_ne (tgt := 74) hx hb dX12_isTaken_53 (by decide) (fun c12 => ?_) (fun c12 => ?_)
      · rw [if_neg c12] at h
        refine lv_iconst (v := 1) hx hb dX12_isTaken_74 (by decide) ?_
        refine lv_goto (tgt := 79) hx hb dX12_isTaken_75 (by decide) ?_
        exact end_z X hr hk hP hS (Or.inr rfl) h dX12_isTaken_79
      · rw [if_pos c12] at h
        refine lv_aload_n hx hb dX12_isTaken_56 rfl (lv_at hl 0 rfl) ?_
        refine lv_bipush (v := 109) hx hb dX12_isTaken_57 (by decide) ?_
        refine lv_aload_n hx hb dX12_isTaken_59 rfl (lv_at hl 0 rfl) ?_
        refine gfR_12_0 X hP sR_0 bw_1323 dX12_isTaken_60 ?_
        refine lv_sipush (v := 2012) hx hb dX12_isTaken_63 (by decide) ?_
        refine ldR_ia X hP sR_1 zR_1 (by decide) dX12_isTaken_66 ?_
        refine topE (y := (gI M10 1 2012)) rfl ?_
        obtain ⟨r13, M14, hc15, h⟩ := bnd_inv h
        refine gV_i (As := [.int (109 : Int32), .int (gI M10 1 2012)]) X hP hS hl.1 (c_X12_findHere l D cA q aK aV hq hc15) sf_X12_findHere bw_1569 sv_X12_findHere (rcR_12 sR_0) rfl ⟨rfl, rfl⟩ ⟨Nat.le_of_ble_eq_true rfl, Nat.le_of_ble_eq_true rfl⟩ rfl rfl (Nat.le_of_ble_eq_true rfl) dX12_isTaken_67 (fun H locs hP hS => ?_)
        refine lv_iconst (v := -1) hx hb dX12_isTaken_70 (by decide) ?_
        refine lv_icmp_eq (tgt := 78) hx hb dX12_isTaken_71 (by decide) (fun c16 => ?_) (fun c16 => ?_)
        · rw [if_pos c16] at h
          refine lv_iconst (v := 0) hx hb dX12_isTaken_78 (by decide) ?_
          exact end_z X hr hk hP hS (Or.inl rfl) h dX12_isTaken_79
        · rw [if_neg c16] at h
          refine lv_iconst (v := 1) hx hb dX12_isTaken_74 (by decide) ?_
          refine lv_goto (tgt := 79) hx hb dX12_isTaken_75 (by decide) ?_
          exact end_z X hr hk hP hS (Or.inr rfl) h dX12_isTaken_79
    · rw [if_neg c8] at h
      refine lv_iconst (v := 1) hx hb dX12_isTaken_36 (by decide) ?_
      exact end_z X hr hk hP hS (Or.inr rfl) h dX12_isTaken_37
theorem dX12_isFull_0 : decode cX12_isFull 0 = .ok (.aload_n 0, 1) := by decide +kernel
theorem dX12_isFull_1 : decode cX12_isFull 1 = .ok (.getfield 7, 3) := by decide +kernel
theorem dX12_isFull_4 : decode cX12_isFull 4 = .ok (.sipush 2008, 3) := by decide +kernel
theorem dX12_isFull_7 : decode cX12_isFull 7 = .ok (.iload_n 1, 1) := by decide +kernel
theorem dX12_isFull_8 : decode cX12_isFull 8 = .ok (.iadd, 1) := by decide +kernel
theorem dX12_isFull_9 : decode cX12_isFull 9 = .ok (.iaload, 1) := by decide +kernel
theorem dX12_isFull_10 : decode cX12_isFull 10 = .ok (.iload_n 2, 1) := by decide +kernel
theorem dX12_isFull_11 : decode cX12_isFull 11 = .ok (.if_icmp .ne 7, 3) := by decide +kernel
theorem dX12_isFull_14 : decode cX12_isFull 14 = .ok (.iconst 1, 1) := by decide +kernel
theorem dX12_isFull_15 : decode cX12_isFull 15 = .ok (.goto 4, 3) := by decide +kernel
theorem dX12_isFull_18 : decode cX12_isFull 18 = .ok (.iconst 0, 1) := by decide +kernel
theorem dX12_isFull_19 : decode cX12_isFull 19 = .ok (.ireturn, 1) := by decide +kernel
set_option maxRecDepth 100000 in
set_option maxHeartbeats 8000000 in
theorem c_X12_isFull (l : Launch) (D : va_G) (cA : Nat → ClassId) (q aK aV : Nat → Nat) (hq : injG 20 q) {a1 : Int32} {a2 : Int32} {M M0 : Mem} {r0 : Int32} (h : f_X12_isFull a1 a2 M = some (r0, M0)) : Met l yX12_isFull (.code yX12_isFull cX12_isFull 3 (some .boolean) :: BW) ({ frames := 1, cells := 0, slots := 0, locals := 14 } : Room) (va_Pc [.ref (q 0), .int a1, .int a2] (CB 20 (ceR cA q) D cA q aK aV M)) (Qi 20 (ceR cA q) D q r0 M0) 0 0 (AqG 20 q) := by
  refine gMet RX12 (by decide +kernel) rfl hq (Nat.le_of_ble_eq_true rfl) ?_
  intro p e s m below meth c ls X hr hk hP hS hl
  have hx := X.1
  have hb := X.2.1
  have hl : lv_has ls 3 [(0, .ref (q 0)), (1, .int a1), (2, .int a2)] := hl
  rw [f_X12_isFull] at h
  refine lv_aload_n hx hb dX12_isFull_0 rfl (lv_at hl 0 rfl) ?_
  refine gfR_12_0 X hP sR_0 bw_1323 dX12_isFull_1 ?_
  refine lv_sipush (v := 2008) hx hb dX12_isFull_4 (by decide) ?_
  refine lv_iload_n hx hb dX12_isFull_7 rfl (lv_at hl 1 rfl) ?_
  refine lv_iadd hx hb dX12_isFull_8 ?_
  obtain ⟨g1, h⟩ := gd_inv h
  refine ldR_ia X hP sR_1 zR_1 g1 dX12_isFull_9 ?_
  refine lv_iload_n hx hb dX12_isFull_10 rfl (lv_at hl 2 rfl) ?_
  refine lv_icmp_ne (tgt := 18) hx hb dX12_isFull_11 (by decide) (fun c2 => ?_) (fun c2 => ?_)
  · rw [if_neg c2] at h
    refine lv_iconst (v := 0) hx hb dX12_isFull_18 (by decide) ?_
    exact end_z X hr hk hP hS (Or.inl rfl) h dX12_isFull_19
  · rw [if_pos c2] at h
    refine lv_iconst (v := 1) hx hb dX12_isFull_14 (by decide) ?_
    refine lv_goto (tgt := 19) hx hb dX12_isFull_15 (by decide) ?_
    exact end_z X hr hk hP hS (Or.inr rfl) h dX12_isFull_19
theorem dX12_newOne_0 : decode cX12_newOne 0 = .ok (.aload_n 0, 1) := by decide +kernel
theorem dX12_newOne_1 : decode cX12_newOne 1 = .ok (.iload_n 1, 1) := by decide +kernel
theorem dX12_newOne_2 : decode cX12_newOne 2 = .ok (.iload_n 2, 1) := by decide +kernel
theorem dX12_newOne_3 : decode cX12_newOne 3 = .ok (.invokevirtual 189, 3) := by decide +kernel
theorem dX12_newOne_6 : decode cX12_newOne 6 = .ok (.ifCond .eq 10, 3) := by decide +kernel
theorem dX12_newOne_9 : decode cX12_newOne 9 = .ok (.aload_n 0, 1) := by decide +kernel
theorem dX12_newOne_10 : decode cX12_newOne 10 = .ok (.bipush 6, 2) := by decide +kernel
theorem dX12_newOne_12 : decode cX12_newOne 12 = .ok (.invokevirtual 173, 3) := by decide +kernel
theorem dX12_newOne_15 : decode cX12_newOne 15 = .ok (.ireturn, 1) := by decide +kernel
theorem dX12_newOne_16 : decode cX12_newOne 16 = .ok (.aload_n 0, 1) := by decide +kernel
theorem dX12_newOne_17 : decode cX12_newOne 17 = .ok (.invokevirtual 167, 3) := by decide +kernel
theorem dX12_newOne_20 : decode cX12_newOne 20 = .ok (.aload_n 0, 1) := by decide +kernel
theorem dX12_newOne_21 : decode cX12_newOne 21 = .ok (.ldc 184, 2) := by decide +kernel
theorem dX12_newOne_23 : decode cX12_newOne 23 = .ok (.invokevirtual 193, 3) := by decide +kernel
theorem dX12_newOne_26 : decode cX12_newOne 26 = .ok (.ifCond .ne 9, 3) := by decide +kernel
theorem dX12_newOne_29 : decode cX12_newOne 29 = .ok (.aload_n 0, 1) := by decide +kernel
theorem dX12_newOne_30 : decode cX12_newOne 30 = .ok (.iconst 2, 1) := by decide +kernel
theorem dX12_newOne_31 : decode cX12_newOne 31 = .ok (.invokevirtual 173, 3) := by decide +kernel
theorem dX12_newOne_34 : decode cX12_newOne 34 = .ok (.ireturn, 1) := by decide +kernel
theorem dX12_newOne_35 : decode cX12_newOne 35 = .ok (.aload_n 0, 1) := by decide +kernel
theorem dX12_newOne_36 : decode cX12_newOne 36 = .ok (.invokevirtual 197, 3) := by decide +kernel
theorem dX12_newOne_39 : decode cX12_newOne 39 = .ok (.ifCond .eq 9, 3) := by decide +kernel
theorem dX12_newOne_42 : decode cX12_newOne 42 = .ok (.aload_n 0, 1) := by decide +kernel
theorem dX12_newOne_43 : decode cX12_newOne 43 = .ok (.iconst 3, 1) := by decide +kernel
theorem dX12_newOne_44 : decode cX12_newOne 44 = .ok (.invokevirtual 173, 3) := by decide +kernel
theorem dX12_newOne_47 : decode cX12_newOne 47 = .ok (.ireturn, 1) := by decide +kernel
theorem dX12_newOne_48 : decode cX12_newOne 48 = .ok (.aload_n 0, 1) := by decide +kernel
theorem dX12_newOne_49 : decode cX12_newOne 49 = .ok (.getfield 13, 3) := by decide +kernel
theorem dX12_newOne_52 : decode cX12_newOne 52 = .ok (.bipush 92, 2) := by decide +kernel
theorem dX12_newOne_54 : decode cX12_newOne 54 = .ok (.iload_n 3, 1) := by decide +kernel
theorem dX12_newOne_55 : decode cX12_newOne 55 = .ok (.iadd, 1) := by decide +kernel
theorem dX12_newOne_56 : decode cX12_newOne 56 = .ok (.aload_n 0, 1) := by decide +kernel
theorem dX12_newOne_57 : decode cX12_newOne 57 = .ok (.getfield 7, 3) := by decide +kernel
theorem dX12_newOne_60 : decode cX12_newOne 60 = .ok (.sipush 2008, 3) := by decide +kernel
theorem dX12_newOne_63 : decode cX12_newOne 63 = .ok (.iload_n 1, 1) := by decide +kernel
theorem dX12_newOne_64 : decode cX12_newOne 64 = .ok (.iadd, 1) := by decide +kernel
theorem dX12_newOne_65 : decode cX12_newOne 65 = .ok (.iaload, 1) := by decide +kernel
theorem dX12_newOne_66 : decode cX12_newOne 66 = .ok (.iadd, 1) := by decide +kernel
theorem dX12_newOne_67 : decode cX12_newOne 67 = .ok (.aload_n 0, 1) := by decide +kernel
theorem dX12_newOne_68 : decode cX12_newOne 68 = .ok (.invokevirtual 180, 3) := by decide +kernel
theorem dX12_newOne_71 : decode cX12_newOne 71 = .ok (.lastore, 1) := by decide +kernel
theorem dX12_newOne_72 : decode cX12_newOne 72 = .ok (.aload_n 0, 1) := by decide +kernel
theorem dX12_newOne_73 : decode cX12_newOne 73 = .ok (.invokevirtual 167, 3) := by decide +kernel
theorem dX12_newOne_76 : decode cX12_newOne 76 = .ok (.iconst 1, 1) := by decide +kernel
theorem dX12_newOne_77 : decode cX12_newOne 77 = .ok (.ireturn, 1) := by decide +kernel
set_option maxRecDepth 100000 in
set_option maxHeartbeats 8000000 in
theorem c_X12_newOne (l : Launch) (D : va_G) (cA : Nat → ClassId) (q aK aV : Nat → Nat) (hq : injG 20 q) {a1 : Int32} {a2 : Int32} {a3 : Int32} {M M0 : Mem} {r0 : Int32} (h : f_X12_newOne a1 a2 a3 M = some (r0, M0)) : Met l yX12_newOne (.code yX12_newOne cX12_newOne 4 (some .boolean) :: BW) ({ frames := 9, cells := 0, slots := 0, locals := 228 } : Room) (va_Pc [.ref (q 0), .int a1, .int a2, .int a3] (CB 20 (ceR cA q) D cA q aK aV M)) (Qi 20 (ceR cA q) D q r0 M0) 0 0 (AqG 20 q) := by
  refine gMet RX12 (by decide +kernel) rfl hq (Nat.le_of_ble_eq_true rfl) ?_
  intro p e s m below meth c ls X hr hk hP hS hl
  have hx := X.1
  have hb := X.2.1
  have hl : lv_has ls 4 [(0, .ref (q 0)), (1, .int a1), (2, .int a2), (3, .int a3)] := hl
  rw [f_X12_newOne] at h
  refine lv_aload_n hx hb dX12_newOne_0 rfl (lv_at hl 0 rfl) ?_
  refine lv_iload_n hx hb dX12_newOne_1 rfl (lv_at hl 1 rfl) ?_
  refine lv_iload_n hx hb dX12_newOne_2 rfl (lv_at hl 2 rfl) ?_
  obtain ⟨r1, M2, hc3, h⟩ := bnd_inv h
  refine gV_i (As := [.int a1, .int a2]) X hP hS hl.1 (c_X12_isFull l D cA q aK aV hq hc3) sf_X12_isFull bw_1557 sv_X12_isFull (rcR_12 sR_0) rfl ⟨rfl, rfl⟩ ⟨Nat.le_of_ble_eq_true rfl, Nat.le_of_ble_eq_true rfl⟩ rfl rfl (Nat.le_of_ble_eq_true rfl) dX12_newOne_3 (fun H locs hP hS => ?_)
  refine lv_if_eq (tgt := 16) hx hb dX12_newOne_6 (by decide) (fun c4 => ?_) (fun c4 => ?_)
  · rw [if_pos c4] at h
    refine lv_aload_n hx hb dX12_newOne_16 rfl (lv_at hl 0 rfl) ?_
    obtain ⟨_, M6, hc7, h⟩ := bnd_inv h
    refine gV_v (As := []) X hP hS hl.1 (c_X12_ahead l D cA q aK aV hq hc7) sf_X12_ahead bw_1514 sv_X12_ahead (rcR_12 sR_0) rfl ⟨rfl, rfl⟩ ⟨Nat.le_of_ble_eq_true rfl, Nat.le_of_ble_eq_true rfl⟩ rfl rfl (Nat.le_of_ble_eq_true rfl) dX12_newOne_17 (fun H locs hP hS => ?_)
    refine lv_aload_n hx hb dX12_newOne_20 rfl (lv_at hl 0 rfl) ?_
    refine va_ldcS hx hb X.2.2.2.1 (X_k1 X) dX12_newOne_21 ?_
    obtain ⟨r8, M9, hc10, h⟩ := bnd_inv h
    refine gV_i (As := [.ref (aK 1)]) X hP hS hl.1 (c_X12_isName l D cA q aK aV hq hc10) sf_X12_isName bw_1561 sv_X12_isName (rcR_12 sR_0) rfl ⟨rfl, rfl⟩ ⟨Nat.le_of_ble_eq_true rfl, Nat.le_of_ble_eq_true rfl⟩ rfl rfl (Nat.le_of_ble_eq_true rfl) dX12_newOne_23 (fun H locs hP hS => ?_)
    refine lv_if_ne (tgt := 35) hx hb dX12_newOne_26 (by decide) (fun c11 => ?_) (fun c11 => ?_)
    · rw [if_neg c11] at h
      refine lv_aload_n hx hb dX12_newOne_35 rfl (lv_at hl 0 rfl) ?_
      obtain ⟨r12, M13, hc14, h⟩ := bnd_inv h
      refine gV_i (As := []) X hP hS hl.1 (c_X12_isTaken l D cA q aK aV hq hc14) sf_X12_isTaken bw_1565 sv_X12_isTaken (rcR_12 sR_0) rfl ⟨rfl, rfl⟩ ⟨Nat.le_of_ble_eq_true rfl, Nat.le_of_ble_eq_true rfl⟩ rfl rfl (Nat.le_of_ble_eq_true rfl) dX12_newOne_36 (fun H locs hP hS => ?_)
      refine lv_if_eq (tgt := 48) hx hb dX12_newOne_39 (by decide) (fun c15 => ?_) (fun c15 => ?_)
      · rw [if_pos c15] at h
        refine lv_aload_n hx hb dX12_newOne_48 rfl (lv_at hl 0 rfl) ?_
        refine gfR_12_1 X hP sR_0 bw_1324 dX12_newOne_49 ?_
        refine lv_bipush (v := 92) hx hb dX12_newOne_52 (by decide) ?_
        refine lv_iload_n hx hb dX12_newOne_54 rfl (lv_at hl 3 rfl) ?_
        refine lv_iadd hx hb dX12_newOne_55 ?_
        refine lv_aload_n hx hb dX12_newOne_56 rfl (lv_at hl 0 rfl) ?_
        refine gfR_12_0 X hP sR_0 bw_1323 dX12_newOne_57 ?_
        refine lv_sipush (v := 2008) hx hb dX12_newOne_60 (by decide) ?_
        refine lv_iload_n hx hb dX12_newOne_63 rfl (lv_at hl 1 rfl) ?_
        refine lv_iadd hx hb dX12_newOne_64 ?_
        obtain ⟨g16, h⟩ := gd_inv h
        refine ldR_ia X hP sR_1 zR_1 g16 dX12_newOne_65 ?_
        refine lv_iadd hx hb dX12_newOne_66 ?_
        refine lv_aload_n hx hb dX12_newOne_67 rfl (lv_at hl 0 rfl) ?_
        obtain ⟨r17, M18, hc19, h⟩ := bnd_inv h
        refine gV_l (As := []) X hP hS hl.1 (c_X12_nameHere l D cA q aK aV hq hc19) sf_X12_nameHere bw_1573 sv_X12_nameHere (rcR_12 sR_0) rfl ⟨rfl, rfl⟩ ⟨Nat.le_of_ble_eq_true rfl, Nat.le_of_ble_eq_true rfl⟩ rfl rfl (Nat.le_of_ble_eq_true rfl) dX12_newOne_68 (fun H locs hP hS => ?_)
        obtain ⟨g20, h⟩ := gd_inv h
        obtain ⟨M21, eM21, h⟩ := lt_inv h
        refine stR_la X hP hS sR_2 zR_2 g20 eM21 dX12_newOne_71 (fun H locs hP hS => ?_)
        refine lv_aload_n hx hb dX12_newOne_72 rfl (lv_at hl 0 rfl) ?_
        obtain ⟨_, M23, hc24, h⟩ := bnd_inv h
        refine gV_v (As := []) X hP hS hl.1 (c_X12_ahead l D cA q aK aV hq hc24) sf_X12_ahead bw_1514 sv_X12_ahead (rcR_12 sR_0) rfl ⟨rfl, rfl⟩ ⟨Nat.le_of_ble_eq_true rfl, Nat.le_of_ble_eq_true rfl⟩ rfl rfl (Nat.le_of_ble_eq_true rfl) dX12_newOne_73 (fun H locs hP hS => ?_)
        refine lv_iconst (v := 1) hx hb dX12_newOne_76 (by decide) ?_
        exact end_z X hr hk hP hS (Or.inr rfl) h dX12_newOne_77
      · rw [if_neg c15] at h
        refine lv_aload_n hx hb dX12_newOne_42 rfl (lv_at hl 0 rfl) ?_
        refine lv_iconst (v := 3) hx hb dX12_newOne_43 (by decide) ?_
        obtain ⟨r25, M26, hc27, h⟩ := bnd_inv h
        refine gV_i (As := [.int (3 : Int32)]) X hP hS hl.1 (c_X12_fails l D cA q aK aV hq hc27) sf_X12_fails bw_1545 sv_X12_fails (rcR_12 sR_0) rfl ⟨rfl, rfl⟩ ⟨Nat.le_of_ble_eq_true rfl, Nat.le_of_ble_eq_true rfl⟩ rfl rfl (Nat.le_of_ble_eq_true rfl) dX12_newOne_44 (fun H locs hP hS => ?_)
        obtain ⟨g28, h⟩ := gd_inv h
        exact end_z X hr hk hP hS (Decidable.not_not.mp g28) h dX12_newOne_47
    · rw [if_pos c11] at h
      refine lv_aload_n hx hb dX12_newOne_29 rfl (lv_at hl 0 rfl) ?_
      refine lv_iconst (v := 2) hx hb dX12_newOne_30 (by decide) ?_
      obtain ⟨r29, M30, hc31, h⟩ := bnd_inv h
      refine gV_i (As := [.int (2 : Int32)]) X hP hS hl.1 (c_X12_fails l D cA q aK aV hq hc31) sf_X12_fails bw_1545 sv_X12_fails (rcR_12 sR_0) rfl ⟨rfl, rfl⟩ ⟨Nat.le_of_ble_eq_true rfl, Nat.le_of_ble_eq_true rfl⟩ rfl rfl (Nat.le_of_ble_eq_true rfl) dX12_newOne_31 (fun H locs hP hS => ?_)
      obtain ⟨g32, h⟩ := gd_inv h
      exact end_z X hr hk hP hS (Decidable.not_not.mp g32) h dX12_newOne_34
  · rw [if_neg c4] at h
    refine lv_aload_n hx hb dX12_newOne_9 rfl (lv_at hl 0 rfl) ?_
    refine lv_bipush (v := 6) hx hb dX12_newOne_10 (by decide) ?_
    obtain ⟨r33, M34, hc35, h⟩ := bnd_inv h
    refine gV_i (As := [.int (6 : Int32)]) X hP hS hl.1 (c_X12_fails l D cA q aK aV hq hc35) sf_X12_fails bw_1545 sv_X12_fails (rcR_12 sR_0) rfl ⟨rfl, rfl⟩ ⟨Nat.le_of_ble_eq_true rfl, Nat.le_of_ble_eq_true rfl⟩ rfl rfl (Nat.le_of_ble_eq_true rfl) dX12_newOne_12 (fun H locs hP hS => ?_)
    obtain ⟨g36, h⟩ := gd_inv h
    exact end_z X hr hk hP hS (Decidable.not_not.mp g36) h dX12_newOne_15
theorem dX12_oldOne_0 : decode cX12_oldOne 0 = .ok (.aload_n 0, 1) := by decide +kernel
theorem dX12_oldOne_1 : decode cX12_oldOne 1 = .ok (.ldc 184, 2) := by decide +kernel
theorem dX12_oldOne_3 : decode cX12_oldOne 3 = .ok (.invokevirtual 193, 3) := by decide +kernel
theorem dX12_oldOne_6 : decode cX12_oldOne 6 = .ok (.ifCond .ne 9, 3) := by decide +kernel
theorem dX12_oldOne_9 : decode cX12_oldOne 9 = .ok (.aload_n 0, 1) := by decide +kernel
theorem dX12_oldOne_10 : decode cX12_oldOne 10 = .ok (.iconst 2, 1) := by decide +kernel
theorem dX12_oldOne_11 : decode cX12_oldOne 11 = .ok (.invokevirtual 173, 3) := by decide +kernel
theorem dX12_oldOne_14 : decode cX12_oldOne 14 = .ok (.ireturn, 1) := by decide +kernel
theorem dX12_oldOne_15 : decode cX12_oldOne 15 = .ok (.aload_n 0, 1) := by decide +kernel
theorem dX12_oldOne_16 : decode cX12_oldOne 16 = .ok (.getfield 7, 3) := by decide +kernel
theorem dX12_oldOne_19 : decode cX12_oldOne 19 = .ok (.iload_n 3, 1) := by decide +kernel
theorem dX12_oldOne_20 : decode cX12_oldOne 20 = .ok (.aload_n 0, 1) := by decide +kernel
theorem dX12_oldOne_21 : decode cX12_oldOne 21 = .ok (.iload_n 1, 1) := by decide +kernel
theorem dX12_oldOne_22 : decode cX12_oldOne 22 = .ok (.iload_n 2, 1) := by decide +kernel
theorem dX12_oldOne_23 : decode cX12_oldOne 23 = .ok (.invokevirtual 186, 3) := by decide +kernel
theorem dX12_oldOne_26 : decode cX12_oldOne 26 = .ok (.iastore, 1) := by decide +kernel
theorem dX12_oldOne_27 : decode cX12_oldOne 27 = .ok (.aload_n 0, 1) := by decide +kernel
theorem dX12_oldOne_28 : decode cX12_oldOne 28 = .ok (.getfield 7, 3) := by decide +kernel
theorem dX12_oldOne_31 : decode cX12_oldOne 31 = .ok (.iload_n 3, 1) := by decide +kernel
theorem dX12_oldOne_32 : decode cX12_oldOne 32 = .ok (.iaload, 1) := by decide +kernel
theorem dX12_oldOne_33 : decode cX12_oldOne 33 = .ok (.iconst (-1), 1) := by decide +kernel
theorem dX12_oldOne_34 : decode cX12_oldOne 34 = .ok (.if_icmp .ne 9, 3) := by decide +kernel
theorem dX12_oldOne_37 : decode cX12_oldOne 37 = .ok (.aload_n 0, 1) := by decide +kernel
theorem dX12_oldOne_38 : decode cX12_oldOne 38 = .ok (.iconst 3, 1) := by decide +kernel
theorem dX12_oldOne_39 : decode cX12_oldOne 39 = .ok (.invokevirtual 173, 3) := by decide +kernel
theorem dX12_oldOne_42 : decode cX12_oldOne 42 = .ok (.ireturn, 1) := by decide +kernel
theorem dX12_oldOne_43 : decode cX12_oldOne 43 = .ok (.aload_n 0, 1) := by decide +kernel
theorem dX12_oldOne_44 : decode cX12_oldOne 44 = .ok (.invokevirtual 167, 3) := by decide +kernel
theorem dX12_oldOne_47 : decode cX12_oldOne 47 = .ok (.iconst 1, 1) := by decide +kernel
theorem dX12_oldOne_48 : decode cX12_oldOne 48 = .ok (.ireturn, 1) := by decide +kernel
set_option maxRecDepth 100000 in
set_option maxHeartbeats 8000000 in
theorem c_X12_oldOne (l : Launch) (D : va_G) (cA : Nat → ClassId) (q aK aV : Nat → Nat) (hq : injG 20 q) {a1 : Int32} {a2 : Int32} {a3 : Int32} {M M0 : Mem} {r0 : Int32} (h : f_X12_oldOne a1 a2 a3 M = some (r0, M0)) : Met l yX12_oldOne (.code yX12_oldOne cX12_oldOne 4 (some .boolean) :: BW) ({ frames := 9, cells := 0, slots := 0, locals := 228 } : Room) (va_Pc [.ref (q 0), .int a1, .int a2, .int a3] (CB 20 (ceR cA q) D cA q aK aV M)) (Qi 20 (ceR cA q) D q r0 M0) 0 0 (AqG 20 q) := by
  refine gMet RX12 (by decide +kernel) rfl hq (Nat.le_of_ble_eq_true rfl) ?_
  intro p e s m below meth c ls X hr hk hP hS hl
  have hx := X.1
  have hb := X.2.1
  have hl : lv_has ls 4 [(0, .ref (q 0)), (1, .int a1), (2, .int a2), (3, .int a3)] := hl
  rw [f_X12_oldOne] at h
  refine lv_aload_n hx hb dX12_oldOne_0 rfl (lv_at hl 0 rfl) ?_
  refine va_ldcS hx hb X.2.2.2.1 (X_k1 X) dX12_oldOne_1 ?_
  obtain ⟨r1, M2, hc3, h⟩ := bnd_inv h
  refine gV_i (As := [.ref (aK 1)]) X hP hS hl.1 (c_X12_isName l D cA q aK aV hq hc3) sf_X12_isName bw_1561 sv_X12_isName (rcR_12 sR_0) rfl ⟨rfl, rfl⟩ ⟨Nat.le_of_ble_eq_true rfl, Nat.le_of_ble_eq_true rfl⟩ rfl rfl (Nat.le_of_ble_eq_true rfl) dX12_oldOne_3 (fun H locs hP hS => ?_)
  refine lv_if_ne (tgt := 15) hx hb dX12_oldOne_6 (by decide) (fun c4 => ?_) (fun c4 => ?_)
  · rw [if_neg c4] at h
    refine lv_aload_n hx hb dX12_oldOne_15 rfl (lv_at hl 0 rfl) ?_
    refine gfR_12_0 X hP sR_0 bw_1323 dX12_oldOne_16 ?_
    refine lv_iload_n hx hb dX12_oldOne_19 rfl (lv_at hl 3 rfl) ?_
    refine lv_aload_n hx hb dX12_oldOne_20 rfl (lv_at hl 0 rfl) ?_
    refine lv_iload_n hx hb dX12_oldOne_21 rfl (lv_at hl 1 rfl) ?_
    refine lv_iload_n hx hb dX12_oldOne_22 rfl (lv_at hl 2 rfl) ?_
    obtain ⟨r5, M6, hc7, h⟩ := bnd_inv h
    refine gV_i (As := [.int a1, .int a2]) X hP hS hl.1 (c_X12_findHere l D cA q aK aV hq hc7) sf_X12_findHere bw_1569 sv_X12_findHere (rcR_12 sR_0) rfl ⟨rfl, rfl⟩ ⟨Nat.le_of_ble_eq_true rfl, Nat.le_of_ble_eq_true rfl⟩ rfl rfl (Nat.le_of_ble_eq_true rfl) dX12_oldOne_23 (fun H locs hP hS => ?_)
    obtain ⟨g8, h⟩ := gd_inv h
    obtain ⟨M9, eM9, h⟩ := lt_inv h
    refine stR_ia X hP hS sR_1 zR_1 g8 eM9 dX12_oldOne_26 (fun H locs hP hS => ?_)
    refine lv_aload_n hx hb dX12_oldOne_27 rfl (lv_at hl 0 rfl) ?_
    refine gfR_12_0 X hP sR_0 bw_1323 dX12_oldOne_28 ?_
    refine lv_iload_n hx hb dX12_oldOne_31 rfl (lv_at hl 3 rfl) ?_
    obtain ⟨g10, h⟩ := gd_inv h
    refine ldR_ia X hP sR_1 zR_1 g10 dX12_oldOne_32 ?_
    refine lv_iconst (v := -1) hx hb dX12_oldOne_33 (by decide) ?_
    refine lv_icmp_ne (tgt := 43) hx hb dX12_oldOne_34 (by decide) (fun c11 => ?_) (fun c11 => ?_)
    · rw [if_neg c11] at h
      refine lv_aload_n hx hb dX12_oldOne_43 rfl (lv_at hl 0 rfl) ?_
      obtain ⟨_, M13, hc14, h⟩ := bnd_inv h
      refine gV_v (As := []) X hP hS hl.1 (c_X12_ahead l D cA q aK aV hq hc14) sf_X12_ahead bw_1514 sv_X12_ahead (rcR_12 sR_0) rfl ⟨rfl, rfl⟩ ⟨Nat.le_of_ble_eq_true rfl, Nat.le_of_ble_eq_true rfl⟩ rfl rfl (Nat.le_of_ble_eq_true rfl) dX12_oldOne_44 (fun H locs hP hS => ?_)
      refine lv_iconst (v := 1) hx hb dX12_oldOne_47 (by decide) ?_
      exact end_z X hr hk hP hS (Or.inr rfl) h dX12_oldOne_48
    · rw [if_pos c11] at h
      refine lv_aload_n hx hb dX12_oldOne_37 rfl (lv_at hl 0 rfl) ?_
      refine lv_iconst (v := 3) hx hb dX12_oldOne_38 (by decide) ?_
      obtain ⟨r15, M16, hc17, h⟩ := bnd_inv h
      refine gV_i (As := [.int (3 : Int32)]) X hP hS hl.1 (c_X12_fails l D cA q aK aV hq hc17) sf_X12_fails bw_1545 sv_X12_fails (rcR_12 sR_0) rfl ⟨rfl, rfl⟩ ⟨Nat.le_of_ble_eq_true rfl, Nat.le_of_ble_eq_true rfl⟩ rfl rfl (Nat.le_of_ble_eq_true rfl) dX12_oldOne_39 (fun H locs hP hS => ?_)
      obtain ⟨g18, h⟩ := gd_inv h
      exact end_z X hr hk hP hS (Decidable.not_not.mp g18) h dX12_oldOne_42
  · rw [if_pos c4] at h
    refine lv_aload_n hx hb dX12_oldOne_9 rfl (lv_at hl 0 rfl) ?_
    refine lv_iconst (v := 2) hx hb dX12_oldOne_10 (by decide) ?_
    obtain ⟨r19, M20, hc21, h⟩ := bnd_inv h
    refine gV_i (As := [.int (2 : Int32)]) X hP hS hl.1 (c_X12_fails l D cA q aK aV hq hc21) sf_X12_fails bw_1545 sv_X12_fails (rcR_12 sR_0) rfl ⟨rfl, rfl⟩ ⟨Nat.le_of_ble_eq_true rfl, Nat.le_of_ble_eq_true rfl⟩ rfl rfl (Nat.le_of_ble_eq_true rfl) dX12_oldOne_11 (fun H locs hP hS => ?_)
    obtain ⟨g22, h⟩ := gd_inv h
    exact end_z X hr hk hP hS (Decidable.not_not.mp g22) h dX12_oldOne_14
theorem dX12_aSmell_0 : decode cX12_aSmell 0 = .ok (.aload_n 0, 1) := by decide +kernel
theorem dX12_aSmell_1 : decode cX12_aSmell 1 = .ok (.iconst 0, 1) := by decide +kernel
theorem dX12_aSmell_2 : decode cX12_aSmell 2 = .ok (.iconst 5, 1) := by decide +kernel
theorem dX12_aSmell_3 : decode cX12_aSmell 3 = .ok (.iconst 0, 1) := by decide +kernel
theorem dX12_aSmell_4 : decode cX12_aSmell 4 = .ok (.invokevirtual 201, 3) := by decide +kernel
theorem dX12_aSmell_7 : decode cX12_aSmell 7 = .ok (.ifCond .ne 5, 3) := by decide +kernel
theorem dX12_aSmell_10 : decode cX12_aSmell 10 = .ok (.iconst 0, 1) := by decide +kernel
theorem dX12_aSmell_11 : decode cX12_aSmell 11 = .ok (.ireturn, 1) := by decide +kernel
theorem dX12_aSmell_12 : decode cX12_aSmell 12 = .ok (.aload_n 0, 1) := by decide +kernel
theorem dX12_aSmell_13 : decode cX12_aSmell 13 = .ok (.getfield 7, 3) := by decide +kernel
theorem dX12_aSmell_16 : decode cX12_aSmell 16 = .ok (.sipush 2008, 3) := by decide +kernel
theorem dX12_aSmell_19 : decode cX12_aSmell 19 = .ok (.dup2, 1) := by decide +kernel
theorem dX12_aSmell_20 : decode cX12_aSmell 20 = .ok (.iaload, 1) := by decide +kernel
theorem dX12_aSmell_21 : decode cX12_aSmell 21 = .ok (.iconst 1, 1) := by decide +kernel
theorem dX12_aSmell_22 : decode cX12_aSmell 22 = .ok (.iadd, 1) := by decide +kernel
theorem dX12_aSmell_23 : decode cX12_aSmell 23 = .ok (.iastore, 1) := by decide +kernel
theorem dX12_aSmell_24 : decode cX12_aSmell 24 = .ok (.iconst 1, 1) := by decide +kernel
theorem dX12_aSmell_25 : decode cX12_aSmell 25 = .ok (.ireturn, 1) := by decide +kernel
set_option maxRecDepth 100000 in
set_option maxHeartbeats 8000000 in
theorem c_X12_aSmell (l : Launch) (D : va_G) (cA : Nat → ClassId) (q aK aV : Nat → Nat) (hq : injG 20 q) {M M0 : Mem} {r0 : Int32} (h : f_X12_aSmell M = some (r0, M0)) : Met l yX12_aSmell (.code yX12_aSmell cX12_aSmell 1 (some .boolean) :: BW) ({ frames := 10, cells := 0, slots := 0, locals := 251 } : Room) (va_Pc [.ref (q 0)] (CB 20 (ceR cA q) D cA q aK aV M)) (Qi 20 (ceR cA q) D q r0 M0) 0 0 (AqG 20 q) := by
  refine gMet RX12 (by decide +kernel) rfl hq (Nat.le_of_ble_eq_true rfl) ?_
  intro p e s m below meth c ls X hr hk hP hS hl
  have hx := X.1
  have hb := X.2.1
  have hl : lv_has ls 1 [(0, .ref (q 0))] := hl
  rw [f_X12_aSmell] at h
  refine lv_aload_n hx hb dX12_aSmell_0 rfl (lv_at hl 0 rfl) ?_
  refine lv_iconst (v := 0) hx hb dX12_aSmell_1 (by decide) ?_
  refine lv_iconst (v := 5) hx hb dX12_aSmell_2 (by decide) ?_
  refine lv_iconst (v := 0) hx hb dX12_aSmell_3 (by decide) ?_
  obtain ⟨r1, M2, hc3, h⟩ := bnd_inv h
  refine gV_i (As := [.int (0 : Int32), .int (5 : Int32), .int (0 : Int32)]) X hP hS hl.1 (c_X12_newOne l D cA q aK aV hq hc3) sf_X12_newOne bw_1553 sv_X12_newOne (rcR_12 sR_0) rfl ⟨rfl, rfl⟩ ⟨Nat.le_of_ble_eq_true rfl, Nat.le_of_ble_eq_true rfl⟩ rfl rfl (Nat.le_of_ble_eq_true rfl) dX12_aSmell_4 (fun H locs hP hS => ?_)
  refine lv_if_ne (tgt := 12) hx hb dX12_aSmell_7 (by decide) (fun c4 => ?_) (fun c4 => ?_)
  · rw [if_neg c4] at h
    refine lv_aload_n hx hb dX12_aSmell_12 rfl (lv_at hl 0 rfl) ?_
    refine gfR_12_0 X hP sR_0 bw_1323 dX12_aSmell_13 ?_
    refine lv_sipush (v := 2008) hx hb dX12_aSmell_16 (by decide) ?_
    refine lv_dup2_11 hx hb dX12_aSmell_19 rfl rfl ?_
    refine ldR_ia X hP sR_1 zR_1 (by decide) dX12_aSmell_20 ?_
    refine topE (y := (gI M2 1 2008)) rfl ?_
    refine lv_iconst (v := 1) hx hb dX12_aSmell_21 (by decide) ?_
    refine lv_iadd hx hb dX12_aSmell_22 ?_
    obtain ⟨M5, eM5, h⟩ := lt_inv h
    refine stR_ia X hP hS sR_1 zR_1 (by decide) eM5 dX12_aSmell_23 (fun H locs hP hS => ?_)
    refine lv_iconst (v := 1) hx hb dX12_aSmell_24 (by decide) ?_
    exact end_z X hr hk hP hS (Or.inr rfl) h dX12_aSmell_25
  · rw [if_pos c4] at h
    refine lv_iconst (v := 0) hx hb dX12_aSmell_10 (by decide) ?_
    exact end_z X hr hk hP hS (Or.inl rfl) h dX12_aSmell_11
theorem dX12_aCue_0 : decode cX12_aCue 0 = .ok (.aload_n 0, 1) := by decide +kernel
theorem dX12_aCue_1 : decode cX12_aCue 1 = .ok (.iconst 1, 1) := by decide +kernel
theorem dX12_aCue_2 : decode cX12_aCue 2 = .ok (.bipush 6, 2) := by decide +kernel
theorem dX12_aCue_4 : decode cX12_aCue 4 = .ok (.iconst 5, 1) := by decide +kernel
theorem dX12_aCue_5 : decode cX12_aCue 5 = .ok (.invokevirtual 201, 3) := by decide +kernel
theorem dX12_aCue_8 : decode cX12_aCue 8 = .ok (.ifCond .eq 14, 3) := by decide +kernel
theorem dX12_aCue_11 : decode cX12_aCue 11 = .ok (.aload_n 0, 1) := by decide +kernel
theorem dX12_aCue_12 : decode cX12_aCue 12 = .ok (.ldc 184, 2) := by decide +kernel
theorem dX12_aCue_14 : decode cX12_aCue 14 = .ok (.bipush 6, 2) := by decide +kernel
theorem dX12_aCue_16 : decode cX12_aCue 16 = .ok (.invokevirtual 205, 3) := by decide +kernel
theorem dX12_aCue_19 : decode cX12_aCue 19 = .ok (.ifCond .ne 5, 3) := by decide +kernel
theorem dX12_aCue_22 : decode cX12_aCue 22 = .ok (.iconst 0, 1) := by decide +kernel
theorem dX12_aCue_23 : decode cX12_aCue 23 = .ok (.ireturn, 1) := by decide +kernel
theorem dX12_aCue_24 : decode cX12_aCue 24 = .ok (.aload_n 0, 1) := by decide +kernel
theorem dX12_aCue_25 : decode cX12_aCue 25 = .ok (.ldc 184, 2) := by decide +kernel
theorem dX12_aCue_27 : decode cX12_aCue 27 = .ok (.invokevirtual 176, 3) := by decide +kernel
theorem dX12_aCue_30 : decode cX12_aCue 30 = .ok (.istore_n 1, 1) := by decide +kernel
theorem dX12_aCue_31 : decode cX12_aCue 31 = .ok (.iload_n 1, 1) := by decide +kernel
theorem dX12_aCue_32 : decode cX12_aCue 32 = .ok (.bipush 7, 2) := by decide +kernel
theorem dX12_aCue_34 : decode cX12_aCue 34 = .ok (.if_icmp .lt 9, 3) := by decide +kernel
theorem dX12_aCue_37 : decode cX12_aCue 37 = .ok (.iload_n 1, 1) := by decide +kernel
theorem dX12_aCue_38 : decode cX12_aCue 38 = .ok (.bipush 9, 2) := by decide +kernel
theorem dX12_aCue_40 : decode cX12_aCue 40 = .ok (.if_icmp .le 9, 3) := by decide +kernel
theorem dX12_aCue_43 : decode cX12_aCue 43 = .ok (.aload_n 0, 1) := by decide +kernel
theorem dX12_aCue_44 : decode cX12_aCue 44 = .ok (.iconst 2, 1) := by decide +kernel
theorem dX12_aCue_45 : decode cX12_aCue 45 = .ok (.invokevirtual 173, 3) := by decide +kernel
theorem dX12_aCue_48 : decode cX12_aCue 48 = .ok (.ireturn, 1) := by decide +kernel
theorem dX12_aCue_49 : decode cX12_aCue 49 = .ok (.aload_n 0, 1) := by decide +kernel
theorem dX12_aCue_50 : decode cX12_aCue 50 = .ok (.getfield 7, 3) := by decide +kernel
theorem dX12_aCue_53 : decode cX12_aCue 53 = .ok (.sipush 2018, 3) := by decide +kernel
theorem dX12_aCue_56 : decode cX12_aCue 56 = .ok (.aload_n 0, 1) := by decide +kernel
theorem dX12_aCue_57 : decode cX12_aCue 57 = .ok (.getfield 7, 3) := by decide +kernel
theorem dX12_aCue_60 : decode cX12_aCue 60 = .ok (.sipush 2009, 3) := by decide +kernel
theorem dX12_aCue_63 : decode cX12_aCue 63 = .ok (.iaload, 1) := by decide +kernel
theorem dX12_aCue_64 : decode cX12_aCue 64 = .ok (.iadd, 1) := by decide +kernel
theorem dX12_aCue_65 : decode cX12_aCue 65 = .ok (.iload_n 1, 1) := by decide +kernel
theorem dX12_aCue_66 : decode cX12_aCue 66 = .ok (.bipush 7, 2) := by decide +kernel
theorem dX12_aCue_68 : decode cX12_aCue 68 = .ok (.isub, 1) := by decide +kernel
theorem dX12_aCue_69 : decode cX12_aCue 69 = .ok (.iastore, 1) := by decide +kernel
theorem dX12_aCue_70 : decode cX12_aCue 70 = .ok (.aload_n 0, 1) := by decide +kernel
theorem dX12_aCue_71 : decode cX12_aCue 71 = .ok (.invokevirtual 167, 3) := by decide +kernel
theorem dX12_aCue_74 : decode cX12_aCue 74 = .ok (.aload_n 0, 1) := by decide +kernel
theorem dX12_aCue_75 : decode cX12_aCue 75 = .ok (.getfield 7, 3) := by decide +kernel
theorem dX12_aCue_78 : decode cX12_aCue 78 = .ok (.sipush 2009, 3) := by decide +kernel
theorem dX12_aCue_81 : decode cX12_aCue 81 = .ok (.dup2, 1) := by decide +kernel
theorem dX12_aCue_82 : decode cX12_aCue 82 = .ok (.iaload, 1) := by decide +kernel
theorem dX12_aCue_83 : decode cX12_aCue 83 = .ok (.iconst 1, 1) := by decide +kernel
theorem dX12_aCue_84 : decode cX12_aCue 84 = .ok (.iadd, 1) := by decide +kernel
theorem dX12_aCue_85 : decode cX12_aCue 85 = .ok (.iastore, 1) := by decide +kernel
theorem dX12_aCue_86 : decode cX12_aCue 86 = .ok (.iconst 1, 1) := by decide +kernel
theorem dX12_aCue_87 : decode cX12_aCue 87 = .ok (.ireturn, 1) := by decide +kernel
set_option maxRecDepth 100000 in
set_option maxHeartbeats 8000000 in
theorem c_X12_aCue (l : Launch) (D : va_G) (cA : Nat → ClassId) (q aK aV : Nat → Nat) (hq : injG 20 q) {M M0 : Mem} {r0 : Int32} (h : f_X12_aCue M = some (r0, M0)) : Met l yX12_aCue (.code yX12_aCue cX12_aCue 2 (some .boolean) :: BW) ({ frames := 10, cells := 0, slots := 0, locals := 251 } : Room) (va_Pc [.ref (q 0)] (CB 20 (ceR cA q) D cA q aK aV M)) (Qi 20 (ceR cA q) D q r0 M0) 0 0 (AqG 20 q) := by
  refine gMet RX12 (by decide +kernel) rfl hq (Nat.le_of_ble_eq_true rfl) ?_
  intro p e s m below meth c ls X hr hk hP hS hl
  have hx := X.1
  have hb := X.2.1
  have hl : lv_has ls 2 [(0, .ref (q 0))] := hl
  rw [f_X12_aCue] at h
  refine lv_aload_n hx hb dX12_aCue_0 rfl (lv_at hl 0 rfl) ?_
  refine lv_iconst (v := 1) hx hb dX12_aCue_1 (by decide) ?_
  refine lv_bipush (v := 6) hx hb dX12_aCue_2 (by decide) ?_
  refine lv_iconst (v := 5) hx hb dX12_aCue_4 (by decide) ?_
  obtain ⟨r1, M2, hc3, h⟩ := bnd_inv h
  refine gV_i (As := [.int (1 : Int32), .int (6 : Int32), .int (5 : Int32)]) X hP hS hl.1 (c_X12_newOne l D cA q aK aV hq hc3) sf_X12_newOne bw_1553 sv_X12_newOne (rcR_12 sR_0) rfl ⟨rfl, rfl⟩ ⟨Nat.le_of_ble_eq_true rfl, Nat.le_of_ble_eq_true rfl⟩ rfl rfl (Nat.le_of_ble_eq_true rfl) dX12_aCue_5 (fun H locs hP hS => ?_)
  refine lv_if_eq (tgt := 22) hx hb dX12_aCue_8 (by decide) (fun c4 => ?_) (fun c4 => ?_)
  · rw [if_pos c4] at h
    refine lv_iconst (v := 0) hx hb dX12_aCue_22 (by decide) ?_
    exact end_z X hr hk hP hS (Or.inl rfl) h dX12_aCue_23
  · rw [if_neg c4] at h
    refine lv_aload_n hx hb dX12_aCue_11 rfl (lv_at hl 0 rfl) ?_
    refine va_ldcS hx hb X.2.2.2.1 (X_k1 X) dX12_aCue_12 ?_
    refine lv_bipush (v := 6) hx hb dX12_aCue_14 (by decide) ?_
    obtain ⟨r5, M6, hc7, h⟩ := bnd_inv h
    refine gV_i (As := [.ref (aK 1), .int (6 : Int32)]) X hP hS hl.1 (c_X12_wantWord l D cA q aK aV hq hc7) sf_X12_wantWord bw_1581 sv_X12_wantWord (rcR_12 sR_0) rfl ⟨rfl, rfl⟩ ⟨Nat.le_of_ble_eq_true rfl, Nat.le_of_ble_eq_true rfl⟩ rfl rfl (Nat.le_of_ble_eq_true rfl) dX12_aCue_16 (fun H locs hP hS => ?_)
    refine lv_if_ne (tgt := 24) hx hb dX12_aCue_19 (by decide) (fun c8 => ?_) (fun c8 => ?_)
    · rw [if_neg c8] at h
      refine lv_aload_n hx hb dX12_aCue_24 rfl (lv_at hl 0 rfl) ?_
      refine va_ldcS hx hb X.2.2.2.1 (X_k1 X) dX12_aCue_25 ?_
      obtain ⟨r9, M10, hc11, h⟩ := bnd_inv h
      refine gV_i (As := [.ref (aK 1)]) X hP hS hl.1 (c_X12_inWords l D cA q aK aV hq hc11) sf_X12_inWords bw_1539 sv_X12_inWords (rcR_12 sR_0) rfl ⟨rfl, rfl⟩ ⟨Nat.le_of_ble_eq_true rfl, Nat.le_of_ble_eq_true rfl⟩ rfl rfl (Nat.le_of_ble_eq_true rfl) dX12_aCue_27 (fun H locs hP hS => ?_)
      refine lv_istore_n (lv' := [(1, .int r9), (0, .ref (q 0))]) hx hb dX12_aCue_30 rfl hl (by decide) rfl (fun ls hl => ?_)
      refine lv_iload_n hx hb dX12_aCue_31 rfl (lv_at hl 0 rfl) ?_
      refine lv_bipush (v := 7) hx hb dX12_aCue_32 (by decide) ?_
      refine lv_icmp_lt (tgt := 43) hx hb dX12_aCue_34 (by decide) (fun c12 => ?_) (fun c12 => ?_)
      · rw [if_pos c12] at h
        refine lv_aload_n hx hb dX12_aCue_43 rfl (lv_at hl 1 rfl) ?_
        refine lv_iconst (v := 2) hx hb dX12_aCue_44 (by decide) ?_
        obtain ⟨r13, M14, hc15, h⟩ := bnd_inv h
        refine gV_i (As := [.int (2 : Int32)]) X hP hS hl.1 (c_X12_fails l D cA q aK aV hq hc15) sf_X12_fails bw_1545 sv_X12_fails (rcR_12 sR_0) rfl ⟨rfl, rfl⟩ ⟨Nat.le_of_ble_eq_true rfl, Nat.le_of_ble_eq_true rfl⟩ rfl rfl (Nat.le_of_ble_eq_true rfl) dX12_aCue_45 (fun H locs hP hS => ?_)
        obtain ⟨g16, h⟩ := gd_inv h
        exact end_z X hr hk hP hS (Decidable.not_not.mp g16) h dX12_aCue_48
      · rw [if_neg c12] at h
        refine lv_iload_n hx hb dX12_aCue_37 rfl (lv_at hl 0 rfl) ?_
        refine lv_bipush (v := 9) hx hb dX12_aCue_38 (by decide) ?_
        refine lv_icmp_le (tgt := 49) hx hb dX12_aCue_40 (by decide) (fun c17 => ?_) (fun c17 => ?_)
        · rw [if_pos c17] at h
          refine lv_aload_n hx hb dX12_aCue_49 rfl (lv_at hl 1 rfl) ?_
          refine gfR_12_0 X hP sR_0 bw_1323 dX12_aCue_50 ?_
          refine lv_sipush (v := 2018) hx hb dX12_aCue_53 (by decide) ?_
          refine lv_aload_n hx hb dX12_aCue_56 rfl (lv_at hl 1 rfl) ?_
          refine gfR_12_0 X hP sR_0 bw_1323 dX12_aCue_57 ?_
          refine lv_sipush (v := 2009) hx hb dX12_aCue_60 (by decide) ?_
          refine ldR_ia X hP sR_1 zR_1 (by decide) dX12_aCue_63 ?_
          refine topE (y := (gI M10 1 2009)) rfl ?_
          refine lv_iadd hx hb dX12_aCue_64 ?_
          refine lv_iload_n hx hb dX12_aCue_65 rfl (lv_at hl 0 rfl) ?_
          refine lv_bipush (v := 7) hx hb dX12_aCue_66 (by decide) ?_
          refine lv_isub hx hb dX12_aCue_68 ?_
          obtain ⟨g18, h⟩ := gd_inv h
          obtain ⟨M19, eM19, h⟩ := lt_inv h
          refine stR_ia X hP hS sR_1 zR_1 g18 eM19 dX12_aCue_69 (fun H locs hP hS => ?_)
          refine lv_aload_n hx hb dX12_aCue_70 rfl (lv_at hl 1 rfl) ?_
          obtain ⟨_, M21, hc22, h⟩ := bnd_inv h
          refine gV_v (As := []) X hP hS hl.1 (c_X12_ahead l D cA q aK aV hq hc22) sf_X12_ahead bw_1514 sv_X12_ahead (rcR_12 sR_0) rfl ⟨rfl, rfl⟩ ⟨Nat.le_of_ble_eq_true rfl, Nat.le_of_ble_eq_true rfl⟩ rfl rfl (Nat.le_of_ble_eq_true rfl) dX12_aCue_71 (fun H locs hP hS => ?_)
          refine lv_aload_n hx hb dX12_aCue_74 rfl (lv_at hl 1 rfl) ?_
          refine gfR_12_0 X hP sR_0 bw_1323 dX12_aCue_75 ?_
          refine lv_sipush (v := 2009) hx hb dX12_aCue_78 (by decide) ?_
          refine lv_dup2_11 hx hb dX12_aCue_81 rfl rfl ?_
          refine ldR_ia X hP sR_1 zR_1 (by decide) dX12_aCue_82 ?_
          refine topE (y := (gI M21 1 2009)) rfl ?_
          refine lv_iconst (v := 1) hx hb dX12_aCue_83 (by decide) ?_
          refine lv_iadd hx hb dX12_aCue_84 ?_
          obtain ⟨M23, eM23, h⟩ := lt_inv h
          refine stR_ia X hP hS sR_1 zR_1 (by decide) eM23 dX12_aCue_85 (fun H locs hP hS => ?_)
          refine lv_iconst (v := 1) hx hb dX12_aCue_86 (by decide) ?_
          exact end_z X hr hk hP hS (Or.inr rfl) h dX12_aCue_87
        · rw [if_neg c17] at h
          refine lv_aload_n hx hb dX12_aCue_43 rfl (lv_at hl 1 rfl) ?_
          refine lv_iconst (v := 2) hx hb dX12_aCue_44 (by decide) ?_
          obtain ⟨r24, M25, hc26, h⟩ := bnd_inv h
          refine gV_i (As := [.int (2 : Int32)]) X hP hS hl.1 (c_X12_fails l D cA q aK aV hq hc26) sf_X12_fails bw_1545 sv_X12_fails (rcR_12 sR_0) rfl ⟨rfl, rfl⟩ ⟨Nat.le_of_ble_eq_true rfl, Nat.le_of_ble_eq_true rfl⟩ rfl rfl (Nat.le_of_ble_eq_true rfl) dX12_aCue_45 (fun H locs hP hS => ?_)
          obtain ⟨g27, h⟩ := gd_inv h
          exact end_z X hr hk hP hS (Decidable.not_not.mp g27) h dX12_aCue_48
    · rw [if_pos c8] at h
      refine lv_iconst (v := 0) hx hb dX12_aCue_22 (by decide) ?_
      exact end_z X hr hk hP hS (Or.inl rfl) h dX12_aCue_23
theorem dX12_against_0 : decode cX12_against 0 = .ok (.aload_n 0, 1) := by decide +kernel
theorem dX12_against_1 : decode cX12_against 1 = .ok (.getfield 7, 3) := by decide +kernel
theorem dX12_against_4 : decode cX12_against 4 = .ok (.iload_n 2, 1) := by decide +kernel
theorem dX12_against_5 : decode cX12_against 5 = .ok (.iconst 0, 1) := by decide +kernel
theorem dX12_against_6 : decode cX12_against 6 = .ok (.iastore, 1) := by decide +kernel
theorem dX12_against_7 : decode cX12_against 7 = .ok (.aload_n 0, 1) := by decide +kernel
theorem dX12_against_8 : decode cX12_against 8 = .ok (.iload_n 1, 1) := by decide +kernel
theorem dX12_against_9 : decode cX12_against 9 = .ok (.invokevirtual 209, 3) := by decide +kernel
theorem dX12_against_12 : decode cX12_against 12 = .ok (.ifCond .ne 5, 3) := by decide +kernel
theorem dX12_against_15 : decode cX12_against 15 = .ok (.iconst 1, 1) := by decide +kernel
theorem dX12_against_16 : decode cX12_against 16 = .ok (.ireturn, 1) := by decide +kernel
theorem dX12_against_17 : decode cX12_against 17 = .ok (.aload_n 0, 1) := by decide +kernel
theorem dX12_against_18 : decode cX12_against 18 = .ok (.bipush 60, 2) := by decide +kernel
theorem dX12_against_20 : decode cX12_against 20 = .ok (.invokevirtual 170, 3) := by decide +kernel
theorem dX12_against_23 : decode cX12_against 23 = .ok (.ifCond .ne 27, 3) := by decide +kernel
theorem dX12_against_26 : decode cX12_against 26 = .ok (.aload_n 0, 1) := by decide +kernel
theorem dX12_against_27 : decode cX12_against 27 = .ok (.bipush 62, 2) := by decide +kernel
theorem dX12_against_29 : decode cX12_against 29 = .ok (.invokevirtual 170, 3) := by decide +kernel
theorem dX12_against_32 : decode cX12_against 32 = .ok (.ifCond .ne 18, 3) := by decide +kernel
theorem dX12_against_35 : decode cX12_against 35 = .ok (.aload_n 0, 1) := by decide +kernel
theorem dX12_against_36 : decode cX12_against 36 = .ok (.bipush 61, 2) := by decide +kernel
theorem dX12_against_38 : decode cX12_against 38 = .ok (.invokevirtual 170, 3) := by decide +kernel
theorem dX12_against_41 : decode cX12_against 41 = .ok (.ifCond .ne 9, 3) := by decide +kernel
theorem dX12_against_44 : decode cX12_against 44 = .ok (.aload_n 0, 1) := by decide +kernel
theorem dX12_against_45 : decode cX12_against 45 = .ok (.iconst 2, 1) := by decide +kernel
theorem dX12_against_46 : decode cX12_against 46 = .ok (.invokevirtual 173, 3) := by decide +kernel
theorem dX12_against_49 : decode cX12_against 49 = .ok (.ireturn, 1) := by decide +kernel
theorem dX12_against_50 : decode cX12_against 50 = .ok (.aload_n 0, 1) := by decide +kernel
theorem dX12_against_51 : decode cX12_against 51 = .ok (.getfield 7, 3) := by decide +kernel
theorem dX12_against_54 : decode cX12_against 54 = .ok (.iload_n 2, 1) := by decide +kernel
theorem dX12_against_55 : decode cX12_against 55 = .ok (.aload_n 0, 1) := by decide +kernel
theorem dX12_against_56 : decode cX12_against 56 = .ok (.getfield 133, 3) := by decide +kernel
theorem dX12_against_59 : decode cX12_against 59 = .ok (.iastore, 1) := by decide +kernel
theorem dX12_against_60 : decode cX12_against 60 = .ok (.aload_n 0, 1) := by decide +kernel
theorem dX12_against_61 : decode cX12_against 61 = .ok (.invokevirtual 167, 3) := by decide +kernel
theorem dX12_against_64 : decode cX12_against 64 = .ok (.aload_n 0, 1) := by decide +kernel
theorem dX12_against_65 : decode cX12_against 65 = .ok (.iload_n 2, 1) := by decide +kernel
theorem dX12_against_66 : decode cX12_against 66 = .ok (.iconst 1, 1) := by decide +kernel
theorem dX12_against_67 : decode cX12_against 67 = .ok (.iadd, 1) := by decide +kernel
theorem dX12_against_68 : decode cX12_against 68 = .ok (.iconst 0, 1) := by decide +kernel
theorem dX12_against_69 : decode cX12_against 69 = .ok (.iload_n 3, 1) := by decide +kernel
theorem dX12_against_70 : decode cX12_against 70 = .ok (.invokevirtual 212, 3) := by decide +kernel
theorem dX12_against_73 : decode cX12_against 73 = .ok (.ireturn, 1) := by decide +kernel
set_option maxRecDepth 100000 in
set_option maxHeartbeats 8000000 in
theorem c_X12_against (l : Launch) (D : va_G) (cA : Nat → ClassId) (q aK aV : Nat → Nat) (hq : injG 20 q) {a1 : Int32} {a2 : Int32} {a3 : Int32} {M M0 : Mem} {r0 : Int32} (h : f_X12_against a1 a2 a3 M = some (r0, M0)) : Met l yX12_against (.code yX12_against cX12_against 4 (some .boolean) :: BW) ({ frames := 9, cells := 0, slots := 0, locals := 228 } : Room) (va_Pc [.ref (q 0), .int a1, .int a2, .int a3] (CB 20 (ceR cA q) D cA q aK aV M)) (Qi 20 (ceR cA q) D q r0 M0) 0 0 (AqG 20 q) := by
  refine gMet RX12 (by decide +kernel) rfl hq (Nat.le_of_ble_eq_true rfl) ?_
  intro p e s m below meth c ls X hr hk hP hS hl
  have hx := X.1
  have hb := X.2.1
  have hl : lv_has ls 4 [(0, .ref (q 0)), (1, .int a1), (2, .int a2), (3, .int a3)] := hl
  rw [f_X12_against] at h
  have hJ50 : ∀ (M : Mem) (H : Heap) (locs : List Loc) (ls : Array Slot), f_X12_against_J50 a2 a3 M = some (r0, M0) → va_P D vwCl (wsG 20 (ceR cA q) q M) H → va_S (AqG 20 q) s.heap H locs → lv_has ls 4 [(0, .ref (q 0)), (2, .int a2), (3, .int a3)] → W p l e ({ frames := 9, cells := 0, slots := 0, locals := 228 } : Room) s m [.ref (q 0), .int a1, .int a2, .int a3].toArray below meth c H locs 0 0 (MQ below (Qi 20 (ceR cA q) D q r0 M0) [.ref (q 0), .int a1, .int a2, .int a3].toArray s 0 0 (AqG 20 q)) (F0 m 50 ls []) := by
    intro M H locs ls h hP hS hl
    rw [f_X12_against_J50] at h
    refine lv_aload_n hx hb dX12_against_50 rfl (lv_at hl 0 rfl) ?_
    refine gfR_12_0 X hP sR_0 bw_1323 dX12_against_51 ?_
    refine lv_iload_n hx hb dX12_against_54 rfl (lv_at hl 1 rfl) ?_
    refine lv_aload_n hx hb dX12_against_55 rfl (lv_at hl 0 rfl) ?_
    refine gfR_12_15 X hP sR_0 bw_1338 dX12_against_56 ?_
    obtain ⟨g23, h⟩ := gd_inv h
    obtain ⟨M24, eM24, h⟩ := lt_inv h
    refine stR_ia X hP hS sR_1 zR_1 g23 eM24 dX12_against_59 (fun H locs hP hS => ?_)
    refine lv_aload_n hx hb dX12_against_60 rfl (lv_at hl 0 rfl) ?_
    obtain ⟨_, M26, hc27, h⟩ := bnd_inv h
    refine gV_v (As := []) X hP hS hl.1 (c_X12_ahead l D cA q aK aV hq hc27) sf_X12_ahead bw_1514 sv_X12_ahead (rcR_12 sR_0) rfl ⟨rfl, rfl⟩ ⟨Nat.le_of_ble_eq_true rfl, Nat.le_of_ble_eq_true rfl⟩ rfl rfl (Nat.le_of_ble_eq_true rfl) dX12_against_61 (fun H locs hP hS => ?_)
    refine lv_aload_n hx hb dX12_against_64 rfl (lv_at hl 0 rfl) ?_
    refine lv_iload_n hx hb dX12_against_65 rfl (lv_at hl 1 rfl) ?_
    refine lv_iconst (v := 1) hx hb dX12_against_66 (by decide) ?_
    refine lv_iadd hx hb dX12_against_67 ?_
    refine lv_iconst (v := 0) hx hb dX12_against_68 (by decide) ?_
    refine lv_iload_n hx hb dX12_against_69 rfl (lv_at hl 2 rfl) ?_
    obtain ⟨r28, M29, hc30, h⟩ := bnd_inv h
    refine gV_i (As := [.int (a2 + (1 : Int32)), .int (0 : Int32), .int a3]) X hP hS hl.1 (c_X12_number l D cA q aK aV hq hc30) sf_X12_number bw_1608 sv_X12_number (rcR_12 sR_0) rfl ⟨rfl, rfl⟩ ⟨Nat.le_of_ble_eq_true rfl, Nat.le_of_ble_eq_true rfl⟩ rfl rfl (Nat.le_of_ble_eq_true rfl) dX12_against_70 (fun H locs hP hS => ?_)
    obtain ⟨g31, h⟩ := gd_inv h
    exact end_z X hr hk hP hS (Decidable.not_not.mp g31) h dX12_against_73
  refine lv_aload_n hx hb dX12_against_0 rfl (lv_at hl 0 rfl) ?_
  refine gfR_12_0 X hP sR_0 bw_1323 dX12_against_1 ?_
  refine lv_iload_n hx hb dX12_against_4 rfl (lv_at hl 2 rfl) ?_
  refine lv_iconst (v := 0) hx hb dX12_against_5 (by decide) ?_
  obtain ⟨g1, h⟩ := gd_inv h
  obtain ⟨M2, eM2, h⟩ := lt_inv h
  refine stR_ia X hP hS sR_1 zR_1 g1 eM2 dX12_against_6 (fun H locs hP hS => ?_)
  refine lv_aload_n hx hb dX12_against_7 rfl (lv_at hl 0 rfl) ?_
  refine lv_iload_n hx hb dX12_against_8 rfl (lv_at hl 1 rfl) ?_
  obtain ⟨r3, M4, hc5, h⟩ := bnd_inv h
  refine gV_i (As := [.int a1]) X hP hS hl.1 (c_X12_isThere l D cA q aK aV hq hc5) sf_X12_isThere bw_1600 sv_X12_isThere (rcR_12 sR_0) rfl ⟨rfl, rfl⟩ ⟨Nat.le_of_ble_eq_true rfl, Nat.le_of_ble_eq_true rfl⟩ rfl rfl (Nat.le_of_ble_eq_true rfl) dX12_against_9 (fun H locs hP hS => ?_)
  refine lv_if_ne (tgt := 17) hx hb dX12_against_12 (by decide) (fun c6 => ?_) (fun c6 => ?_)
  · rw [if_neg c6] at h
    refine lv_aload_n hx hb dX12_against_17 rfl (lv_at hl 0 rfl) ?_
    refine lv_bipush (v := 60) hx hb dX12_against_18 (by decide) ?_
    obtain ⟨r7, M8, hc9, h⟩ := bnd_inv h
    refine gV_i (As := [.int (60 : Int32)]) X hP hS hl.1 (c_X12_isSign l D cA q aK aV hq hc9) sf_X12_isSign bw_1604 sv_X12_isSign (rcR_12 sR_0) rfl ⟨rfl, rfl⟩ ⟨Nat.le_of_ble_eq_true rfl, Nat.le_of_ble_eq_true rfl⟩ rfl rfl (Nat.le_of_ble_eq_true rfl) dX12_against_20 (fun H locs hP hS => ?_)
    refine lv_if_ne (tgt := 50) hx hb dX12_against_23 (by decide) (fun c10 => ?_) (fun c10 => ?_)
    · rw [if_neg c10] at h
      exact hJ50  _ _ _ _ h hP hS (lv_sub hl [0, 2, 3] rfl)
    · rw [if_pos c10] at h
      refine lv_aload_n hx hb dX12_against_26 rfl (lv_at hl 0 rfl) ?_
      refine lv_bipush (v := 62) hx hb dX12_against_27 (by decide) ?_
      obtain ⟨r11, M12, hc13, h⟩ := bnd_inv h
      refine gV_i (As := [.int (62 : Int32)]) X hP hS hl.1 (c_X12_isSign l D cA q aK aV hq hc13) sf_X12_isSign bw_1604 sv_X12_isSign (rcR_12 sR_0) rfl ⟨rfl, rfl⟩ ⟨Nat.le_of_ble_eq_true rfl, Nat.le_of_ble_eq_true rfl⟩ rfl rfl (Nat.le_of_ble_eq_true rfl) dX12_against_29 (fun H locs hP hS => ?_)
      refine lv_if_ne (tgt := 50) hx hb dX12_against_32 (by decide) (fun c14 => ?_) (fun c14 => ?_)
      · rw [if_neg c14] at h
        exact hJ50  _ _ _ _ h hP hS (lv_sub hl [0, 2, 3] rfl)
      · rw [if_pos c14] at h
        refine lv_aload_n hx hb dX12_against_35 rfl (lv_at hl 0 rfl) ?_
        refine lv_bipush (v := 61) hx hb dX12_against_36 (by decide) ?_
        obtain ⟨r15, M16, hc17, h⟩ := bnd_inv h
        refine gV_i (As := [.int (61 : Int32)]) X hP hS hl.1 (c_X12_isSign l D cA q aK aV hq hc17) sf_X12_isSign bw_1604 sv_X12_isSign (rcR_12 sR_0) rfl ⟨rfl, rfl⟩ ⟨Nat.le_of_ble_eq_true rfl, Nat.le_of_ble_eq_true rfl⟩ rfl rfl (Nat.le_of_ble_eq_true rfl) dX12_against_38 (fun H locs hP hS => ?_)
        refine lv_if_ne (tgt := 50) hx hb dX12_against_41 (by decide) (fun c18 => ?_) (fun c18 => ?_)
        · rw [if_neg c18] at h
          exact hJ50  _ _ _ _ h hP hS (lv_sub hl [0, 2, 3] rfl)
        · rw [if_pos c18] at h
          refine lv_aload_n hx hb dX12_against_44 rfl (lv_at hl 0 rfl) ?_
          refine lv_iconst (v := 2) hx hb dX12_against_45 (by decide) ?_
          obtain ⟨r19, M20, hc21, h⟩ := bnd_inv h
          refine gV_i (As := [.int (2 : Int32)]) X hP hS hl.1 (c_X12_fails l D cA q aK aV hq hc21) sf_X12_fails bw_1545 sv_X12_fails (rcR_12 sR_0) rfl ⟨rfl, rfl⟩ ⟨Nat.le_of_ble_eq_true rfl, Nat.le_of_ble_eq_true rfl⟩ rfl rfl (Nat.le_of_ble_eq_true rfl) dX12_against_46 (fun H locs hP hS => ?_)
          obtain ⟨g22, h⟩ := gd_inv h
          exact end_z X hr hk hP hS (Decidable.not_not.mp g22) h dX12_against_49
  · rw [if_pos c6] at h
    refine lv_iconst (v := 1) hx hb dX12_against_15 (by decide) ?_
    exact end_z X hr hk hP hS (Or.inr rfl) h dX12_against_16
