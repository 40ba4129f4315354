theorem dX12_aRule_0 : decode cX12_aRule 0 = .ok (.aload_n 0, 1) := by decide +kernel
theorem dX12_aRule_1 : decode cX12_aRule 1 = .ok (.iconst 2, 1) := by decide +kernel
theorem dX12_aRule_2 : decode cX12_aRule 2 = .ok (.bipush 8, 2) := by decide +kernel
theorem dX12_aRule_4 : decode cX12_aRule 4 = .ok (.invokevirtual 189, 3) := by decide +kernel
theorem dX12_aRule_7 : decode cX12_aRule 7 = .ok (.ifCond .eq 10, 3) := by decide +kernel
theorem dX12_aRule_10 : decode cX12_aRule 10 = .ok (.aload_n 0, 1) := by decide +kernel
theorem dX12_aRule_11 : decode cX12_aRule 11 = .ok (.bipush 6, 2) := by decide +kernel
theorem dX12_aRule_13 : decode cX12_aRule 13 = .ok (.invokevirtual 173, 3) := by decide +kernel
theorem dX12_aRule_16 : decode cX12_aRule 16 = .ok (.ireturn, 1) := by decide +kernel
theorem dX12_aRule_17 : decode cX12_aRule 17 = .ok (.sipush 2008, 3) := by decide +kernel
theorem dX12_aRule_20 : decode cX12_aRule 20 = .ok (.aload_n 0, 1) := by decide +kernel
theorem dX12_aRule_21 : decode cX12_aRule 21 = .ok (.getfield 7, 3) := by decide +kernel
theorem dX12_aRule_24 : decode cX12_aRule 24 = .ok (.sipush 2010, 3) := by decide +kernel
theorem dX12_aRule_27 : decode cX12_aRule 27 = .ok (.iaload, 1) := by decide +kernel
theorem dX12_aRule_28 : decode cX12_aRule 28 = .ok (.invokestatic 215, 3) := by decide +kernel
theorem dX12_aRule_31 : decode cX12_aRule 31 = .ok (.iadd, 1) := by decide +kernel
theorem dX12_aRule_32 : decode cX12_aRule 32 = .ok (.istore_n 1, 1) := by decide +kernel
theorem dX12_aRule_33 : decode cX12_aRule 33 = .ok (.aload_n 0, 1) := by decide +kernel
theorem dX12_aRule_34 : decode cX12_aRule 34 = .ok (.invokevirtual 167, 3) := by decide +kernel
theorem dX12_aRule_37 : decode cX12_aRule 37 = .ok (.aload_n 0, 1) := by decide +kernel
theorem dX12_aRule_38 : decode cX12_aRule 38 = .ok (.bipush 97, 2) := by decide +kernel
theorem dX12_aRule_40 : decode cX12_aRule 40 = .ok (.aload_n 0, 1) := by decide +kernel
theorem dX12_aRule_41 : decode cX12_aRule 41 = .ok (.getfield 7, 3) := by decide +kernel
theorem dX12_aRule_44 : decode cX12_aRule 44 = .ok (.sipush 2009, 3) := by decide +kernel
theorem dX12_aRule_47 : decode cX12_aRule 47 = .ok (.iaload, 1) := by decide +kernel
theorem dX12_aRule_48 : decode cX12_aRule 48 = .ok (.iload_n 1, 1) := by decide +kernel
theorem dX12_aRule_49 : decode cX12_aRule 49 = .ok (.invokevirtual 218, 3) := by decide +kernel
theorem dX12_aRule_52 : decode cX12_aRule 52 = .ok (.ifCond .ne 5, 3) := by decide +kernel
theorem dX12_aRule_55 : decode cX12_aRule 55 = .ok (.iconst 0, 1) := by decide +kernel
theorem dX12_aRule_56 : decode cX12_aRule 56 = .ok (.ireturn, 1) := by decide +kernel
theorem dX12_aRule_57 : decode cX12_aRule 57 = .ok (.aload_n 0, 1) := by decide +kernel
theorem dX12_aRule_58 : decode cX12_aRule 58 = .ok (.ldc 184, 2) := by decide +kernel
theorem dX12_aRule_60 : decode cX12_aRule 60 = .ok (.invokevirtual 176, 3) := by decide +kernel
theorem dX12_aRule_63 : decode cX12_aRule 63 = .ok (.istore_n 2, 1) := by decide +kernel
theorem dX12_aRule_64 : decode cX12_aRule 64 = .ok (.aload_n 0, 1) := by decide +kernel
theorem dX12_aRule_65 : decode cX12_aRule 65 = .ok (.getfield 7, 3) := by decide +kernel
theorem dX12_aRule_68 : decode cX12_aRule 68 = .ok (.iload_n 1, 1) := by decide +kernel
theorem dX12_aRule_69 : decode cX12_aRule 69 = .ok (.iconst 1, 1) := by decide +kernel
theorem dX12_aRule_70 : decode cX12_aRule 70 = .ok (.iadd, 1) := by decide +kernel
theorem dX12_aRule_71 : decode cX12_aRule 71 = .ok (.iload_n 2, 1) := by decide +kernel
theorem dX12_aRule_72 : decode cX12_aRule 72 = .ok (.bipush 8, 2) := by decide +kernel
theorem dX12_aRule_74 : decode cX12_aRule 74 = .ok (.if_icmp .ne 7, 3) := by decide +kernel
theorem dX12_aRule_77 : decode cX12_aRule 77 = .ok (.iconst 1, 1) := by decide +kernel
theorem dX12_aRule_78 : decode cX12_aRule 78 = .ok (.goto 14, 3) := by decide +kernel
theorem dX12_aRule_81 : decode cX12_aRule 81 = .ok (.iload_n 2, 1) := by decide +kernel
theorem dX12_aRule_82 : decode cX12_aRule 82 = .ok (.bipush 9, 2) := by decide +kernel
theorem dX12_aRule_84 : decode cX12_aRule 84 = .ok (.if_icmp .ne 7, 3) := by decide +kernel
theorem dX12_aRule_87 : decode cX12_aRule 87 = .ok (.iconst 2, 1) := by decide +kernel
theorem dX12_aRule_88 : decode cX12_aRule 88 = .ok (.goto 4, 3) := by decide +kernel
theorem dX12_aRule_91 : decode cX12_aRule 91 = .ok (.iconst 0, 1) := by decide +kernel
theorem dX12_aRule_92 : decode cX12_aRule 92 = .ok (.iastore, 1) := by decide +kernel
theorem dX12_aRule_93 : decode cX12_aRule 93 = .ok (.aload_n 0, 1) := by decide +kernel
theorem dX12_aRule_94 : decode cX12_aRule 94 = .ok (.getfield 7, 3) := by decide +kernel
theorem dX12_aRule_97 : decode cX12_aRule 97 = .ok (.iload_n 1, 1) := by decide +kernel
theorem dX12_aRule_98 : decode cX12_aRule 98 = .ok (.iconst 1, 1) := by decide +kernel
theorem dX12_aRule_99 : decode cX12_aRule 99 = .ok (.iadd, 1) := by decide +kernel
theorem dX12_aRule_100 : decode cX12_aRule 100 = .ok (.iaload, 1) := by decide +kernel
theorem dX12_aRule_101 : decode cX12_aRule 101 = .ok (.ifCond .le 7, 3) := by decide +kernel
theorem dX12_aRule_104 : decode cX12_aRule 104 = .ok (.aload_n 0, 1) := by decide +kernel
theorem dX12_aRule_105 : decode cX12_aRule 105 = .ok (.invokevirtual 167, 3) := by decide +kernel
theorem dX12_aRule_108 : decode cX12_aRule 108 = .ok (.aload_n 0, 1) := by decide +kernel
theorem dX12_aRule_109 : decode cX12_aRule 109 = .ok (.bipush 10, 2) := by decide +kernel
theorem dX12_aRule_111 : decode cX12_aRule 111 = .ok (.iload_n 1, 1) := by decide +kernel
theorem dX12_aRule_112 : decode cX12_aRule 112 = .ok (.iconst 2, 1) := by decide +kernel
theorem dX12_aRule_113 : decode cX12_aRule 113 = .ok (.iadd, 1) := by decide +kernel
theorem dX12_aRule_114 : decode cX12_aRule 114 = .ok (.bipush 99, 2) := by decide +kernel
theorem dX12_aRule_116 : decode cX12_aRule 116 = .ok (.invokevirtual 221, 3) := by decide +kernel
theorem dX12_aRule_119 : decode cX12_aRule 119 = .ok (.ifCond .eq 17, 3) := by decide +kernel
theorem dX12_aRule_122 : decode cX12_aRule 122 = .ok (.aload_n 0, 1) := by decide +kernel
theorem dX12_aRule_123 : decode cX12_aRule 123 = .ok (.bipush 11, 2) := by decide +kernel
theorem dX12_aRule_125 : decode cX12_aRule 125 = .ok (.iload_n 1, 1) := by decide +kernel
theorem dX12_aRule_126 : decode cX12_aRule 126 = .ok (.iconst 4, 1) := by decide +kernel
theorem dX12_aRule_127 : decode cX12_aRule 127 = .ok (.iadd, 1) := by decide +kernel
theorem dX12_aRule_128 : decode cX12_aRule 128 = .ok (.bipush 9, 2) := by decide +kernel
theorem dX12_aRule_130 : decode cX12_aRule 130 = .ok (.invokevirtual 221, 3) := by decide +kernel
theorem dX12_aRule_133 : decode cX12_aRule 133 = .ok (.ifCond .ne 5, 3) := by decide +kernel
theorem dX12_aRule_136 : decode cX12_aRule 136 = .ok (.iconst 0, 1) := by decide +kernel
theorem dX12_aRule_137 : decode cX12_aRule 137 = .ok (.ireturn, 1) := by decide +kernel
theorem dX12_aRule_138 : decode cX12_aRule 138 = .ok (.aload_n 0, 1) := by decide +kernel
theorem dX12_aRule_139 : decode cX12_aRule 139 = .ok (.getfield 7, 3) := by decide +kernel
theorem dX12_aRule_142 : decode cX12_aRule 142 = .ok (.iload_n 1, 1) := by decide +kernel
theorem dX12_aRule_143 : decode cX12_aRule 143 = .ok (.bipush 6, 2) := by decide +kernel
theorem dX12_aRule_145 : decode cX12_aRule 145 = .ok (.iadd, 1) := by decide +kernel
theorem dX12_aRule_146 : decode cX12_aRule 146 = .ok (.iconst (-1), 1) := by decide +kernel
theorem dX12_aRule_147 : decode cX12_aRule 147 = .ok (.iastore, 1) := by decide +kernel
theorem dX12_aRule_148 : decode cX12_aRule 148 = .ok (.aload_n 0, 1) := by decide +kernel
theorem dX12_aRule_149 : decode cX12_aRule 149 = .ok (.bipush 12, 2) := by decide +kernel
theorem dX12_aRule_151 : decode cX12_aRule 151 = .ok (.invokevirtual 209, 3) := by decide +kernel
theorem dX12_aRule_154 : decode cX12_aRule 154 = .ok (.ifCond .eq 26, 3) := by decide +kernel
theorem dX12_aRule_157 : decode cX12_aRule 157 = .ok (.aload_n 0, 1) := by decide +kernel
theorem dX12_aRule_158 : decode cX12_aRule 158 = .ok (.bipush 92, 2) := by decide +kernel
theorem dX12_aRule_160 : decode cX12_aRule 160 = .ok (.aload_n 0, 1) := by decide +kernel
theorem dX12_aRule_161 : decode cX12_aRule 161 = .ok (.getfield 7, 3) := by decide +kernel
theorem dX12_aRule_164 : decode cX12_aRule 164 = .ok (.sipush 2008, 3) := by decide +kernel
theorem dX12_aRule_167 : decode cX12_aRule 167 = .ok (.iaload, 1) := by decide +kernel
theorem dX12_aRule_168 : decode cX12_aRule 168 = .ok (.iload_n 1, 1) := by decide +kernel
theorem dX12_aRule_169 : decode cX12_aRule 169 = .ok (.bipush 6, 2) := by decide +kernel
theorem dX12_aRule_171 : decode cX12_aRule 171 = .ok (.iadd, 1) := by decide +kernel
theorem dX12_aRule_172 : decode cX12_aRule 172 = .ok (.invokevirtual 218, 3) := by decide +kernel
theorem dX12_aRule_175 : decode cX12_aRule 175 = .ok (.ifCond .ne 5, 3) := by decide +kernel
theorem dX12_aRule_178 : decode cX12_aRule 178 = .ok (.iconst 0, 1) := by decide +kernel
theorem dX12_aRule_179 : decode cX12_aRule 179 = .ok (.ireturn, 1) := by decide +kernel
theorem dX12_aRule_180 : decode cX12_aRule 180 = .ok (.aload_n 0, 1) := by decide +kernel
theorem dX12_aRule_181 : decode cX12_aRule 181 = .ok (.getfield 7, 3) := by decide +kernel
theorem dX12_aRule_184 : decode cX12_aRule 184 = .ok (.sipush 2010, 3) := by decide +kernel
theorem dX12_aRule_187 : decode cX12_aRule 187 = .ok (.dup2, 1) := by decide +kernel
theorem dX12_aRule_188 : decode cX12_aRule 188 = .ok (.iaload, 1) := by decide +kernel
theorem dX12_aRule_189 : decode cX12_aRule 189 = .ok (.iconst 1, 1) := by decide +kernel
theorem dX12_aRule_190 : decode cX12_aRule 190 = .ok (.iadd, 1) := by decide +kernel
theorem dX12_aRule_191 : decode cX12_aRule 191 = .ok (.iastore, 1) := by decide +kernel
theorem dX12_aRule_192 : decode cX12_aRule 192 = .ok (.iconst 1, 1) := by decide +kernel
theorem dX12_aRule_193 : decode cX12_aRule 193 = .ok (.ireturn, 1) := by decide +kernel
set_option maxRecDepth 100000 in
set_option maxHeartbeats 8000000 in
theorem c_X12_aRule (l : Launch) (D : va_G) (cA : Nat → ClassId) (q aK aV : Nat → Nat) (hq : injG 20 q) {M M0 : Mem} {r0 : Int32} (h : f_X12_aRule M = some (r0, M0)) : Met l yX12_aRule (.code yX12_aRule cX12_aRule 3 (some .boolean) :: BW) ({ frames := 10, cells := 0, slots := 0, locals := 251 } : Room) (va_Pc [.ref (q 0)] (CB 20 (ceR cA q) D cA q aK aV M)) (Qi 20 (ceR cA q) D q r0 M0) 0 0 (AqG 20 q) := by
  refine gMet RX12 (by decide +kernel) rfl hq (Nat.le_of_ble_eq_true rfl) ?_
  intro p e s m below meth c ls X hr hk hP hS hl
  have hx := X.1
  have hb := X.2.1
  have hl : lv_has ls 3 [(0, .ref (q 0))] := hl
  rw [f_X12_aRule] at h
  have hJ180 : ∀ (M : Mem) (H : Heap) (locs : List Loc) (ls : Array Slot), f_X12_aRule_J180 M = some (r0, M0) → va_P D vwCl (wsG 20 (ceR cA q) q M) H → va_S (AqG 20 q) s.heap H locs → lv_has ls 3 [(0, .ref (q 0))] → W p l e ({ frames := 10, cells := 0, slots := 0, locals := 251 } : Room) s m [.ref (q 0)].toArray below meth c H locs 0 0 (MQ below (Qi 20 (ceR cA q) D q r0 M0) [.ref (q 0)].toArray s 0 0 (AqG 20 q)) (F0 m 180 ls []) := by
    intro M H locs ls h hP hS hl
    rw [f_X12_aRule_J180] at h
    refine lv_aload_n hx hb dX12_aRule_180 rfl (lv_at hl 0 rfl) ?_
    refine gfR_12_0 X hP sR_0 bw_1323 dX12_aRule_181 ?_
    refine lv_sipush (v := 2010) hx hb dX12_aRule_184 (by decide) ?_
    refine lv_dup2_11 hx hb dX12_aRule_187 rfl rfl ?_
    refine ldR_ia X hP sR_1 zR_1 (by decide) dX12_aRule_188 ?_
    refine topE (y := (gI M 1 2010)) rfl ?_
    refine lv_iconst (v := 1) hx hb dX12_aRule_189 (by decide) ?_
    refine lv_iadd hx hb dX12_aRule_190 ?_
    obtain ⟨M50, eM50, h⟩ := lt_inv h
    refine stR_ia X hP hS sR_1 zR_1 (by decide) eM50 dX12_aRule_191 (fun H locs hP hS => ?_)
    refine lv_iconst (v := 1) hx hb dX12_aRule_192 (by decide) ?_
    exact end_z X hr hk hP hS (Or.inr rfl) h dX12_aRule_193
  have hJ108 : ∀ (b1 : Int32) (M : Mem) (H : Heap) (locs : List Loc) (ls : Array Slot), f_X12_aRule_J108 b1 M = some (r0, M0) → va_P D vwCl (wsG 20 (ceR cA q) q M) H → va_S (AqG 20 q) s.heap H locs → lv_has ls 3 [(0, .ref (q 0)), (1, .int b1)] → W p l e ({ frames := 10, cells := 0, slots := 0, locals := 251 } : Room) s m [.ref (q 0)].toArray below meth c H locs 0 0 (MQ below (Qi 20 (ceR cA q) D q r0 M0) [.ref (q 0)].toArray s 0 0 (AqG 20 q)) (F0 m 108 ls []) := by
    intro b1 M H locs ls h hP hS hl
    rw [f_X12_aRule_J108] at h
    refine lv_aload_n hx hb dX12_aRule_108 rfl (lv_at hl 0 rfl) ?_
    refine lv_bipush (v := 10) hx hb dX12_aRule_109 (by decide) ?_
    refine lv_iload_n hx hb dX12_aRule_111 rfl (lv_at hl 1 rfl) ?_
    refine lv_iconst (v := 2) hx hb dX12_aRule_112 (by decide) ?_
    refine lv_iadd hx hb dX12_aRule_113 ?_
    refine lv_bipush (v := 99) hx hb dX12_aRule_114 (by decide) ?_
    obtain ⟨r32, M33, hc34, h⟩ := bnd_inv h
    refine gV_i (As := [.int (10 : Int32), .int (b1 + (2 : Int32)), .int (99 : Int32)]) X hP hS hl.1 (c_X12_against l D cA q aK aV hq hc34) sf_X12_against bw_1596 sv_X12_against (rcR_12 sR_0) rfl ⟨rfl, rfl⟩ ⟨Nat.le_of_ble_eq_true rfl, Nat.le_of_ble_eq_true rfl⟩ rfl rfl (Nat.le_of_ble_eq_true rfl) dX12_aRule_116 (fun H locs hP hS => ?_)
    refine lv_if_eq (tgt := 136) hx hb dX12_aRule_119 (by decide) (fun c35 => ?_) (fun c35 => ?_)
    · rw [if_pos c35] at h
      refine lv_iconst (v := 0) hx hb dX12_aRule_136 (by decide) ?_
      exact end_z X hr hk hP hS (Or.inl rfl) h dX12_aRule_137
    · rw [if_neg c35] at h
      refine lv_aload_n hx hb dX12_aRule_122 rfl (lv_at hl 0 rfl) ?_
      refine lv_bipush (v := 11) hx hb dX12_aRule_123 (by decide) ?_
      refine lv_iload_n hx hb dX12_aRule_125 rfl (lv_at hl 1 rfl) ?_
      refine lv_iconst (v := 4) hx hb dX12_aRule_126 (by decide) ?_
      refine lv_iadd hx hb dX12_aRule_127 ?_
      refine lv_bipush (v := 9) hx hb dX12_aRule_128 (by decide) ?_
      obtain ⟨r36, M37, hc38, h⟩ := bnd_inv h
      refine gV_i (As := [.int (11 : Int32), .int (b1 + (4 : Int32)), .int (9 : Int32)]) X hP hS hl.1 (c_X12_against l D cA q aK aV hq hc38) sf_X12_against bw_1596 sv_X12_against (rcR_12 sR_0) rfl ⟨rfl, rfl⟩ ⟨Nat.le_of_ble_eq_true rfl, Nat.le_of_ble_eq_true rfl⟩ rfl rfl (Nat.le_of_ble_eq_true rfl) dX12_aRule_130 (fun H locs hP hS => ?_)
      refine lv_if_ne (tgt := 138) hx hb dX12_aRule_133 (by decide) (fun c39 => ?_) (fun c39 => ?_)
      · rw [if_neg c39] at h
        refine lv_aload_n hx hb dX12_aRule_138 rfl (lv_at hl 0 rfl) ?_
        refine gfR_12_0 X hP sR_0 bw_1323 dX12_aRule_139 ?_
        refine lv_iload_n hx hb dX12_aRule_142 rfl (lv_at hl 1 rfl) ?_
        refine lv_bipush (v := 6) hx hb dX12_aRule_143 (by decide) ?_
        refine lv_iadd hx hb dX12_aRule_145 ?_
        refine lv_iconst (v := -1) hx hb dX12_aRule_146 (by decide) ?_
        obtain ⟨g40, h⟩ := gd_inv h
        obtain ⟨M41, eM41, h⟩ := lt_inv h
        refine stR_ia X hP hS sR_1 zR_1 g40 eM41 dX12_aRule_147 (fun H locs hP hS => ?_)
        refine lv_aload_n hx hb dX12_aRule_148 rfl (lv_at hl 0 rfl) ?_
        refine lv_bipush (v := 12) hx hb dX12_aRule_149 (by decide) ?_
        obtain ⟨r42, M43, hc44, h⟩ := bnd_inv h
        refine gV_i (As := [.int (12 : Int32)]) X hP hS hl.1 (c_X12_isThere l D cA q aK aV hq hc44) sf_X12_isThere bw_1600 sv_X12_isThere (rcR_12 sR_0) rfl ⟨rfl, rfl⟩ ⟨Nat.le_of_ble_eq_true rfl, Nat.le_of_ble_eq_true rfl⟩ rfl rfl (Nat.le_of_ble_eq_true rfl) dX12_aRule_151 (fun H locs hP hS => ?_)
        refine lv_if_eq (tgt := 180) hx hb dX12_aRule_154 (by decide) (fun c45 => ?_) (fun c45 => ?_)
        · rw [if_pos c45] at h
          exact hJ180  _ _ _ _ h hP hS (lv_sub hl [0] rfl)
        · rw [if_neg c45] at h
          refine lv_aload_n hx hb dX12_aRule_157 rfl (lv_at hl 0 rfl) ?_
          refine lv_bipush (v := 92) hx hb dX12_aRule_158 (by decide) ?_
          refine lv_aload_n hx hb dX12_aRule_160 rfl (lv_at hl 0 rfl) ?_
          refine gfR_12_0 X hP sR_0 bw_1323 dX12_aRule_161 ?_
          refine lv_sipush (v := 2008) hx hb dX12_aRule_164 (by decide) ?_
          refine ldR_ia X hP sR_1 zR_1 (by decide) dX12_aRule_167 ?_
          refine topE (y := (gI M43 1 2008)) rfl ?_
          refine lv_iload_n hx hb dX12_aRule_168 rfl (lv_at hl 1 rfl) ?_
          refine lv_bipush (v := 6) hx hb dX12_aRule_169 (by decide) ?_
          refine lv_iadd hx hb dX12_aRule_171 ?_
          obtain ⟨r46, M47, hc48, h⟩ := bnd_inv h
          refine gV_i (As := [.int (92 : Int32), .int (gI M43 1 2008), .int (b1 + (6 : Int32))]) X hP hS hl.1 (c_X12_oldOne l D cA q aK aV hq hc48) sf_X12_oldOne bw_1592 sv_X12_oldOne (rcR_12 sR_0) rfl ⟨rfl, rfl⟩ ⟨Nat.le_of_ble_eq_true rfl, Nat.le_of_ble_eq_true rfl⟩ rfl rfl (Nat.le_of_ble_eq_true rfl) dX12_aRule_172 (fun H locs hP hS => ?_)
          refine lv_if_ne (tgt := 180) hx hb dX12_aRule_175 (by decide) (fun c49 => ?_) (fun c49 => ?_)
          · rw [if_neg c49] at h
            exact hJ180  _ _ _ _ h hP hS (lv_sub hl [0] rfl)
          · rw [if_pos c49] at h
            refine lv_iconst (v := 0) hx hb dX12_aRule_178 (by decide) ?_
            exact end_z X hr hk hP hS (Or.inl rfl) h dX12_aRule_179
      · rw [if_pos c39] at h
        refine lv_iconst (v := 0) hx hb dX12_aRule_136 (by decide) ?_
        exact end_z X hr hk hP hS (Or.inl rfl) h dX12_aRule_137
  have hJ92 : ∀ (b1 : Int32) (s1 : Int32) (s2 : Int32) (M : Mem) (H : Heap) (locs : List Loc) (ls : Array Slot), f_X12_aRule_J92 b1 s1 s2 M = some (r0, M0) → va_P D vwCl (wsG 20 (ceR cA q) q M) H → va_S (AqG 20 q) s.heap H locs → lv_has ls 3 [(0, .ref (q 0)), (1, .int b1)] → W p l e ({ frames := 10, cells := 0, slots := 0, locals := 251 } : Room) s m [.ref (q 0)].toArray below meth c H locs 0 0 (MQ below (Qi 20 (ceR cA q) D q r0 M0) [.ref (q 0)].toArray s 0 0 (AqG 20 q)) (F0 m 92 ls [.int s2, .int s1, .ref (q 1)]) := by
    intro b1 s1 s2 M H locs ls h hP hS hl
    rw [f_X12_aRule_J92] at h
    obtain ⟨g25, h⟩ := gd_inv h
    obtain ⟨M26, eM26, h⟩ := lt_inv h
    refine stR_ia X hP hS sR_1 zR_1 g25 eM26 dX12_aRule_92 (fun H locs hP hS => ?_)
    refine lv_aload_n hx hb dX12_aRule_93 rfl (lv_at hl 0 rfl) ?_
    refine gfR_12_0 X hP sR_0 bw_1323 dX12_aRule_94 ?_
    refine lv_iload_n hx hb dX12_aRule_97 rfl (lv_at hl 1 rfl) ?_
    refine lv_iconst (v := 1) hx hb dX12_aRule_98 (by decide) ?_
    refine lv_iadd hx hb dX12_aRule_99 ?_
    obtain ⟨g27, h⟩ := gd_inv h
    refine ldR_ia X hP sR_1 zR_1 g27 dX12_aRule_100 ?_
    refine lv_if_le (tgt := 108) hx hb dX12_aRule_101 (by decide) (fun c28 => ?_) (fun c28 => ?_)
    · rw [if_pos c28] at h
      exact hJ108 _ _ _ _ _ h hP hS (lv_sub hl [0, 1] rfl)
    · rw [if_neg c28] at h
      refine lv_aload_n hx hb dX12_aRule_104 rfl (lv_at hl 0 rfl) ?_
      obtain ⟨_, M30, hc31, h⟩ := bnd_inv h
      refine gV_v (As := []) X hP hS hl.1 (c_X12_ahead l D cA q aK aV hq hc31) sf_X12_ahead bw_1514 sv_X12_ahead (rcR_12 sR_0) rfl ⟨rfl, rfl⟩ ⟨Nat.le_of_ble_eq_true rfl, Nat.le_of_ble_eq_true rfl⟩ rfl rfl (Nat.le_of_ble_eq_true rfl) dX12_aRule_105 (fun H locs hP hS => ?_)
      exact hJ108 _ _ _ _ _ h hP hS (lv_sub hl [0, 1] rfl)
  refine lv_aload_n hx hb dX12_aRule_0 rfl (lv_at hl 0 rfl) ?_
  refine lv_iconst (v := 2) hx hb dX12_aRule_1 (by decide) ?_
  refine lv_bipush (v := 8) hx hb dX12_aRule_2 (by decide) ?_
  obtain ⟨r1, M2, hc3, h⟩ := bnd_inv h
  refine gV_i (As := [.int (2 : Int32), .int (8 : Int32)]) X hP hS hl.1 (c_X12_isFull l D cA q aK aV hq hc3) sf_X12_isFull bw_1557 sv_X12_isFull (rcR_12 sR_0) rfl ⟨rfl, rfl⟩ ⟨Nat.le_of_ble_eq_true rfl, Nat.le_of_ble_eq_true rfl⟩ rfl rfl (Nat.le_of_ble_eq_true rfl) dX12_aRule_4 (fun H locs hP hS => ?_)
  refine lv_if_eq (tgt := 17) hx hb dX12_aRule_7 (by decide) (fun c4 => ?_) (fun c4 => ?_)
  · rw [if_pos c4] at h
    refine lv_sipush (v := 2008) hx hb dX12_aRule_17 (by decide) ?_
    refine lv_aload_n hx hb dX12_aRule_20 rfl (lv_at hl 0 rfl) ?_
    refine gfR_12_0 X hP sR_0 bw_1323 dX12_aRule_21 ?_
    refine lv_sipush (v := 2010) hx hb dX12_aRule_24 (by decide) ?_
    refine ldR_ia X hP sR_1 zR_1 (by decide) dX12_aRule_27 ?_
    refine topE (y := (gI M2 1 2010)) rfl ?_
    obtain ⟨r5, M6, hc7, h⟩ := bnd_inv h
    refine gS_i (As := [.int (gI M2 1 2010)]) X hP hS hl.1 (c_X12_ruleRow l D cA q aK aV hq hc7) sf_X12_ruleRow bw_1589 ss_X12_ruleRow ⟨rfl, rfl⟩ ⟨Nat.le_of_ble_eq_true rfl, Nat.le_of_ble_eq_true rfl⟩ rfl rfl (Nat.le_of_ble_eq_true rfl) dX12_aRule_28 (fun H locs hP hS => ?_)
    refine lv_iadd hx hb dX12_aRule_31 ?_
    obtain ⟨y8, ey8, h⟩ := lt_inv h
    refine topE ey8 ?_
    refine lv_istore_n (lv' := [(1, .int y8), (0, .ref (q 0))]) hx hb dX12_aRule_32 rfl hl (by decide) rfl (fun ls hl => ?_)
    refine lv_aload_n hx hb dX12_aRule_33 rfl (lv_at hl 1 rfl) ?_
    obtain ⟨_, M10, hc11, h⟩ := bnd_inv h
    refine gV_v (As := []) X hP hS hl.1 (c_X12_ahead l D cA q aK aV hq hc11) sf_X12_ahead bw_1514 sv_X12_ahead (rcR_12 sR_0) rfl ⟨rfl, rfl⟩ ⟨Nat.le_of_ble_eq_true rfl, Nat.le_of_ble_eq_true rfl⟩ rfl rfl (Nat.le_of_ble_eq_true rfl) dX12_aRule_34 (fun H locs hP hS => ?_)
    refine lv_aload_n hx hb dX12_aRule_37 rfl (lv_at hl 1 rfl) ?_
    refine lv_bipush (v := 97) hx hb dX12_aRule_38 (by decide) ?_
    refine lv_aload_n hx hb dX12_aRule_40 rfl (lv_at hl 1 rfl) ?_
    refine gfR_12_0 X hP sR_0 bw_1323 dX12_aRule_41 ?_
    refine lv_sipush (v := 2009) hx hb dX12_aRule_44 (by decide) ?_
    refine ldR_ia X hP sR_1 zR_1 (by decide) dX12_aRule_47 ?_
    refine topE (y := (gI M10 1 2009)) rfl ?_
    refine lv_iload_n hx hb dX12_aRule_48 rfl (lv_at hl 0 rfl) ?_
    obtain ⟨r12, M13, hc14, h⟩ := bnd_inv h
    refine gV_i (As := [.int (97 : Int32), .int (gI M10 1 2009), .int y8]) X hP hS hl.1 (c_X12_oldOne l D cA q aK aV hq hc14) sf_X12_oldOne bw_1592 sv_X12_oldOne (rcR_12 sR_0) rfl ⟨rfl, rfl⟩ ⟨Nat.le_of_ble_eq_true rfl, Nat.le_of_ble_eq_true rfl⟩ rfl rfl (Nat.le_of_ble_eq_true rfl) dX12_aRule_49 (fun H locs hP hS => ?_)
    refine lv_if_ne (tgt := 57) hx hb dX12_aRule_52 (by decide) (fun c15 => ?_) (fun c15 => ?_)
    · rw [if_neg c15] at h
      refine lv_aload_n hx hb dX12_aRule_57 rfl (lv_at hl 1 rfl) ?_
      refine va_ldcS hx hb X.2.2.2.1 (X_k1 X) dX12_aRule_58 ?_
      obtain ⟨r16, M17, hc18, h⟩ := bnd_inv h
      refine gV_i (As := [.ref (aK 1)]) X hP hS hl.1 (c_X12_inWords l D cA q aK aV hq hc18) sf_X12_inWords bw_1539 sv_X12_inWords (rcR_12 sR_0) rfl ⟨rfl, rfl⟩ ⟨Nat.le_of_ble_eq_true rfl, Nat.le_of_ble_eq_true rfl⟩ rfl rfl (Nat.le_of_ble_eq_true rfl) dX12_aRule_60 (fun H locs hP hS => ?_)
      refine lv_istore_n (lv' := [(2, .int r16), (1, .int y8), (0, .ref (q 0))]) hx hb dX12_aRule_63 rfl hl (by decide) rfl (fun ls hl => ?_)
      refine lv_aload_n hx hb dX12_aRule_64 rfl (lv_at hl 2 rfl) ?_
      refine gfR_12_0 X hP sR_0 bw_1323 dX12_aRule_65 ?_
      refine lv_iload_n hx hb dX12_aRule_68 rfl (lv_at hl 1 rfl) ?_
      refine lv_iconst (v := 1) hx hb dX12_aRule_69 (by decide) ?_
      refine lv_iadd hx hb dX12_aRule_70 ?_
      refine lv_iload_n hx hb dX12_aRule_71 rfl (lv_at hl 0 rfl) ?_
      refine lv_bipush (v := 8) hx hb dX12_aRule_72 (by decide) ?_
      refine lv_icmp_ne (tgt := 81) hx hb dX12_aRule_74 (by decide) (fun c19 => ?_) (fun c19 => ?_)
      · rw [if_neg c19] at h
        refine lv_iload_n hx hb dX12_aRule_81 rfl (lv_at hl 0 rfl) ?_
        refine lv_bipush (v := 9) hx hb dX12_aRule_82 (by decide) ?_
        refine lv_icmp_ne (tgt := 91) hx hb dX12_aRule_84 (by decide) (fun c20 => ?_) (fun c20 => ?_)
        · rw [if_neg c20] at h
          refine lv_iconst (v := 0) hx hb dX12_aRule_91 (by decide) ?_
          exact hJ92 _ _ _ _ _ _ _ h hP hS (lv_sub hl [2, 1] rfl)
        · rw [if_pos c20] at h
          refine lv_iconst (v := 2) hx hb dX12_aRule_87 (by decide) ?_
          refine lv_goto (tgt := 92) hx hb dX12_aRule_88 (by decide) ?_
          exact hJ92 _ _ _ _ _ _ _ h hP hS (lv_sub hl [2, 1] rfl)
      · rw [if_pos c19] at h
        refine lv_iconst (v := 1) hx hb dX12_aRule_77 (by decide) ?_
        refine lv_goto (tgt := 92) hx hb dX12_aRule_78 (by decide) ?_
        exact hJ92 _ _ _ _ _ _ _ h hP hS (lv_sub hl [2, 1] rfl)
    · rw [if_pos c15] at h
      refine lv_iconst (v := 0) hx hb dX12_aRule_55 (by decide) ?_
      exact end_z X hr hk hP hS (Or.inl rfl) h dX12_aRule_56
  · rw [if_neg c4] at h
    refine lv_aload_n hx hb dX12_aRule_10 rfl (lv_at hl 0 rfl) ?_
    refine lv_bipush (v := 6) hx hb dX12_aRule_11 (by decide) ?_
    obtain ⟨r21, M22, hc23, h⟩ := bnd_inv h
    refine gV_i (As := [.int (6 : Int32)]) X hP hS hl.1 (c_X12_fails l D cA q aK aV hq hc23) sf_X12_fails bw_1545 sv_X12_fails (rcR_12 sR_0) rfl ⟨rfl, rfl⟩ ⟨Nat.le_of_ble_eq_true rfl, Nat.le_of_ble_eq_true rfl⟩ rfl rfl (Nat.le_of_ble_eq_true rfl) dX12_aRule_13 (fun H locs hP hS => ?_)
    obtain ⟨g24, h⟩ := gd_inv h
    exact end_z X hr hk hP hS (Decidable.not_not.mp g24) h dX12_aRule_16
theorem dX12_smellsTo_0 : decode cX12_smellsTo 0 = .ok (.iconst 0, 1) := by decide +kernel
theorem dX12_smellsTo_1 : decode cX12_smellsTo 1 = .ok (.istore_n 2, 1) := by decide +kernel
theorem dX12_smellsTo_2 : decode cX12_smellsTo 2 = .ok (.aload_n 0, 1) := by decide +kernel
theorem dX12_smellsTo_3 : decode cX12_smellsTo 3 = .ok (.ldc 184, 2) := by decide +kernel
theorem dX12_smellsTo_5 : decode cX12_smellsTo 5 = .ok (.invokevirtual 193, 3) := by decide +kernel
theorem dX12_smellsTo_8 : decode cX12_smellsTo 8 = .ok (.ifCond .eq 57, 3) := by decide +kernel
theorem dX12_smellsTo_11 : decode cX12_smellsTo 11 = .ok (.aload_n 0, 1) := by decide +kernel
theorem dX12_smellsTo_12 : decode cX12_smellsTo 12 = .ok (.bipush 92, 2) := by decide +kernel
theorem dX12_smellsTo_14 : decode cX12_smellsTo 14 = .ok (.aload_n 0, 1) := by decide +kernel
theorem dX12_smellsTo_15 : decode cX12_smellsTo 15 = .ok (.getfield 7, 3) := by decide +kernel
theorem dX12_smellsTo_18 : decode cX12_smellsTo 18 = .ok (.sipush 2008, 3) := by decide +kernel
theorem dX12_smellsTo_21 : decode cX12_smellsTo 21 = .ok (.iaload, 1) := by decide +kernel
theorem dX12_smellsTo_22 : decode cX12_smellsTo 22 = .ok (.invokevirtual 186, 3) := by decide +kernel
theorem dX12_smellsTo_25 : decode cX12_smellsTo 25 = .ok (.istore_n 3, 1) := by decide +kernel
theorem dX12_smellsTo_26 : decode cX12_smellsTo 26 = .ok (.iload_n 3, 1) := by decide +kernel
theorem dX12_smellsTo_27 : decode cX12_smellsTo 27 = .ok (.iconst (-1), 1) := by decide +kernel
theorem dX12_smellsTo_28 : decode cX12_smellsTo 28 = .ok (.if_icmp .ne 9, 3) := by decide +kernel
theorem dX12_smellsTo_31 : decode cX12_smellsTo 31 = .ok (.aload_n 0, 1) := by decide +kernel
theorem dX12_smellsTo_32 : decode cX12_smellsTo 32 = .ok (.iconst 3, 1) := by decide +kernel
theorem dX12_smellsTo_33 : decode cX12_smellsTo 33 = .ok (.invokevirtual 173, 3) := by decide +kernel
theorem dX12_smellsTo_36 : decode cX12_smellsTo 36 = .ok (.ireturn, 1) := by decide +kernel
theorem dX12_smellsTo_37 : decode cX12_smellsTo 37 = .ok (.iload_n 2, 1) := by decide +kernel
theorem dX12_smellsTo_38 : decode cX12_smellsTo 38 = .ok (.iload_n 3, 1) := by decide +kernel
theorem dX12_smellsTo_39 : decode cX12_smellsTo 39 = .ok (.ishr, 1) := by decide +kernel
theorem dX12_smellsTo_40 : decode cX12_smellsTo 40 = .ok (.iconst 1, 1) := by decide +kernel
theorem dX12_smellsTo_41 : decode cX12_smellsTo 41 = .ok (.iand, 1) := by decide +kernel
theorem dX12_smellsTo_42 : decode cX12_smellsTo 42 = .ok (.iconst 1, 1) := by decide +kernel
theorem dX12_smellsTo_43 : decode cX12_smellsTo 43 = .ok (.if_icmp .ne 9, 3) := by decide +kernel
theorem dX12_smellsTo_46 : decode cX12_smellsTo 46 = .ok (.aload_n 0, 1) := by decide +kernel
theorem dX12_smellsTo_47 : decode cX12_smellsTo 47 = .ok (.iconst 5, 1) := by decide +kernel
theorem dX12_smellsTo_48 : decode cX12_smellsTo 48 = .ok (.invokevirtual 173, 3) := by decide +kernel
theorem dX12_smellsTo_51 : decode cX12_smellsTo 51 = .ok (.ireturn, 1) := by decide +kernel
theorem dX12_smellsTo_52 : decode cX12_smellsTo 52 = .ok (.iload_n 2, 1) := by decide +kernel
theorem dX12_smellsTo_53 : decode cX12_smellsTo 53 = .ok (.iconst 1, 1) := by decide +kernel
theorem dX12_smellsTo_54 : decode cX12_smellsTo 54 = .ok (.iload_n 3, 1) := by decide +kernel
theorem dX12_smellsTo_55 : decode cX12_smellsTo 55 = .ok (.ishl, 1) := by decide +kernel
theorem dX12_smellsTo_56 : decode cX12_smellsTo 56 = .ok (.ior, 1) := by decide +kernel
theorem dX12_smellsTo_57 : decode cX12_smellsTo 57 = .ok (.istore_n 2, 1) := by decide +kernel
theorem dX12_smellsTo_58 : decode cX12_smellsTo 58 = .ok (.aload_n 0, 1) := by decide +kernel
theorem dX12_smellsTo_59 : decode cX12_smellsTo 59 = .ok (.invokevirtual 167, 3) := by decide +kernel
theorem dX12_smellsTo_62 : decode cX12_smellsTo 62 = .ok (.goto (-60), 3) := by decide +kernel
theorem dX12_smellsTo_65 : decode cX12_smellsTo 65 = .ok (.aload_n 0, 1) := by decide +kernel
theorem dX12_smellsTo_66 : decode cX12_smellsTo 66 = .ok (.getfield 7, 3) := by decide +kernel
theorem dX12_smellsTo_69 : decode cX12_smellsTo 69 = .ok (.iload_n 1, 1) := by decide +kernel
theorem dX12_smellsTo_70 : decode cX12_smellsTo 70 = .ok (.iload_n 2, 1) := by decide +kernel
theorem dX12_smellsTo_71 : decode cX12_smellsTo 71 = .ok (.iastore, 1) := by decide +kernel
theorem dX12_smellsTo_72 : decode cX12_smellsTo 72 = .ok (.iconst 1, 1) := by decide +kernel
theorem dX12_smellsTo_73 : decode cX12_smellsTo 73 = .ok (.ireturn, 1) := by decide +kernel
set_option maxRecDepth 100000 in
set_option maxHeartbeats 8000000 in
theorem c_X12_smellsTo (l : Launch) (D : va_G) (cA : Nat → ClassId) (q aK aV : Nat → Nat) (hq : injG 20 q) {a1 : Int32} {M M0 : Mem} {r0 : Int32} (h : f_X12_smellsTo a1 M = some (r0, M0)) : Met l yX12_smellsTo (.code yX12_smellsTo cX12_smellsTo 4 (some .boolean) :: BW) ({ frames := 9, cells := 0, slots := 0, locals := 228 } : Room) (va_Pc [.ref (q 0), .int a1] (CB 20 (ceR cA q) D cA q aK aV M)) (Qi 20 (ceR cA q) D q r0 M0) 0 0 (AqG 20 q) := by
  refine gMet RX12 (by decide +kernel) rfl hq (Nat.le_of_ble_eq_true rfl) ?_
  intro p e s m below meth c ls X hr hk hP hS hl
  have hx := X.1
  have hb := X.2.1
  have hl : lv_has ls 4 [(0, .ref (q 0)), (1, .int a1)] := hl
  rw [f_X12_smellsTo] at h
  have hL2 : ∀ (fu : Nat) (b2 : Int32) (M : Mem) (res : (Nat × Int32) × Mem) (H : Heap) (locs : List Loc) (ls : Array Slot), f_X12_smellsTo_L2 a1 fu b2 M = some res → va_P D vwCl (wsG 20 (ceR cA q) q M) H → va_S (AqG 20 q) s.heap H locs → lv_has ls 4 [(0, .ref (q 0)), (1, .int a1), (2, .int b2)] → (res.1.1 = 0 → ∀ (H : Heap) (locs : List Loc) (ls : Array Slot), va_P D vwCl (wsG 20 (ceR cA q) q res.2) H → va_S (AqG 20 q) s.heap H locs → lv_has ls 4 [(0, .ref (q 0))] → W p l e ({ frames := 9, cells := 0, slots := 0, locals := 228 } : Room) s m [.ref (q 0), .int a1].toArray below meth c H locs 0 0 (MQ below (Qi 20 (ceR cA q) D q r0 M0) [.ref (q 0), .int a1].toArray s 0 0 (AqG 20 q)) (F0 m 31 ls [])) → (res.1.1 = 1 → ∀ (H : Heap) (locs : List Loc) (ls : Array Slot), va_P D vwCl (wsG 20 (ceR cA q) q res.2) H → va_S (AqG 20 q) s.heap H locs → lv_has ls 4 [(0, .ref (q 0))] → W p l e ({ frames := 9, cells := 0, slots := 0, locals := 228 } : Room) s m [.ref (q 0), .int a1].toArray below meth c H locs 0 0 (MQ below (Qi 20 (ceR cA q) D q r0 M0) [.ref (q 0), .int a1].toArray s 0 0 (AqG 20 q)) (F0 m 46 ls [])) → (res.1.1 = 2 → ∀ (H : Heap) (locs : List Loc) (ls : Array Slot), va_P D vwCl (wsG 20 (ceR cA q) q res.2) H → va_S (AqG 20 q) s.heap H locs → lv_has ls 4 [(0, .ref (q 0)), (1, .int a1), (2, .int (res.1.2))] → W p l e ({ frames := 9, cells := 0, slots := 0, locals := 228 } : Room) s m [.ref (q 0), .int a1].toArray below meth c H locs 0 0 (MQ below (Qi 20 (ceR cA q) D q r0 M0) [.ref (q 0), .int a1].toArray s 0 0 (AqG 20 q)) (F0 m 65 ls [])) → W p l e ({ frames := 9, cells := 0, slots := 0, locals := 228 } : Room) s m [.ref (q 0), .int a1].toArray below meth c H locs 0 0 (MQ below (Qi 20 (ceR cA q) D q r0 M0) [.ref (q 0), .int a1].toArray s 0 0 (AqG 20 q)) (F0 m 2 ls []) := by
    intro fu
    induction fu with
    | zero => intro b2 M res H locs ls h; exact absurd h (by simp [f_X12_smellsTo_L2])
    | succ fu ih =>
      intro b2 M res H locs ls h hP hS hl K2_0 K2_1 K2_2
      rw [f_X12_smellsTo_L2] at h
      refine lv_aload_n hx hb dX12_smellsTo_2 rfl (lv_at hl 0 rfl) ?_
      refine va_ldcS hx hb X.2.2.2.1 (X_k1 X) dX12_smellsTo_3 ?_
      obtain ⟨r16, M17, hc18, h⟩ := bnd_inv h
      refine gV_i (As := [.ref (aK 1)]) X hP hS hl.1 (c_X12_isName l D cA q aK aV hq hc18) sf_X12_isName bw_1561 sv_X12_isName (rcR_12 sR_0) rfl ⟨rfl, rfl⟩ ⟨Nat.le_of_ble_eq_true rfl, Nat.le_of_ble_eq_true rfl⟩ rfl rfl (Nat.le_of_ble_eq_true rfl) dX12_smellsTo_5 (fun H locs hP hS => ?_)
      refine lv_if_eq (tgt := 65) hx hb dX12_smellsTo_8 (by decide) (fun c19 => ?_) (fun c19 => ?_)
      · rw [if_pos c19] at h
        cases h
        exact K2_2 rfl _ _ _ hP hS (lv_sub hl [0, 1, 2] rfl)
      · rw [if_neg c19] at h
        refine lv_aload_n hx hb dX12_smellsTo_11 rfl (lv_at hl 0 rfl) ?_
        refine lv_bipush (v := 92) hx hb dX12_smellsTo_12 (by decide) ?_
        refine lv_aload_n hx hb dX12_smellsTo_14 rfl (lv_at hl 0 rfl) ?_
        refine gfR_12_0 X hP sR_0 bw_1323 dX12_smellsTo_15 ?_
        refine lv_sipush (v := 2008) hx hb dX12_smellsTo_18 (by decide) ?_
        refine ldR_ia X hP sR_1 zR_1 (by decide) dX12_smellsTo_21 ?_
        refine topE (y := (gI M17 1 2008)) rfl ?_
        obtain ⟨r20, M21, hc22, h⟩ := bnd_inv h
        refine gV_i (As := [.int (92 : Int32), .int (gI M17 1 2008)]) X hP hS hl.1 (c_X12_findHere l D cA q aK aV hq hc22) sf_X12_findHere bw_1569 sv_X12_findHere (rcR_12 sR_0) rfl ⟨rfl, rfl⟩ ⟨Nat.le_of_ble_eq_true rfl, Nat.le_of_ble_eq_true rfl⟩ rfl rfl (Nat.le_of_ble_eq_true rfl) dX12_smellsTo_22 (fun H locs hP hS => ?_)
        refine lv_istore_n (lv' := [(3, .int r20), (0, .ref (q 0)), (1, .int a1), (2, .int b2)]) hx hb dX12_smellsTo_25 rfl hl (by decide) rfl (fun ls hl => ?_)
        refine lv_iload_n hx hb dX12_smellsTo_26 rfl (lv_at hl 0 rfl) ?_
        refine lv_iconst (v := -1) hx hb dX12_smellsTo_27 (by decide) ?_
        refine lv_icmp_ne (tgt := 37) hx hb dX12_smellsTo_28 (by decide) (fun c23 => ?_) (fun c23 => ?_)
        · rw [if_neg c23] at h
          refine lv_iload_n hx hb dX12_smellsTo_37 rfl (lv_at hl 3 rfl) ?_
          refine lv_iload_n hx hb dX12_smellsTo_38 rfl (lv_at hl 0 rfl) ?_
          refine lv_ishr hx hb dX12_smellsTo_39 ?_
          refine lv_iconst (v := 1) hx hb dX12_smellsTo_40 (by decide) ?_
          refine lv_iand hx hb dX12_smellsTo_41 ?_
          refine lv_iconst (v := 1) hx hb dX12_smellsTo_42 (by decide) ?_
          refine lv_icmp_ne (tgt := 52) hx hb dX12_smellsTo_43 (by decide) (fun c24 => ?_) (fun c24 => ?_)
          · rw [if_neg c24] at h
            refine lv_iload_n hx hb dX12_smellsTo_52 rfl (lv_at hl 3 rfl) ?_
            refine lv_iconst (v := 1) hx hb dX12_smellsTo_53 (by decide) ?_
            refine lv_iload_n hx hb dX12_smellsTo_54 rfl (lv_at hl 0 rfl) ?_
            refine lv_ishl hx hb dX12_smellsTo_55 ?_
            refine lv_ior hx hb dX12_smellsTo_56 ?_
            obtain ⟨y25, ey25, h⟩ := lt_inv h
            refine topE ey25 ?_
            refine lv_istore_n (lv' := [(2, .int y25), (3, .int r20), (0, .ref (q 0)), (1, .int a1)]) hx hb dX12_smellsTo_57 rfl hl (by decide) rfl (fun ls hl => ?_)
            refine lv_aload_n hx hb dX12_smellsTo_58 rfl (lv_at hl 2 rfl) ?_
            obtain ⟨_, M27, hc28, h⟩ := bnd_inv h
            refine gV_v (As := []) X hP hS hl.1 (c_X12_ahead l D cA q aK aV hq hc28) sf_X12_ahead bw_1514 sv_X12_ahead (rcR_12 sR_0) rfl ⟨rfl, rfl⟩ ⟨Nat.le_of_ble_eq_true rfl, Nat.le_of_ble_eq_true rfl⟩ rfl rfl (Nat.le_of_ble_eq_true rfl) dX12_smellsTo_59 (fun H locs hP hS => ?_)
            refine lv_goto (tgt := 2) hx hb dX12_smellsTo_62 (by decide) ?_
            exact ih _ _ res _ _ _ h hP hS (lv_sub hl [2, 3, 0] rfl) K2_0 K2_1 K2_2
          · rw [if_pos c24] at h
            cases h
            exact K2_1 rfl _ _ _ hP hS (lv_sub hl [1] rfl)
        · rw [if_pos c23] at h
          cases h
          exact K2_0 rfl _ _ _ hP hS (lv_sub hl [1] rfl)
  refine lv_iconst (v := 0) hx hb dX12_smellsTo_0 (by decide) ?_
  refine lv_istore_n (lv' := [(2, .int (0 : Int32)), (0, .ref (q 0)), (1, .int a1)]) hx hb dX12_smellsTo_1 rfl hl (by decide) rfl (fun ls hl => ?_)
  obtain ⟨s1, M2, hc3, h⟩ := bnd_inv h
  obtain ⟨k4, x5⟩ := s1
  try dsimp only at h
  refine hL2  fz _ _ _ _ _ _ hc3 hP hS (lv_sub hl [1, 2, 0] rfl) (fun hke H locs ls hP hS hl => ?_) (fun hke H locs ls hP hS hl => ?_) (fun hke H locs ls hP hS hl => ?_)
  · have hke : k4 = 0 := hke
    have hl : lv_has ls 4 [(0, .ref (q 0))] := hl
    subst hke
    rw [if_pos rfl] at h
    refine lv_aload_n hx hb dX12_smellsTo_31 rfl (lv_at hl 0 rfl) ?_
    refine lv_iconst (v := 3) hx hb dX12_smellsTo_32 (by decide) ?_
    obtain ⟨r6, M7, hc8, h⟩ := bnd_inv h
    refine gV_i (As := [.int (3 : Int32)]) X hP hS hl.1 (c_X12_fails l D cA q aK aV hq hc8) sf_X12_fails bw_1545 sv_X12_fails (rcR_12 sR_0) rfl ⟨rfl, rfl⟩ ⟨Nat.le_of_ble_eq_true rfl, Nat.le_of_ble_eq_true rfl⟩ rfl rfl (Nat.le_of_ble_eq_true rfl) dX12_smellsTo_33 (fun H locs hP hS => ?_)
    obtain ⟨g9, h⟩ := gd_inv h
    exact end_z X hr hk hP hS (Decidable.not_not.mp g9) h dX12_smellsTo_36
  · have hke : k4 = 1 := hke
    have hl : lv_has ls 4 [(0, .ref (q 0))] := hl
    subst hke
    rw [if_neg (by decide), if_pos rfl] at h
    refine lv_aload_n hx hb dX12_smellsTo_46 rfl (lv_at hl 0 rfl) ?_
    refine lv_iconst (v := 5) hx hb dX12_smellsTo_47 (by decide) ?_
    obtain ⟨r10, M11, hc12, h⟩ := bnd_inv h
    refine gV_i (As := [.int (5 : Int32)]) X hP hS hl.1 (c_X12_fails l D cA q aK aV hq hc12) sf_X12_fails bw_1545 sv_X12_fails (rcR_12 sR_0) rfl ⟨rfl, rfl⟩ ⟨Nat.le_of_ble_eq_true rfl, Nat.le_of_ble_eq_true rfl⟩ rfl rfl (Nat.le_of_ble_eq_true rfl) dX12_smellsTo_48 (fun H locs hP hS => ?_)
    obtain ⟨g13, h⟩ := gd_inv h
    exact end_z X hr hk hP hS (Decidable.not_not.mp g13) h dX12_smellsTo_51
  · have hke : k4 = 2 := hke
    have hl : lv_has ls 4 [(0, .ref (q 0)), (1, .int a1), (2, .int x5)] := hl
    subst hke
    rw [if_neg (by decide), if_neg (by decide)] at h
    refine lv_aload_n hx hb dX12_smellsTo_65 rfl (lv_at hl 0 rfl) ?_
    refine gfR_12_0 X hP sR_0 bw_1323 dX12_smellsTo_66 ?_
    refine lv_iload_n hx hb dX12_smellsTo_69 rfl (lv_at hl 1 rfl) ?_
    refine lv_iload_n hx hb dX12_smellsTo_70 rfl (lv_at hl 2 rfl) ?_
    obtain ⟨g14, h⟩ := gd_inv h
    obtain ⟨M15, eM15, h⟩ := lt_inv h
    refine stR_ia X hP hS sR_1 zR_1 g14 eM15 dX12_smellsTo_71 (fun H locs hP hS => ?_)
    refine lv_iconst (v := 1) hx hb dX12_smellsTo_72 (by decide) ?_
    exact end_z X hr hk hP hS (Or.inr rfl) h dX12_smellsTo_73
theorem dX12_aPerson_0 : decode cX12_aPerson 0 = .ok (.sipush 2008, 3) := by decide +kernel
theorem dX12_aPerson_3 : decode cX12_aPerson 3 = .ok (.aload_n 0, 1) := by decide +kernel
theorem dX12_aPerson_4 : decode cX12_aPerson 4 = .ok (.getfield 7, 3) := by decide +kernel
theorem dX12_aPerson_7 : decode cX12_aPerson 7 = .ok (.sipush 2011, 3) := by decide +kernel
theorem dX12_aPerson_10 : decode cX12_aPerson 10 = .ok (.iaload, 1) := by decide +kernel
theorem dX12_aPerson_11 : decode cX12_aPerson 11 = .ok (.invokestatic 224, 3) := by decide +kernel
theorem dX12_aPerson_14 : decode cX12_aPerson 14 = .ok (.iadd, 1) := by decide +kernel
theorem dX12_aPerson_15 : decode cX12_aPerson 15 = .ok (.istore_n 1, 1) := by decide +kernel
theorem dX12_aPerson_16 : decode cX12_aPerson 16 = .ok (.aload_n 0, 1) := by decide +kernel
theorem dX12_aPerson_17 : decode cX12_aPerson 17 = .ok (.iconst 3, 1) := by decide +kernel
theorem dX12_aPerson_18 : decode cX12_aPerson 18 = .ok (.bipush 6, 2) := by decide +kernel
theorem dX12_aPerson_20 : decode cX12_aPerson 20 = .ok (.bipush 11, 2) := by decide +kernel
theorem dX12_aPerson_22 : decode cX12_aPerson 22 = .ok (.invokevirtual 201, 3) := by decide +kernel
theorem dX12_aPerson_25 : decode cX12_aPerson 25 = .ok (.ifCond .ne 5, 3) := by decide +kernel
theorem dX12_aPerson_28 : decode cX12_aPerson 28 = .ok (.iconst 0, 1) := by decide +kernel
theorem dX12_aPerson_29 : decode cX12_aPerson 29 = .ok (.ireturn, 1) := by decide +kernel
theorem dX12_aPerson_30 : decode cX12_aPerson 30 = .ok (.aload_n 0, 1) := by decide +kernel
theorem dX12_aPerson_31 : decode cX12_aPerson 31 = .ok (.getfield 7, 3) := by decide +kernel
theorem dX12_aPerson_34 : decode cX12_aPerson 34 = .ok (.iload_n 1, 1) := by decide +kernel
theorem dX12_aPerson_35 : decode cX12_aPerson 35 = .ok (.iconst 3, 1) := by decide +kernel
theorem dX12_aPerson_36 : decode cX12_aPerson 36 = .ok (.iadd, 1) := by decide +kernel
theorem dX12_aPerson_37 : decode cX12_aPerson 37 = .ok (.aload_n 0, 1) := by decide +kernel
theorem dX12_aPerson_38 : decode cX12_aPerson 38 = .ok (.bipush 8, 2) := by decide +kernel
theorem dX12_aPerson_40 : decode cX12_aPerson 40 = .ok (.invokevirtual 209, 3) := by decide +kernel
theorem dX12_aPerson_43 : decode cX12_aPerson 43 = .ok (.ifCond .eq 7, 3) := by decide +kernel
theorem dX12_aPerson_46 : decode cX12_aPerson 46 = .ok (.iconst 1, 1) := by decide +kernel
theorem dX12_aPerson_47 : decode cX12_aPerson 47 = .ok (.goto 4, 3) := by decide +kernel
theorem dX12_aPerson_50 : decode cX12_aPerson 50 = .ok (.iconst 0, 1) := by decide +kernel
theorem dX12_aPerson_51 : decode cX12_aPerson 51 = .ok (.iastore, 1) := by decide +kernel
theorem dX12_aPerson_52 : decode cX12_aPerson 52 = .ok (.aload_n 0, 1) := by decide +kernel
theorem dX12_aPerson_53 : decode cX12_aPerson 53 = .ok (.bipush 10, 2) := by decide +kernel
theorem dX12_aPerson_55 : decode cX12_aPerson 55 = .ok (.invokevirtual 209, 3) := by decide +kernel
theorem dX12_aPerson_58 : decode cX12_aPerson 58 = .ok (.ifCond .eq 16, 3) := by decide +kernel
theorem dX12_aPerson_61 : decode cX12_aPerson 61 = .ok (.aload_n 0, 1) := by decide +kernel
theorem dX12_aPerson_62 : decode cX12_aPerson 62 = .ok (.iload_n 1, 1) := by decide +kernel
theorem dX12_aPerson_63 : decode cX12_aPerson 63 = .ok (.iconst 0, 1) := by decide +kernel
theorem dX12_aPerson_64 : decode cX12_aPerson 64 = .ok (.bipush 99, 2) := by decide +kernel
theorem dX12_aPerson_66 : decode cX12_aPerson 66 = .ok (.invokevirtual 212, 3) := by decide +kernel
theorem dX12_aPerson_69 : decode cX12_aPerson 69 = .ok (.ifCond .ne 5, 3) := by decide +kernel
theorem dX12_aPerson_72 : decode cX12_aPerson 72 = .ok (.iconst 0, 1) := by decide +kernel
theorem dX12_aPerson_73 : decode cX12_aPerson 73 = .ok (.ireturn, 1) := by decide +kernel
theorem dX12_aPerson_74 : decode cX12_aPerson 74 = .ok (.aload_n 0, 1) := by decide +kernel
theorem dX12_aPerson_75 : decode cX12_aPerson 75 = .ok (.bipush 12, 2) := by decide +kernel
theorem dX12_aPerson_77 : decode cX12_aPerson 77 = .ok (.invokevirtual 209, 3) := by decide +kernel
theorem dX12_aPerson_80 : decode cX12_aPerson 80 = .ok (.ifCond .eq 15, 3) := by decide +kernel
theorem dX12_aPerson_83 : decode cX12_aPerson 83 = .ok (.aload_n 0, 1) := by decide +kernel
theorem dX12_aPerson_84 : decode cX12_aPerson 84 = .ok (.iload_n 1, 1) := by decide +kernel
theorem dX12_aPerson_85 : decode cX12_aPerson 85 = .ok (.iconst 1, 1) := by decide +kernel
theorem dX12_aPerson_86 : decode cX12_aPerson 86 = .ok (.iadd, 1) := by decide +kernel
theorem dX12_aPerson_87 : decode cX12_aPerson 87 = .ok (.invokevirtual 227, 3) := by decide +kernel
theorem dX12_aPerson_90 : decode cX12_aPerson 90 = .ok (.ifCond .ne 5, 3) := by decide +kernel
theorem dX12_aPerson_93 : decode cX12_aPerson 93 = .ok (.iconst 0, 1) := by decide +kernel
theorem dX12_aPerson_94 : decode cX12_aPerson 94 = .ok (.ireturn, 1) := by decide +kernel
theorem dX12_aPerson_95 : decode cX12_aPerson 95 = .ok (.aload_n 0, 1) := by decide +kernel
theorem dX12_aPerson_96 : decode cX12_aPerson 96 = .ok (.getfield 7, 3) := by decide +kernel
theorem dX12_aPerson_99 : decode cX12_aPerson 99 = .ok (.sipush 2011, 3) := by decide +kernel
theorem dX12_aPerson_102 : decode cX12_aPerson 102 = .ok (.dup2, 1) := by decide +kernel
theorem dX12_aPerson_103 : decode cX12_aPerson 103 = .ok (.iaload, 1) := by decide +kernel
theorem dX12_aPerson_104 : decode cX12_aPerson 104 = .ok (.iconst 1, 1) := by decide +kernel
theorem dX12_aPerson_105 : decode cX12_aPerson 105 = .ok (.iadd, 1) := by decide +kernel
theorem dX12_aPerson_106 : decode cX12_aPerson 106 = .ok (.iastore, 1) := by decide +kernel
theorem dX12_aPerson_107 : decode cX12_aPerson 107 = .ok (.iconst 1, 1) := by decide +kernel
theorem dX12_aPerson_108 : decode cX12_aPerson 108 = .ok (.ireturn, 1) := by decide +kernel
set_option maxRecDepth 100000 in
set_option maxHeartbeats 8000000 in
theorem c_X12_aPerson (l : Launch) (D : va_G) (cA : Nat → ClassId) (q aK aV : Nat → Nat) (hq : injG 20 q) {M M0 : Mem} {r0 : Int32} (h : f_X12_aPerson M = some (r0, M0)) : Met l yX12_aPerson (.code yX12_aPerson cX12_aPerson 2 (some .boolean) :: BW) ({ frames := 10, cells := 0, slots := 0, locals := 251 } : Room) (va_Pc [.ref (q 0)] (CB 20 (ceR cA q) D cA q aK aV M)) (Qi 20 (ceR cA q) D q r0 M0) 0 0 (AqG 20 q) := by
  refine gMet RX12 (by decide +kernel) rfl hq (Nat.le_of_ble_eq_true rfl) ?_
  intro p e s m below meth c ls X hr hk hP hS hl
  have hx := X.1
  have hb := X.2.1
  have hl : lv_has ls 2 [(0, .ref (q 0))] := hl
  rw [f_X12_aPerson] at h
  have hJ95 : ∀ (M : Mem) (H : Heap) (locs : List Loc) (ls : Array Slot), f_X12_aPerson_J95 M = some (r0, M0) → va_P D vwCl (wsG 20 (ceR cA q) q M) H → va_S (AqG 20 q) s.heap H locs → lv_has ls 2 [(0, .ref (q 0))] → W p l e ({ frames := 10, cells := 0, slots := 0, locals := 251 } : Room) s m [.ref (q 0)].toArray below meth c H locs 0 0 (MQ below (Qi 20 (ceR cA q) D q r0 M0) [.ref (q 0)].toArray s 0 0 (AqG 20 q)) (F0 m 95 ls []) := by
    intro M H locs ls h hP hS hl
    rw [f_X12_aPerson_J95] at h
    refine lv_aload_n hx hb dX12_aPerson_95 rfl (lv_at hl 0 rfl) ?_
    refine gfR_12_0 X hP sR_0 bw_1323 dX12_aPerson_96 ?_
    refine lv_sipush (v := 2011) hx hb dX12_aPerson_99 (by decide) ?_
    refine lv_dup2_11 hx hb dX12_aPerson_102 rfl rfl ?_
    refine ldR_ia X hP sR_1 zR_1 (by decide) dX12_aPerson_103 ?_
    refine topE (y := (gI M 1 2011)) rfl ?_
    refine lv_iconst (v := 1) hx hb dX12_aPerson_104 (by decide) ?_
    refine lv_iadd hx hb dX12_aPerson_105 ?_
    obtain ⟨M31, eM31, h⟩ := lt_inv h
    refine stR_ia X hP hS sR_1 zR_1 (by decide) eM31 dX12_aPerson_106 (fun H locs hP hS => ?_)
    refine lv_iconst (v := 1) hx hb dX12_aPerson_107 (by decide) ?_
    exact end_z X hr hk hP hS (Or.inr rfl) h dX12_aPerson_108
  have hJ74 : ∀ (b1 : Int32) (M : Mem) (H : Heap) (locs : List Loc) (ls : Array Slot), f_X12_aPerson_J74 b1 M = some (r0, M0) → va_P D vwCl (wsG 20 (ceR cA q) q M) H → va_S (AqG 20 q) s.heap H locs → lv_has ls 2 [(0, .ref (q 0)), (1, .int b1)] → W p l e ({ frames := 10, cells := 0, slots := 0, locals := 251 } : Room) s m [.ref (q 0)].toArray below meth c H locs 0 0 (MQ below (Qi 20 (ceR cA q) D q r0 M0) [.ref (q 0)].toArray s 0 0 (AqG 20 q)) (F0 m 74 ls []) := by
    intro b1 M H locs ls h hP hS hl
    rw [f_X12_aPerson_J74] at h
    refine lv_aload_n hx hb dX12_aPerson_74 rfl (lv_at hl 0 rfl) ?_
    refine lv_bipush (v := 12) hx hb dX12_aPerson_75 (by decide) ?_
    obtain ⟨r23, M24, hc25, h⟩ := bnd_inv h
    refine gV_i (As := [.int (12 : Int32)]) X hP hS hl.1 (c_X12_isThere l D cA q aK aV hq hc25) sf_X12_isThere bw_1600 sv_X12_isThere (rcR_12 sR_0) rfl ⟨rfl, rfl⟩ ⟨Nat.le_of_ble_eq_true rfl, Nat.le_of_ble_eq_true rfl⟩ rfl rfl (Nat.le_of_ble_eq_true rfl) dX12_aPerson_77 (fun H locs hP hS => ?_)
    refine lv_if_eq (tgt := 95) hx hb dX12_aPerson_80 (by decide) (fun c26 => ?_) (fun c26 => ?_)
    · rw [if_pos c26] at h
      exact hJ95  _ _ _ _ h hP hS (lv_sub hl [0] rfl)
    · rw [if_neg c26] at h
      refine lv_aload_n hx hb dX12_aPerson_83 rfl (lv_at hl 0 rfl) ?_
      refine lv_iload_n hx hb dX12_aPerson_84 rfl (lv_at hl 1 rfl) ?_
      refine lv_iconst (v := 1) hx hb dX12_aPerson_85 (by decide) ?_
      refine lv_iadd hx hb dX12_aPerson_86 ?_
      obtain ⟨r27, M28, hc29, h⟩ := bnd_inv h
      refine gV_i (As := [.int (b1 + (1 : Int32))]) X hP hS hl.1 (c_X12_smellsTo l D cA q aK aV hq hc29) sf_X12_smellsTo bw_1619 sv_X12_smellsTo (rcR_12 sR_0) rfl ⟨rfl, rfl⟩ ⟨Nat.le_of_ble_eq_true rfl, Nat.le_of_ble_eq_true rfl⟩ rfl rfl (Nat.le_of_ble_eq_true rfl) dX12_aPerson_87 (fun H locs hP hS => ?_)
      refine lv_if_ne (tgt := 95) hx hb dX12_aPerson_90 (by decide) (fun c30 => ?_) (fun c30 => ?_)
      · rw [if_neg c30] at h
        exact hJ95  _ _ _ _ h hP hS (lv_sub hl [0] rfl)
      · rw [if_pos c30] at h
        refine lv_iconst (v := 0) hx hb dX12_aPerson_93 (by decide) ?_
        exact end_z X hr hk hP hS (Or.inl rfl) h dX12_aPerson_94
  have hJ51 : ∀ (b1 : Int32) (s1 : Int32) (s2 : Int32) (M : Mem) (H : Heap) (locs : List Loc) (ls : Array Slot), f_X12_aPerson_J51 b1 s1 s2 M = some (r0, M0) → va_P D vwCl (wsG 20 (ceR cA q) q M) H → va_S (AqG 20 q) s.heap H locs → lv_has ls 2 [(0, .ref (q 0)), (1, .int b1)] → W p l e ({ frames := 10, cells := 0, slots := 0, locals := 251 } : Room) s m [.ref (q 0)].toArray below meth c H locs 0 0 (MQ below (Qi 20 (ceR cA q) D q r0 M0) [.ref (q 0)].toArray s 0 0 (AqG 20 q)) (F0 m 51 ls [.int s2, .int s1, .ref (q 1)]) := by
    intro b1 s1 s2 M H locs ls h hP hS hl
    rw [f_X12_aPerson_J51] at h
    obtain ⟨g13, h⟩ := gd_inv h
    obtain ⟨M14, eM14, h⟩ := lt_inv h
    refine stR_ia X hP hS sR_1 zR_1 g13 eM14 dX12_aPerson_51 (fun H locs hP hS => ?_)
    refine lv_aload_n hx hb dX12_aPerson_52 rfl (lv_at hl 0 rfl) ?_
    refine lv_bipush (v := 10) hx hb dX12_aPerson_53 (by decide) ?_
    obtain ⟨r15, M16, hc17, h⟩ := bnd_inv h
    refine gV_i (As := [.int (10 : Int32)]) X hP hS hl.1 (c_X12_isThere l D cA q aK aV hq hc17) sf_X12_isThere bw_1600 sv_X12_isThere (rcR_12 sR_0) rfl ⟨rfl, rfl⟩ ⟨Nat.le_of_ble_eq_true rfl, Nat.le_of_ble_eq_true rfl⟩ rfl rfl (Nat.le_of_ble_eq_true rfl) dX12_aPerson_55 (fun H locs hP hS => ?_)
    refine lv_if_eq (tgt := 74) hx hb dX12_aPerson_58 (by decide) (fun c18 => ?_) (fun c18 => ?_)
    · rw [if_pos c18] at h
      exact hJ74 _ _ _ _ _ h hP hS (lv_sub hl [0, 1] rfl)
    · rw [if_neg c18] at h
      refine lv_aload_n hx hb dX12_aPerson_61 rfl (lv_at hl 0 rfl) ?_
      refine lv_iload_n hx hb dX12_aPerson_62 rfl (lv_at hl 1 rfl) ?_
      refine lv_iconst (v := 0) hx hb dX12_aPerson_63 (by decide) ?_
      refine lv_bipush (v := 99) hx hb dX12_aPerson_64 (by decide) ?_
      obtain ⟨r19, M20, hc21, h⟩ := bnd_inv h
      refine gV_i (As := [.int b1, .int (0 : Int32), .int (99 : Int32)]) X hP hS hl.1 (c_X12_number l D cA q aK aV hq hc21) sf_X12_number bw_1608 sv_X12_number (rcR_12 sR_0) rfl ⟨rfl, rfl⟩ ⟨Nat.le_of_ble_eq_true rfl, Nat.le_of_ble_eq_true rfl⟩ rfl rfl (Nat.le_of_ble_eq_true rfl) dX12_aPerson_66 (fun H locs hP hS => ?_)
      refine lv_if_ne (tgt := 74) hx hb dX12_aPerson_69 (by decide) (fun c22 => ?_) (fun c22 => ?_)
      · rw [if_neg c22] at h
        exact hJ74 _ _ _ _ _ h hP hS (lv_sub hl [0, 1] rfl)
      · rw [if_pos c22] at h
        refine lv_iconst (v := 0) hx hb dX12_aPerson_72 (by decide) ?_
        exact end_z X hr hk hP hS (Or.inl rfl) h dX12_aPerson_73
  refine lv_sipush (v := 2008) hx hb dX12_aPerson_0 (by decide) ?_
  refine lv_aload_n hx hb dX12_aPerson_3 rfl (lv_at hl 0 rfl) ?_
  refine gfR_12_0 X hP sR_0 bw_1323 dX12_aPerson_4 ?_
  refine lv_sipush (v := 2011) hx hb dX12_aPerson_7 (by decide) ?_
  refine ldR_ia X hP sR_1 zR_1 (by decide) dX12_aPerson_10 ?_
  refine topE (y := (gI M 1 2011)) rfl ?_
  obtain ⟨r1, M2, hc3, h⟩ := bnd_inv h
  refine gS_i (As := [.int (gI M 1 2011)]) X hP hS hl.1 (c_X12_personRow l D cA q aK aV hq hc3) sf_X12_personRow bw_1616 ss_X12_personRow ⟨rfl, rfl⟩ ⟨Nat.le_of_ble_eq_true rfl, Nat.le_of_ble_eq_true rfl⟩ rfl rfl (Nat.le_of_ble_eq_true rfl) dX12_aPerson_11 (fun H locs hP hS => ?_)
  refine lv_iadd hx hb dX12_aPerson_14 ?_
  obtain ⟨y4, ey4, h⟩ := lt_inv h
  refine topE ey4 ?_
  refine lv_istore_n (lv' := [(1, .int y4), (0, .ref (q 0))]) hx hb dX12_aPerson_15 rfl hl (by decide) rfl (fun ls hl => ?_)
  refine lv_aload_n hx hb dX12_aPerson_16 rfl (lv_at hl 1 rfl) ?_
  refine lv_iconst (v := 3) hx hb dX12_aPerson_17 (by decide) ?_
  refine lv_bipush (v := 6) hx hb dX12_aPerson_18 (by decide) ?_
  refine lv_bipush (v := 11) hx hb dX12_aPerson_20 (by decide) ?_
  obtain ⟨r5, M6, hc7, h⟩ := bnd_inv h
  refine gV_i (As := [.int (3 : Int32), .int (6 : Int32), .int (11 : Int32)]) X hP hS hl.1 (c_X12_newOne l D cA q aK aV hq hc7) sf_X12_newOne bw_1553 sv_X12_newOne (rcR_12 sR_0) rfl ⟨rfl, rfl⟩ ⟨Nat.le_of_ble_eq_true rfl, Nat.le_of_ble_eq_true rfl⟩ rfl rfl (Nat.le_of_ble_eq_true rfl) dX12_aPerson_22 (fun H locs hP hS => ?_)
  refine lv_if_ne (tgt := 30) hx hb dX12_aPerson_25 (by decide) (fun c8 => ?_) (fun c8 => ?_)
  · rw [if_neg c8] at h
    refine lv_aload_n hx hb dX12_aPerson_30 rfl (lv_at hl 1 rfl) ?_
    refine gfR_12_0 X hP sR_0 bw_1323 dX12_aPerson_31 ?_
    refine lv_iload_n hx hb dX12_aPerson_34 rfl (lv_at hl 0 rfl) ?_
    refine lv_iconst (v := 3) hx hb dX12_aPerson_35 (by decide) ?_
    refine lv_iadd hx hb dX12_aPerson_36 ?_
    refine lv_aload_n hx hb dX12_aPerson_37 rfl (lv_at hl 1 rfl) ?_
    refine lv_bipush (v := 8) hx hb dX12_aPerson_38 (by decide) ?_
    obtain ⟨r9, M10, hc11, h⟩ := bnd_inv h
    refine gV_i (As := [.int (8 : Int32)]) X hP hS hl.1 (c_X12_isThere l D cA q aK aV hq hc11) sf_X12_isThere bw_1600 sv_X12_isThere (rcR_12 sR_0) rfl ⟨rfl, rfl⟩ ⟨Nat.le_of_ble_eq_true rfl, Nat.le_of_ble_eq_true rfl⟩ rfl rfl (Nat.le_of_ble_eq_true rfl) dX12_aPerson_40 (fun H locs hP hS => ?_)
    refine lv_if_eq (tgt := 50) hx hb dX12_aPerson_43 (by decide) (fun c12 => ?_) (fun c12 => ?_)
    · rw [if_pos c12] at h
      refine lv_iconst (v := 0) hx hb dX12_aPerson_50 (by decide) ?_
      exact hJ51 _ _ _ _ _ _ _ h hP hS (lv_sub hl [1, 0] rfl)
    · rw [if_neg c12] at h
      refine lv_iconst (v := 1) hx hb dX12_aPerson_46 (by decide) ?_
      refine lv_goto (tgt := 51) hx hb dX12_aPerson_47 (by decide) ?_
      exact hJ51 _ _ _ _ _ _ _ h hP hS (lv_sub hl [1, 0] rfl)
  · rw [if_pos c8] at h
    refine lv_iconst (v := 0) hx hb dX12_aPerson_28 (by decide) ?_
    exact end_z X hr hk hP hS (Or.inl rfl) h dX12_aPerson_29
theorem dX12_aReader_0 : decode cX12_aReader 0 = .ok (.sipush 2110, 3) := by decide +kernel
theorem dX12_aReader_3 : decode cX12_aReader 3 = .ok (.iconst 2, 1) := by decide +kernel
theorem dX12_aReader_4 : decode cX12_aReader 4 = .ok (.aload_n 0, 1) := by decide +kernel
theorem dX12_aReader_5 : decode cX12_aReader 5 = .ok (.getfield 7, 3) := by decide +kernel
theorem dX12_aReader_8 : decode cX12_aReader 8 = .ok (.sipush 2012, 3) := by decide +kernel
theorem dX12_aReader_11 : decode cX12_aReader 11 = .ok (.iaload, 1) := by decide +kernel
theorem dX12_aReader_12 : decode cX12_aReader 12 = .ok (.imul, 1) := by decide +kernel
theorem dX12_aReader_13 : decode cX12_aReader 13 = .ok (.iadd, 1) := by decide +kernel
theorem dX12_aReader_14 : decode cX12_aReader 14 = .ok (.istore_n 1, 1) := by decide +kernel
theorem dX12_aReader_15 : decode cX12_aReader 15 = .ok (.aload_n 0, 1) := by decide +kernel
theorem dX12_aReader_16 : decode cX12_aReader 16 = .ok (.iconst 4, 1) := by decide +kernel
theorem dX12_aReader_17 : decode cX12_aReader 17 = .ok (.bipush 6, 2) := by decide +kernel
theorem dX12_aReader_19 : decode cX12_aReader 19 = .ok (.bipush 17, 2) := by decide +kernel
theorem dX12_aReader_21 : decode cX12_aReader 21 = .ok (.invokevirtual 201, 3) := by decide +kernel
theorem dX12_aReader_24 : decode cX12_aReader 24 = .ok (.ifCond .eq 49, 3) := by decide +kernel
theorem dX12_aReader_27 : decode cX12_aReader 27 = .ok (.aload_n 0, 1) := by decide +kernel
theorem dX12_aReader_28 : decode cX12_aReader 28 = .ok (.ldc 184, 2) := by decide +kernel
theorem dX12_aReader_30 : decode cX12_aReader 30 = .ok (.bipush 13, 2) := by decide +kernel
theorem dX12_aReader_32 : decode cX12_aReader 32 = .ok (.invokevirtual 205, 3) := by decide +kernel
theorem dX12_aReader_35 : decode cX12_aReader 35 = .ok (.ifCond .eq 38, 3) := by decide +kernel
theorem dX12_aReader_38 : decode cX12_aReader 38 = .ok (.aload_n 0, 1) := by decide +kernel
theorem dX12_aReader_39 : decode cX12_aReader 39 = .ok (.iload_n 1, 1) := by decide +kernel
theorem dX12_aReader_40 : decode cX12_aReader 40 = .ok (.iconst 0, 1) := by decide +kernel
theorem dX12_aReader_41 : decode cX12_aReader 41 = .ok (.bipush 16, 2) := by decide +kernel
theorem dX12_aReader_43 : decode cX12_aReader 43 = .ok (.invokevirtual 212, 3) := by decide +kernel
theorem dX12_aReader_46 : decode cX12_aReader 46 = .ok (.ifCond .eq 27, 3) := by decide +kernel
theorem dX12_aReader_49 : decode cX12_aReader 49 = .ok (.aload_n 0, 1) := by decide +kernel
theorem dX12_aReader_50 : decode cX12_aReader 50 = .ok (.ldc 184, 2) := by decide +kernel
theorem dX12_aReader_52 : decode cX12_aReader 52 = .ok (.bipush 14, 2) := by decide +kernel
theorem dX12_aReader_54 : decode cX12_aReader 54 = .ok (.invokevirtual 205, 3) := by decide +kernel
theorem dX12_aReader_57 : decode cX12_aReader 57 = .ok (.ifCond .eq 16, 3) := by decide +kernel
theorem dX12_aReader_60 : decode cX12_aReader 60 = .ok (.aload_n 0, 1) := by decide +kernel
theorem dX12_aReader_61 : decode cX12_aReader 61 = .ok (.iload_n 1, 1) := by decide +kernel
theorem dX12_aReader_62 : decode cX12_aReader 62 = .ok (.iconst 1, 1) := by decide +kernel
theorem dX12_aReader_63 : decode cX12_aReader 63 = .ok (.iadd, 1) := by decide +kernel
theorem dX12_aReader_64 : decode cX12_aReader 64 = .ok (.iconst 1, 1) := by decide +kernel
theorem dX12_aReader_65 : decode cX12_aReader 65 = .ok (.bipush 9, 2) := by decide +kernel
theorem dX12_aReader_67 : decode cX12_aReader 67 = .ok (.invokevirtual 212, 3) := by decide +kernel
theorem dX12_aReader_70 : decode cX12_aReader 70 = .ok (.ifCond .ne 5, 3) := by decide +kernel
theorem dX12_aReader_73 : decode cX12_aReader 73 = .ok (.iconst 0, 1) := by decide +kernel
theorem dX12_aReader_74 : decode cX12_aReader 74 = .ok (.ireturn, 1) := by decide +kernel
theorem dX12_aReader_75 : decode cX12_aReader 75 = .ok (.aload_n 0, 1) := by decide +kernel
theorem dX12_aReader_76 : decode cX12_aReader 76 = .ok (.getfield 7, 3) := by decide +kernel
theorem dX12_aReader_79 : decode cX12_aReader 79 = .ok (.sipush 2012, 3) := by decide +kernel
theorem dX12_aReader_82 : decode cX12_aReader 82 = .ok (.dup2, 1) := by decide +kernel
theorem dX12_aReader_83 : decode cX12_aReader 83 = .ok (.iaload, 1) := by decide +kernel
theorem dX12_aReader_84 : decode cX12_aReader 84 = .ok (.iconst 1, 1) := by decide +kernel
theorem dX12_aReader_85 : decode cX12_aReader 85 = .ok (.iadd, 1) := by decide +kernel
theorem dX12_aReader_86 : decode cX12_aReader 86 = .ok (.iastore, 1) := by decide +kernel
theorem dX12_aReader_87 : decode cX12_aReader 87 = .ok (.iconst 1, 1) := by decide +kernel
theorem dX12_aReader_88 : decode cX12_aReader 88 = .ok (.ireturn, 1) := by decide +kernel
set_option maxRecDepth 100000 in
set_option maxHeartbeats 8000000 in
theorem c_X12_aReader (l : Launch) (D : va_G) (cA : Nat → ClassId) (q aK aV : Nat → Nat) (hq : injG 20 q) {M M0 : Mem} {r0 : Int32} (h : f_X12_aReader M = some (r0, M0)) : Met l yX12_aReader (.code yX12_aReader cX12_aReader 2 (some .boolean) :: BW) ({ frames := 10, cells := 0, slots := 0, locals := 251 } : Room) (va_Pc [.ref (q 0)] (CB 20 (ceR cA q) D cA q aK aV M)) (Qi 20 (ceR cA q) D q r0 M0) 0 0 (AqG 20 q) := by
  refine gMet RX12 (by decide +kernel) rfl hq (Nat.le_of_ble_eq_true rfl) ?_
  intro p e s m below meth c ls X hr hk hP hS hl
  have hx := X.1
  have hb := X.2.1
  have hl : lv_has ls 2 [(0, .ref (q 0))] := hl
  rw [f_X12_aReader] at h
  refine lv_sipush (v := 2110) hx hb dX12_aReader_0 (by decide) ?_
  refine lv_iconst (v := 2) hx hb dX12_aReader_3 (by decide) ?_
  refine lv_aload_n hx hb dX12_aReader_4 rfl (lv_at hl 0 rfl) ?_
  refine gfR_12_0 X hP sR_0 bw_1323 dX12_aReader_5 ?_
  refine lv_sipush (v := 2012) hx hb dX12_aReader_8 (by decide) ?_
  refine ldR_ia X hP sR_1 zR_1 (by decide) dX12_aReader_11 ?_
  refine topE (y := (gI M 1 2012)) rfl ?_
  refine lv_imul hx hb dX12_aReader_12 ?_
  refine lv_iadd hx hb dX12_aReader_13 ?_
  obtain ⟨y1, ey1, h⟩ := lt_inv h
  refine topE ey1 ?_
  refine lv_istore_n (lv' := [(1, .int y1), (0, .ref (q 0))]) hx hb dX12_aReader_14 rfl hl (by decide) rfl (fun ls hl => ?_)
  refine lv_aload_n hx hb dX12_aReader_15 rfl (lv_at hl 1 rfl) ?_
  refine lv_iconst (v := 4) hx hb dX12_aReader_16 (by decide) ?_
  refine lv_bipush (v := 6) hx hb dX12_aReader_17 (by decide) ?_
  refine lv_bipush (v := 17) hx hb dX12_aReader_19 (by decide) ?_
  obtain ⟨r2, M3, hc4, h⟩ := bnd_inv h
  refine gV_i (As := [.int (4 : Int32), .int (6 : Int32), .int (17 : Int32)]) X hP hS hl.1 (c_X12_newOne l D cA q aK aV hq hc4) sf_X12_newOne bw_1553 sv_X12_newOne (rcR_12 sR_0) rfl ⟨rfl, rfl⟩ ⟨Nat.le_of_ble_eq_true rfl, Nat.le_of_ble_eq_true rfl⟩ rfl rfl (Nat.le_of_ble_eq_true rfl) dX12_aReader_21 (fun H locs hP hS => ?_)
  refine lv_if_eq (tgt := 73) hx hb dX12_aReader_24 (by decide) (fun c5 => ?_) (fun c5 => ?_)
  · rw [if_pos c5] at h
    refine lv_iconst (v := 0) hx hb dX12_aReader_73 (by decide) ?_
    exact end_z X hr hk hP hS (Or.inl rfl) h dX12_aReader_74
  · rw [if_neg c5] at h
    refine lv_aload_n hx hb dX12_aReader_27 rfl (lv_at hl 1 rfl) ?_
    refine va_ldcS hx hb X.2.2.2.1 (X_k1 X) dX12_aReader_28 ?_
    refine lv_bipush (v := 13) hx hb dX12_aReader_30 (by decide) ?_
    obtain ⟨r6, M7, hc8, h⟩ := bnd_inv h
    refine gV_i (As := [.ref (aK 1), .int (13 : Int32)]) X hP hS hl.1 (c_X12_wantWord l D cA q aK aV hq hc8) sf_X12_wantWord bw_1581 sv_X12_wantWord (rcR_12 sR_0) rfl ⟨rfl, rfl⟩ ⟨Nat.le_of_ble_eq_true rfl, Nat.le_of_ble_eq_true rfl⟩ rfl rfl (Nat.le_of_ble_eq_true rfl) dX12_aReader_32 (fun H locs hP hS => ?_)
    refine lv_if_eq (tgt := 73) hx hb dX12_aReader_35 (by decide) (fun c9 => ?_) (fun c9 => ?_)
    · rw [if_pos c9] at h
      refine lv_iconst (v := 0) hx hb dX12_aReader_73 (by decide) ?_
      exact end_z X hr hk hP hS (Or.inl rfl) h dX12_aReader_74
    · rw [if_neg c9] at h
      refine lv_aload_n hx hb dX12_aReader_38 rfl (lv_at hl 1 rfl) ?_
      refine lv_iload_n hx hb dX12_aReader_39 rfl (lv_at hl 0 rfl) ?_
      refine lv_iconst (v := 0) hx hb dX12_aReader_40 (by decide) ?_
      refine lv_bipush (v := 16) hx hb dX12_aReader_41 (by decide) ?_
      obtain ⟨r10, M11, hc12, h⟩ := bnd_inv h
      refine gV_i (As := [.int y1, .int (0 : Int32), .int (16 : Int32)]) X hP hS hl.1 (c_X12_number l D cA q aK aV hq hc12) sf_X12_number bw_1608 sv_X12_number (rcR_12 sR_0) rfl ⟨rfl, rfl⟩ ⟨Nat.le_of_ble_eq_true rfl, Nat.le_of_ble_eq_true rfl⟩ rfl rfl (Nat.le_of_ble_eq_true rfl) dX12_aReader_43 (fun H locs hP hS => ?_)
      refine lv_if_eq (tgt := 73) hx hb dX12_aReader_46 (by decide) (fun c13 => ?_) (fun c13 => ?_)
      · rw [if_pos c13] at h
        refine lv_iconst (v := 0) hx hb dX12_aReader_73 (by decide) ?_
        exact end_z X hr hk hP hS (Or.inl rfl) h dX12_aReader_74
      · rw [if_neg c13] at h
        refine lv_aload_n hx hb dX12_aReader_49 rfl (lv_at hl 1 rfl) ?_
        refine va_ldcS hx hb X.2.2.2.1 (X_k1 X) dX12_aReader_50 ?_
        refine lv_bipush (v := 14) hx hb dX12_aReader_52 (by decide) ?_
        obtain ⟨r14, M15, hc16, h⟩ := bnd_inv h
        refine gV_i (As := [.ref (aK 1), .int (14 : Int32)]) X hP hS hl.1 (c_X12_wantWord l D cA q aK aV hq hc16) sf_X12_wantWord bw_1581 sv_X12_wantWord (rcR_12 sR_0) rfl ⟨rfl, rfl⟩ ⟨Nat.le_of_ble_eq_true rfl, Nat.le_of_ble_eq_true rfl⟩ rfl rfl (Nat.le_of_ble_eq_true rfl) dX12_aReader_54 (fun H locs hP hS => ?_)
        refine lv_if_eq (tgt := 73) hx hb dX12_aReader_57 (by decide) (fun c17 => ?_) (fun c17 => ?_)
        · rw [if_pos c17] at h
          refine lv_iconst (v := 0) hx hb dX12_aReader_73 (by decide) ?_
          exact end_z X hr hk hP hS (Or.inl rfl) h dX12_aReader_74
        · rw [if_neg c17] at h
          refine lv_aload_n hx hb dX12_aReader_60 rfl (lv_at hl 1 rfl) ?_
          refine lv_iload_n hx hb dX12_aReader_61 rfl (lv_at hl 0 rfl) ?_
          refine lv_iconst (v := 1) hx hb dX12_aReader_62 (by decide) ?_
          refine lv_iadd hx hb dX12_aReader_63 ?_
          refine lv_iconst (v := 1) hx hb dX12_aReader_64 (by decide) ?_
          refine lv_bipush (v := 9) hx hb dX12_aReader_65 (by decide) ?_
          obtain ⟨r18, M19, hc20, h⟩ := bnd_inv h
          refine gV_i (As := [.int (y1 + (1 : Int32)), .int (1 : Int32), .int (9 : Int32)]) X hP hS hl.1 (c_X12_number l D cA q aK aV hq hc20) sf_X12_number bw_1608 sv_X12_number (rcR_12 sR_0) rfl ⟨rfl, rfl⟩ ⟨Nat.le_of_ble_eq_true rfl, Nat.le_of_ble_eq_true rfl⟩ rfl rfl (Nat.le_of_ble_eq_true rfl) dX12_aReader_67 (fun H locs hP hS => ?_)
          refine lv_if_ne (tgt := 75) hx hb dX12_aReader_70 (by decide) (fun c21 => ?_) (fun c21 => ?_)
          · rw [if_neg c21] at h
            refine lv_aload_n hx hb dX12_aReader_75 rfl (lv_at hl 1 rfl) ?_
            refine gfR_12_0 X hP sR_0 bw_1323 dX12_aReader_76 ?_
            refine lv_sipush (v := 2012) hx hb dX12_aReader_79 (by decide) ?_
            refine lv_dup2_11 hx hb dX12_aReader_82 rfl rfl ?_
            refine ldR_ia X hP sR_1 zR_1 (by decide) dX12_aReader_83 ?_
            refine topE (y := (gI M19 1 2012)) rfl ?_
            refine lv_iconst (v := 1) hx hb dX12_aReader_84 (by decide) ?_
            refine lv_iadd hx hb dX12_aReader_85 ?_
            obtain ⟨M22, eM22, h⟩ := lt_inv h
            refine stR_ia X hP hS sR_1 zR_1 (by decide) eM22 dX12_aReader_86 (fun H locs hP hS => ?_)
            refine lv_iconst (v := 1) hx hb dX12_aReader_87 (by decide) ?_
            exact end_z X hr hk hP hS (Or.inr rfl) h dX12_aReader_88
          · rw [if_pos c21] at h
            refine lv_iconst (v := 0) hx hb dX12_aReader_73 (by decide) ?_
            exact end_z X hr hk hP hS (Or.inl rfl) h dX12_aReader_74
theorem dX12_aWord_0 : decode cX12_aWord 0 = .ok (.aload_n 0, 1) := by decide +kernel
theorem dX12_aWord_1 : decode cX12_aWord 1 = .ok (.iconst 5, 1) := by decide +kernel
theorem dX12_aWord_2 : decode cX12_aWord 2 = .ok (.bipush 10, 2) := by decide +kernel
theorem dX12_aWord_4 : decode cX12_aWord 4 = .ok (.invokevirtual 189, 3) := by decide +kernel
theorem dX12_aWord_7 : decode cX12_aWord 7 = .ok (.ifCond .eq 10, 3) := by decide +kernel
theorem dX12_aWord_10 : decode cX12_aWord 10 = .ok (.aload_n 0, 1) := by decide +kernel
theorem dX12_aWord_11 : decode cX12_aWord 11 = .ok (.bipush 6, 2) := by decide +kernel
theorem dX12_aWord_13 : decode cX12_aWord 13 = .ok (.invokevirtual 173, 3) := by decide +kernel
theorem dX12_aWord_16 : decode cX12_aWord 16 = .ok (.ireturn, 1) := by decide +kernel
theorem dX12_aWord_17 : decode cX12_aWord 17 = .ok (.sipush 2122, 3) := by decide +kernel
theorem dX12_aWord_20 : decode cX12_aWord 20 = .ok (.iconst 2, 1) := by decide +kernel
theorem dX12_aWord_21 : decode cX12_aWord 21 = .ok (.aload_n 0, 1) := by decide +kernel
theorem dX12_aWord_22 : decode cX12_aWord 22 = .ok (.getfield 7, 3) := by decide +kernel
theorem dX12_aWord_25 : decode cX12_aWord 25 = .ok (.sipush 2013, 3) := by decide +kernel
theorem dX12_aWord_28 : decode cX12_aWord 28 = .ok (.iaload, 1) := by decide +kernel
theorem dX12_aWord_29 : decode cX12_aWord 29 = .ok (.imul, 1) := by decide +kernel
theorem dX12_aWord_30 : decode cX12_aWord 30 = .ok (.iadd, 1) := by decide +kernel
theorem dX12_aWord_31 : decode cX12_aWord 31 = .ok (.istore_n 1, 1) := by decide +kernel
theorem dX12_aWord_32 : decode cX12_aWord 32 = .ok (.aload_n 0, 1) := by decide +kernel
theorem dX12_aWord_33 : decode cX12_aWord 33 = .ok (.invokevirtual 167, 3) := by decide +kernel
theorem dX12_aWord_36 : decode cX12_aWord 36 = .ok (.aload_n 0, 1) := by decide +kernel
theorem dX12_aWord_37 : decode cX12_aWord 37 = .ok (.bipush 103, 2) := by decide +kernel
theorem dX12_aWord_39 : decode cX12_aWord 39 = .ok (.aload_n 0, 1) := by decide +kernel
theorem dX12_aWord_40 : decode cX12_aWord 40 = .ok (.getfield 7, 3) := by decide +kernel
theorem dX12_aWord_43 : decode cX12_aWord 43 = .ok (.sipush 2011, 3) := by decide +kernel
theorem dX12_aWord_46 : decode cX12_aWord 46 = .ok (.iaload, 1) := by decide +kernel
theorem dX12_aWord_47 : decode cX12_aWord 47 = .ok (.iload_n 1, 1) := by decide +kernel
theorem dX12_aWord_48 : decode cX12_aWord 48 = .ok (.invokevirtual 218, 3) := by decide +kernel
theorem dX12_aWord_51 : decode cX12_aWord 51 = .ok (.ifCond .ne 5, 3) := by decide +kernel
theorem dX12_aWord_54 : decode cX12_aWord 54 = .ok (.iconst 0, 1) := by decide +kernel
theorem dX12_aWord_55 : decode cX12_aWord 55 = .ok (.ireturn, 1) := by decide +kernel
theorem dX12_aWord_56 : decode cX12_aWord 56 = .ok (.aload_n 0, 1) := by decide +kernel
theorem dX12_aWord_57 : decode cX12_aWord 57 = .ok (.ldc 184, 2) := by decide +kernel
theorem dX12_aWord_59 : decode cX12_aWord 59 = .ok (.invokevirtual 176, 3) := by decide +kernel
theorem dX12_aWord_62 : decode cX12_aWord 62 = .ok (.istore_n 2, 1) := by decide +kernel
theorem dX12_aWord_63 : decode cX12_aWord 63 = .ok (.iload_n 2, 1) := by decide +kernel
theorem dX12_aWord_64 : decode cX12_aWord 64 = .ok (.bipush 8, 2) := by decide +kernel
theorem dX12_aWord_66 : decode cX12_aWord 66 = .ok (.if_icmp .eq 15, 3) := by decide +kernel
theorem dX12_aWord_69 : decode cX12_aWord 69 = .ok (.iload_n 2, 1) := by decide +kernel
theorem dX12_aWord_70 : decode cX12_aWord 70 = .ok (.bipush 9, 2) := by decide +kernel
theorem dX12_aWord_72 : decode cX12_aWord 72 = .ok (.if_icmp .eq 9, 3) := by decide +kernel
theorem dX12_aWord_75 : decode cX12_aWord 75 = .ok (.aload_n 0, 1) := by decide +kernel
theorem dX12_aWord_76 : decode cX12_aWord 76 = .ok (.iconst 2, 1) := by decide +kernel
theorem dX12_aWord_77 : decode cX12_aWord 77 = .ok (.invokevirtual 173, 3) := by decide +kernel
theorem dX12_aWord_80 : decode cX12_aWord 80 = .ok (.ireturn, 1) := by decide +kernel
theorem dX12_aWord_81 : decode cX12_aWord 81 = .ok (.aload_n 0, 1) := by decide +kernel
theorem dX12_aWord_82 : decode cX12_aWord 82 = .ok (.getfield 7, 3) := by decide +kernel
theorem dX12_aWord_85 : decode cX12_aWord 85 = .ok (.iload_n 1, 1) := by decide +kernel
theorem dX12_aWord_86 : decode cX12_aWord 86 = .ok (.iconst 1, 1) := by decide +kernel
theorem dX12_aWord_87 : decode cX12_aWord 87 = .ok (.iadd, 1) := by decide +kernel
theorem dX12_aWord_88 : decode cX12_aWord 88 = .ok (.iload_n 2, 1) := by decide +kernel
theorem dX12_aWord_89 : decode cX12_aWord 89 = .ok (.bipush 7, 2) := by decide +kernel
theorem dX12_aWord_91 : decode cX12_aWord 91 = .ok (.isub, 1) := by decide +kernel
theorem dX12_aWord_92 : decode cX12_aWord 92 = .ok (.iastore, 1) := by decide +kernel
theorem dX12_aWord_93 : decode cX12_aWord 93 = .ok (.aload_n 0, 1) := by decide +kernel
theorem dX12_aWord_94 : decode cX12_aWord 94 = .ok (.invokevirtual 167, 3) := by decide +kernel
theorem dX12_aWord_97 : decode cX12_aWord 97 = .ok (.aload_n 0, 1) := by decide +kernel
theorem dX12_aWord_98 : decode cX12_aWord 98 = .ok (.getfield 7, 3) := by decide +kernel
theorem dX12_aWord_101 : decode cX12_aWord 101 = .ok (.sipush 2013, 3) := by decide +kernel
theorem dX12_aWord_104 : decode cX12_aWord 104 = .ok (.dup2, 1) := by decide +kernel
theorem dX12_aWord_105 : decode cX12_aWord 105 = .ok (.iaload, 1) := by decide +kernel
theorem dX12_aWord_106 : decode cX12_aWord 106 = .ok (.iconst 1, 1) := by decide +kernel
theorem dX12_aWord_107 : decode cX12_aWord 107 = .ok (.iadd, 1) := by decide +kernel
theorem dX12_aWord_108 : decode cX12_aWord 108 = .ok (.iastore, 1) := by decide +kernel
theorem dX12_aWord_109 : decode cX12_aWord 109 = .ok (.iconst 1, 1) := by decide +kernel
theorem dX12_aWord_110 : decode cX12_aWord 110 = .ok (.ireturn, 1) := by decide +kernel
set_option maxRecDepth 100000 in
set_option maxHeartbeats 8000000 in
theorem c_X12_aWord (l : Launch) (D : va_G) (cA : Nat → ClassId) (q aK aV : Nat → Nat) (hq : injG 20 q) {M M0 : Mem} {r0 : Int32} (h : f_X12_aWord M = some (r0, M0)) : Met l yX12_aWord (.code yX12_aWord cX12_aWord 3 (some .boolean) :: BW) ({ frames := 10, cells := 0, slots := 0, locals := 251 } : Room) (va_Pc [.ref (q 0)] (CB 20 (ceR cA q) D cA q aK aV M)) (Qi 20 (ceR cA q) D q r0 M0) 0 0 (AqG 20 q) := by
  refine gMet RX12 (by decide +kernel) rfl hq (Nat.le_of_ble_eq_true rfl) ?_
  intro p e s m below meth c ls X hr hk hP hS hl
  have hx := X.1
  have hb := X.2.1
  have hl : lv_has ls 3 [(0, .ref (q 0))] := hl
  rw [f_X12_aWord] at h
  have hJ81 : ∀ (b1 : Int32) (b2 : Int32) (M : Mem) (H : Heap) (locs : List Loc) (ls : Array Slot), f_X12_aWord_J81 b1 b2 M = some (r0, M0) → va_P D vwCl (wsG 20 (ceR cA q) q M) H → va_S (AqG 20 q) s.heap H locs → lv_has ls 3 [(0, .ref (q 0)), (1, .int b1), (2, .int b2)] → W p l e ({ frames := 10, cells := 0, slots := 0, locals := 251 } : Room) s m [.ref (q 0)].toArray below meth c H locs 0 0 (MQ below (Qi 20 (ceR cA q) D q r0 M0) [.ref (q 0)].toArray s 0 0 (AqG 20 q)) (F0 m 81 ls []) := by
    intro b1 b2 M H locs ls h hP hS hl
    rw [f_X12_aWord_J81] at h
    refine lv_aload_n hx hb dX12_aWord_81 rfl (lv_at hl 0 rfl) ?_
    refine gfR_12_0 X hP sR_0 bw_1323 dX12_aWord_82 ?_
    refine lv_iload_n hx hb dX12_aWord_85 rfl (lv_at hl 1 rfl) ?_
    refine lv_iconst (v := 1) hx hb dX12_aWord_86 (by decide) ?_
    refine lv_iadd hx hb dX12_aWord_87 ?_
    refine lv_iload_n hx hb dX12_aWord_88 rfl (lv_at hl 2 rfl) ?_
    refine lv_bipush (v := 7) hx hb dX12_aWord_89 (by decide) ?_
    refine lv_isub hx hb dX12_aWord_91 ?_
    obtain ⟨g26, h⟩ := gd_inv h
    obtain ⟨M27, eM27, h⟩ := lt_inv h
    refine stR_ia X hP hS sR_1 zR_1 g26 eM27 dX12_aWord_92 (fun H locs hP hS => ?_)
    refine lv_aload_n hx hb dX12_aWord_93 rfl (lv_at hl 0 rfl) ?_
    obtain ⟨_, M29, hc30, h⟩ := bnd_inv h
    refine gV_v (As := []) X hP hS hl.1 (c_X12_ahead l D cA q aK aV hq hc30) sf_X12_ahead bw_1514 sv_X12_ahead (rcR_12 sR_0) rfl ⟨rfl, rfl⟩ ⟨Nat.le_of_ble_eq_true rfl, Nat.le_of_ble_eq_true rfl⟩ rfl rfl (Nat.le_of_ble_eq_true rfl) dX12_aWord_94 (fun H locs hP hS => ?_)
    refine lv_aload_n hx hb dX12_aWord_97 rfl (lv_at hl 0 rfl) ?_
    refine gfR_12_0 X hP sR_0 bw_1323 dX12_aWord_98 ?_
    refine lv_sipush (v := 2013) hx hb dX12_aWord_101 (by decide) ?_
    refine lv_dup2_11 hx hb dX12_aWord_104 rfl rfl ?_
    refine ldR_ia X hP sR_1 zR_1 (by decide) dX12_aWord_105 ?_
    refine topE (y := (gI M29 1 2013)) rfl ?_
    refine lv_iconst (v := 1) hx hb dX12_aWord_106 (by decide) ?_
    refine lv_iadd hx hb dX12_aWord_107 ?_
    obtain ⟨M31, eM31, h⟩ := lt_inv h
    refine stR_ia X hP hS sR_1 zR_1 (by decide) eM31 dX12_aWord_108 (fun H locs hP hS => ?_)
    refine lv_iconst (v := 1) hx hb dX12_aWord_109 (by decide) ?_
    exact end_z X hr hk hP hS (Or.inr rfl) h dX12_aWord_110
  refine lv_aload_n hx hb dX12_aWord_0 rfl (lv_at hl 0 rfl) ?_
  refine lv_iconst (v := 5) hx hb dX12_aWord_1 (by decide) ?_
  refine lv_bipush (v := 10) hx hb dX12_aWord_2 (by decide) ?_
  obtain ⟨r1, M2, hc3, h⟩ := bnd_inv h
  refine gV_i (As := [.int (5 : Int32), .int (10 : Int32)]) X hP hS hl.1 (c_X12_isFull l D cA q aK aV hq hc3) sf_X12_isFull bw_1557 sv_X12_isFull (rcR_12 sR_0) rfl ⟨rfl, rfl⟩ ⟨Nat.le_of_ble_eq_true rfl, Nat.le_of_ble_eq_true rfl⟩ rfl rfl (Nat.le_of_ble_eq_true rfl) dX12_aWord_4 (fun H locs hP hS => ?_)
  refine lv_if_eq (tgt := 17) hx hb dX12_aWord_7 (by decide) (fun c4 => ?_) (fun c4 => ?_)
  · rw [if_pos c4] at h
    refine lv_sipush (v := 2122) hx hb dX12_aWord_17 (by decide) ?_
    refine lv_iconst (v := 2) hx hb dX12_aWord_20 (by decide) ?_
    refine lv_aload_n hx hb dX12_aWord_21 rfl (lv_at hl 0 rfl) ?_
    refine gfR_12_0 X hP sR_0 bw_1323 dX12_aWord_22 ?_
    refine lv_sipush (v := 2013) hx hb dX12_aWord_25 (by decide) ?_
    refine ldR_ia X hP sR_1 zR_1 (by decide) dX12_aWord_28 ?_
    refine topE (y := (gI M2 1 2013)) rfl ?_
    refine lv_imul hx hb dX12_aWord_29 ?_
    refine lv_iadd hx hb dX12_aWord_30 ?_
    obtain ⟨y5, ey5, h⟩ := lt_inv h
    refine topE ey5 ?_
    refine lv_istore_n (lv' := [(1, .int y5), (0, .ref (q 0))]) hx hb dX12_aWord_31 rfl hl (by decide) rfl (fun ls hl => ?_)
    refine lv_aload_n hx hb dX12_aWord_32 rfl (lv_at hl 1 rfl) ?_
    obtain ⟨_, M7, hc8, h⟩ := bnd_inv h
    refine gV_v (As := []) X hP hS hl.1 (c_X12_ahead l D cA q aK aV hq hc8) sf_X12_ahead bw_1514 sv_X12_ahead (rcR_12 sR_0) rfl ⟨rfl, rfl⟩ ⟨Nat.le_of_ble_eq_true rfl, Nat.le_of_ble_eq_true rfl⟩ rfl rfl (Nat.le_of_ble_eq_true rfl) dX12_aWord_33 (fun H locs hP hS => ?_)
    refine lv_aload_n hx hb dX12_aWord_36 rfl (lv_at hl 1 rfl) ?_
    refine lv_bipush (v := 103) hx hb dX12_aWord_37 (by decide) ?_
    refine lv_aload_n hx hb dX12_aWord_39 rfl (lv_at hl 1 rfl) ?_
    refine gfR_12_0 X hP sR_0 bw_1323 dX12_aWord_40 ?_
    refine lv_sipush (v := 2011) hx hb dX12_aWord_43 (by decide) ?_
    refine ldR_ia X hP sR_1 zR_1 (by decide) dX12_aWord_46 ?_
    refine topE (y := (gI M7 1 2011)) rfl ?_
    refine lv_iload_n hx hb dX12_aWord_47 rfl (lv_at hl 0 rfl) ?_
    obtain ⟨r9, M10, hc11, h⟩ := bnd_inv h
    refine gV_i (As := [.int (103 : Int32), .int (gI M7 1 2011), .int y5]) X hP hS hl.1 (c_X12_oldOne l D cA q aK aV hq hc11) sf_X12_oldOne bw_1592 sv_X12_oldOne (rcR_12 sR_0) rfl ⟨rfl, rfl⟩ ⟨Nat.le_of_ble_eq_true rfl, Nat.le_of_ble_eq_true rfl⟩ rfl rfl (Nat.le_of_ble_eq_true rfl) dX12_aWord_48 (fun H locs hP hS => ?_)
    refine lv_if_ne (tgt := 56) hx hb dX12_aWord_51 (by decide) (fun c12 => ?_) (fun c12 => ?_)
    · rw [if_neg c12] at h
      refine lv_aload_n hx hb dX12_aWord_56 rfl (lv_at hl 1 rfl) ?_
      refine va_ldcS hx hb X.2.2.2.1 (X_k1 X) dX12_aWord_57 ?_
      obtain ⟨r13, M14, hc15, h⟩ := bnd_inv h
      refine gV_i (As := [.ref (aK 1)]) X hP hS hl.1 (c_X12_inWords l D cA q aK aV hq hc15) sf_X12_inWords bw_1539 sv_X12_inWords (rcR_12 sR_0) rfl ⟨rfl, rfl⟩ ⟨Nat.le_of_ble_eq_true rfl, Nat.le_of_ble_eq_true rfl⟩ rfl rfl (Nat.le_of_ble_eq_true rfl) dX12_aWord_59 (fun H locs hP hS => ?_)
      refine lv_istore_n (lv' := [(2, .int r13), (1, .int y5), (0, .ref (q 0))]) hx hb dX12_aWord_62 rfl hl (by decide) rfl (fun ls hl => ?_)
      refine lv_iload_n hx hb dX12_aWord_63 rfl (lv_at hl 0 rfl) ?_
      refine lv_bipush (v := 8) hx hb dX12_aWord_64 (by decide) ?_
      refine lv_icmp_eq (tgt := 81) hx hb dX12_aWord_66 (by decide) (fun c16 => ?_) (fun c16 => ?_)
      · rw [if_pos c16] at h
        exact hJ81 _ _ _ _ _ _ h hP hS (lv_sub hl [2, 1, 0] rfl)
      · rw [if_neg c16] at h
        refine lv_iload_n hx hb dX12_aWord_69 rfl (lv_at hl 0 rfl) ?_
        refine lv_bipush (v := 9) hx hb dX12_aWord_70 (by decide) ?_
        refine lv_icmp_eq (tgt := 81) hx hb dX12_aWord_72 (by decide) (fun c17 => ?_) (fun c17 => ?_)
        · rw [if_pos c17] at h
          exact hJ81 _ _ _ _ _ _ h hP hS (lv_sub hl [2, 1, 0] rfl)
        · rw [if_neg c17] at h
          refine lv_aload_n hx hb dX12_aWord_75 rfl (lv_at hl 2 rfl) ?_
          refine lv_iconst (v := 2) hx hb dX12_aWord_76 (by decide) ?_
          obtain ⟨r18, M19, hc20, h⟩ := bnd_inv h
          refine gV_i (As := [.int (2 : Int32)]) X hP hS hl.1 (c_X12_fails l D cA q aK aV hq hc20) sf_X12_fails bw_1545 sv_X12_fails (rcR_12 sR_0) rfl ⟨rfl, rfl⟩ ⟨Nat.le_of_ble_eq_true rfl, Nat.le_of_ble_eq_true rfl⟩ rfl rfl (Nat.le_of_ble_eq_true rfl) dX12_aWord_77 (fun H locs hP hS => ?_)
          obtain ⟨g21, h⟩ := gd_inv h
          exact end_z X hr hk hP hS (Decidable.not_not.mp g21) h dX12_aWord_80
    · rw [if_pos c12] at h
      refine lv_iconst (v := 0) hx hb dX12_aWord_54 (by decide) ?_
      exact end_z X hr hk hP hS (Or.inl rfl) h dX12_aWord_55
  · rw [if_neg c4] at h
    refine lv_aload_n hx hb dX12_aWord_10 rfl (lv_at hl 0 rfl) ?_
    refine lv_bipush (v := 6) hx hb dX12_aWord_11 (by decide) ?_
    obtain ⟨r22, M23, hc24, h⟩ := bnd_inv h
    refine gV_i (As := [.int (6 : Int32)]) X hP hS hl.1 (c_X12_fails l D cA q aK aV hq hc24) sf_X12_fails bw_1545 sv_X12_fails (rcR_12 sR_0) rfl ⟨rfl, rfl⟩ ⟨Nat.le_of_ble_eq_true rfl, Nat.le_of_ble_eq_true rfl⟩ rfl rfl (Nat.le_of_ble_eq_true rfl) dX12_aWord_13 (fun H locs hP hS => ?_)
    obtain ⟨g25, h⟩ := gd_inv h
    exact end_z X hr hk hP hS (Decidable.not_not.mp g25) h dX12_aWord_16
theorem dX12_courtPart_0 : decode cX12_courtPart 0 = .ok (.aload_n 0, 1) := by decide +kernel
theorem dX12_courtPart_1 : decode cX12_courtPart 1 = .ok (.ldc 184, 2) := by decide +kernel
theorem dX12_courtPart_3 : decode cX12_courtPart 3 = .ok (.invokevirtual 176, 3) := by decide +kernel
theorem dX12_courtPart_6 : decode cX12_courtPart 6 = .ok (.istore_n 1, 1) := by decide +kernel
theorem dX12_courtPart_7 : decode cX12_courtPart 7 = .ok (.iload_n 1, 1) := by decide +kernel
theorem dX12_courtPart_8 : decode cX12_courtPart 8 = .ok (.ifCond .lt 8, 3) := by decide +kernel
theorem dX12_courtPart_11 : decode cX12_courtPart 11 = .ok (.iload_n 1, 1) := by decide +kernel
theorem dX12_courtPart_12 : decode cX12_courtPart 12 = .ok (.iconst 5, 1) := by decide +kernel
theorem dX12_courtPart_13 : decode cX12_courtPart 13 = .ok (.if_icmp .le 9, 3) := by decide +kernel
theorem dX12_courtPart_16 : decode cX12_courtPart 16 = .ok (.aload_n 0, 1) := by decide +kernel
theorem dX12_courtPart_17 : decode cX12_courtPart 17 = .ok (.iconst 2, 1) := by decide +kernel
theorem dX12_courtPart_18 : decode cX12_courtPart 18 = .ok (.invokevirtual 173, 3) := by decide +kernel
theorem dX12_courtPart_21 : decode cX12_courtPart 21 = .ok (.ireturn, 1) := by decide +kernel
theorem dX12_courtPart_22 : decode cX12_courtPart 22 = .ok (.iload_n 1, 1) := by decide +kernel
theorem dX12_courtPart_23 : decode cX12_courtPart 23 = .ok (.tableswitch 73 0 4 #[33, 41, 49, 57, 65], 33) := by decide +kernel
theorem dX12_courtPart_56 : decode cX12_courtPart 56 = .ok (.aload_n 0, 1) := by decide +kernel
theorem dX12_courtPart_57 : decode cX12_courtPart 57 = .ok (.invokevirtual 230, 3) := by decide +kernel
theorem dX12_courtPart_60 : decode cX12_courtPart 60 = .ok (.istore_n 2, 1) := by decide +kernel
theorem dX12_courtPart_61 : decode cX12_courtPart 61 = .ok (.goto 40, 3) := by decide +kernel
theorem dX12_courtPart_64 : decode cX12_courtPart 64 = .ok (.aload_n 0, 1) := by decide +kernel
theorem dX12_courtPart_65 : decode cX12_courtPart 65 = .ok (.invokevirtual 233, 3) := by decide +kernel
theorem dX12_courtPart_68 : decode cX12_courtPart 68 = .ok (.istore_n 2, 1) := by decide +kernel
theorem dX12_courtPart_69 : decode cX12_courtPart 69 = .ok (.goto 32, 3) := by decide +kernel
theorem dX12_courtPart_72 : decode cX12_courtPart 72 = .ok (.aload_n 0, 1) := by decide +kernel
theorem dX12_courtPart_73 : decode cX12_courtPart 73 = .ok (.invokevirtual 236, 3) := by decide +kernel
theorem dX12_courtPart_76 : decode cX12_courtPart 76 = .ok (.istore_n 2, 1) := by decide +kernel
theorem dX12_courtPart_77 : decode cX12_courtPart 77 = .ok (.goto 24, 3) := by decide +kernel
theorem dX12_courtPart_80 : decode cX12_courtPart 80 = .ok (.aload_n 0, 1) := by decide +kernel
theorem dX12_courtPart_81 : decode cX12_courtPart 81 = .ok (.invokevirtual 239, 3) := by decide +kernel
theorem dX12_courtPart_84 : decode cX12_courtPart 84 = .ok (.istore_n 2, 1) := by decide +kernel
theorem dX12_courtPart_85 : decode cX12_courtPart 85 = .ok (.goto 16, 3) := by decide +kernel
theorem dX12_courtPart_88 : decode cX12_courtPart 88 = .ok (.aload_n 0, 1) := by decide +kernel
theorem dX12_courtPart_89 : decode cX12_courtPart 89 = .ok (.invokevirtual 242, 3) := by decide +kernel
theorem dX12_courtPart_92 : decode cX12_courtPart 92 = .ok (.istore_n 2, 1) := by decide +kernel
theorem dX12_courtPart_93 : decode cX12_courtPart 93 = .ok (.goto 8, 3) := by decide +kernel
theorem dX12_courtPart_96 : decode cX12_courtPart 96 = .ok (.aload_n 0, 1) := by decide +kernel
theorem dX12_courtPart_97 : decode cX12_courtPart 97 = .ok (.invokevirtual 245, 3) := by decide +kernel
theorem dX12_courtPart_100 : decode cX12_courtPart 100 = .ok (.istore_n 2, 1) := by decide +kernel
theorem dX12_courtPart_101 : decode cX12_courtPart 101 = .ok (.iload_n 2, 1) := by decide +kernel
theorem dX12_courtPart_102 : decode cX12_courtPart 102 = .ok (.ifCond .eq 16, 3) := by decide +kernel
theorem dX12_courtPart_105 : decode cX12_courtPart 105 = .ok (.aload_n 0, 1) := by decide +kernel
theorem dX12_courtPart_106 : decode cX12_courtPart 106 = .ok (.bipush 59, 2) := by decide +kernel
theorem dX12_courtPart_108 : decode cX12_courtPart 108 = .ok (.invokevirtual 248, 3) := by decide +kernel
theorem dX12_courtPart_111 : decode cX12_courtPart 111 = .ok (.ifCond .eq 7, 3) := by decide +kernel
theorem dX12_courtPart_114 : decode cX12_courtPart 114 = .ok (.iconst 1, 1) := by decide +kernel
theorem dX12_courtPart_115 : decode cX12_courtPart 115 = .ok (.goto 4, 3) := by decide +kernel
theorem dX12_courtPart_118 : decode cX12_courtPart 118 = .ok (.iconst 0, 1) := by decide +kernel
theorem dX12_courtPart_119 : decode cX12_courtPart 119 = .ok (.ireturn, 1) := by decide +kernel
set_option maxRecDepth 100000 in
set_option maxHeartbeats 8000000 in
theorem c_X12_courtPart (l : Launch) (D : va_G) (cA : Nat → ClassId) (q aK aV : Nat → Nat) (hq : injG 20 q) {M M0 : Mem} {r0 : Int32} (h : f_X12_courtPart M = some (r0, M0)) : Met l yX12_courtPart (.code yX12_courtPart cX12_courtPart 3 (some .boolean) :: BW) ({ frames := 11, cells := 0, slots := 0, locals := 273 } : Room) (va_Pc [.ref (q 0)] (CB 20 (ceR cA q) D cA q aK aV M)) (Qi 20 (ceR cA q) D q r0 M0) 0 0 (AqG 20 q) := by
  refine gMet RX12 (by decide +kernel) rfl hq (Nat.le_of_ble_eq_true rfl) ?_
  intro p e s m below meth c ls X hr hk hP hS hl
  have hx := X.1
  have hb := X.2.1
  have hl : lv_has ls 3 [(0, .ref (q 0))] := hl
  rw [f_X12_courtPart] at h
  have hJ101 : ∀ (b2 : Int32) (M : Mem) (H : Heap) (locs : List Loc) (ls : Array Slot), f_X12_courtPart_J101 b2 M = some (r0, M0) → va_P D vwCl (wsG 20 (ceR cA q) q M) H → va_S (AqG 20 q) s.heap H locs → lv_has ls 3 [(0, .ref (q 0)), (2, .int b2)] → W p l e ({ frames := 11, cells := 0, slots := 0, locals := 273 } : Room) s m [.ref (q 0)].toArray below meth c H locs 0 0 (MQ below (Qi 20 (ceR cA q) D q r0 M0) [.ref (q 0)].toArray s 0 0 (AqG 20 q)) (F0 m 101 ls []) := by
    intro b2 M H locs ls h hP hS hl
    rw [f_X12_courtPart_J101] at h
    refine lv_iload_n hx hb dX12_courtPart_101 rfl (lv_at hl 1 rfl) ?_
    refine lv_if_eq (tgt := 118) hx hb dX12_courtPart_102 (by decide) (fun c37 => ?_) (fun c37 => ?_)
    · rw [if_pos c37] at h
      refine lv_iconst (v := 0) hx hb dX12_courtPart_118 (by decide) ?_
      exact end_z X hr hk hP hS (Or.inl rfl) h dX12_courtPart_119
    · rw [if_neg c37] at h
      refine lv_aload_n hx hb dX12_courtPart_105 rfl (lv_at hl 0 rfl) ?_
      refine lv_bipush (v := 59) hx hb dX12_courtPart_106 (by decide) ?_
      obtain ⟨r38, M39, hc40, h⟩ := bnd_inv h
      refine gV_i (As := [.int (59 : Int32)]) X hP hS hl.1 (c_X12_wantSign l D cA q aK aV hq hc40) sf_X12_wantSign bw_1631 sv_X12_wantSign (rcR_12 sR_0) rfl ⟨rfl, rfl⟩ ⟨Nat.le_of_ble_eq_true rfl, Nat.le_of_ble_eq_true rfl⟩ rfl rfl (Nat.le_of_ble_eq_true rfl) dX12_courtPart_108 (fun H locs hP hS => ?_)
      refine lv_if_eq (tgt := 118) hx hb dX12_courtPart_111 (by decide) (fun c41 => ?_) (fun c41 => ?_)
      · rw [if_pos c41] at h
        refine lv_iconst (v := 0) hx hb dX12_courtPart_118 (by decide) ?_
        exact end_z X hr hk hP hS (Or.inl rfl) h dX12_courtPart_119
      · rw [if_neg c41] at h
        refine lv_iconst (v := 1) hx hb dX12_courtPart_114 (by decide) ?_
        refine lv_goto (tgt := 119) hx hb dX12_courtPart_115 (by decide) ?_
        exact end_z X hr hk hP hS (Or.inr rfl) h dX12_courtPart_119
  refine lv_aload_n hx hb dX12_courtPart_0 rfl (lv_at hl 0 rfl) ?_
  refine va_ldcS hx hb X.2.2.2.1 (X_k1 X) dX12_courtPart_1 ?_
  obtain ⟨r1, M2, hc3, h⟩ := bnd_inv h
  refine gV_i (As := [.ref (aK 1)]) X hP hS hl.1 (c_X12_inWords l D cA q aK aV hq hc3) sf_X12_inWords bw_1539 sv_X12_inWords (rcR_12 sR_0) rfl ⟨rfl, rfl⟩ ⟨Nat.le_of_ble_eq_true rfl, Nat.le_of_ble_eq_true rfl⟩ rfl rfl (Nat.le_of_ble_eq_true rfl) dX12_courtPart_3 (fun H locs hP hS => ?_)
  refine lv_istore_n (lv' := [(1, .int r1), (0, .ref (q 0))]) hx hb dX12_courtPart_6 rfl hl (by decide) rfl (fun ls hl => ?_)
  refine lv_iload_n hx hb dX12_courtPart_7 rfl (lv_at hl 0 rfl) ?_
  refine lv_if_lt (tgt := 16) hx hb dX12_courtPart_8 (by decide) (fun c4 => ?_) (fun c4 => ?_)
  · rw [if_pos c4] at h
    refine lv_aload_n hx hb dX12_courtPart_16 rfl (lv_at hl 1 rfl) ?_
    refine lv_iconst (v := 2) hx hb dX12_courtPart_17 (by decide) ?_
    obtain ⟨r5, M6, hc7, h⟩ := bnd_inv h
    refine gV_i (As := [.int (2 : Int32)]) X hP hS hl.1 (c_X12_fails l D cA q aK aV hq hc7) sf_X12_fails bw_1545 sv_X12_fails (rcR_12 sR_0) rfl ⟨rfl, rfl⟩ ⟨Nat.le_of_ble_eq_true rfl, Nat.le_of_ble_eq_true rfl⟩ rfl rfl (Nat.le_of_ble_eq_true rfl) dX12_courtPart_18 (fun H locs hP hS => ?_)
    obtain ⟨g8, h⟩ := gd_inv h
    exact end_z X hr hk hP hS (Decidable.not_not.mp g8) h dX12_courtPart_21
  · rw [if_neg c4] at h
    refine lv_iload_n hx hb dX12_courtPart_11 rfl (lv_at hl 0 rfl) ?_
    refine lv_iconst (v := 5) hx hb dX12_courtPart_12 (by decide) ?_
    refine lv_icmp_le (tgt := 22) hx hb dX12_courtPart_13 (by decide) (fun c9 => ?_) (fun c9 => ?_)
    · rw [if_pos c9] at h
      refine lv_iload_n hx hb dX12_courtPart_22 rfl (lv_at hl 0 rfl) ?_
      by_cases c13 : r1 = 0
      · rw [if_pos c13] at h
        refine lv_tableIn (tgt := 56) hx hb dX12_courtPart_23 (by rw [c13]; decide) (by rw [c13]; decide) (by rw [c13]; rfl) (by decide) ?_
        refine lv_aload_n hx hb dX12_courtPart_56 rfl (lv_at hl 1 rfl) ?_
        obtain ⟨r10, M11, hc12, h⟩ := bnd_inv h
        refine gV_i (As := []) X hP hS hl.1 (c_X12_aSmell l D cA q aK aV hq hc12) sf_X12_aSmell bw_1549 sv_X12_aSmell (rcR_12 sR_0) rfl ⟨rfl, rfl⟩ ⟨Nat.le_of_ble_eq_true rfl, Nat.le_of_ble_eq_true rfl⟩ rfl rfl (Nat.le_of_ble_eq_true rfl) dX12_courtPart_57 (fun H locs hP hS => ?_)
        refine lv_istore_n (lv' := [(2, .int r10), (1, .int r1), (0, .ref (q 0))]) hx hb dX12_courtPart_60 rfl hl (by decide) rfl (fun ls hl => ?_)
        refine lv_goto (tgt := 101) hx hb dX12_courtPart_61 (by decide) ?_
        exact hJ101 _ _ _ _ _ h hP hS (lv_sub hl [2, 0] rfl)
      rw [if_neg c13] at h
      by_cases c17 : r1 = 1
      · rw [if_pos c17] at h
        refine lv_tableIn (tgt := 64) hx hb dX12_courtPart_23 (by rw [c17]; decide) (by rw [c17]; decide) (by rw [c17]; rfl) (by decide) ?_
        refine lv_aload_n hx hb dX12_courtPart_64 rfl (lv_at hl 1 rfl) ?_
        obtain ⟨r14, M15, hc16, h⟩ := bnd_inv h
        refine gV_i (As := []) X hP hS hl.1 (c_X12_aCue l D cA q aK aV hq hc16) sf_X12_aCue bw_1577 sv_X12_aCue (rcR_12 sR_0) rfl ⟨rfl, rfl⟩ ⟨Nat.le_of_ble_eq_true rfl, Nat.le_of_ble_eq_true rfl⟩ rfl rfl (Nat.le_of_ble_eq_true rfl) dX12_courtPart_65 (fun H locs hP hS => ?_)
        refine lv_istore_n (lv' := [(2, .int r14), (1, .int r1), (0, .ref (q 0))]) hx hb dX12_courtPart_68 rfl hl (by decide) rfl (fun ls hl => ?_)
        refine lv_goto (tgt := 101) hx hb dX12_courtPart_69 (by decide) ?_
        exact hJ101 _ _ _ _ _ h hP hS (lv_sub hl [2, 0] rfl)
      rw [if_neg c17] at h
      by_cases c21 : r1 = 2
      · rw [if_pos c21] at h
        refine lv_tableIn (tgt := 72) hx hb dX12_courtPart_23 (by rw [c21]; decide) (by rw [c21]; decide) (by rw [c21]; rfl) (by decide) ?_
        refine lv_aload_n hx hb dX12_courtPart_72 rfl (lv_at hl 1 rfl) ?_
        obtain ⟨r18, M19, hc20, h⟩ := bnd_inv h
        refine gV_i (As := []) X hP hS hl.1 (c_X12_aRule l D cA q aK aV hq hc20) sf_X12_aRule bw_1585 sv_X12_aRule (rcR_12 sR_0) rfl ⟨rfl, rfl⟩ ⟨Nat.le_of_ble_eq_true rfl, Nat.le_of_ble_eq_true rfl⟩ rfl rfl (Nat.le_of_ble_eq_true rfl) dX12_courtPart_73 (fun H locs hP hS => ?_)
        refine lv_istore_n (lv' := [(2, .int r18), (1, .int r1), (0, .ref (q 0))]) hx hb dX12_courtPart_76 rfl hl (by decide) rfl (fun ls hl => ?_)
        refine lv_goto (tgt := 101) hx hb dX12_courtPart_77 (by decide) ?_
        exact hJ101 _ _ _ _ _ h hP hS (lv_sub hl [2, 0] rfl)
      rw [if_neg c21] at h
      by_cases c25 : r1 = 3
      · rw [if_pos c25] at h
        refine lv_tableIn (tgt := 80) hx hb dX12_courtPart_23 (by rw [c25]; decide) (by rw [c25]; decide) (by rw [c25]; rfl) (by decide) ?_
        refine lv_aload_n hx hb dX12_courtPart_80 rfl (lv_at hl 1 rfl) ?_
        obtain ⟨r22, M23, hc24, h⟩ := bnd_inv h
        refine gV_i (As := []) X hP hS hl.1 (c_X12_aPerson l D cA q aK aV hq hc24) sf_X12_aPerson bw_1612 sv_X12_aPerson (rcR_12 sR_0) rfl ⟨rfl, rfl⟩ ⟨Nat.le_of_ble_eq_true rfl, Nat.le_of_ble_eq_true rfl⟩ rfl rfl (Nat.le_of_ble_eq_true rfl) dX12_courtPart_81 (fun H locs hP hS => ?_)
        refine lv_istore_n (lv' := [(2, .int r22), (1, .int r1), (0, .ref (q 0))]) hx hb dX12_courtPart_84 rfl hl (by decide) rfl (fun ls hl => ?_)
        refine lv_goto (tgt := 101) hx hb dX12_courtPart_85 (by decide) ?_
        exact hJ101 _ _ _ _ _ h hP hS (lv_sub hl [2, 0] rfl)
      rw [if_neg c25] at h
      by_cases c29 : r1 = 4
      · rw [if_pos c29] at h
        refine lv_tableIn (tgt := 88) hx hb dX12_courtPart_23 (by rw [c29]; decide) (by rw [c29]; decide) (by rw [c29]; rfl) (by decide) ?_
        refine lv_aload_n hx hb dX12_courtPart_88 rfl (lv_at hl 1 rfl) ?_
        obtain ⟨r26, M27, hc28, h⟩ := bnd_inv h
        refine gV_i (As := []) X hP hS hl.1 (c_X12_aReader l D cA q aK aV hq hc28) sf_X12_aReader bw_1623 sv_X12_aReader (rcR_12 sR_0) rfl ⟨rfl, rfl⟩ ⟨Nat.le_of_ble_eq_true rfl, Nat.le_of_ble_eq_true rfl⟩ rfl rfl (Nat.le_of_ble_eq_true rfl) dX12_courtPart_89 (fun H locs hP hS => ?_)
        refine lv_istore_n (lv' := [(2, .int r26), (1, .int r1), (0, .ref (q 0))]) hx hb dX12_courtPart_92 rfl hl (by decide) rfl (fun ls hl => ?_)
        refine lv_goto (tgt := 101) hx hb dX12_courtPart_93 (by decide) ?_
        exact hJ101 _ _ _ _ _ h hP hS (lv_sub hl [2, 0] rfl)
      rw [if_neg c29] at h
      refine lv_tableOut (tgt := 96) hx hb dX12_courtPart_23 (by have nc13 := lv_neT (a := 0) c13 (by decide); have nc17 := lv_neT (a := 1) c17 (by decide); have nc21 := lv_neT (a := 2) c21 (by decide); have nc25 := lv_neT (a := 3) c25 (by decide); have nc29 := lv_neT (a := 4) c29 (by decide); omega) (by decide) ?_
      refine lv_aload_n hx hb dX12_courtPart_96 rfl (lv_at hl 1 rfl) ?_
      obtain ⟨r30, M31, hc32, h⟩ := bnd_inv h
      refine gV_i (As := []) X hP hS hl.1 (c_X12_aWord l D cA q aK aV hq hc32) sf_X12_aWord bw_1627 sv_X12_aWord (rcR_12 sR_0) rfl ⟨rfl, rfl⟩ ⟨Nat.le_of_ble_eq_true rfl, Nat.le_of_ble_eq_true rfl⟩ rfl rfl (Nat.le_of_ble_eq_true rfl) dX12_courtPart_97 (fun H locs hP hS => ?_)
      refine lv_istore_n (lv' := [(2, .int r30), (1, .int r1), (0, .ref (q 0))]) hx hb dX12_courtPart_100 rfl hl (by decide) rfl (fun ls hl => ?_)
      exact hJ101 _ _ _ _ _ h hP hS (lv_sub hl [2, 0] rfl)
    · rw [if_neg c9] at h
      refine lv_aload_n hx hb dX12_courtPart_16 rfl (lv_at hl 1 rfl) ?_
      refine lv_iconst (v := 2) hx hb dX12_courtPart_17 (by decide) ?_
      obtain ⟨r33, M34, hc35, h⟩ := bnd_inv h
      refine gV_i (As := [.int (2 : Int32)]) X hP hS hl.1 (c_X12_fails l D cA q aK aV hq hc35) sf_X12_fails bw_1545 sv_X12_fails (rcR_12 sR_0) rfl ⟨rfl, rfl⟩ ⟨Nat.le_of_ble_eq_true rfl, Nat.le_of_ble_eq_true rfl⟩ rfl rfl (Nat.le_of_ble_eq_true rfl) dX12_courtPart_18 (fun H locs hP hS => ?_)
      obtain ⟨g36, h⟩ := gd_inv h
      exact end_z X hr hk hP hS (Decidable.not_not.mp g36) h dX12_courtPart_21
theorem dX12_court_0 : decode cX12_court 0 = .ok (.aload_n 0, 1) := by decide +kernel
theorem dX12_court_1 : decode cX12_court 1 = .ok (.iload_n 1, 1) := by decide +kernel
theorem dX12_court_2 : decode cX12_court 2 = .ok (.sipush 900, 3) := by decide +kernel
theorem dX12_court_5 : decode cX12_court 5 = .ok (.invokevirtual 251, 3) := by decide +kernel
theorem dX12_court_8 : decode cX12_court 8 = .ok (.ifCond .ne 9, 3) := by decide +kernel
theorem dX12_court_11 : decode cX12_court 11 = .ok (.aload_n 0, 1) := by decide +kernel
theorem dX12_court_12 : decode cX12_court 12 = .ok (.iconst 1, 1) := by decide +kernel
theorem dX12_court_13 : decode cX12_court 13 = .ok (.invokevirtual 91, 3) := by decide +kernel
theorem dX12_court_16 : decode cX12_court 16 = .ok (.ireturn, 1) := by decide +kernel
theorem dX12_court_17 : decode cX12_court 17 = .ok (.aload_n 0, 1) := by decide +kernel
theorem dX12_court_18 : decode cX12_court 18 = .ok (.sipush 2008, 3) := by decide +kernel
theorem dX12_court_21 : decode cX12_court 21 = .ok (.invokevirtual 81, 3) := by decide +kernel
theorem dX12_court_24 : decode cX12_court 24 = .ok (.iconst 1, 1) := by decide +kernel
theorem dX12_court_25 : decode cX12_court 25 = .ok (.istore_n 2, 1) := by decide +kernel
theorem dX12_court_26 : decode cX12_court 26 = .ok (.iload_n 2, 1) := by decide +kernel
theorem dX12_court_27 : decode cX12_court 27 = .ok (.ifCond .eq 18, 3) := by decide +kernel
theorem dX12_court_30 : decode cX12_court 30 = .ok (.aload_n 0, 1) := by decide +kernel
theorem dX12_court_31 : decode cX12_court 31 = .ok (.getfield 136, 3) := by decide +kernel
theorem dX12_court_34 : decode cX12_court 34 = .ok (.ifCond .eq 11, 3) := by decide +kernel
theorem dX12_court_37 : decode cX12_court 37 = .ok (.aload_n 0, 1) := by decide +kernel
theorem dX12_court_38 : decode cX12_court 38 = .ok (.invokevirtual 254, 3) := by decide +kernel
theorem dX12_court_41 : decode cX12_court 41 = .ok (.istore_n 2, 1) := by decide +kernel
theorem dX12_court_42 : decode cX12_court 42 = .ok (.goto (-16), 3) := by decide +kernel
theorem dX12_court_45 : decode cX12_court 45 = .ok (.aload_n 0, 1) := by decide +kernel
theorem dX12_court_46 : decode cX12_court 46 = .ok (.getfield 161, 3) := by decide +kernel
theorem dX12_court_49 : decode cX12_court 49 = .ok (.ifCond .ne 63, 3) := by decide +kernel
theorem dX12_court_52 : decode cX12_court 52 = .ok (.iconst 0, 1) := by decide +kernel
theorem dX12_court_53 : decode cX12_court 53 = .ok (.istore_n 3, 1) := by decide +kernel
theorem dX12_court_54 : decode cX12_court 54 = .ok (.iload_n 3, 1) := by decide +kernel
theorem dX12_court_55 : decode cX12_court 55 = .ok (.sipush 502, 3) := by decide +kernel
theorem dX12_court_58 : decode cX12_court 58 = .ok (.if_icmp .ge 25, 3) := by decide +kernel
theorem dX12_court_61 : decode cX12_court 61 = .ok (.aload_n 0, 1) := by decide +kernel
theorem dX12_court_62 : decode cX12_court 62 = .ok (.getfield 7, 3) := by decide +kernel
theorem dX12_court_65 : decode cX12_court 65 = .ok (.iload_n 3, 1) := by decide +kernel
theorem dX12_court_66 : decode cX12_court 66 = .ok (.aload_n 0, 1) := by decide +kernel
theorem dX12_court_67 : decode cX12_court 67 = .ok (.getfield 7, 3) := by decide +kernel
theorem dX12_court_70 : decode cX12_court 70 = .ok (.sipush 2008, 3) := by decide +kernel
theorem dX12_court_73 : decode cX12_court 73 = .ok (.iload_n 3, 1) := by decide +kernel
theorem dX12_court_74 : decode cX12_court 74 = .ok (.iadd, 1) := by decide +kernel
theorem dX12_court_75 : decode cX12_court 75 = .ok (.iaload, 1) := by decide +kernel
theorem dX12_court_76 : decode cX12_court 76 = .ok (.iastore, 1) := by decide +kernel
theorem dX12_court_77 : decode cX12_court 77 = .ok (.iinc 3 1, 3) := by decide +kernel
theorem dX12_court_80 : decode cX12_court 80 = .ok (.goto (-26), 3) := by decide +kernel
theorem dX12_court_83 : decode cX12_court 83 = .ok (.iconst 0, 1) := by decide +kernel
theorem dX12_court_84 : decode cX12_court 84 = .ok (.istore_n 3, 1) := by decide +kernel
theorem dX12_court_85 : decode cX12_court 85 = .ok (.iload_n 3, 1) := by decide +kernel
theorem dX12_court_86 : decode cX12_court 86 = .ok (.bipush 23, 2) := by decide +kernel
theorem dX12_court_88 : decode cX12_court 88 = .ok (.if_icmp .ge 24, 3) := by decide +kernel
theorem dX12_court_91 : decode cX12_court 91 = .ok (.aload_n 0, 1) := by decide +kernel
theorem dX12_court_92 : decode cX12_court 92 = .ok (.getfield 13, 3) := by decide +kernel
theorem dX12_court_95 : decode cX12_court 95 = .ok (.iload_n 3, 1) := by decide +kernel
theorem dX12_court_96 : decode cX12_court 96 = .ok (.aload_n 0, 1) := by decide +kernel
theorem dX12_court_97 : decode cX12_court 97 = .ok (.getfield 13, 3) := by decide +kernel
theorem dX12_court_100 : decode cX12_court 100 = .ok (.bipush 92, 2) := by decide +kernel
theorem dX12_court_102 : decode cX12_court 102 = .ok (.iload_n 3, 1) := by decide +kernel
theorem dX12_court_103 : decode cX12_court 103 = .ok (.iadd, 1) := by decide +kernel
theorem dX12_court_104 : decode cX12_court 104 = .ok (.laload, 1) := by decide +kernel
theorem dX12_court_105 : decode cX12_court 105 = .ok (.lastore, 1) := by decide +kernel
theorem dX12_court_106 : decode cX12_court 106 = .ok (.iinc 3 1, 3) := by decide +kernel
theorem dX12_court_109 : decode cX12_court 109 = .ok (.goto (-24), 3) := by decide +kernel
theorem dX12_court_112 : decode cX12_court 112 = .ok (.aload_n 0, 1) := by decide +kernel
theorem dX12_court_113 : decode cX12_court 113 = .ok (.aload_n 0, 1) := by decide +kernel
theorem dX12_court_114 : decode cX12_court 114 = .ok (.getfield 7, 3) := by decide +kernel
theorem dX12_court_117 : decode cX12_court 117 = .ok (.iconst 3, 1) := by decide +kernel
theorem dX12_court_118 : decode cX12_court 118 = .ok (.iaload, 1) := by decide +kernel
theorem dX12_court_119 : decode cX12_court 119 = .ok (.invokevirtual 257, 3) := by decide +kernel
theorem dX12_court_122 : decode cX12_court 122 = .ok (.ireturn, 1) := by decide +kernel
set_option maxRecDepth 100000 in
set_option maxHeartbeats 8000000 in
theorem c_X12_court (l : Launch) (D : va_G) (cA : Nat → ClassId) (q aK aV : Nat → Nat) (hq : injG 20 q) {a1 : Int32} {M M0 : Mem} {r0 : Int32} (h : f_X12_court a1 M = some (r0, M0)) : Met l yX12_court (.code yX12_court cX12_court 4 (some .int) :: BW) ({ frames := 12, cells := 0, slots := 0, locals := 295 } : Room) (va_Pc [.ref (q 0), .int a1] (CB 20 (ceR cA q) D cA q aK aV M)) (Qi 20 (ceR cA q) D q r0 M0) 0 0 (AqG 20 q) := by
  refine gMet RX12 (by decide +kernel) rfl hq (Nat.le_of_ble_eq_true rfl) ?_
  intro p e s m below meth c ls X hr hk hP hS hl
  have hx := X.1
  have hb := X.2.1
  have hl : lv_has ls 4 [(0, .ref (q 0)), (1, .int a1)] := hl
  rw [f_X12_court] at h
  have hJ112 : ∀ (M : Mem) (H : Heap) (locs : List Loc) (ls : Array Slot), f_X12_court_J112 M = some (r0, M0) → va_P D vwCl (wsG 20 (ceR cA q) q M) H → va_S (AqG 20 q) s.heap H locs → lv_has ls 4 [(0, .ref (q 0))] → W p l e ({ frames := 12, cells := 0, slots := 0, locals := 295 } : Room) s m [.ref (q 0), .int a1].toArray below meth c H locs 0 0 (MQ below (Qi 20 (ceR cA q) D q r0 M0) [.ref (q 0), .int a1].toArray s 0 0 (AqG 20 q)) (F0 m 112 ls []) := by
    intro M H locs ls h hP hS hl
    rw [f_X12_court_J112] at h
    refine lv_aload_n hx hb dX12_court_112 rfl (lv_at hl 0 rfl) ?_
    refine lv_aload_n hx hb dX12_court_113 rfl (lv_at hl 0 rfl) ?_
    refine gfR_12_0 X hP sR_0 bw_1323 dX12_court_114 ?_
    refine lv_iconst (v := 3) hx hb dX12_court_117 (by decide) ?_
    refine ldR_ia X hP sR_1 zR_1 (by decide) dX12_court_118 ?_
    refine topE (y := (gI M 1 3)) rfl ?_
    obtain ⟨r36, M37, hc38, h⟩ := bnd_inv h
    refine gV_i (As := [.int (gI M 1 3)]) X hP hS hl.1 (c_X12_taken l D cA q aK aV hq hc38) sf_X12_taken bw_1635 sv_X12_taken (rcR_12 sR_0) rfl ⟨rfl, rfl⟩ ⟨Nat.le_of_ble_eq_true rfl, Nat.le_of_ble_eq_true rfl⟩ rfl rfl (Nat.le_of_ble_eq_true rfl) dX12_court_119 (fun H locs hP hS => ?_)
    exact end_i X hr hk hP hS h dX12_court_122
  have hL85 : ∀ (fu : Nat) (b3 : Int32) (M : Mem) (res : (Unit) × Mem) (H : Heap) (locs : List Loc) (ls : Array Slot), f_X12_court_L85 fu b3 M = some res → va_P D vwCl (wsG 20 (ceR cA q) q M) H → va_S (AqG 20 q) s.heap H locs → lv_has ls 4 [(0, .ref (q 0)), (3, .int b3)] → (∀ (H : Heap) (locs : List Loc) (ls : Array Slot), va_P D vwCl (wsG 20 (ceR cA q) q res.2) H → va_S (AqG 20 q) s.heap H locs → lv_has ls 4 [(0, .ref (q 0))] → W p l e ({ frames := 12, cells := 0, slots := 0, locals := 295 } : Room) s m [.ref (q 0), .int a1].toArray below meth c H locs 0 0 (MQ below (Qi 20 (ceR cA q) D q r0 M0) [.ref (q 0), .int a1].toArray s 0 0 (AqG 20 q)) (F0 m 112 ls [])) → W p l e ({ frames := 12, cells := 0, slots := 0, locals := 295 } : Room) s m [.ref (q 0), .int a1].toArray below meth c H locs 0 0 (MQ below (Qi 20 (ceR cA q) D q r0 M0) [.ref (q 0), .int a1].toArray s 0 0 (AqG 20 q)) (F0 m 85 ls []) := by
    intro fu
    induction fu with
    | zero => intro b3 M res H locs ls h; exact absurd h (by simp [f_X12_court_L85])
    | succ fu ih =>
      intro b3 M res H locs ls h hP hS hl K85_0
      rw [f_X12_court_L85] at h
      refine lv_iload_n hx hb dX12_court_85 rfl (lv_at hl 1 rfl) ?_
      refine lv_bipush (v := 23) hx hb dX12_court_86 (by decide) ?_
      refine lv_icmp_ge (tgt := 112) hx hb dX12_court_88 (by decide) (fun c31 => ?_) (fun c31 => ?_)
      · rw [if_pos c31] at h
        cases h
        exact K85_0 _ _ _ hP hS (lv_sub hl [0] rfl)
      · rw [if_neg c31] at h
        refine lv_aload_n hx hb dX12_court_91 rfl (lv_at hl 0 rfl) ?_
        refine gfR_12_1 X hP sR_0 bw_1324 dX12_court_92 ?_
        refine lv_iload_n hx hb dX12_court_95 rfl (lv_at hl 1 rfl) ?_
        refine lv_aload_n hx hb dX12_court_96 rfl (lv_at hl 0 rfl) ?_
        refine gfR_12_1 X hP sR_0 bw_1324 dX12_court_97 ?_
        refine lv_bipush (v := 92) hx hb dX12_court_100 (by decide) ?_
        refine lv_iload_n hx hb dX12_court_102 rfl (lv_at hl 1 rfl) ?_
        refine lv_iadd hx hb dX12_court_103 ?_
        obtain ⟨g32, h⟩ := gd_inv h
        refine ldR_la X hP sR_2 zR_2 g32 dX12_court_104 ?_
        obtain ⟨g33, h⟩ := gd_inv h
        obtain ⟨M34, eM34, h⟩ := lt_inv h
        refine stR_la X hP hS sR_2 zR_2 g33 eM34 dX12_court_105 (fun H locs hP hS => ?_)
        obtain ⟨y35, ey35, h⟩ := lt_inv h
        refine lv_iinc (v := y35) (lv' := [(3, .int y35), (0, .ref (q 0))]) hx hb dX12_court_106 hl (k := 1) rfl (by rw [ey35]; rfl) (by decide) rfl (fun ls hl => ?_)
        refine lv_goto (tgt := 85) hx hb dX12_court_109 (by decide) ?_
        exact ih _ _ res _ _ _ h hP hS (lv_sub hl [1, 0] rfl) K85_0
  have hL54 : ∀ (fu : Nat) (b3 : Int32) (M : Mem) (res : (Unit) × Mem) (H : Heap) (locs : List Loc) (ls : Array Slot), f_X12_court_L54 fu b3 M = some res → va_P D vwCl (wsG 20 (ceR cA q) q M) H → va_S (AqG 20 q) s.heap H locs → lv_has ls 4 [(0, .ref (q 0)), (3, .int b3)] → (∀ (H : Heap) (locs : List Loc) (ls : Array Slot), va_P D vwCl (wsG 20 (ceR cA q) q res.2) H → va_S (AqG 20 q) s.heap H locs → lv_has ls 4 [(0, .ref (q 0))] → W p l e ({ frames := 12, cells := 0, slots := 0, locals := 295 } : Room) s m [.ref (q 0), .int a1].toArray below meth c H locs 0 0 (MQ below (Qi 20 (ceR cA q) D q r0 M0) [.ref (q 0), .int a1].toArray s 0 0 (AqG 20 q)) (F0 m 83 ls [])) → W p l e ({ frames := 12, cells := 0, slots := 0, locals := 295 } : Room) s m [.ref (q 0), .int a1].toArray below meth c H locs 0 0 (MQ below (Qi 20 (ceR cA q) D q r0 M0) [.ref (q 0), .int a1].toArray s 0 0 (AqG 20 q)) (F0 m 54 ls []) := by
    intro fu
    induction fu with
    | zero => intro b3 M res H locs ls h; exact absurd h (by simp [f_X12_court_L54])
    | succ fu ih =>
      intro b3 M res H locs ls h hP hS hl K54_0
      rw [f_X12_court_L54] at h
      refine lv_iload_n hx hb dX12_court_54 rfl (lv_at hl 1 rfl) ?_
      refine lv_sipush (v := 502) hx hb dX12_court_55 (by decide) ?_
      refine lv_icmp_ge (tgt := 83) hx hb dX12_court_58 (by decide) (fun c26 => ?_) (fun c26 => ?_)
      · rw [if_pos c26] at h
        cases h
        exact K54_0 _ _ _ hP hS (lv_sub hl [0] rfl)
      · rw [if_neg c26] at h
        refine lv_aload_n hx hb dX12_court_61 rfl (lv_at hl 0 rfl) ?_
        refine gfR_12_0 X hP sR_0 bw_1323 dX12_court_62 ?_
        refine lv_iload_n hx hb dX12_court_65 rfl (lv_at hl 1 rfl) ?_
        refine lv_aload_n hx hb dX12_court_66 rfl (lv_at hl 0 rfl) ?_
        refine gfR_12_0 X hP sR_0 bw_1323 dX12_court_67 ?_
        refine lv_sipush (v := 2008) hx hb dX12_court_70 (by decide) ?_
        refine lv_iload_n hx hb dX12_court_73 rfl (lv_at hl 1 rfl) ?_
        refine lv_iadd hx hb dX12_court_74 ?_
        obtain ⟨g27, h⟩ := gd_inv h
        refine ldR_ia X hP sR_1 zR_1 g27 dX12_court_75 ?_
        obtain ⟨g28, h⟩ := gd_inv h
        obtain ⟨M29, eM29, h⟩ := lt_inv h
        refine stR_ia X hP hS sR_1 zR_1 g28 eM29 dX12_court_76 (fun H locs hP hS => ?_)
        obtain ⟨y30, ey30, h⟩ := lt_inv h
        refine lv_iinc (v := y30) (lv' := [(3, .int y30), (0, .ref (q 0))]) hx hb dX12_court_77 hl (k := 1) rfl (by rw [ey30]; rfl) (by decide) rfl (fun ls hl => ?_)
        refine lv_goto (tgt := 54) hx hb dX12_court_80 (by decide) ?_
        exact ih _ _ res _ _ _ h hP hS (lv_sub hl [1, 0] rfl) K54_0
  have hL26 : ∀ (fu : Nat) (b2 : Int32) (M : Mem) (res : (Unit) × Mem) (H : Heap) (locs : List Loc) (ls : Array Slot), f_X12_court_L26 fu b2 M = some res → va_P D vwCl (wsG 20 (ceR cA q) q M) H → va_S (AqG 20 q) s.heap H locs → lv_has ls 4 [(0, .ref (q 0)), (2, .int b2)] → (∀ (H : Heap) (locs : List Loc) (ls : Array Slot), va_P D vwCl (wsG 20 (ceR cA q) q res.2) H → va_S (AqG 20 q) s.heap H locs → lv_has ls 4 [(0, .ref (q 0))] → W p l e ({ frames := 12, cells := 0, slots := 0, locals := 295 } : Room) s m [.ref (q 0), .int a1].toArray below meth c H locs 0 0 (MQ below (Qi 20 (ceR cA q) D q r0 M0) [.ref (q 0), .int a1].toArray s 0 0 (AqG 20 q)) (F0 m 45 ls [])) → W p l e ({ frames := 12, cells := 0, slots := 0, locals := 295 } : Room) s m [.ref (q 0), .int a1].toArray below meth c H locs 0 0 (MQ below (Qi 20 (ceR cA q) D q r0 M0) [.ref (q 0), .int a1].toArray s 0 0 (AqG 20 q)) (F0 m 26 ls []) := by
    intro fu
    induction fu with
    | zero => intro b2 M res H locs ls h; exact absurd h (by simp [f_X12_court_L26])
    | succ fu ih =>
      intro b2 M res H locs ls h hP hS hl K26_0
      rw [f_X12_court_L26] at h
      refine lv_iload_n hx hb dX12_court_26 rfl (lv_at hl 1 rfl) ?_
      refine lv_if_eq (tgt := 45) hx hb dX12_court_27 (by decide) (fun c21 => ?_) (fun c21 => ?_)
      · rw [if_pos c21] at h
        cases h
        exact K26_0 _ _ _ hP hS (lv_sub hl [0] rfl)
      · rw [if_neg c21] at h
        refine lv_aload_n hx hb dX12_court_30 rfl (lv_at hl 0 rfl) ?_
        refine gfR_12_12 X hP sR_0 bw_1335 dX12_court_31 ?_
        refine lv_if_eq (tgt := 45) hx hb dX12_court_34 (by decide) (fun c22 => ?_) (fun c22 => ?_)
        · rw [if_pos c22] at h
          cases h
          exact K26_0 _ _ _ hP hS (lv_sub hl [0] rfl)
        · rw [if_neg c22] at h
          refine lv_aload_n hx hb dX12_court_37 rfl (lv_at hl 0 rfl) ?_
          obtain ⟨r23, M24, hc25, h⟩ := bnd_inv h
          refine gV_i (As := []) X hP hS hl.1 (c_X12_courtPart l D cA q aK aV hq hc25) sf_X12_courtPart bw_1534 sv_X12_courtPart (rcR_12 sR_0) rfl ⟨rfl, rfl⟩ ⟨Nat.le_of_ble_eq_true rfl, Nat.le_of_ble_eq_true rfl⟩ rfl rfl (Nat.le_of_ble_eq_true rfl) dX12_court_38 (fun H locs hP hS => ?_)
          refine lv_istore_n (lv' := [(2, .int r23), (0, .ref (q 0))]) hx hb dX12_court_41 rfl hl (by decide) rfl (fun ls hl => ?_)
          refine lv_goto (tgt := 26) hx hb dX12_court_42 (by decide) ?_
          exact ih _ _ res _ _ _ h hP hS (lv_sub hl [1, 0] rfl) K26_0
  refine lv_aload_n hx hb dX12_court_0 rfl (lv_at hl 0 rfl) ?_
  refine lv_iload_n hx hb dX12_court_1 rfl (lv_at hl 1 rfl) ?_
  refine lv_sipush (v := 900) hx hb dX12_court_2 (by decide) ?_
  obtain ⟨r1, M2, hc3, h⟩ := bnd_inv h
  refine gV_i (As := [.int a1, .int (900 : Int32)]) X hP hS hl.1 (c_X12_begins l D cA q aK aV hq hc3) sf_X12_begins bw_1510 sv_X12_begins (rcR_12 sR_0) rfl ⟨rfl, rfl⟩ ⟨Nat.le_of_ble_eq_true rfl, Nat.le_of_ble_eq_true rfl⟩ rfl rfl (Nat.le_of_ble_eq_true rfl) dX12_court_5 (fun H locs hP hS => ?_)
  refine lv_if_ne (tgt := 17) hx hb dX12_court_8 (by decide) (fun c4 => ?_) (fun c4 => ?_)
  · rw [if_neg c4] at h
    refine lv_aload_n hx hb dX12_court_17 rfl (lv_at hl 0 rfl) ?_
    refine lv_sipush (v := 2008) hx hb dX12_court_18 (by decide) ?_
    obtain ⟨_, M6, hc7, h⟩ := bnd_inv h
    refine gV_v (As := [.int (2008 : Int32)]) X hP hS hl.1 (c_X12_plain l D cA q aK aV hq hc7) sf_X12_plain bw_1319 sv_X12_plain (rcR_12 sR_0) rfl ⟨rfl, rfl⟩ ⟨Nat.le_of_ble_eq_true rfl, Nat.le_of_ble_eq_true rfl⟩ rfl rfl (Nat.le_of_ble_eq_true rfl) dX12_court_21 (fun H locs hP hS => ?_)
    refine lv_iconst (v := 1) hx hb dX12_court_24 (by decide) ?_
    refine lv_istore_n (lv' := [(2, .int (1 : Int32)), (0, .ref (q 0)), (1, .int a1)]) hx hb dX12_court_25 rfl hl (by decide) rfl (fun ls hl => ?_)
    obtain ⟨s8, M9, hc10, h⟩ := bnd_inv h
    try dsimp only at h
    refine hL26  fz _ _ _ _ _ _ hc10 hP hS (lv_sub hl [1, 0] rfl) (fun H locs ls hP hS hl => ?_)
    have hl : lv_has ls 4 [(0, .ref (q 0))] := hl
    refine lv_aload_n hx hb dX12_court_45 rfl (lv_at hl 0 rfl) ?_
    refine gfR_12_18 X hP sR_0 bw_1341 dX12_court_46 ?_
    refine lv_if_ne (tgt := 112) hx hb dX12_court_49 (by decide) (fun c11 => ?_) (fun c11 => ?_)
    · rw [if_neg c11] at h
      exact hJ112  _ _ _ _ h hP hS (lv_sub hl [0] rfl)
    · rw [if_pos c11] at h
      refine lv_iconst (v := 0) hx hb dX12_court_52 (by decide) ?_
      refine lv_istore_n (lv' := [(3, .int (0 : Int32)), (0, .ref (q 0))]) hx hb dX12_court_53 rfl hl (by decide) rfl (fun ls hl => ?_)
      obtain ⟨s12, M13, hc14, h⟩ := bnd_inv h
      try dsimp only at h
      refine hL54  fz _ _ _ _ _ _ hc14 hP hS (lv_sub hl [1, 0] rfl) (fun H locs ls hP hS hl => ?_)
      have hl : lv_has ls 4 [(0, .ref (q 0))] := hl
      refine lv_iconst (v := 0) hx hb dX12_court_83 (by decide) ?_
      refine lv_istore_n (lv' := [(3, .int (0 : Int32)), (0, .ref (q 0))]) hx hb dX12_court_84 rfl hl (by decide) rfl (fun ls hl => ?_)
      obtain ⟨s15, M16, hc17, h⟩ := bnd_inv h
      try dsimp only at h
      refine hL85  fz _ _ _ _ _ _ hc17 hP hS (lv_sub hl [1, 0] rfl) (fun H locs ls hP hS hl => ?_)
      have hl : lv_has ls 4 [(0, .ref (q 0))] := hl
      exact hJ112  _ _ _ _ h hP hS (lv_sub hl [0] rfl)
  · rw [if_pos c4] at h
    refine lv_aload_n hx hb dX12_court_11 rfl (lv_at hl 0 rfl) ?_
    refine lv_iconst (v := 1) hx hb dX12_court_12 (by decide) ?_
    obtain ⟨r18, M19, hc20, h⟩ := bnd_inv h
    refine gV_i (As := [.int (1 : Int32)]) X hP hS hl.1 (c_X12_refuse l D cA q aK aV hq hc20) sf_X12_refuse bw_1530 sv_X12_refuse (rcR_12 sR_0) rfl ⟨rfl, rfl⟩ ⟨Nat.le_of_ble_eq_true rfl, Nat.le_of_ble_eq_true rfl⟩ rfl rfl (Nat.le_of_ble_eq_true rfl) dX12_court_13 (fun H locs hP hS => ?_)
    exact end_i X hr hk hP hS h dX12_court_16
theorem dX12_personTo_0 : decode cX12_personTo 0 = .ok (.aload_n 0, 1) := by decide +kernel
theorem dX12_personTo_1 : decode cX12_personTo 1 = .ok (.bipush 11, 2) := by decide +kernel
theorem dX12_personTo_3 : decode cX12_personTo 3 = .ok (.aload_n 0, 1) := by decide +kernel
theorem dX12_personTo_4 : decode cX12_personTo 4 = .ok (.getfield 7, 3) := by decide +kernel
theorem dX12_personTo_7 : decode cX12_personTo 7 = .ok (.iconst 3, 1) := by decide +kernel
theorem dX12_personTo_8 : decode cX12_personTo 8 = .ok (.iaload, 1) := by decide +kernel
theorem dX12_personTo_9 : decode cX12_personTo 9 = .ok (.iload_n 1, 1) := by decide +kernel
theorem dX12_personTo_10 : decode cX12_personTo 10 = .ok (.invokevirtual 218, 3) := by decide +kernel
theorem dX12_personTo_13 : decode cX12_personTo 13 = .ok (.ireturn, 1) := by decide +kernel
set_option maxRecDepth 100000 in
set_option maxHeartbeats 8000000 in
theorem c_X12_personTo (l : Launch) (D : va_G) (cA : Nat → ClassId) (q aK aV : Nat → Nat) (hq : injG 20 q) {a1 : Int32} {M M0 : Mem} {r0 : Int32} (h : f_X12_personTo a1 M = some (r0, M0)) : Met l yX12_personTo (.code yX12_personTo cX12_personTo 2 (some .boolean) :: BW) ({ frames := 10, cells := 0, slots := 0, locals := 251 } : Room) (va_Pc [.ref (q 0), .int a1] (CB 20 (ceR cA q) D cA q aK aV M)) (Qi 20 (ceR cA q) D q r0 M0) 0 0 (AqG 20 q) := by
  refine gMet RX12 (by decide +kernel) rfl hq (Nat.le_of_ble_eq_true rfl) ?_
  intro p e s m below meth c ls X hr hk hP hS hl
  have hx := X.1
  have hb := X.2.1
  have hl : lv_has ls 2 [(0, .ref (q 0)), (1, .int a1)] := hl
  rw [f_X12_personTo] at h
  refine lv_aload_n hx hb dX12_personTo_0 rfl (lv_at hl 0 rfl) ?_
  refine lv_bipush (v := 11) hx hb dX12_personTo_1 (by decide) ?_
  refine lv_aload_n hx hb dX12_personTo_3 rfl (lv_at hl 0 rfl) ?_
  refine gfR_12_0 X hP sR_0 bw_1323 dX12_personTo_4 ?_
  refine lv_iconst (v := 3) hx hb dX12_personTo_7 (by decide) ?_
  refine ldR_ia X hP sR_1 zR_1 (by decide) dX12_personTo_8 ?_
  refine topE (y := (gI M 1 3)) rfl ?_
  refine lv_iload_n hx hb dX12_personTo_9 rfl (lv_at hl 1 rfl) ?_
  obtain ⟨r1, M2, hc3, h⟩ := bnd_inv h
  refine gV_i (As := [.int (11 : Int32), .int (gI M 1 3), .int a1]) X hP hS hl.1 (c_X12_oldOne l D cA q aK aV hq hc3) sf_X12_oldOne bw_1592 sv_X12_oldOne (rcR_12 sR_0) rfl ⟨rfl, rfl⟩ ⟨Nat.le_of_ble_eq_true rfl, Nat.le_of_ble_eq_true rfl⟩ rfl rfl (Nat.le_of_ble_eq_true rfl) dX12_personTo_10 (fun H locs hP hS => ?_)
  obtain ⟨g4, h⟩ := gd_inv h
  exact end_z X hr hk hP hS (Decidable.not_not.mp g4) h dX12_personTo_13
theorem dX12_smellTo_0 : decode cX12_smellTo 0 = .ok (.aload_n 0, 1) := by decide +kernel
theorem dX12_smellTo_1 : decode cX12_smellTo 1 = .ok (.iconst 0, 1) := by decide +kernel
theorem dX12_smellTo_2 : decode cX12_smellTo 2 = .ok (.aload_n 0, 1) := by decide +kernel
theorem dX12_smellTo_3 : decode cX12_smellTo 3 = .ok (.getfield 7, 3) := by decide +kernel
theorem dX12_smellTo_6 : decode cX12_smellTo 6 = .ok (.iconst 0, 1) := by decide +kernel
theorem dX12_smellTo_7 : decode cX12_smellTo 7 = .ok (.iaload, 1) := by decide +kernel
theorem dX12_smellTo_8 : decode cX12_smellTo 8 = .ok (.iload_n 1, 1) := by decide +kernel
theorem dX12_smellTo_9 : decode cX12_smellTo 9 = .ok (.invokevirtual 218, 3) := by decide +kernel
theorem dX12_smellTo_12 : decode cX12_smellTo 12 = .ok (.ireturn, 1) := by decide +kernel
set_option maxRecDepth 100000 in
set_option maxHeartbeats 8000000 in
theorem c_X12_smellTo (l : Launch) (D : va_G) (cA : Nat → ClassId) (q aK aV : Nat → Nat) (hq : injG 20 q) {a1 : Int32} {M M0 : Mem} {r0 : Int32} (h : f_X12_smellTo a1 M = some (r0, M0)) : Met l yX12_smellTo (.code yX12_smellTo cX12_smellTo 2 (some .boolean) :: BW) ({ frames := 10, cells := 0, slots := 0, locals := 251 } : Room) (va_Pc [.ref (q 0), .int a1] (CB 20 (ceR cA q) D cA q aK aV M)) (Qi 20 (ceR cA q) D q r0 M0) 0 0 (AqG 20 q) := by
  refine gMet RX12 (by decide +kernel) rfl hq (Nat.le_of_ble_eq_true rfl) ?_
  intro p e s m below meth c ls X hr hk hP hS hl
  have hx := X.1
  have hb := X.2.1
  have hl : lv_has ls 2 [(0, .ref (q 0)), (1, .int a1)] := hl
  rw [f_X12_smellTo] at h
  refine lv_aload_n hx hb dX12_smellTo_0 rfl (lv_at hl 0 rfl) ?_
  refine lv_iconst (v := 0) hx hb dX12_smellTo_1 (by decide) ?_
  refine lv_aload_n hx hb dX12_smellTo_2 rfl (lv_at hl 0 rfl) ?_
  refine gfR_12_0 X hP sR_0 bw_1323 dX12_smellTo_3 ?_
  refine lv_iconst (v := 0) hx hb dX12_smellTo_6 (by decide) ?_
  refine ldR_ia X hP sR_1 zR_1 (by decide) dX12_smellTo_7 ?_
  refine topE (y := (gI M 1 0)) rfl ?_
  refine lv_iload_n hx hb dX12_smellTo_8 rfl (lv_at hl 1 rfl) ?_
  obtain ⟨r1, M2, hc3, h⟩ := bnd_inv h
  refine gV_i (As := [.int (0 : Int32), .int (gI M 1 0), .int a1]) X hP hS hl.1 (c_X12_oldOne l D cA q aK aV hq hc3) sf_X12_oldOne bw_1592 sv_X12_oldOne (rcR_12 sR_0) rfl ⟨rfl, rfl⟩ ⟨Nat.le_of_ble_eq_true rfl, Nat.le_of_ble_eq_true rfl⟩ rfl rfl (Nat.le_of_ble_eq_true rfl) dX12_smellTo_9 (fun H locs hP hS => ?_)
  obtain ⟨g4, h⟩ := gd_inv h
  exact end_z X hr hk hP hS (Decidable.not_not.mp g4) h dX12_smellTo_12
theorem dX12_test_0 : decode cX12_test 0 = .ok (.aload_n 0, 1) := by decide +kernel
theorem dX12_test_1 : decode cX12_test 1 = .ok (.ldc 184, 2) := by decide +kernel
theorem dX12_test_3 : decode cX12_test 3 = .ok (.invokevirtual 176, 3) := by decide +kernel
theorem dX12_test_6 : decode cX12_test 6 = .ok (.istore_n 2, 1) := by decide +kernel
theorem dX12_test_7 : decode cX12_test 7 = .ok (.iload_n 2, 1) := by decide +kernel
theorem dX12_test_8 : decode cX12_test 8 = .ok (.bipush 11, 2) := by decide +kernel
theorem dX12_test_10 : decode cX12_test 10 = .ok (.if_icmp .eq 15, 3) := by decide +kernel
theorem dX12_test_13 : decode cX12_test 13 = .ok (.iload_n 2, 1) := by decide +kernel
theorem dX12_test_14 : decode cX12_test 14 = .ok (.bipush 26, 2) := by decide +kernel
theorem dX12_test_16 : decode cX12_test 16 = .ok (.if_icmp .ge 9, 3) := by decide +kernel
theorem dX12_test_19 : decode cX12_test 19 = .ok (.aload_n 0, 1) := by decide +kernel
theorem dX12_test_20 : decode cX12_test 20 = .ok (.iconst 2, 1) := by decide +kernel
theorem dX12_test_21 : decode cX12_test 21 = .ok (.invokevirtual 173, 3) := by decide +kernel
theorem dX12_test_24 : decode cX12_test 24 = .ok (.ireturn, 1) := by decide +kernel
theorem dX12_test_25 : decode cX12_test 25 = .ok (.aload_n 0, 1) := by decide +kernel
theorem dX12_test_26 : decode cX12_test 26 = .ok (.getfield 7, 3) := by decide +kernel
theorem dX12_test_29 : decode cX12_test 29 = .ok (.iload_n 1, 1) := by decide +kernel
theorem dX12_test_30 : decode cX12_test 30 = .ok (.sipush 2200, 3) := by decide +kernel
theorem dX12_test_33 : decode cX12_test 33 = .ok (.iload_n 2, 1) := by decide +kernel
theorem dX12_test_34 : decode cX12_test 34 = .ok (.iadd, 1) := by decide +kernel
theorem dX12_test_35 : decode cX12_test 35 = .ok (.iastore, 1) := by decide +kernel
theorem dX12_test_36 : decode cX12_test 36 = .ok (.aload_n 0, 1) := by decide +kernel
theorem dX12_test_37 : decode cX12_test 37 = .ok (.invokevirtual 167, 3) := by decide +kernel
theorem dX12_test_40 : decode cX12_test 40 = .ok (.iload_n 2, 1) := by decide +kernel
theorem dX12_test_41 : decode cX12_test 41 = .ok (.bipush 26, 2) := by decide +kernel
theorem dX12_test_43 : decode cX12_test 43 = .ok (.if_icmp .ne 36, 3) := by decide +kernel
theorem dX12_test_46 : decode cX12_test 46 = .ok (.aload_n 0, 1) := by decide +kernel
theorem dX12_test_47 : decode cX12_test 47 = .ok (.iload_n 1, 1) := by decide +kernel
theorem dX12_test_48 : decode cX12_test 48 = .ok (.iconst 1, 1) := by decide +kernel
theorem dX12_test_49 : decode cX12_test 49 = .ok (.iadd, 1) := by decide +kernel
theorem dX12_test_50 : decode cX12_test 50 = .ok (.invokevirtual 260, 3) := by decide +kernel
theorem dX12_test_53 : decode cX12_test 53 = .ok (.ifCond .eq 24, 3) := by decide +kernel
theorem dX12_test_56 : decode cX12_test 56 = .ok (.aload_n 0, 1) := by decide +kernel
theorem dX12_test_57 : decode cX12_test 57 = .ok (.iconst 5, 1) := by decide +kernel
theorem dX12_test_58 : decode cX12_test 58 = .ok (.aload_n 0, 1) := by decide +kernel
theorem dX12_test_59 : decode cX12_test 59 = .ok (.getfield 7, 3) := by decide +kernel
theorem dX12_test_62 : decode cX12_test 62 = .ok (.iconst 1, 1) := by decide +kernel
theorem dX12_test_63 : decode cX12_test 63 = .ok (.iaload, 1) := by decide +kernel
theorem dX12_test_64 : decode cX12_test 64 = .ok (.iload_n 1, 1) := by decide +kernel
theorem dX12_test_65 : decode cX12_test 65 = .ok (.iconst 2, 1) := by decide +kernel
theorem dX12_test_66 : decode cX12_test 66 = .ok (.iadd, 1) := by decide +kernel
theorem dX12_test_67 : decode cX12_test 67 = .ok (.invokevirtual 218, 3) := by decide +kernel
theorem dX12_test_70 : decode cX12_test 70 = .ok (.ifCond .eq 7, 3) := by decide +kernel
theorem dX12_test_73 : decode cX12_test 73 = .ok (.iconst 1, 1) := by decide +kernel
theorem dX12_test_74 : decode cX12_test 74 = .ok (.goto 4, 3) := by decide +kernel
theorem dX12_test_77 : decode cX12_test 77 = .ok (.iconst 0, 1) := by decide +kernel
theorem dX12_test_78 : decode cX12_test 78 = .ok (.ireturn, 1) := by decide +kernel
theorem dX12_test_79 : decode cX12_test 79 = .ok (.iload_n 2, 1) := by decide +kernel
theorem dX12_test_80 : decode cX12_test 80 = .ok (.bipush 11, 2) := by decide +kernel
theorem dX12_test_82 : decode cX12_test 82 = .ok (.if_icmp .eq 11, 3) := by decide +kernel
theorem dX12_test_85 : decode cX12_test 85 = .ok (.aload_n 0, 1) := by decide +kernel
theorem dX12_test_86 : decode cX12_test 86 = .ok (.iload_n 1, 1) := by decide +kernel
theorem dX12_test_87 : decode cX12_test 87 = .ok (.iconst 1, 1) := by decide +kernel
theorem dX12_test_88 : decode cX12_test 88 = .ok (.iadd, 1) := by decide +kernel
theorem dX12_test_89 : decode cX12_test 89 = .ok (.invokevirtual 260, 3) := by decide +kernel
theorem dX12_test_92 : decode cX12_test 92 = .ok (.ireturn, 1) := by decide +kernel
theorem dX12_test_93 : decode cX12_test 93 = .ok (.aload_n 0, 1) := by decide +kernel
theorem dX12_test_94 : decode cX12_test 94 = .ok (.bipush 60, 2) := by decide +kernel
theorem dX12_test_96 : decode cX12_test 96 = .ok (.invokevirtual 170, 3) := by decide +kernel
theorem dX12_test_99 : decode cX12_test 99 = .ok (.ifCond .ne 27, 3) := by decide +kernel
theorem dX12_test_102 : decode cX12_test 102 = .ok (.aload_n 0, 1) := by decide +kernel
theorem dX12_test_103 : decode cX12_test 103 = .ok (.bipush 62, 2) := by decide +kernel
theorem dX12_test_105 : decode cX12_test 105 = .ok (.invokevirtual 170, 3) := by decide +kernel
theorem dX12_test_108 : decode cX12_test 108 = .ok (.ifCond .ne 18, 3) := by decide +kernel
theorem dX12_test_111 : decode cX12_test 111 = .ok (.aload_n 0, 1) := by decide +kernel
theorem dX12_test_112 : decode cX12_test 112 = .ok (.bipush 61, 2) := by decide +kernel
theorem dX12_test_114 : decode cX12_test 114 = .ok (.invokevirtual 170, 3) := by decide +kernel
theorem dX12_test_117 : decode cX12_test 117 = .ok (.ifCond .ne 9, 3) := by decide +kernel
theorem dX12_test_120 : decode cX12_test 120 = .ok (.aload_n 0, 1) := by decide +kernel
theorem dX12_test_121 : decode cX12_test 121 = .ok (.iconst 2, 1) := by decide +kernel
theorem dX12_test_122 : decode cX12_test 122 = .ok (.invokevirtual 173, 3) := by decide +kernel
theorem dX12_test_125 : decode cX12_test 125 = .ok (.ireturn, 1) := by decide +kernel
theorem dX12_test_126 : decode cX12_test 126 = .ok (.aload_n 0, 1) := by decide +kernel
theorem dX12_test_127 : decode cX12_test 127 = .ok (.getfield 7, 3) := by decide +kernel
theorem dX12_test_130 : decode cX12_test 130 = .ok (.iload_n 1, 1) := by decide +kernel
theorem dX12_test_131 : decode cX12_test 131 = .ok (.iconst 5, 1) := by decide +kernel
theorem dX12_test_132 : decode cX12_test 132 = .ok (.iadd, 1) := by decide +kernel
theorem dX12_test_133 : decode cX12_test 133 = .ok (.aload_n 0, 1) := by decide +kernel
theorem dX12_test_134 : decode cX12_test 134 = .ok (.getfield 133, 3) := by decide +kernel
theorem dX12_test_137 : decode cX12_test 137 = .ok (.iastore, 1) := by decide +kernel
theorem dX12_test_138 : decode cX12_test 138 = .ok (.aload_n 0, 1) := by decide +kernel
theorem dX12_test_139 : decode cX12_test 139 = .ok (.invokevirtual 167, 3) := by decide +kernel
theorem dX12_test_142 : decode cX12_test 142 = .ok (.aload_n 0, 1) := by decide +kernel
theorem dX12_test_143 : decode cX12_test 143 = .ok (.iload_n 1, 1) := by decide +kernel
theorem dX12_test_144 : decode cX12_test 144 = .ok (.iconst 2, 1) := by decide +kernel
theorem dX12_test_145 : decode cX12_test 145 = .ok (.iadd, 1) := by decide +kernel
theorem dX12_test_146 : decode cX12_test 146 = .ok (.iconst 0, 1) := by decide +kernel
theorem dX12_test_147 : decode cX12_test 147 = .ok (.bipush 9, 2) := by decide +kernel
theorem dX12_test_149 : decode cX12_test 149 = .ok (.invokevirtual 212, 3) := by decide +kernel
theorem dX12_test_152 : decode cX12_test 152 = .ok (.ireturn, 1) := by decide +kernel
set_option maxRecDepth 100000 in
set_option maxHeartbeats 8000000 in
theorem c_X12_test (l : Launch) (D : va_G) (cA : Nat → ClassId) (q aK aV : Nat → Nat) (hq : injG 20 q) {a1 : Int32} {M M0 : Mem} {r0 : Int32} (h : f_X12_test a1 M = some (r0, M0)) : Met l yX12_test (.code yX12_test cX12_test 3 (some .boolean) :: BW) ({ frames := 11, cells := 0, slots := 0, locals := 272 } : Room) (va_Pc [.ref (q 0), .int a1] (CB 20 (ceR cA q) D cA q aK aV M)) (Qi 20 (ceR cA q) D q r0 M0) 0 0 (AqG 20 q) := by
  refine gMet RX12 (by decide +kernel) rfl hq (Nat.le_of_ble_eq_true rfl) ?_
  intro p e s m below meth c ls X hr hk hP hS hl
  have hx := X.1
  have hb := X.2.1
  have hl : lv_has ls 3 [(0, .ref (q 0)), (1, .int a1)] := hl
  rw [f_X12_test] at h
  have hJ126 : ∀ (M : Mem) (H : Heap) (locs : List Loc) (ls : Array Slot), f_X12_test_J126 a1 M = some (r0, M0) → va_P D vwCl (wsG 20 (ceR cA q) q M) H → va_S (AqG 20 q) s.heap H locs → lv_has ls 3 [(0, .ref (q 0)), (1, .int a1)] → W p l e ({ frames := 11, cells := 0, slots := 0, locals := 272 } : Room) s m [.ref (q 0), .int a1].toArray below meth c H locs 0 0 (MQ below (Qi 20 (ceR cA q) D q r0 M0) [.ref (q 0), .int a1].toArray s 0 0 (AqG 20 q)) (F0 m 126 ls []) := by
    intro M H locs ls h hP hS hl
    rw [f_X12_test_J126] at h
    refine lv_aload_n hx hb dX12_test_126 rfl (lv_at hl 0 rfl) ?_
    refine gfR_12_0 X hP sR_0 bw_1323 dX12_test_127 ?_
    refine lv_iload_n hx hb dX12_test_130 rfl (lv_at hl 1 rfl) ?_
    refine lv_iconst (v := 5) hx hb dX12_test_131 (by decide) ?_
    refine lv_iadd hx hb dX12_test_132 ?_
    refine lv_aload_n hx hb dX12_test_133 rfl (lv_at hl 0 rfl) ?_
    refine gfR_12_15 X hP sR_0 bw_1338 dX12_test_134 ?_
    obtain ⟨g45, h⟩ := gd_inv h
    obtain ⟨M46, eM46, h⟩ := lt_inv h
    refine stR_ia X hP hS sR_1 zR_1 g45 eM46 dX12_test_137 (fun H locs hP hS => ?_)
    refine lv_aload_n hx hb dX12_test_138 rfl (lv_at hl 0 rfl) ?_
    obtain ⟨_, M48, hc49, h⟩ := bnd_inv h
    refine gV_v (As := []) X hP hS hl.1 (c_X12_ahead l D cA q aK aV hq hc49) sf_X12_ahead bw_1514 sv_X12_ahead (rcR_12 sR_0) rfl ⟨rfl, rfl⟩ ⟨Nat.le_of_ble_eq_true rfl, Nat.le_of_ble_eq_true rfl⟩ rfl rfl (Nat.le_of_ble_eq_true rfl) dX12_test_139 (fun H locs hP hS => ?_)
    refine lv_aload_n hx hb dX12_test_142 rfl (lv_at hl 0 rfl) ?_
    refine lv_iload_n hx hb dX12_test_143 rfl (lv_at hl 1 rfl) ?_
    refine lv_iconst (v := 2) hx hb dX12_test_144 (by decide) ?_
    refine lv_iadd hx hb dX12_test_145 ?_
    refine lv_iconst (v := 0) hx hb dX12_test_146 (by decide) ?_
    refine lv_bipush (v := 9) hx hb dX12_test_147 (by decide) ?_
    obtain ⟨r50, M51, hc52, h⟩ := bnd_inv h
    refine gV_i (As := [.int (a1 + (2 : Int32)), .int (0 : Int32), .int (9 : Int32)]) X hP hS hl.1 (c_X12_number l D cA q aK aV hq hc52) sf_X12_number bw_1608 sv_X12_number (rcR_12 sR_0) rfl ⟨rfl, rfl⟩ ⟨Nat.le_of_ble_eq_true rfl, Nat.le_of_ble_eq_true rfl⟩ rfl rfl (Nat.le_of_ble_eq_true rfl) dX12_test_149 (fun H locs hP hS => ?_)
    obtain ⟨g53, h⟩ := gd_inv h
    exact end_z X hr hk hP hS (Decidable.not_not.mp g53) h dX12_test_152
  have hJ25 : ∀ (b2 : Int32) (M : Mem) (H : Heap) (locs : List Loc) (ls : Array Slot), f_X12_test_J25 a1 b2 M = some (r0, M0) → va_P D vwCl (wsG 20 (ceR cA q) q M) H → va_S (AqG 20 q) s.heap H locs → lv_has ls 3 [(0, .ref (q 0)), (1, .int a1), (2, .int b2)] → W p l e ({ frames := 11, cells := 0, slots := 0, locals := 272 } : Room) s m [.ref (q 0), .int a1].toArray below meth c H locs 0 0 (MQ below (Qi 20 (ceR cA q) D q r0 M0) [.ref (q 0), .int a1].toArray s 0 0 (AqG 20 q)) (F0 m 25 ls []) := by
    intro b2 M H locs ls h hP hS hl
    rw [f_X12_test_J25] at h
    refine lv_aload_n hx hb dX12_test_25 rfl (lv_at hl 0 rfl) ?_
    refine gfR_12_0 X hP sR_0 bw_1323 dX12_test_26 ?_
    refine lv_iload_n hx hb dX12_test_29 rfl (lv_at hl 1 rfl) ?_
    refine lv_sipush (v := 2200) hx hb dX12_test_30 (by decide) ?_
    refine lv_iload_n hx hb dX12_test_33 rfl (lv_at hl 2 rfl) ?_
    refine lv_iadd hx hb dX12_test_34 ?_
    obtain ⟨g10, h⟩ := gd_inv h
    obtain ⟨M11, eM11, h⟩ := lt_inv h
    refine stR_ia X hP hS sR_1 zR_1 g10 eM11 dX12_test_35 (fun H locs hP hS => ?_)
    refine lv_aload_n hx hb dX12_test_36 rfl (lv_at hl 0 rfl) ?_
    obtain ⟨_, M13, hc14, h⟩ := bnd_inv h
    refine gV_v (As := []) X hP hS hl.1 (c_X12_ahead l D cA q aK aV hq hc14) sf_X12_ahead bw_1514 sv_X12_ahead (rcR_12 sR_0) rfl ⟨rfl, rfl⟩ ⟨Nat.le_of_ble_eq_true rfl, Nat.le_of_ble_eq_true rfl⟩ rfl rfl (Nat.le_of_ble_eq_true rfl) dX12_test_37 (fun H locs hP hS => ?_)
    refine lv_iload_n hx hb dX12_test_40 rfl (lv_at hl 2 rfl) ?_
    refine lv_bipush (v := 26) hx hb dX12_test_41 (by decide) ?_
    refine lv_icmp_ne (tgt := 79) hx hb dX12_test_43 (by decide) (fun c15 => ?_) (fun c15 => ?_)
    · rw [if_neg c15] at h
      refine lv_iload_n hx hb dX12_test_79 rfl (lv_at hl 2 rfl) ?_
      refine lv_bipush (v := 11) hx hb dX12_test_80 (by decide) ?_
      refine lv_icmp_eq (tgt := 93) hx hb dX12_test_82 (by decide) (fun c16 => ?_) (fun c16 => ?_)
      · rw [if_pos c16] at h
        refine lv_aload_n hx hb dX12_test_93 rfl (lv_at hl 0 rfl) ?_
        refine lv_bipush (v := 60) hx hb dX12_test_94 (by decide) ?_
        obtain ⟨r17, M18, hc19, h⟩ := bnd_inv h
        refine gV_i (As := [.int (60 : Int32)]) X hP hS hl.1 (c_X12_isSign l D cA q aK aV hq hc19) sf_X12_isSign bw_1604 sv_X12_isSign (rcR_12 sR_0) rfl ⟨rfl, rfl⟩ ⟨Nat.le_of_ble_eq_true rfl, Nat.le_of_ble_eq_true rfl⟩ rfl rfl (Nat.le_of_ble_eq_true rfl) dX12_test_96 (fun H locs hP hS => ?_)
        refine lv_if_ne (tgt := 126) hx hb dX12_test_99 (by decide) (fun c20 => ?_) (fun c20 => ?_)
        · rw [if_neg c20] at h
          exact hJ126  _ _ _ _ h hP hS (lv_sub hl [0, 1] rfl)
        · rw [if_pos c20] at h
          refine lv_aload_n hx hb dX12_test_102 rfl (lv_at hl 0 rfl) ?_
          refine lv_bipush (v := 62) hx hb dX12_test_103 (by decide) ?_
          obtain ⟨r21, M22, hc23, h⟩ := bnd_inv h
          refine gV_i (As := [.int (62 : Int32)]) X hP hS hl.1 (c_X12_isSign l D cA q aK aV hq hc23) sf_X12_isSign bw_1604 sv_X12_isSign (rcR_12 sR_0) rfl ⟨rfl, rfl⟩ ⟨Nat.le_of_ble_eq_true rfl, Nat.le_of_ble_eq_true rfl⟩ rfl rfl (Nat.le_of_ble_eq_true rfl) dX12_test_105 (fun H locs hP hS => ?_)
          refine lv_if_ne (tgt := 126) hx hb dX12_test_108 (by decide) (fun c24 => ?_) (fun c24 => ?_)
          · rw [if_neg c24] at h
            exact hJ126  _ _ _ _ h hP hS (lv_sub hl [0, 1] rfl)
          · rw [if_pos c24] at h
            refine lv_aload_n hx hb dX12_test_111 rfl (lv_at hl 0 rfl) ?_
            refine lv_bipush (v := 61) hx hb dX12_test_112 (by decide) ?_
            obtain ⟨r25, M26, hc27, h⟩ := bnd_inv h
            refine gV_i (As := [.int (61 : Int32)]) X hP hS hl.1 (c_X12_isSign l D cA q aK aV hq hc27) sf_X12_isSign bw_1604 sv_X12_isSign (rcR_12 sR_0) rfl ⟨rfl, rfl⟩ ⟨Nat.le_of_ble_eq_true rfl, Nat.le_of_ble_eq_true rfl⟩ rfl rfl (Nat.le_of_ble_eq_true rfl) dX12_test_114 (fun H locs hP hS => ?_)
            refine lv_if_ne (tgt := 126) hx hb dX12_test_117 (by decide) (fun c28 => ?_) (fun c28 => ?_)
            · rw [if_neg c28] at h
              exact hJ126  _ _ _ _ h hP hS (lv_sub hl [0, 1] rfl)
            · rw [if_pos c28] at h
              refine lv_aload_n hx hb dX12_test_120 rfl (lv_at hl 0 rfl) ?_
              refine lv_iconst (v := 2) hx hb dX12_test_121 (by decide) ?_
              obtain ⟨r29, M30, hc31, h⟩ := bnd_inv h
              refine gV_i (As := [.int (2 : Int32)]) X hP hS hl.1 (c_X12_fails l D cA q aK aV hq hc31) sf_X12_fails bw_1545 sv_X12_fails (rcR_12 sR_0) rfl ⟨rfl, rfl⟩ ⟨Nat.le_of_ble_eq_true rfl, Nat.le_of_ble_eq_true rfl⟩ rfl rfl (Nat.le_of_ble_eq_true rfl) dX12_test_122 (fun H locs hP hS => ?_)
              obtain ⟨g32, h⟩ := gd_inv h
              exact end_z X hr hk hP hS (Decidable.not_not.mp g32) h dX12_test_125
      · rw [if_neg c16] at h
        refine lv_aload_n hx hb dX12_test_85 rfl (lv_at hl 0 rfl) ?_
        refine lv_iload_n hx hb dX12_test_86 rfl (lv_at hl 1 rfl) ?_
        refine lv_iconst (v := 1) hx hb dX12_test_87 (by decide) ?_
        refine lv_iadd hx hb dX12_test_88 ?_
        obtain ⟨r33, M34, hc35, h⟩ := bnd_inv h
        refine gV_i (As := [.int (a1 + (1 : Int32))]) X hP hS hl.1 (c_X12_personTo l D cA q aK aV hq hc35) sf_X12_personTo bw_1655 sv_X12_personTo (rcR_12 sR_0) rfl ⟨rfl, rfl⟩ ⟨Nat.le_of_ble_eq_true rfl, Nat.le_of_ble_eq_true rfl⟩ rfl rfl (Nat.le_of_ble_eq_true rfl) dX12_test_89 (fun H locs hP hS => ?_)
        obtain ⟨g36, h⟩ := gd_inv h
        exact end_z X hr hk hP hS (Decidable.not_not.mp g36) h dX12_test_92
    · rw [if_pos c15] at h
      refine lv_aload_n hx hb dX12_test_46 rfl (lv_at hl 0 rfl) ?_
      refine lv_iload_n hx hb dX12_test_47 rfl (lv_at hl 1 rfl) ?_
      refine lv_iconst (v := 1) hx hb dX12_test_48 (by decide) ?_
      refine lv_iadd hx hb dX12_test_49 ?_
      obtain ⟨r37, M38, hc39, h⟩ := bnd_inv h
      refine gV_i (As := [.int (a1 + (1 : Int32))]) X hP hS hl.1 (c_X12_personTo l D cA q aK aV hq hc39) sf_X12_personTo bw_1655 sv_X12_personTo (rcR_12 sR_0) rfl ⟨rfl, rfl⟩ ⟨Nat.le_of_ble_eq_true rfl, Nat.le_of_ble_eq_true rfl⟩ rfl rfl (Nat.le_of_ble_eq_true rfl) dX12_test_50 (fun H locs hP hS => ?_)
      refine lv_if_eq (tgt := 77) hx hb dX12_test_53 (by decide) (fun c40 => ?_) (fun c40 => ?_)
      · rw [if_pos c40] at h
        refine lv_iconst (v := 0) hx hb dX12_test_77 (by decide) ?_
        exact end_z X hr hk hP hS (Or.inl rfl) h dX12_test_78
      · rw [if_neg c40] at h
        refine lv_aload_n hx hb dX12_test_56 rfl (lv_at hl 0 rfl) ?_
        refine lv_iconst (v := 5) hx hb dX12_test_57 (by decide) ?_
        refine lv_aload_n hx hb dX12_test_58 rfl (lv_at hl 0 rfl) ?_
        refine gfR_12_0 X hP sR_0 bw_1323 dX12_test_59 ?_
        refine lv_iconst (v := 1) hx hb dX12_test_62 (by decide) ?_
        refine ldR_ia X hP sR_1 zR_1 (by decide) dX12_test_63 ?_
        refine topE (y := (gI M38 1 1)) rfl ?_
        refine lv_iload_n hx hb dX12_test_64 rfl (lv_at hl 1 rfl) ?_
        refine lv_iconst (v := 2) hx hb dX12_test_65 (by decide) ?_
        refine lv_iadd hx hb dX12_test_66 ?_
        obtain ⟨r41, M42, hc43, h⟩ := bnd_inv h
        refine gV_i (As := [.int (5 : Int32), .int (gI M38 1 1), .int (a1 + (2 : Int32))]) X hP hS hl.1 (c_X12_oldOne l D cA q aK aV hq hc43) sf_X12_oldOne bw_1592 sv_X12_oldOne (rcR_12 sR_0) rfl ⟨rfl, rfl⟩ ⟨Nat.le_of_ble_eq_true rfl, Nat.le_of_ble_eq_true rfl⟩ rfl rfl (Nat.le_of_ble_eq_true rfl) dX12_test_67 (fun H locs hP hS => ?_)
        refine lv_if_eq (tgt := 77) hx hb dX12_test_70 (by decide) (fun c44 => ?_) (fun c44 => ?_)
        · rw [if_pos c44] at h
          refine lv_iconst (v := 0) hx hb dX12_test_77 (by decide) ?_
          exact end_z X hr hk hP hS (Or.inl rfl) h dX12_test_78
        · rw [if_neg c44] at h
          refine lv_iconst (v := 1) hx hb dX12_test_73 (by decide) ?_
          refine lv_goto (tgt := 78) hx hb dX12_test_74 (by decide) ?_
          exact end_z X hr hk hP hS (Or.inr rfl) h dX12_test_78
  refine lv_aload_n hx hb dX12_test_0 rfl (lv_at hl 0 rfl) ?_
  refine va_ldcS hx hb X.2.2.2.1 (X_k1 X) dX12_test_1 ?_
  obtain ⟨r1, M2, hc3, h⟩ := bnd_inv h
  refine gV_i (As := [.ref (aK 1)]) X hP hS hl.1 (c_X12_inWords l D cA q aK aV hq hc3) sf_X12_inWords bw_1539 sv_X12_inWords (rcR_12 sR_0) rfl ⟨rfl, rfl⟩ ⟨Nat.le_of_ble_eq_true rfl, Nat.le_of_ble_eq_true rfl⟩ rfl rfl (Nat.le_of_ble_eq_true rfl) dX12_test_3 (fun H locs hP hS => ?_)
  refine lv_istore_n (lv' := [(2, .int r1), (0, .ref (q 0)), (1, .int a1)]) hx hb dX12_test_6 rfl hl (by decide) rfl (fun ls hl => ?_)
  refine lv_iload_n hx hb dX12_test_7 rfl (lv_at hl 0 rfl) ?_
  refine lv_bipush (v := 11) hx hb dX12_test_8 (by decide) ?_
  refine lv_icmp_eq (tgt := 25) hx hb dX12_test_10 (by decide) (fun c4 => ?_) (fun c4 => ?_)
  · rw [if_pos c4] at h
    exact hJ25 _ _ _ _ _ h hP hS (lv_sub hl [1, 2, 0] rfl)
  · rw [if_neg c4] at h
    refine lv_iload_n hx hb dX12_test_13 rfl (lv_at hl 0 rfl) ?_
    refine lv_bipush (v := 26) hx hb dX12_test_14 (by decide) ?_
    refine lv_icmp_ge (tgt := 25) hx hb dX12_test_16 (by decide) (fun c5 => ?_) (fun c5 => ?_)
    · rw [if_pos c5] at h
      exact hJ25 _ _ _ _ _ h hP hS (lv_sub hl [1, 2, 0] rfl)
    · rw [if_neg c5] at h
      refine lv_aload_n hx hb dX12_test_19 rfl (lv_at hl 1 rfl) ?_
      refine lv_iconst (v := 2) hx hb dX12_test_20 (by decide) ?_
      obtain ⟨r6, M7, hc8, h⟩ := bnd_inv h
      refine gV_i (As := [.int (2 : Int32)]) X hP hS hl.1 (c_X12_fails l D cA q aK aV hq hc8) sf_X12_fails bw_1545 sv_X12_fails (rcR_12 sR_0) rfl ⟨rfl, rfl⟩ ⟨Nat.le_of_ble_eq_true rfl, Nat.le_of_ble_eq_true rfl⟩ rfl rfl (Nat.le_of_ble_eq_true rfl) dX12_test_21 (fun H locs hP hS => ?_)
      obtain ⟨g9, h⟩ := gd_inv h
      exact end_z X hr hk hP hS (Decidable.not_not.mp g9) h dX12_test_24
theorem dX12_weekOrder_0 : decode cX12_weekOrder 0 = .ok (.iload_n 1, 1) := by decide +kernel
theorem dX12_weekOrder_1 : decode cX12_weekOrder 1 = .ok (.tableswitch 131 15 23 #[51, 131, 59, 88, 88, 131, 131, 125, 114], 51) := by decide +kernel
theorem dX12_weekOrder_52 : decode cX12_weekOrder 52 = .ok (.aload_n 0, 1) := by decide +kernel
theorem dX12_weekOrder_53 : decode cX12_weekOrder 53 = .ok (.iload_n 2, 1) := by decide +kernel
theorem dX12_weekOrder_54 : decode cX12_weekOrder 54 = .ok (.iconst 1, 1) := by decide +kernel
theorem dX12_weekOrder_55 : decode cX12_weekOrder 55 = .ok (.iadd, 1) := by decide +kernel
theorem dX12_weekOrder_56 : decode cX12_weekOrder 56 = .ok (.invokevirtual 260, 3) := by decide +kernel
theorem dX12_weekOrder_59 : decode cX12_weekOrder 59 = .ok (.ireturn, 1) := by decide +kernel
theorem dX12_weekOrder_60 : decode cX12_weekOrder 60 = .ok (.aload_n 0, 1) := by decide +kernel
theorem dX12_weekOrder_61 : decode cX12_weekOrder 61 = .ok (.iload_n 2, 1) := by decide +kernel
theorem dX12_weekOrder_62 : decode cX12_weekOrder 62 = .ok (.iconst 1, 1) := by decide +kernel
theorem dX12_weekOrder_63 : decode cX12_weekOrder 63 = .ok (.iadd, 1) := by decide +kernel
theorem dX12_weekOrder_64 : decode cX12_weekOrder 64 = .ok (.invokevirtual 260, 3) := by decide +kernel
theorem dX12_weekOrder_67 : decode cX12_weekOrder 67 = .ok (.ifCond .eq 20, 3) := by decide +kernel
theorem dX12_weekOrder_70 : decode cX12_weekOrder 70 = .ok (.aload_n 0, 1) := by decide +kernel
theorem dX12_weekOrder_71 : decode cX12_weekOrder 71 = .ok (.iload_n 2, 1) := by decide +kernel
theorem dX12_weekOrder_72 : decode cX12_weekOrder 72 = .ok (.iconst 2, 1) := by decide +kernel
theorem dX12_weekOrder_73 : decode cX12_weekOrder 73 = .ok (.iadd, 1) := by decide +kernel
theorem dX12_weekOrder_74 : decode cX12_weekOrder 74 = .ok (.iconst 1, 1) := by decide +kernel
theorem dX12_weekOrder_75 : decode cX12_weekOrder 75 = .ok (.bipush 9, 2) := by decide +kernel
theorem dX12_weekOrder_77 : decode cX12_weekOrder 77 = .ok (.invokevirtual 212, 3) := by decide +kernel
theorem dX12_weekOrder_80 : decode cX12_weekOrder 80 = .ok (.ifCond .eq 7, 3) := by decide +kernel
theorem dX12_weekOrder_83 : decode cX12_weekOrder 83 = .ok (.iconst 1, 1) := by decide +kernel
theorem dX12_weekOrder_84 : decode cX12_weekOrder 84 = .ok (.goto 4, 3) := by decide +kernel
theorem dX12_weekOrder_87 : decode cX12_weekOrder 87 = .ok (.iconst 0, 1) := by decide +kernel
theorem dX12_weekOrder_88 : decode cX12_weekOrder 88 = .ok (.ireturn, 1) := by decide +kernel
theorem dX12_weekOrder_89 : decode cX12_weekOrder 89 = .ok (.aload_n 0, 1) := by decide +kernel
theorem dX12_weekOrder_90 : decode cX12_weekOrder 90 = .ok (.iload_n 2, 1) := by decide +kernel
theorem dX12_weekOrder_91 : decode cX12_weekOrder 91 = .ok (.iconst 1, 1) := by decide +kernel
theorem dX12_weekOrder_92 : decode cX12_weekOrder 92 = .ok (.iadd, 1) := by decide +kernel
theorem dX12_weekOrder_93 : decode cX12_weekOrder 93 = .ok (.invokevirtual 260, 3) := by decide +kernel
theorem dX12_weekOrder_96 : decode cX12_weekOrder 96 = .ok (.ifCond .eq 17, 3) := by decide +kernel
theorem dX12_weekOrder_99 : decode cX12_weekOrder 99 = .ok (.aload_n 0, 1) := by decide +kernel
theorem dX12_weekOrder_100 : decode cX12_weekOrder 100 = .ok (.iload_n 2, 1) := by decide +kernel
theorem dX12_weekOrder_101 : decode cX12_weekOrder 101 = .ok (.iconst 2, 1) := by decide +kernel
theorem dX12_weekOrder_102 : decode cX12_weekOrder 102 = .ok (.iadd, 1) := by decide +kernel
theorem dX12_weekOrder_103 : decode cX12_weekOrder 103 = .ok (.invokevirtual 263, 3) := by decide +kernel
theorem dX12_weekOrder_106 : decode cX12_weekOrder 106 = .ok (.ifCond .eq 7, 3) := by decide +kernel
theorem dX12_weekOrder_109 : decode cX12_weekOrder 109 = .ok (.iconst 1, 1) := by decide +kernel
theorem dX12_weekOrder_110 : decode cX12_weekOrder 110 = .ok (.goto 4, 3) := by decide +kernel
theorem dX12_weekOrder_113 : decode cX12_weekOrder 113 = .ok (.iconst 0, 1) := by decide +kernel
theorem dX12_weekOrder_114 : decode cX12_weekOrder 114 = .ok (.ireturn, 1) := by decide +kernel
theorem dX12_weekOrder_115 : decode cX12_weekOrder 115 = .ok (.aload_n 0, 1) := by decide +kernel
theorem dX12_weekOrder_116 : decode cX12_weekOrder 116 = .ok (.iload_n 2, 1) := by decide +kernel
theorem dX12_weekOrder_117 : decode cX12_weekOrder 117 = .ok (.iconst 1, 1) := by decide +kernel
theorem dX12_weekOrder_118 : decode cX12_weekOrder 118 = .ok (.iadd, 1) := by decide +kernel
theorem dX12_weekOrder_119 : decode cX12_weekOrder 119 = .ok (.iconst 1, 1) := by decide +kernel
theorem dX12_weekOrder_120 : decode cX12_weekOrder 120 = .ok (.bipush 99, 2) := by decide +kernel
theorem dX12_weekOrder_122 : decode cX12_weekOrder 122 = .ok (.invokevirtual 212, 3) := by decide +kernel
theorem dX12_weekOrder_125 : decode cX12_weekOrder 125 = .ok (.ireturn, 1) := by decide +kernel
theorem dX12_weekOrder_126 : decode cX12_weekOrder 126 = .ok (.aload_n 0, 1) := by decide +kernel
theorem dX12_weekOrder_127 : decode cX12_weekOrder 127 = .ok (.iload_n 2, 1) := by decide +kernel
theorem dX12_weekOrder_128 : decode cX12_weekOrder 128 = .ok (.invokevirtual 266, 3) := by decide +kernel
theorem dX12_weekOrder_131 : decode cX12_weekOrder 131 = .ok (.ireturn, 1) := by decide +kernel
theorem dX12_weekOrder_132 : decode cX12_weekOrder 132 = .ok (.iconst 1, 1) := by decide +kernel
theorem dX12_weekOrder_133 : decode cX12_weekOrder 133 = .ok (.ireturn, 1) := by decide +kernel
set_option maxRecDepth 100000 in
set_option maxHeartbeats 8000000 in
theorem c_X12_weekOrder (l : Launch) (D : va_G) (cA : Nat → ClassId) (q aK aV : Nat → Nat) (hq : injG 20 q) {a1 : Int32} {a2 : Int32} {M M0 : Mem} {r0 : Int32} (h : f_X12_weekOrder a1 a2 M = some (r0, M0)) : Met l yX12_weekOrder (.code yX12_weekOrder cX12_weekOrder 3 (some .boolean) :: BW) ({ frames := 12, cells := 0, slots := 0, locals := 294 } : Room) (va_Pc [.ref (q 0), .int a1, .int a2] (CB 20 (ceR cA q) D cA q aK aV M)) (Qi 20 (ceR cA q) D q r0 M0) 0 0 (AqG 20 q) := by
  refine gMet RX12 (by decide +kernel) rfl hq (Nat.le_of_ble_eq_true rfl) ?_
  intro p e s m below meth c ls X hr hk hP hS hl
  have hx := X.1
  have hb := X.2.1
  have hl : lv_has ls 3 [(0, .ref (q 0)), (1, .int a1), (2, .int a2)] := hl
  rw [f_X12_weekOrder] at h
  refine lv_iload_n hx hb dX12_weekOrder_0 rfl (lv_at hl 1 rfl) ?_
  by_cases c5 : a1 = 15
  · rw [if_pos c5] at h
    refine lv_tableIn (tgt := 52) hx hb dX12_weekOrder_1 (by rw [c5]; decide) (by rw [c5]; decide) (by rw [c5]; rfl) (by decide) ?_
    refine lv_aload_n hx hb dX12_weekOrder_52 rfl (lv_at hl 0 rfl) ?_
    refine lv_iload_n hx hb dX12_weekOrder_53 rfl (lv_at hl 2 rfl) ?_
    refine lv_iconst (v := 1) hx hb dX12_weekOrder_54 (by decide) ?_
    refine lv_iadd hx hb dX12_weekOrder_55 ?_
    obtain ⟨r1, M2, hc3, h⟩ := bnd_inv h
    refine gV_i (As := [.int (a2 + (1 : Int32))]) X hP hS hl.1 (c_X12_personTo l D cA q aK aV hq hc3) sf_X12_personTo bw_1655 sv_X12_personTo (rcR_12 sR_0) rfl ⟨rfl, rfl⟩ ⟨Nat.le_of_ble_eq_true rfl, Nat.le_of_ble_eq_true rfl⟩ rfl rfl (Nat.le_of_ble_eq_true rfl) dX12_weekOrder_56 (fun H locs hP hS => ?_)
    obtain ⟨g4, h⟩ := gd_inv h
    exact end_z X hr hk hP hS (Decidable.not_not.mp g4) h dX12_weekOrder_59
  rw [if_neg c5] at h
  by_cases c6 : a1 = 16
  · rw [if_pos c6] at h
    refine lv_tableIn (tgt := 132) hx hb dX12_weekOrder_1 (by rw [c6]; decide) (by rw [c6]; decide) (by rw [c6]; rfl) (by decide) ?_
    refine lv_iconst (v := 1) hx hb dX12_weekOrder_132 (by decide) ?_
    exact end_z X hr hk hP hS (Or.inr rfl) h dX12_weekOrder_133
  rw [if_neg c6] at h
  by_cases c15 : a1 = 17
  · rw [if_pos c15] at h
    refine lv_tableIn (tgt := 60) hx hb dX12_weekOrder_1 (by rw [c15]; decide) (by rw [c15]; decide) (by rw [c15]; rfl) (by decide) ?_
    refine lv_aload_n hx hb dX12_weekOrder_60 rfl (lv_at hl 0 rfl) ?_
    refine lv_iload_n hx hb dX12_weekOrder_61 rfl (lv_at hl 2 rfl) ?_
    refine lv_iconst (v := 1) hx hb dX12_weekOrder_62 (by decide) ?_
    refine lv_iadd hx hb dX12_weekOrder_63 ?_
    obtain ⟨r7, M8, hc9, h⟩ := bnd_inv h
    refine gV_i (As := [.int (a2 + (1 : Int32))]) X hP hS hl.1 (c_X12_personTo l D cA q aK aV hq hc9) sf_X12_personTo bw_1655 sv_X12_personTo (rcR_12 sR_0) rfl ⟨rfl, rfl⟩ ⟨Nat.le_of_ble_eq_true rfl, Nat.le_of_ble_eq_true rfl⟩ rfl rfl (Nat.le_of_ble_eq_true rfl) dX12_weekOrder_64 (fun H locs hP hS => ?_)
    refine lv_if_eq (tgt := 87) hx hb dX12_weekOrder_67 (by decide) (fun c10 => ?_) (fun c10 => ?_)
    · rw [if_pos c10] at h
      refine lv_iconst (v := 0) hx hb dX12_weekOrder_87 (by decide) ?_
      exact end_z X hr hk hP hS (Or.inl rfl) h dX12_weekOrder_88
    · rw [if_neg c10] at h
      refine lv_aload_n hx hb dX12_weekOrder_70 rfl (lv_at hl 0 rfl) ?_
      refine lv_iload_n hx hb dX12_weekOrder_71 rfl (lv_at hl 2 rfl) ?_
      refine lv_iconst (v := 2) hx hb dX12_weekOrder_72 (by decide) ?_
      refine lv_iadd hx hb dX12_weekOrder_73 ?_
      refine lv_iconst (v := 1) hx hb dX12_weekOrder_74 (by decide) ?_
      refine lv_bipush (v := 9) hx hb dX12_weekOrder_75 (by decide) ?_
      obtain ⟨r11, M12, hc13, h⟩ := bnd_inv h
      refine gV_i (As := [.int (a2 + (2 : Int32)), .int (1 : Int32), .int (9 : Int32)]) X hP hS hl.1 (c_X12_number l D cA q aK aV hq hc13) sf_X12_number bw_1608 sv_X12_number (rcR_12 sR_0) rfl ⟨rfl, rfl⟩ ⟨Nat.le_of_ble_eq_true rfl, Nat.le_of_ble_eq_true rfl⟩ rfl rfl (Nat.le_of_ble_eq_true rfl) dX12_weekOrder_77 (fun H locs hP hS => ?_)
      refine lv_if_eq (tgt := 87) hx hb dX12_weekOrder_80 (by decide) (fun c14 => ?_) (fun c14 => ?_)
      · rw [if_pos c14] at h
        refine lv_iconst (v := 0) hx hb dX12_weekOrder_87 (by decide) ?_
        exact end_z X hr hk hP hS (Or.inl rfl) h dX12_weekOrder_88
      · rw [if_neg c14] at h
        refine lv_iconst (v := 1) hx hb dX12_weekOrder_83 (by decide) ?_
        refine lv_goto (tgt := 88) hx hb dX12_weekOrder_84 (by decide) ?_
        exact end_z X hr hk hP hS (Or.inr rfl) h dX12_weekOrder_88
  rw [if_neg c15] at h
  by_cases c24 : a1 = 18
  · rw [if_pos c24] at h
    refine lv_tableIn (tgt := 89) hx hb dX12_weekOrder_1 (by rw [c24]; decide) (by rw [c24]; decide) (by rw [c24]; rfl) (by decide) ?_
    refine lv_aload_n hx hb dX12_weekOrder_89 rfl (lv_at hl 0 rfl) ?_
    refine lv_iload_n hx hb dX12_weekOrder_90 rfl (lv_at hl 2 rfl) ?_
    refine lv_iconst (v := 1) hx hb dX12_weekOrder_91 (by decide) ?_
    refine lv_iadd hx hb dX12_weekOrder_92 ?_
    obtain ⟨r16, M17, hc18, h⟩ := bnd_inv h
    refine gV_i (As := [.int (a2 + (1 : Int32))]) X hP hS hl.1 (c_X12_personTo l D cA q aK aV hq hc18) sf_X12_personTo bw_1655 sv_X12_personTo (rcR_12 sR_0) rfl ⟨rfl, rfl⟩ ⟨Nat.le_of_ble_eq_true rfl, Nat.le_of_ble_eq_true rfl⟩ rfl rfl (Nat.le_of_ble_eq_true rfl) dX12_weekOrder_93 (fun H locs hP hS => ?_)
    refine lv_if_eq (tgt := 113) hx hb dX12_weekOrder_96 (by decide) (fun c19 => ?_) (fun c19 => ?_)
    · rw [if_pos c19] at h
      refine lv_iconst (v := 0) hx hb dX12_weekOrder_113 (by decide) ?_
      exact end_z X hr hk hP hS (Or.inl rfl) h dX12_weekOrder_114
    · rw [if_neg c19] at h
      refine lv_aload_n hx hb dX12_weekOrder_99 rfl (lv_at hl 0 rfl) ?_
      refine lv_iload_n hx hb dX12_weekOrder_100 rfl (lv_at hl 2 rfl) ?_
      refine lv_iconst (v := 2) hx hb dX12_weekOrder_101 (by decide) ?_
      refine lv_iadd hx hb dX12_weekOrder_102 ?_
      obtain ⟨r20, M21, hc22, h⟩ := bnd_inv h
      refine gV_i (As := [.int (a2 + (2 : Int32))]) X hP hS hl.1 (c_X12_smellTo l D cA q aK aV hq hc22) sf_X12_smellTo bw_1659 sv_X12_smellTo (rcR_12 sR_0) rfl ⟨rfl, rfl⟩ ⟨Nat.le_of_ble_eq_true rfl, Nat.le_of_ble_eq_true rfl⟩ rfl rfl (Nat.le_of_ble_eq_true rfl) dX12_weekOrder_103 (fun H locs hP hS => ?_)
      refine lv_if_eq (tgt := 113) hx hb dX12_weekOrder_106 (by decide) (fun c23 => ?_) (fun c23 => ?_)
      · rw [if_pos c23] at h
        refine lv_iconst (v := 0) hx hb dX12_weekOrder_113 (by decide) ?_
        exact end_z X hr hk hP hS (Or.inl rfl) h dX12_weekOrder_114
      · rw [if_neg c23] at h
        refine lv_iconst (v := 1) hx hb dX12_weekOrder_109 (by decide) ?_
        refine lv_goto (tgt := 114) hx hb dX12_weekOrder_110 (by decide) ?_
        exact end_z X hr hk hP hS (Or.inr rfl) h dX12_weekOrder_114
  rw [if_neg c24] at h
  by_cases c33 : a1 = 19
  · rw [if_pos c33] at h
    refine lv_tableIn (tgt := 89) hx hb dX12_weekOrder_1 (by rw [c33]; decide) (by rw [c33]; decide) (by rw [c33]; rfl) (by decide) ?_
    refine lv_aload_n hx hb dX12_weekOrder_89 rfl (lv_at hl 0 rfl) ?_
    refine lv_iload_n hx hb dX12_weekOrder_90 rfl (lv_at hl 2 rfl) ?_
    refine lv_iconst (v := 1) hx hb dX12_weekOrder_91 (by decide) ?_
    refine lv_iadd hx hb dX12_weekOrder_92 ?_
    obtain ⟨r25, M26, hc27, h⟩ := bnd_inv h
    refine gV_i (As := [.int (a2 + (1 : Int32))]) X hP hS hl.1 (c_X12_personTo l D cA q aK aV hq hc27) sf_X12_personTo bw_1655 sv_X12_personTo (rcR_12 sR_0) rfl ⟨rfl, rfl⟩ ⟨Nat.le_of_ble_eq_true rfl, Nat.le_of_ble_eq_true rfl⟩ rfl rfl (Nat.le_of_ble_eq_true rfl) dX12_weekOrder_93 (fun H locs hP hS => ?_)
    refine lv_if_eq (tgt := 113) hx hb dX12_weekOrder_96 (by decide) (fun c28 => ?_) (fun c28 => ?_)
    · rw [if_pos c28] at h
      refine lv_iconst (v := 0) hx hb dX12_weekOrder_113 (by decide) ?_
      exact end_z X hr hk hP hS (Or.inl rfl) h dX12_weekOrder_114
    · rw [if_neg c28] at h
      refine lv_aload_n hx hb dX12_weekOrder_99 rfl (lv_at hl 0 rfl) ?_
      refine lv_iload_n hx hb dX12_weekOrder_100 rfl (lv_at hl 2 rfl) ?_
      refine lv_iconst (v := 2) hx hb dX12_weekOrder_101 (by decide) ?_
      refine lv_iadd hx hb dX12_weekOrder_102 ?_
      obtain ⟨r29, M30, hc31, h⟩ := bnd_inv h
      refine gV_i (As := [.int (a2 + (2 : Int32))]) X hP hS hl.1 (c_X12_smellTo l D cA q aK aV hq hc31) sf_X12_smellTo bw_1659 sv_X12_smellTo (rcR_12 sR_0) rfl ⟨rfl, rfl⟩ ⟨Nat.le_of_ble_eq_true rfl, Nat.le_of_ble_eq_true rfl⟩ rfl rfl (Nat.le_of_ble_eq_true rfl) dX12_weekOrder_103 (fun H locs hP hS => ?_)
      refine lv_if_eq (tgt := 113) hx hb dX12_weekOrder_106 (by decide) (fun c32 => ?_) (fun c32 => ?_)
      · rw [if_pos c32] at h
        refine lv_iconst (v := 0) hx hb dX12_weekOrder_113 (by decide) ?_
        exact end_z X hr hk hP hS (Or.inl rfl) h dX12_weekOrder_114
      · rw [if_neg c32] at h
        refine lv_iconst (v := 1) hx hb dX12_weekOrder_109 (by decide) ?_
        refine lv_goto (tgt := 114) hx hb dX12_weekOrder_110 (by decide) ?_
        exact end_z X hr hk hP hS (Or.inr rfl) h dX12_weekOrder_114
  rw [if_neg c33] at h
  by_cases c34 : a1 = 20
  · rw [if_pos c34] at h
    refine lv_tableIn (tgt := 132) hx hb dX12_weekOrder_1 (by rw [c34]; decide) (by rw [c34]; decide) (by rw [c34]; rfl) (by decide) ?_
    refine lv_iconst (v := 1) hx hb dX12_weekOrder_132 (by decide) ?_
    exact end_z X hr hk hP hS (Or.inr rfl) h dX12_weekOrder_133
  rw [if_neg c34] at h
  by_cases c35 : a1 = 21
  · rw [if_pos c35] at h
    refine lv_tableIn (tgt := 132) hx hb dX12_weekOrder_1 (by rw [c35]; decide) (by rw [c35]; decide) (by rw [c35]; rfl) (by decide) ?_
    refine lv_iconst (v := 1) hx hb dX12_weekOrder_132 (by decide) ?_
    exact end_z X hr hk hP hS (Or.inr rfl) h dX12_weekOrder_133
  rw [if_neg c35] at h
  by_cases c40 : a1 = 22
  · rw [if_pos c40] at h
    refine lv_tableIn (tgt := 126) hx hb dX12_weekOrder_1 (by rw [c40]; decide) (by rw [c40]; decide) (by rw [c40]; rfl) (by decide) ?_
    refine lv_aload_n hx hb dX12_weekOrder_126 rfl (lv_at hl 0 rfl) ?_
    refine lv_iload_n hx hb dX12_weekOrder_127 rfl (lv_at hl 2 rfl) ?_
    obtain ⟨r36, M37, hc38, h⟩ := bnd_inv h
    refine gV_i (As := [.int a2]) X hP hS hl.1 (c_X12_test l D cA q aK aV hq hc38) sf_X12_test bw_1663 sv_X12_test (rcR_12 sR_0) rfl ⟨rfl, rfl⟩ ⟨Nat.le_of_ble_eq_true rfl, Nat.le_of_ble_eq_true rfl⟩ rfl rfl (Nat.le_of_ble_eq_true rfl) dX12_weekOrder_128 (fun H locs hP hS => ?_)
    obtain ⟨g39, h⟩ := gd_inv h
    exact end_z X hr hk hP hS (Decidable.not_not.mp g39) h dX12_weekOrder_131
  rw [if_neg c40] at h
  by_cases c45 : a1 = 23
  · rw [if_pos c45] at h
    refine lv_tableIn (tgt := 115) hx hb dX12_weekOrder_1 (by rw [c45]; decide) (by rw [c45]; decide) (by rw [c45]; rfl) (by decide) ?_
    refine lv_aload_n hx hb dX12_weekOrder_115 rfl (lv_at hl 0 rfl) ?_
    refine lv_iload_n hx hb dX12_weekOrder_116 rfl (lv_at hl 2 rfl) ?_
    refine lv_iconst (v := 1) hx hb dX12_weekOrder_117 (by decide) ?_
    refine lv_iadd hx hb dX12_weekOrder_118 ?_
    refine lv_iconst (v := 1) hx hb dX12_weekOrder_119 (by decide) ?_
    refine lv_bipush (v := 99) hx hb dX12_weekOrder_120 (by decide) ?_
    obtain ⟨r41, M42, hc43, h⟩ := bnd_inv h
    refine gV_i (As := [.int (a2 + (1 : Int32)), .int (1 : Int32), .int (99 : Int32)]) X hP hS hl.1 (c_X12_number l D cA q aK aV hq hc43) sf_X12_number bw_1608 sv_X12_number (rcR_12 sR_0) rfl ⟨rfl, rfl⟩ ⟨Nat.le_of_ble_eq_true rfl, Nat.le_of_ble_eq_true rfl⟩ rfl rfl (Nat.le_of_ble_eq_true rfl) dX12_weekOrder_122 (fun H locs hP hS => ?_)
    obtain ⟨g44, h⟩ := gd_inv h
    exact end_z X hr hk hP hS (Decidable.not_not.mp g44) h dX12_weekOrder_125
  rw [if_neg c45] at h
  refine lv_tableOut (tgt := 132) hx hb dX12_weekOrder_1 (by have nc5 := lv_neT (a := 15) c5 (by decide); have nc6 := lv_neT (a := 16) c6 (by decide); have nc15 := lv_neT (a := 17) c15 (by decide); have nc24 := lv_neT (a := 18) c24 (by decide); have nc33 := lv_neT (a := 19) c33 (by decide); have nc34 := lv_neT (a := 20) c34 (by decide); have nc35 := lv_neT (a := 21) c35 (by decide); have nc40 := lv_neT (a := 22) c40 (by decide); have nc45 := lv_neT (a := 23) c45 (by decide); omega) (by decide) ?_
  refine lv_iconst (v := 1) hx hb dX12_weekOrder_132 (by decide) ?_
  exact end_z X hr hk hP hS (Or.inr rfl) h dX12_weekOrder_133
theorem dX12_weekStep_0 : decode cX12_weekStep 0 = .ok (.aload_n 0, 1) := by decide +kernel
theorem dX12_weekStep_1 : decode cX12_weekStep 1 = .ok (.ldc 184, 2) := by decide +kernel
theorem dX12_weekStep_3 : decode cX12_weekStep 3 = .ok (.invokevirtual 176, 3) := by decide +kernel
theorem dX12_weekStep_6 : decode cX12_weekStep 6 = .ok (.istore_n 1, 1) := by decide +kernel
theorem dX12_weekStep_7 : decode cX12_weekStep 7 = .ok (.aload_n 0, 1) := by decide +kernel
theorem dX12_weekStep_8 : decode cX12_weekStep 8 = .ok (.getfield 7, 3) := by decide +kernel
theorem dX12_weekStep_11 : decode cX12_weekStep 11 = .ok (.sipush 2016, 3) := by decide +kernel
theorem dX12_weekStep_14 : decode cX12_weekStep 14 = .ok (.iaload, 1) := by decide +kernel
theorem dX12_weekStep_15 : decode cX12_weekStep 15 = .ok (.istore_n 2, 1) := by decide +kernel
theorem dX12_weekStep_16 : decode cX12_weekStep 16 = .ok (.sipush 2142, 3) := by decide +kernel
theorem dX12_weekStep_19 : decode cX12_weekStep 19 = .ok (.bipush 6, 2) := by decide +kernel
theorem dX12_weekStep_21 : decode cX12_weekStep 21 = .ok (.iload_n 2, 1) := by decide +kernel
theorem dX12_weekStep_22 : decode cX12_weekStep 22 = .ok (.imul, 1) := by decide +kernel
theorem dX12_weekStep_23 : decode cX12_weekStep 23 = .ok (.iadd, 1) := by decide +kernel
theorem dX12_weekStep_24 : decode cX12_weekStep 24 = .ok (.istore_n 3, 1) := by decide +kernel
theorem dX12_weekStep_25 : decode cX12_weekStep 25 = .ok (.iload_n 1, 1) := by decide +kernel
theorem dX12_weekStep_26 : decode cX12_weekStep 26 = .ok (.bipush 22, 2) := by decide +kernel
theorem dX12_weekStep_28 : decode cX12_weekStep 28 = .ok (.if_icmp .eq 9, 3) := by decide +kernel
theorem dX12_weekStep_31 : decode cX12_weekStep 31 = .ok (.iload_n 1, 1) := by decide +kernel
theorem dX12_weekStep_32 : decode cX12_weekStep 32 = .ok (.bipush 23, 2) := by decide +kernel
theorem dX12_weekStep_34 : decode cX12_weekStep 34 = .ok (.if_icmp .ne 7, 3) := by decide +kernel
theorem dX12_weekStep_37 : decode cX12_weekStep 37 = .ok (.iconst 1, 1) := by decide +kernel
theorem dX12_weekStep_38 : decode cX12_weekStep 38 = .ok (.goto 4, 3) := by decide +kernel
theorem dX12_weekStep_41 : decode cX12_weekStep 41 = .ok (.iconst 0, 1) := by decide +kernel
theorem dX12_weekStep_42 : decode cX12_weekStep 42 = .ok (.istore 4, 2) := by decide +kernel
theorem dX12_weekStep_44 : decode cX12_weekStep 44 = .ok (.iload_n 1, 1) := by decide +kernel
theorem dX12_weekStep_45 : decode cX12_weekStep 45 = .ok (.bipush 15, 2) := by decide +kernel
theorem dX12_weekStep_47 : decode cX12_weekStep 47 = .ok (.if_icmp .lt 22, 3) := by decide +kernel
theorem dX12_weekStep_50 : decode cX12_weekStep 50 = .ok (.iload_n 1, 1) := by decide +kernel
theorem dX12_weekStep_51 : decode cX12_weekStep 51 = .ok (.bipush 25, 2) := by decide +kernel
theorem dX12_weekStep_53 : decode cX12_weekStep 53 = .ok (.if_icmp .gt 16, 3) := by decide +kernel
theorem dX12_weekStep_56 : decode cX12_weekStep 56 = .ok (.iload_n 1, 1) := by decide +kernel
theorem dX12_weekStep_57 : decode cX12_weekStep 57 = .ok (.bipush 24, 2) := by decide +kernel
theorem dX12_weekStep_59 : decode cX12_weekStep 59 = .ok (.if_icmp .ne 16, 3) := by decide +kernel
theorem dX12_weekStep_62 : decode cX12_weekStep 62 = .ok (.aload_n 0, 1) := by decide +kernel
theorem dX12_weekStep_63 : decode cX12_weekStep 63 = .ok (.getfield 269, 3) := by decide +kernel
theorem dX12_weekStep_66 : decode cX12_weekStep 66 = .ok (.ifCond .ne 9, 3) := by decide +kernel
theorem dX12_weekStep_69 : decode cX12_weekStep 69 = .ok (.aload_n 0, 1) := by decide +kernel
theorem dX12_weekStep_70 : decode cX12_weekStep 70 = .ok (.iconst 2, 1) := by decide +kernel
theorem dX12_weekStep_71 : decode cX12_weekStep 71 = .ok (.invokevirtual 173, 3) := by decide +kernel
theorem dX12_weekStep_74 : decode cX12_weekStep 74 = .ok (.ireturn, 1) := by decide +kernel
theorem dX12_weekStep_75 : decode cX12_weekStep 75 = .ok (.iload_n 1, 1) := by decide +kernel
theorem dX12_weekStep_76 : decode cX12_weekStep 76 = .ok (.bipush 24, 2) := by decide +kernel
theorem dX12_weekStep_78 : decode cX12_weekStep 78 = .ok (.if_icmp .eq 19, 3) := by decide +kernel
theorem dX12_weekStep_81 : decode cX12_weekStep 81 = .ok (.aload_n 0, 1) := by decide +kernel
theorem dX12_weekStep_82 : decode cX12_weekStep 82 = .ok (.getfield 272, 3) := by decide +kernel
theorem dX12_weekStep_85 : decode cX12_weekStep 85 = .ok (.bipush 30, 2) := by decide +kernel
theorem dX12_weekStep_87 : decode cX12_weekStep 87 = .ok (.if_icmp .ne 10, 3) := by decide +kernel
theorem dX12_weekStep_90 : decode cX12_weekStep 90 = .ok (.aload_n 0, 1) := by decide +kernel
theorem dX12_weekStep_91 : decode cX12_weekStep 91 = .ok (.bipush 6, 2) := by decide +kernel
theorem dX12_weekStep_93 : decode cX12_weekStep 93 = .ok (.invokevirtual 173, 3) := by decide +kernel
theorem dX12_weekStep_96 : decode cX12_weekStep 96 = .ok (.ireturn, 1) := by decide +kernel
theorem dX12_weekStep_97 : decode cX12_weekStep 97 = .ok (.iload 4, 2) := by decide +kernel
theorem dX12_weekStep_99 : decode cX12_weekStep 99 = .ok (.ifCond .eq 18, 3) := by decide +kernel
theorem dX12_weekStep_102 : decode cX12_weekStep 102 = .ok (.aload_n 0, 1) := by decide +kernel
theorem dX12_weekStep_103 : decode cX12_weekStep 103 = .ok (.getfield 269, 3) := by decide +kernel
theorem dX12_weekStep_106 : decode cX12_weekStep 106 = .ok (.iconst 3, 1) := by decide +kernel
theorem dX12_weekStep_107 : decode cX12_weekStep 107 = .ok (.if_icmp .ne 10, 3) := by decide +kernel
theorem dX12_weekStep_110 : decode cX12_weekStep 110 = .ok (.aload_n 0, 1) := by decide +kernel
theorem dX12_weekStep_111 : decode cX12_weekStep 111 = .ok (.bipush 7, 2) := by decide +kernel
theorem dX12_weekStep_113 : decode cX12_weekStep 113 = .ok (.invokevirtual 173, 3) := by decide +kernel
theorem dX12_weekStep_116 : decode cX12_weekStep 116 = .ok (.ireturn, 1) := by decide +kernel
theorem dX12_weekStep_117 : decode cX12_weekStep 117 = .ok (.aload_n 0, 1) := by decide +kernel
theorem dX12_weekStep_118 : decode cX12_weekStep 118 = .ok (.dup, 1) := by decide +kernel
theorem dX12_weekStep_119 : decode cX12_weekStep 119 = .ok (.getfield 272, 3) := by decide +kernel
theorem dX12_weekStep_122 : decode cX12_weekStep 122 = .ok (.iload_n 1, 1) := by decide +kernel
theorem dX12_weekStep_123 : decode cX12_weekStep 123 = .ok (.bipush 24, 2) := by decide +kernel
theorem dX12_weekStep_125 : decode cX12_weekStep 125 = .ok (.if_icmp .ne 7, 3) := by decide +kernel
theorem dX12_weekStep_128 : decode cX12_weekStep 128 = .ok (.iconst 0, 1) := by decide +kernel
theorem dX12_weekStep_129 : decode cX12_weekStep 129 = .ok (.goto 4, 3) := by decide +kernel
theorem dX12_weekStep_132 : decode cX12_weekStep 132 = .ok (.iconst 1, 1) := by decide +kernel
theorem dX12_weekStep_133 : decode cX12_weekStep 133 = .ok (.iadd, 1) := by decide +kernel
theorem dX12_weekStep_134 : decode cX12_weekStep 134 = .ok (.putfield 272, 3) := by decide +kernel
theorem dX12_weekStep_137 : decode cX12_weekStep 137 = .ok (.aload_n 0, 1) := by decide +kernel
theorem dX12_weekStep_138 : decode cX12_weekStep 138 = .ok (.getfield 7, 3) := by decide +kernel
theorem dX12_weekStep_141 : decode cX12_weekStep 141 = .ok (.iload_n 3, 1) := by decide +kernel
theorem dX12_weekStep_142 : decode cX12_weekStep 142 = .ok (.iload_n 1, 1) := by decide +kernel
theorem dX12_weekStep_143 : decode cX12_weekStep 143 = .ok (.iastore, 1) := by decide +kernel
theorem dX12_weekStep_144 : decode cX12_weekStep 144 = .ok (.iconst 1, 1) := by decide +kernel
theorem dX12_weekStep_145 : decode cX12_weekStep 145 = .ok (.istore 5, 2) := by decide +kernel
theorem dX12_weekStep_147 : decode cX12_weekStep 147 = .ok (.iload 5, 2) := by decide +kernel
theorem dX12_weekStep_149 : decode cX12_weekStep 149 = .ok (.bipush 6, 2) := by decide +kernel
theorem dX12_weekStep_151 : decode cX12_weekStep 151 = .ok (.if_icmp .ge 19, 3) := by decide +kernel
theorem dX12_weekStep_154 : decode cX12_weekStep 154 = .ok (.aload_n 0, 1) := by decide +kernel
theorem dX12_weekStep_155 : decode cX12_weekStep 155 = .ok (.getfield 7, 3) := by decide +kernel
theorem dX12_weekStep_158 : decode cX12_weekStep 158 = .ok (.iload_n 3, 1) := by decide +kernel
theorem dX12_weekStep_159 : decode cX12_weekStep 159 = .ok (.iload 5, 2) := by decide +kernel
theorem dX12_weekStep_161 : decode cX12_weekStep 161 = .ok (.iadd, 1) := by decide +kernel
theorem dX12_weekStep_162 : decode cX12_weekStep 162 = .ok (.iconst 0, 1) := by decide +kernel
theorem dX12_weekStep_163 : decode cX12_weekStep 163 = .ok (.iastore, 1) := by decide +kernel
theorem dX12_weekStep_164 : decode cX12_weekStep 164 = .ok (.iinc 5 1, 3) := by decide +kernel
theorem dX12_weekStep_167 : decode cX12_weekStep 167 = .ok (.goto (-20), 3) := by decide +kernel
theorem dX12_weekStep_170 : decode cX12_weekStep 170 = .ok (.aload_n 0, 1) := by decide +kernel
theorem dX12_weekStep_171 : decode cX12_weekStep 171 = .ok (.getfield 7, 3) := by decide +kernel
theorem dX12_weekStep_174 : decode cX12_weekStep 174 = .ok (.sipush 2016, 3) := by decide +kernel
theorem dX12_weekStep_177 : decode cX12_weekStep 177 = .ok (.dup2, 1) := by decide +kernel
theorem dX12_weekStep_178 : decode cX12_weekStep 178 = .ok (.iaload, 1) := by decide +kernel
theorem dX12_weekStep_179 : decode cX12_weekStep 179 = .ok (.iconst 1, 1) := by decide +kernel
theorem dX12_weekStep_180 : decode cX12_weekStep 180 = .ok (.iadd, 1) := by decide +kernel
theorem dX12_weekStep_181 : decode cX12_weekStep 181 = .ok (.iastore, 1) := by decide +kernel
theorem dX12_weekStep_182 : decode cX12_weekStep 182 = .ok (.aload_n 0, 1) := by decide +kernel
theorem dX12_weekStep_183 : decode cX12_weekStep 183 = .ok (.invokevirtual 167, 3) := by decide +kernel
theorem dX12_weekStep_186 : decode cX12_weekStep 186 = .ok (.aload_n 0, 1) := by decide +kernel
theorem dX12_weekStep_187 : decode cX12_weekStep 187 = .ok (.iload_n 1, 1) := by decide +kernel
theorem dX12_weekStep_188 : decode cX12_weekStep 188 = .ok (.iload_n 3, 1) := by decide +kernel
theorem dX12_weekStep_189 : decode cX12_weekStep 189 = .ok (.invokevirtual 275, 3) := by decide +kernel
theorem dX12_weekStep_192 : decode cX12_weekStep 192 = .ok (.ifCond .ne 5, 3) := by decide +kernel
theorem dX12_weekStep_195 : decode cX12_weekStep 195 = .ok (.iconst 0, 1) := by decide +kernel
theorem dX12_weekStep_196 : decode cX12_weekStep 196 = .ok (.ireturn, 1) := by decide +kernel
theorem dX12_weekStep_197 : decode cX12_weekStep 197 = .ok (.iload 4, 2) := by decide +kernel
theorem dX12_weekStep_199 : decode cX12_weekStep 199 = .ok (.ifCond .eq 23, 3) := by decide +kernel
theorem dX12_weekStep_202 : decode cX12_weekStep 202 = .ok (.aload_n 0, 1) := by decide +kernel
theorem dX12_weekStep_203 : decode cX12_weekStep 203 = .ok (.getfield 44, 3) := by decide +kernel
theorem dX12_weekStep_206 : decode cX12_weekStep 206 = .ok (.aload_n 0, 1) := by decide +kernel
theorem dX12_weekStep_207 : decode cX12_weekStep 207 = .ok (.getfield 269, 3) := by decide +kernel
theorem dX12_weekStep_210 : decode cX12_weekStep 210 = .ok (.iload_n 2, 1) := by decide +kernel
theorem dX12_weekStep_211 : decode cX12_weekStep 211 = .ok (.iastore, 1) := by decide +kernel
theorem dX12_weekStep_212 : decode cX12_weekStep 212 = .ok (.aload_n 0, 1) := by decide +kernel
theorem dX12_weekStep_213 : decode cX12_weekStep 213 = .ok (.dup, 1) := by decide +kernel
theorem dX12_weekStep_214 : decode cX12_weekStep 214 = .ok (.getfield 269, 3) := by decide +kernel
theorem dX12_weekStep_217 : decode cX12_weekStep 217 = .ok (.iconst 1, 1) := by decide +kernel
theorem dX12_weekStep_218 : decode cX12_weekStep 218 = .ok (.iadd, 1) := by decide +kernel
theorem dX12_weekStep_219 : decode cX12_weekStep 219 = .ok (.putfield 269, 3) := by decide +kernel
theorem dX12_weekStep_222 : decode cX12_weekStep 222 = .ok (.iload_n 1, 1) := by decide +kernel
theorem dX12_weekStep_223 : decode cX12_weekStep 223 = .ok (.bipush 24, 2) := by decide +kernel
theorem dX12_weekStep_225 : decode cX12_weekStep 225 = .ok (.if_icmp .ne 54, 3) := by decide +kernel
theorem dX12_weekStep_228 : decode cX12_weekStep 228 = .ok (.aload_n 0, 1) := by decide +kernel
theorem dX12_weekStep_229 : decode cX12_weekStep 229 = .ok (.dup, 1) := by decide +kernel
theorem dX12_weekStep_230 : decode cX12_weekStep 230 = .ok (.getfield 269, 3) := by decide +kernel
theorem dX12_weekStep_233 : decode cX12_weekStep 233 = .ok (.iconst 1, 1) := by decide +kernel
theorem dX12_weekStep_234 : decode cX12_weekStep 234 = .ok (.isub, 1) := by decide +kernel
theorem dX12_weekStep_235 : decode cX12_weekStep 235 = .ok (.putfield 269, 3) := by decide +kernel
theorem dX12_weekStep_238 : decode cX12_weekStep 238 = .ok (.aload_n 0, 1) := by decide +kernel
theorem dX12_weekStep_239 : decode cX12_weekStep 239 = .ok (.getfield 7, 3) := by decide +kernel
theorem dX12_weekStep_242 : decode cX12_weekStep 242 = .ok (.iload_n 3, 1) := by decide +kernel
theorem dX12_weekStep_243 : decode cX12_weekStep 243 = .ok (.iconst 4, 1) := by decide +kernel
theorem dX12_weekStep_244 : decode cX12_weekStep 244 = .ok (.iadd, 1) := by decide +kernel
theorem dX12_weekStep_245 : decode cX12_weekStep 245 = .ok (.aload_n 0, 1) := by decide +kernel
theorem dX12_weekStep_246 : decode cX12_weekStep 246 = .ok (.getfield 44, 3) := by decide +kernel
theorem dX12_weekStep_249 : decode cX12_weekStep 249 = .ok (.aload_n 0, 1) := by decide +kernel
theorem dX12_weekStep_250 : decode cX12_weekStep 250 = .ok (.getfield 269, 3) := by decide +kernel
theorem dX12_weekStep_253 : decode cX12_weekStep 253 = .ok (.iaload, 1) := by decide +kernel
theorem dX12_weekStep_254 : decode cX12_weekStep 254 = .ok (.iastore, 1) := by decide +kernel
theorem dX12_weekStep_255 : decode cX12_weekStep 255 = .ok (.aload_n 0, 1) := by decide +kernel
theorem dX12_weekStep_256 : decode cX12_weekStep 256 = .ok (.getfield 7, 3) := by decide +kernel
theorem dX12_weekStep_259 : decode cX12_weekStep 259 = .ok (.sipush 2142, 3) := by decide +kernel
theorem dX12_weekStep_262 : decode cX12_weekStep 262 = .ok (.bipush 6, 2) := by decide +kernel
theorem dX12_weekStep_264 : decode cX12_weekStep 264 = .ok (.aload_n 0, 1) := by decide +kernel
theorem dX12_weekStep_265 : decode cX12_weekStep 265 = .ok (.getfield 44, 3) := by decide +kernel
theorem dX12_weekStep_268 : decode cX12_weekStep 268 = .ok (.aload_n 0, 1) := by decide +kernel
theorem dX12_weekStep_269 : decode cX12_weekStep 269 = .ok (.getfield 269, 3) := by decide +kernel
theorem dX12_weekStep_272 : decode cX12_weekStep 272 = .ok (.iaload, 1) := by decide +kernel
theorem dX12_weekStep_273 : decode cX12_weekStep 273 = .ok (.imul, 1) := by decide +kernel
theorem dX12_weekStep_274 : decode cX12_weekStep 274 = .ok (.iadd, 1) := by decide +kernel
theorem dX12_weekStep_275 : decode cX12_weekStep 275 = .ok (.iconst 4, 1) := by decide +kernel
theorem dX12_weekStep_276 : decode cX12_weekStep 276 = .ok (.iadd, 1) := by decide +kernel
theorem dX12_weekStep_277 : decode cX12_weekStep 277 = .ok (.iload_n 2, 1) := by decide +kernel
theorem dX12_weekStep_278 : decode cX12_weekStep 278 = .ok (.iastore, 1) := by decide +kernel
theorem dX12_weekStep_279 : decode cX12_weekStep 279 = .ok (.aload_n 0, 1) := by decide +kernel
theorem dX12_weekStep_280 : decode cX12_weekStep 280 = .ok (.bipush 59, 2) := by decide +kernel
theorem dX12_weekStep_282 : decode cX12_weekStep 282 = .ok (.invokevirtual 248, 3) := by decide +kernel
theorem dX12_weekStep_285 : decode cX12_weekStep 285 = .ok (.ireturn, 1) := by decide +kernel
set_option maxRecDepth 100000 in
set_option maxHeartbeats 8000000 in
theorem c_X12_weekStep (l : Launch) (D : va_G) (cA : Nat → ClassId) (q aK aV : Nat → Nat) (hq : injG 20 q) {M M0 : Mem} {r0 : Int32} (h : f_X12_weekStep M = some (r0, M0)) : Met l yX12_weekStep (.code yX12_weekStep cX12_weekStep 6 (some .boolean) :: BW) ({ frames := 13, cells := 0, slots := 0, locals := 316 } : Room) (va_Pc [.ref (q 0)] (CB 20 (ceR cA q) D cA q aK aV M)) (Qi 20 (ceR cA q) D q r0 M0) 0 0 (AqG 20 q) := by
  refine gMet RX12 (by decide +kernel) rfl hq (Nat.le_of_ble_eq_true rfl) ?_
  intro p e s m below meth c ls X hr hk hP hS hl
  have hx := X.1
  have hb := X.2.1
  have hl : lv_has ls 6 [(0, .ref (q 0))] := hl
  rw [f_X12_weekStep] at h
  have hJ222 : ∀ (b1 : Int32) (b2 : Int32) (b3 : Int32) (M : Mem) (H : Heap) (locs : List Loc) (ls : Array Slot), f_X12_weekStep_J222 b1 b2 b3 M = some (r0, M0) → va_P D vwCl (wsG 20 (ceR cA q) q M) H → va_S (AqG 20 q) s.heap H locs → lv_has ls 6 [(0, .ref (q 0)), (1, .int b1), (2, .int b2), (3, .int b3)] → W p l e ({ frames := 13, cells := 0, slots := 0, locals := 316 } : Room) s m [.ref (q 0)].toArray below meth c H locs 0 0 (MQ below (Qi 20 (ceR cA q) D q r0 M0) [.ref (q 0)].toArray s 0 0 (AqG 20 q)) (F0 m 222 ls []) := by
    intro b1 b2 b3 M H locs ls h hP hS hl
    rw [f_X12_weekStep_J222] at h
    refine lv_iload_n hx hb dX12_weekStep_222 rfl (lv_at hl 1 rfl) ?_
    refine lv_bipush (v := 24) hx hb dX12_weekStep_223 (by decide) ?_
    refine lv_icmp_ne (tgt := 279) hx hb dX12_weekStep_225 (by decide) (fun c59 => ?_) (fun c59 => ?_)
    · rw [if_neg c59] at h
      refine lv_aload_n hx hb dX12_weekStep_279 rfl (lv_at hl 0 rfl) ?_
      refine lv_bipush (v := 59) hx hb dX12_weekStep_280 (by decide) ?_
      obtain ⟨r60, M61, hc62, h⟩ := bnd_inv h
      refine gV_i (As := [.int (59 : Int32)]) X hP hS hl.1 (c_X12_wantSign l D cA q aK aV hq hc62) sf_X12_wantSign bw_1631 sv_X12_wantSign (rcR_12 sR_0) rfl ⟨rfl, rfl⟩ ⟨Nat.le_of_ble_eq_true rfl, Nat.le_of_ble_eq_true rfl⟩ rfl rfl (Nat.le_of_ble_eq_true rfl) dX12_weekStep_282 (fun H locs hP hS => ?_)
      obtain ⟨g63, h⟩ := gd_inv h
      exact end_z X hr hk hP hS (Decidable.not_not.mp g63) h dX12_weekStep_285
    · rw [if_pos c59] at h
      refine lv_aload_n hx hb dX12_weekStep_228 rfl (lv_at hl 0 rfl) ?_
      refine lv_dup hx hb dX12_weekStep_229 rfl ?_
      refine gfR_12_21 X hP sR_0 bw_1344 dX12_weekStep_230 ?_
      refine lv_iconst (v := 1) hx hb dX12_weekStep_233 (by decide) ?_
      refine lv_isub hx hb dX12_weekStep_234 ?_
      obtain ⟨M64, eM64, h⟩ := lt_inv h
      refine pfR_12_21 X hP hS sR_0 bw_1344 eM64 dX12_weekStep_235 (fun H locs hP hS => ?_)
      refine lv_aload_n hx hb dX12_weekStep_238 rfl (lv_at hl 0 rfl) ?_
      refine gfR_12_0 X hP sR_0 bw_1323 dX12_weekStep_239 ?_
      refine lv_iload_n hx hb dX12_weekStep_242 rfl (lv_at hl 3 rfl) ?_
      refine lv_iconst (v := 4) hx hb dX12_weekStep_243 (by decide) ?_
      refine lv_iadd hx hb dX12_weekStep_244 ?_
      refine lv_aload_n hx hb dX12_weekStep_245 rfl (lv_at hl 0 rfl) ?_
      refine gfR_12_20 X hP sR_0 bw_1343 dX12_weekStep_246 ?_
      refine lv_aload_n hx hb dX12_weekStep_249 rfl (lv_at hl 0 rfl) ?_
      refine gfR_12_21 X hP sR_0 bw_1344 dX12_weekStep_250 ?_
      obtain ⟨g65, h⟩ := gd_inv h
      refine ldR_ia X hP sR_8 zR_8 g65 dX12_weekStep_253 ?_
      obtain ⟨g66, h⟩ := gd_inv h
      obtain ⟨M67, eM67, h⟩ := lt_inv h
      refine stR_ia X hP hS sR_1 zR_1 g66 eM67 dX12_weekStep_254 (fun H locs hP hS => ?_)
      refine lv_aload_n hx hb dX12_weekStep_255 rfl (lv_at hl 0 rfl) ?_
      refine gfR_12_0 X hP sR_0 bw_1323 dX12_weekStep_256 ?_
      refine lv_sipush (v := 2142) hx hb dX12_weekStep_259 (by decide) ?_
      refine lv_bipush (v := 6) hx hb dX12_weekStep_262 (by decide) ?_
      refine lv_aload_n hx hb dX12_weekStep_264 rfl (lv_at hl 0 rfl) ?_
      refine gfR_12_20 X hP sR_0 bw_1343 dX12_weekStep_265 ?_
      refine lv_aload_n hx hb dX12_weekStep_268 rfl (lv_at hl 0 rfl) ?_
      refine gfR_12_21 X hP sR_0 bw_1344 dX12_weekStep_269 ?_
      obtain ⟨g68, h⟩ := gd_inv h
      refine ldR_ia X hP sR_8 zR_8 g68 dX12_weekStep_272 ?_
      refine lv_imul hx hb dX12_weekStep_273 ?_
      refine lv_iadd hx hb dX12_weekStep_274 ?_
      refine lv_iconst (v := 4) hx hb dX12_weekStep_275 (by decide) ?_
      refine lv_iadd hx hb dX12_weekStep_276 ?_
      refine lv_iload_n hx hb dX12_weekStep_277 rfl (lv_at hl 2 rfl) ?_
      obtain ⟨g69, h⟩ := gd_inv h
      obtain ⟨M70, eM70, h⟩ := lt_inv h
      refine stR_ia X hP hS sR_1 zR_1 g69 eM70 dX12_weekStep_278 (fun H locs hP hS => ?_)
      refine lv_aload_n hx hb dX12_weekStep_279 rfl (lv_at hl 0 rfl) ?_
      refine lv_bipush (v := 59) hx hb dX12_weekStep_280 (by decide) ?_
      obtain ⟨r71, M72, hc73, h⟩ := bnd_inv h
      refine gV_i (As := [.int (59 : Int32)]) X hP hS hl.1 (c_X12_wantSign l D cA q aK aV hq hc73) sf_X12_wantSign bw_1631 sv_X12_wantSign (rcR_12 sR_0) rfl ⟨rfl, rfl⟩ ⟨Nat.le_of_ble_eq_true rfl, Nat.le_of_ble_eq_true rfl⟩ rfl rfl (Nat.le_of_ble_eq_true rfl) dX12_weekStep_282 (fun H locs hP hS => ?_)
      obtain ⟨g74, h⟩ := gd_inv h
      exact end_z X hr hk hP hS (Decidable.not_not.mp g74) h dX12_weekStep_285
  have hL147 : ∀ (b1 : Int32) (b2 : Int32) (b3 : Int32) (b4 : Int32) (fu : Nat) (b5 : Int32) (M : Mem) (res : (Unit) × Mem) (H : Heap) (locs : List Loc) (ls : Array Slot), f_X12_weekStep_L147 b1 b2 b3 b4 fu b5 M = some res → va_P D vwCl (wsG 20 (ceR cA q) q M) H → va_S (AqG 20 q) s.heap H locs → lv_has ls 6 [(0, .ref (q 0)), (1, .int b1), (2, .int b2), (3, .int b3), (4, .int b4), (5, .int b5)] → (∀ (H : Heap) (locs : List Loc) (ls : Array Slot), va_P D vwCl (wsG 20 (ceR cA q) q res.2) H → va_S (AqG 20 q) s.heap H locs → lv_has ls 6 [(0, .ref (q 0)), (1, .int b1), (2, .int b2), (3, .int b3), (4, .int b4)] → W p l e ({ frames := 13, cells := 0, slots := 0, locals := 316 } : Room) s m [.ref (q 0)].toArray below meth c H locs 0 0 (MQ below (Qi 20 (ceR cA q) D q r0 M0) [.ref (q 0)].toArray s 0 0 (AqG 20 q)) (F0 m 170 ls [])) → W p l e ({ frames := 13, cells := 0, slots := 0, locals := 316 } : Room) s m [.ref (q 0)].toArray below meth c H locs 0 0 (MQ below (Qi 20 (ceR cA q) D q r0 M0) [.ref (q 0)].toArray s 0 0 (AqG 20 q)) (F0 m 147 ls []) := by
    intro b1 b2 b3 b4 fu
    induction fu with
    | zero => intro b5 M res H locs ls h; exact absurd h (by simp [f_X12_weekStep_L147])
    | succ fu ih =>
      intro b5 M res H locs ls h hP hS hl K147_0
      rw [f_X12_weekStep_L147] at h
      refine lv_iload hx hb dX12_weekStep_147 (lv_at hl 5 rfl) ?_
      refine lv_bipush (v := 6) hx hb dX12_weekStep_149 (by decide) ?_
      refine lv_icmp_ge (tgt := 170) hx hb dX12_weekStep_151 (by decide) (fun c55 => ?_) (fun c55 => ?_)
      · rw [if_pos c55] at h
        cases h
        exact K147_0 _ _ _ hP hS (lv_sub hl [0, 1, 2, 3, 4] rfl)
      · rw [if_neg c55] at h
        refine lv_aload_n hx hb dX12_weekStep_154 rfl (lv_at hl 0 rfl) ?_
        refine gfR_12_0 X hP sR_0 bw_1323 dX12_weekStep_155 ?_
        refine lv_iload_n hx hb dX12_weekStep_158 rfl (lv_at hl 3 rfl) ?_
        refine lv_iload hx hb dX12_weekStep_159 (lv_at hl 5 rfl) ?_
        refine lv_iadd hx hb dX12_weekStep_161 ?_
        refine lv_iconst (v := 0) hx hb dX12_weekStep_162 (by decide) ?_
        obtain ⟨g56, h⟩ := gd_inv h
        obtain ⟨M57, eM57, h⟩ := lt_inv h
        refine stR_ia X hP hS sR_1 zR_1 g56 eM57 dX12_weekStep_163 (fun H locs hP hS => ?_)
        obtain ⟨y58, ey58, h⟩ := lt_inv h
        refine lv_iinc (v := y58) (lv' := [(5, .int y58), (0, .ref (q 0)), (1, .int b1), (2, .int b2), (3, .int b3), (4, .int b4)]) hx hb dX12_weekStep_164 hl (k := 5) rfl (by rw [ey58]; rfl) (by decide) rfl (fun ls hl => ?_)
        refine lv_goto (tgt := 147) hx hb dX12_weekStep_167 (by decide) ?_
        exact ih _ _ res _ _ _ h hP hS (lv_sub hl [1, 2, 3, 4, 5, 0] rfl) K147_0
  have hJ133 : ∀ (b1 : Int32) (b2 : Int32) (b3 : Int32) (b4 : Int32) (s1 : Int32) (s2 : Int32) (M : Mem) (H : Heap) (locs : List Loc) (ls : Array Slot), f_X12_weekStep_J133 b1 b2 b3 b4 s1 s2 M = some (r0, M0) → va_P D vwCl (wsG 20 (ceR cA q) q M) H → va_S (AqG 20 q) s.heap H locs → lv_has ls 6 [(0, .ref (q 0)), (1, .int b1), (2, .int b2), (3, .int b3), (4, .int b4)] → W p l e ({ frames := 13, cells := 0, slots := 0, locals := 316 } : Room) s m [.ref (q 0)].toArray below meth c H locs 0 0 (MQ below (Qi 20 (ceR cA q) D q r0 M0) [.ref (q 0)].toArray s 0 0 (AqG 20 q)) (F0 m 133 ls [.int s2, .int s1, .ref (q 0)]) := by
    intro b1 b2 b3 b4 s1 s2 M H locs ls h hP hS hl
    rw [f_X12_weekStep_J133] at h
    refine lv_iadd hx hb dX12_weekStep_133 ?_
    obtain ⟨M37, eM37, h⟩ := lt_inv h
    refine pfR_12_22 X hP hS sR_0 bw_1345 eM37 dX12_weekStep_134 (fun H locs hP hS => ?_)
    refine lv_aload_n hx hb dX12_weekStep_137 rfl (lv_at hl 0 rfl) ?_
    refine gfR_12_0 X hP sR_0 bw_1323 dX12_weekStep_138 ?_
    refine lv_iload_n hx hb dX12_weekStep_141 rfl (lv_at hl 3 rfl) ?_
    refine lv_iload_n hx hb dX12_weekStep_142 rfl (lv_at hl 1 rfl) ?_
    obtain ⟨g38, h⟩ := gd_inv h
    obtain ⟨M39, eM39, h⟩ := lt_inv h
    refine stR_ia X hP hS sR_1 zR_1 g38 eM39 dX12_weekStep_143 (fun H locs hP hS => ?_)
    refine lv_iconst (v := 1) hx hb dX12_weekStep_144 (by decide) ?_
    refine lv_istore (lv' := [(5, .int (1 : Int32)), (0, .ref (q 0)), (1, .int b1), (2, .int b2), (3, .int b3), (4, .int b4)]) hx hb dX12_weekStep_145 hl (by decide) rfl (fun ls hl => ?_)
    obtain ⟨s40, M41, hc42, h⟩ := bnd_inv h
    try dsimp only at h
    refine hL147 _ _ _ _ fz _ _ _ _ _ _ hc42 hP hS (lv_sub hl [1, 2, 3, 4, 5, 0] rfl) (fun H locs ls hP hS hl => ?_)
    have hl : lv_has ls 6 [(0, .ref (q 0)), (1, .int b1), (2, .int b2), (3, .int b3), (4, .int b4)] := hl
    refine lv_aload_n hx hb dX12_weekStep_170 rfl (lv_at hl 0 rfl) ?_
    refine gfR_12_0 X hP sR_0 bw_1323 dX12_weekStep_171 ?_
    refine lv_sipush (v := 2016) hx hb dX12_weekStep_174 (by decide) ?_
    refine lv_dup2_11 hx hb dX12_weekStep_177 rfl rfl ?_
    refine ldR_ia X hP sR_1 zR_1 (by decide) dX12_weekStep_178 ?_
    refine topE (y := (gI M41 1 2016)) rfl ?_
    refine lv_iconst (v := 1) hx hb dX12_weekStep_179 (by decide) ?_
    refine lv_iadd hx hb dX12_weekStep_180 ?_
    obtain ⟨M43, eM43, h⟩ := lt_inv h
    refine stR_ia X hP hS sR_1 zR_1 (by decide) eM43 dX12_weekStep_181 (fun H locs hP hS => ?_)
    refine lv_aload_n hx hb dX12_weekStep_182 rfl (lv_at hl 0 rfl) ?_
    obtain ⟨_, M45, hc46, h⟩ := bnd_inv h
    refine gV_v (As := []) X hP hS hl.1 (c_X12_ahead l D cA q aK aV hq hc46) sf_X12_ahead bw_1514 sv_X12_ahead (rcR_12 sR_0) rfl ⟨rfl, rfl⟩ ⟨Nat.le_of_ble_eq_true rfl, Nat.le_of_ble_eq_true rfl⟩ rfl rfl (Nat.le_of_ble_eq_true rfl) dX12_weekStep_183 (fun H locs hP hS => ?_)
    refine lv_aload_n hx hb dX12_weekStep_186 rfl (lv_at hl 0 rfl) ?_
    refine lv_iload_n hx hb dX12_weekStep_187 rfl (lv_at hl 1 rfl) ?_
    refine lv_iload_n hx hb dX12_weekStep_188 rfl (lv_at hl 3 rfl) ?_
    obtain ⟨r47, M48, hc49, h⟩ := bnd_inv h
    refine gV_i (As := [.int b1, .int b3]) X hP hS hl.1 (c_X12_weekOrder l D cA q aK aV hq hc49) sf_X12_weekOrder bw_1651 sv_X12_weekOrder (rcR_12 sR_0) rfl ⟨rfl, rfl⟩ ⟨Nat.le_of_ble_eq_true rfl, Nat.le_of_ble_eq_true rfl⟩ rfl rfl (Nat.le_of_ble_eq_true rfl) dX12_weekStep_189 (fun H locs hP hS => ?_)
    refine lv_if_ne (tgt := 197) hx hb dX12_weekStep_192 (by decide) (fun c50 => ?_) (fun c50 => ?_)
    · rw [if_neg c50] at h
      refine lv_iload hx hb dX12_weekStep_197 (lv_at hl 4 rfl) ?_
      refine lv_if_eq (tgt := 222) hx hb dX12_weekStep_199 (by decide) (fun c51 => ?_) (fun c51 => ?_)
      · rw [if_pos c51] at h
        exact hJ222 _ _ _ _ _ _ _ h hP hS (lv_sub hl [0, 1, 2, 3] rfl)
      · rw [if_neg c51] at h
        refine lv_aload_n hx hb dX12_weekStep_202 rfl (lv_at hl 0 rfl) ?_
        refine gfR_12_20 X hP sR_0 bw_1343 dX12_weekStep_203 ?_
        refine lv_aload_n hx hb dX12_weekStep_206 rfl (lv_at hl 0 rfl) ?_
        refine gfR_12_21 X hP sR_0 bw_1344 dX12_weekStep_207 ?_
        refine lv_iload_n hx hb dX12_weekStep_210 rfl (lv_at hl 2 rfl) ?_
        obtain ⟨g52, h⟩ := gd_inv h
        obtain ⟨M53, eM53, h⟩ := lt_inv h
        refine stR_ia X hP hS sR_8 zR_8 g52 eM53 dX12_weekStep_211 (fun H locs hP hS => ?_)
        refine lv_aload_n hx hb dX12_weekStep_212 rfl (lv_at hl 0 rfl) ?_
        refine lv_dup hx hb dX12_weekStep_213 rfl ?_
        refine gfR_12_21 X hP sR_0 bw_1344 dX12_weekStep_214 ?_
        refine lv_iconst (v := 1) hx hb dX12_weekStep_217 (by decide) ?_
        refine lv_iadd hx hb dX12_weekStep_218 ?_
        obtain ⟨M54, eM54, h⟩ := lt_inv h
        refine pfR_12_21 X hP hS sR_0 bw_1344 eM54 dX12_weekStep_219 (fun H locs hP hS => ?_)
        exact hJ222 _ _ _ _ _ _ _ h hP hS (lv_sub hl [0, 1, 2, 3] rfl)
    · rw [if_pos c50] at h
      refine lv_iconst (v := 0) hx hb dX12_weekStep_195 (by decide) ?_
      exact end_z X hr hk hP hS (Or.inl rfl) h dX12_weekStep_196
  have hJ117 : ∀ (b1 : Int32) (b2 : Int32) (b3 : Int32) (b4 : Int32) (M : Mem) (H : Heap) (locs : List Loc) (ls : Array Slot), f_X12_weekStep_J117 b1 b2 b3 b4 M = some (r0, M0) → va_P D vwCl (wsG 20 (ceR cA q) q M) H → va_S (AqG 20 q) s.heap H locs → lv_has ls 6 [(0, .ref (q 0)), (1, .int b1), (2, .int b2), (3, .int b3), (4, .int b4)] → W p l e ({ frames := 13, cells := 0, slots := 0, locals := 316 } : Room) s m [.ref (q 0)].toArray below meth c H locs 0 0 (MQ below (Qi 20 (ceR cA q) D q r0 M0) [.ref (q 0)].toArray s 0 0 (AqG 20 q)) (F0 m 117 ls []) := by
    intro b1 b2 b3 b4 M H locs ls h hP hS hl
    rw [f_X12_weekStep_J117] at h
    refine lv_aload_n hx hb dX12_weekStep_117 rfl (lv_at hl 0 rfl) ?_
    refine lv_dup hx hb dX12_weekStep_118 rfl ?_
    refine gfR_12_22 X hP sR_0 bw_1345 dX12_weekStep_119 ?_
    refine lv_iload_n hx hb dX12_weekStep_122 rfl (lv_at hl 1 rfl) ?_
    refine lv_bipush (v := 24) hx hb dX12_weekStep_123 (by decide) ?_
    refine lv_icmp_ne (tgt := 132) hx hb dX12_weekStep_125 (by decide) (fun c36 => ?_) (fun c36 => ?_)
    · rw [if_neg c36] at h
      refine lv_iconst (v := 1) hx hb dX12_weekStep_132 (by decide) ?_
      exact hJ133 _ _ _ _ _ _ _ _ _ _ h hP hS (lv_sub hl [0, 1, 2, 3, 4] rfl)
    · rw [if_pos c36] at h
      refine lv_iconst (v := 0) hx hb dX12_weekStep_128 (by decide) ?_
      refine lv_goto (tgt := 133) hx hb dX12_weekStep_129 (by decide) ?_
      exact hJ133 _ _ _ _ _ _ _ _ _ _ h hP hS (lv_sub hl [0, 1, 2, 3, 4] rfl)
  have hJ97 : ∀ (b1 : Int32) (b2 : Int32) (b3 : Int32) (b4 : Int32) (M : Mem) (H : Heap) (locs : List Loc) (ls : Array Slot), f_X12_weekStep_J97 b1 b2 b3 b4 M = some (r0, M0) → va_P D vwCl (wsG 20 (ceR cA q) q M) H → va_S (AqG 20 q) s.heap H locs → lv_has ls 6 [(0, .ref (q 0)), (1, .int b1), (2, .int b2), (3, .int b3), (4, .int b4)] → W p l e ({ frames := 13, cells := 0, slots := 0, locals := 316 } : Room) s m [.ref (q 0)].toArray below meth c H locs 0 0 (MQ below (Qi 20 (ceR cA q) D q r0 M0) [.ref (q 0)].toArray s 0 0 (AqG 20 q)) (F0 m 97 ls []) := by
    intro b1 b2 b3 b4 M H locs ls h hP hS hl
    rw [f_X12_weekStep_J97] at h
    refine lv_iload hx hb dX12_weekStep_97 (lv_at hl 4 rfl) ?_
    refine lv_if_eq (tgt := 117) hx hb dX12_weekStep_99 (by decide) (fun c30 => ?_) (fun c30 => ?_)
    · rw [if_pos c30] at h
      exact hJ117 _ _ _ _ _ _ _ _ h hP hS (lv_sub hl [0, 1, 2, 3, 4] rfl)
    · rw [if_neg c30] at h
      refine lv_aload_n hx hb dX12_weekStep_102 rfl (lv_at hl 0 rfl) ?_
      refine gfR_12_21 X hP sR_0 bw_1344 dX12_weekStep_103 ?_
      refine lv_iconst (v := 3) hx hb dX12_weekStep_106 (by decide) ?_
      refine lv_icmp_ne (tgt := 117) hx hb dX12_weekStep_107 (by decide) (fun c31 => ?_) (fun c31 => ?_)
      · rw [if_neg c31] at h
        exact hJ117 _ _ _ _ _ _ _ _ h hP hS (lv_sub hl [0, 1, 2, 3, 4] rfl)
      · rw [if_pos c31] at h
        refine lv_aload_n hx hb dX12_weekStep_110 rfl (lv_at hl 0 rfl) ?_
        refine lv_bipush (v := 7) hx hb dX12_weekStep_111 (by decide) ?_
        obtain ⟨r32, M33, hc34, h⟩ := bnd_inv h
        refine gV_i (As := [.int (7 : Int32)]) X hP hS hl.1 (c_X12_fails l D cA q aK aV hq hc34) sf_X12_fails bw_1545 sv_X12_fails (rcR_12 sR_0) rfl ⟨rfl, rfl⟩ ⟨Nat.le_of_ble_eq_true rfl, Nat.le_of_ble_eq_true rfl⟩ rfl rfl (Nat.le_of_ble_eq_true rfl) dX12_weekStep_113 (fun H locs hP hS => ?_)
        obtain ⟨g35, h⟩ := gd_inv h
        exact end_z X hr hk hP hS (Decidable.not_not.mp g35) h dX12_weekStep_116
  have hJ75 : ∀ (b1 : Int32) (b2 : Int32) (b3 : Int32) (b4 : Int32) (M : Mem) (H : Heap) (locs : List Loc) (ls : Array Slot), f_X12_weekStep_J75 b1 b2 b3 b4 M = some (r0, M0) → va_P D vwCl (wsG 20 (ceR cA q) q M) H → va_S (AqG 20 q) s.heap H locs → lv_has ls 6 [(0, .ref (q 0)), (1, .int b1), (2, .int b2), (3, .int b3), (4, .int b4)] → W p l e ({ frames := 13, cells := 0, slots := 0, locals := 316 } : Room) s m [.ref (q 0)].toArray below meth c H locs 0 0 (MQ below (Qi 20 (ceR cA q) D q r0 M0) [.ref (q 0)].toArray s 0 0 (AqG 20 q)) (F0 m 75 ls []) := by
    intro b1 b2 b3 b4 M H locs ls h hP hS hl
    rw [f_X12_weekStep_J75] at h
    refine lv_iload_n hx hb dX12_weekStep_75 rfl (lv_at hl 1 rfl) ?_
    refine lv_bipush (v := 24) hx hb dX12_weekStep_76 (by decide) ?_
    refine lv_icmp_eq (tgt := 97) hx hb dX12_weekStep_78 (by decide) (fun c24 => ?_) (fun c24 => ?_)
    · rw [if_pos c24] at h
      exact hJ97 _ _ _ _ _ _ _ _ h hP hS (lv_sub hl [0, 1, 2, 3, 4] rfl)
    · rw [if_neg c24] at h
      refine lv_aload_n hx hb dX12_weekStep_81 rfl (lv_at hl 0 rfl) ?_
      refine gfR_12_22 X hP sR_0 bw_1345 dX12_weekStep_82 ?_
      refine lv_bipush (v := 30) hx hb dX12_weekStep_85 (by decide) ?_
      refine lv_icmp_ne (tgt := 97) hx hb dX12_weekStep_87 (by decide) (fun c25 => ?_) (fun c25 => ?_)
      · rw [if_neg c25] at h
        exact hJ97 _ _ _ _ _ _ _ _ h hP hS (lv_sub hl [0, 1, 2, 3, 4] rfl)
      · rw [if_pos c25] at h
        refine lv_aload_n hx hb dX12_weekStep_90 rfl (lv_at hl 0 rfl) ?_
        refine lv_bipush (v := 6) hx hb dX12_weekStep_91 (by decide) ?_
        obtain ⟨r26, M27, hc28, h⟩ := bnd_inv h
        refine gV_i (As := [.int (6 : Int32)]) X hP hS hl.1 (c_X12_fails l D cA q aK aV hq hc28) sf_X12_fails bw_1545 sv_X12_fails (rcR_12 sR_0) rfl ⟨rfl, rfl⟩ ⟨Nat.le_of_ble_eq_true rfl, Nat.le_of_ble_eq_true rfl⟩ rfl rfl (Nat.le_of_ble_eq_true rfl) dX12_weekStep_93 (fun H locs hP hS => ?_)
        obtain ⟨g29, h⟩ := gd_inv h
        exact end_z X hr hk hP hS (Decidable.not_not.mp g29) h dX12_weekStep_96
  have hJ42 : ∀ (b1 : Int32) (b2 : Int32) (b3 : Int32) (s0 : Int32) (M : Mem) (H : Heap) (locs : List Loc) (ls : Array Slot), f_X12_weekStep_J42 b1 b2 b3 s0 M = some (r0, M0) → va_P D vwCl (wsG 20 (ceR cA q) q M) H → va_S (AqG 20 q) s.heap H locs → lv_has ls 6 [(0, .ref (q 0)), (1, .int b1), (2, .int b2), (3, .int b3)] → W p l e ({ frames := 13, cells := 0, slots := 0, locals := 316 } : Room) s m [.ref (q 0)].toArray below meth c H locs 0 0 (MQ below (Qi 20 (ceR cA q) D q r0 M0) [.ref (q 0)].toArray s 0 0 (AqG 20 q)) (F0 m 42 ls [.int s0]) := by
    intro b1 b2 b3 s0 M H locs ls h hP hS hl
    rw [f_X12_weekStep_J42] at h
    refine lv_istore (lv' := [(4, .int s0), (0, .ref (q 0)), (1, .int b1), (2, .int b2), (3, .int b3)]) hx hb dX12_weekStep_42 hl (by decide) rfl (fun ls hl => ?_)
    refine lv_iload_n hx hb dX12_weekStep_44 rfl (lv_at hl 2 rfl) ?_
    refine lv_bipush (v := 15) hx hb dX12_weekStep_45 (by decide) ?_
    refine lv_icmp_lt (tgt := 69) hx hb dX12_weekStep_47 (by decide) (fun c8 => ?_) (fun c8 => ?_)
    · rw [if_pos c8] at h
      refine lv_aload_n hx hb dX12_weekStep_69 rfl (lv_at hl 1 rfl) ?_
      refine lv_iconst (v := 2) hx hb dX12_weekStep_70 (by decide) ?_
      obtain ⟨r9, M10, hc11, h⟩ := bnd_inv h
      refine gV_i (As := [.int (2 : Int32)]) X hP hS hl.1 (c_X12_fails l D cA q aK aV hq hc11) sf_X12_fails bw_1545 sv_X12_fails (rcR_12 sR_0) rfl ⟨rfl, rfl⟩ ⟨Nat.le_of_ble_eq_true rfl, Nat.le_of_ble_eq_true rfl⟩ rfl rfl (Nat.le_of_ble_eq_true rfl) dX12_weekStep_71 (fun H locs hP hS => ?_)
      obtain ⟨g12, h⟩ := gd_inv h
      exact end_z X hr hk hP hS (Decidable.not_not.mp g12) h dX12_weekStep_74
    · rw [if_neg c8] at h
      refine lv_iload_n hx hb dX12_weekStep_50 rfl (lv_at hl 2 rfl) ?_
      refine lv_bipush (v := 25) hx hb dX12_weekStep_51 (by decide) ?_
      refine lv_icmp_gt (tgt := 69) hx hb dX12_weekStep_53 (by decide) (fun c13 => ?_) (fun c13 => ?_)
      · rw [if_pos c13] at h
        refine lv_aload_n hx hb dX12_weekStep_69 rfl (lv_at hl 1 rfl) ?_
        refine lv_iconst (v := 2) hx hb dX12_weekStep_70 (by decide) ?_
        obtain ⟨r14, M15, hc16, h⟩ := bnd_inv h
        refine gV_i (As := [.int (2 : Int32)]) X hP hS hl.1 (c_X12_fails l D cA q aK aV hq hc16) sf_X12_fails bw_1545 sv_X12_fails (rcR_12 sR_0) rfl ⟨rfl, rfl⟩ ⟨Nat.le_of_ble_eq_true rfl, Nat.le_of_ble_eq_true rfl⟩ rfl rfl (Nat.le_of_ble_eq_true rfl) dX12_weekStep_71 (fun H locs hP hS => ?_)
        obtain ⟨g17, h⟩ := gd_inv h
        exact end_z X hr hk hP hS (Decidable.not_not.mp g17) h dX12_weekStep_74
      · rw [if_neg c13] at h
        refine lv_iload_n hx hb dX12_weekStep_56 rfl (lv_at hl 2 rfl) ?_
        refine lv_bipush (v := 24) hx hb dX12_weekStep_57 (by decide) ?_
        refine lv_icmp_ne (tgt := 75) hx hb dX12_weekStep_59 (by decide) (fun c18 => ?_) (fun c18 => ?_)
        · rw [if_neg c18] at h
          exact hJ75 _ _ _ _ _ _ _ _ h hP hS (lv_sub hl [1, 2, 3, 4, 0] rfl)
        · rw [if_pos c18] at h
          refine lv_aload_n hx hb dX12_weekStep_62 rfl (lv_at hl 1 rfl) ?_
          refine gfR_12_21 X hP sR_0 bw_1344 dX12_weekStep_63 ?_
          refine lv_if_ne (tgt := 75) hx hb dX12_weekStep_66 (by decide) (fun c19 => ?_) (fun c19 => ?_)
          · rw [if_neg c19] at h
            exact hJ75 _ _ _ _ _ _ _ _ h hP hS (lv_sub hl [1, 2, 3, 4, 0] rfl)
          · rw [if_pos c19] at h
            refine lv_aload_n hx hb dX12_weekStep_69 rfl (lv_at hl 1 rfl) ?_
            refine lv_iconst (v := 2) hx hb dX12_weekStep_70 (by decide) ?_
            obtain ⟨r20, M21, hc22, h⟩ := bnd_inv h
            refine gV_i (As := [.int (2 : Int32)]) X hP hS hl.1 (c_X12_fails l D cA q aK aV hq hc22) sf_X12_fails bw_1545 sv_X12_fails (rcR_12 sR_0) rfl ⟨rfl, rfl⟩ ⟨Nat.le_of_ble_eq_true rfl, Nat.le_of_ble_eq_true rfl⟩ rfl rfl (Nat.le_of_ble_eq_true rfl) dX12_weekStep_71 (fun H locs hP hS => ?_)
            obtain ⟨g23, h⟩ := gd_inv h
            exact end_z X hr hk hP hS (Decidable.not_not.mp g23) h dX12_weekStep_74
  have hJ37 : ∀ (b1 : Int32) (b2 : Int32) (b3 : Int32) (M : Mem) (H : Heap) (locs : List Loc) (ls : Array Slot), f_X12_weekStep_J37 b1 b2 b3 M = some (r0, M0) → va_P D vwCl (wsG 20 (ceR cA q) q M) H → va_S (AqG 20 q) s.heap H locs → lv_has ls 6 [(0, .ref (q 0)), (1, .int b1), (2, .int b2), (3, .int b3)] → W p l e ({ frames := 13, cells := 0, slots := 0, locals := 316 } : Room) s m [.ref (q 0)].toArray below meth c H locs 0 0 (MQ below (Qi 20 (ceR cA q) D q r0 M0) [.ref (q 0)].toArray s 0 0 (AqG 20 q)) (F0 m 37 ls []) := by
    intro b1 b2 b3 M H locs ls h hP hS hl
    rw [f_X12_weekStep_J37] at h
    refine lv_iconst (v := 1) hx hb dX12_weekStep_37 (by decide) ?_
    refine lv_goto (tgt := 42) hx hb dX12_weekStep_38 (by decide) ?_
    exact hJ42 _ _ _ _ _ _ _ _ h hP hS (lv_sub hl [0, 1, 2, 3] rfl)
  refine lv_aload_n hx hb dX12_weekStep_0 rfl (lv_at hl 0 rfl) ?_
  refine va_ldcS hx hb X.2.2.2.1 (X_k1 X) dX12_weekStep_1 ?_
  obtain ⟨r1, M2, hc3, h⟩ := bnd_inv h
  refine gV_i (As := [.ref (aK 1)]) X hP hS hl.1 (c_X12_inWords l D cA q aK aV hq hc3) sf_X12_inWords bw_1539 sv_X12_inWords (rcR_12 sR_0) rfl ⟨rfl, rfl⟩ ⟨Nat.le_of_ble_eq_true rfl, Nat.le_of_ble_eq_true rfl⟩ rfl rfl (Nat.le_of_ble_eq_true rfl) dX12_weekStep_3 (fun H locs hP hS => ?_)
  refine lv_istore_n (lv' := [(1, .int r1), (0, .ref (q 0))]) hx hb dX12_weekStep_6 rfl hl (by decide) rfl (fun ls hl => ?_)
  refine lv_aload_n hx hb dX12_weekStep_7 rfl (lv_at hl 1 rfl) ?_
  refine gfR_12_0 X hP sR_0 bw_1323 dX12_weekStep_8 ?_
  refine lv_sipush (v := 2016) hx hb dX12_weekStep_11 (by decide) ?_
  refine ldR_ia X hP sR_1 zR_1 (by decide) dX12_weekStep_14 ?_
  refine topE (y := (gI M2 1 2016)) rfl ?_
  obtain ⟨y4, ey4, h⟩ := lt_inv h
  refine topE ey4 ?_
  refine lv_istore_n (lv' := [(2, .int y4), (1, .int r1), (0, .ref (q 0))]) hx hb dX12_weekStep_15 rfl hl (by decide) rfl (fun ls hl => ?_)
  refine lv_sipush (v := 2142) hx hb dX12_weekStep_16 (by decide) ?_
  refine lv_bipush (v := 6) hx hb dX12_weekStep_19 (by decide) ?_
  refine lv_iload_n hx hb dX12_weekStep_21 rfl (lv_at hl 0 rfl) ?_
  refine lv_imul hx hb dX12_weekStep_22 ?_
  refine lv_iadd hx hb dX12_weekStep_23 ?_
  obtain ⟨y5, ey5, h⟩ := lt_inv h
  refine topE ey5 ?_
  refine lv_istore_n (lv' := [(3, .int y5), (2, .int y4), (1, .int r1), (0, .ref (q 0))]) hx hb dX12_weekStep_24 rfl hl (by decide) rfl (fun ls hl => ?_)
  refine lv_iload_n hx hb dX12_weekStep_25 rfl (lv_at hl 2 rfl) ?_
  refine lv_bipush (v := 22) hx hb dX12_weekStep_26 (by decide) ?_
  refine lv_icmp_eq (tgt := 37) hx hb dX12_weekStep_28 (by decide) (fun c6 => ?_) (fun c6 => ?_)
  · rw [if_pos c6] at h
    exact hJ37 _ _ _ _ _ _ _ h hP hS (lv_sub hl [3, 2, 1, 0] rfl)
  · rw [if_neg c6] at h
    refine lv_iload_n hx hb dX12_weekStep_31 rfl (lv_at hl 2 rfl) ?_
    refine lv_bipush (v := 23) hx hb dX12_weekStep_32 (by decide) ?_
    refine lv_icmp_ne (tgt := 41) hx hb dX12_weekStep_34 (by decide) (fun c7 => ?_) (fun c7 => ?_)
    · rw [if_neg c7] at h
      refine lv_iconst (v := 0) hx hb dX12_weekStep_41 (by decide) ?_
      exact hJ42 _ _ _ _ _ _ _ _ h hP hS (lv_sub hl [3, 2, 1, 0] rfl)
    · rw [if_pos c7] at h
      exact hJ37 _ _ _ _ _ _ _ h hP hS (lv_sub hl [3, 2, 1, 0] rfl)
