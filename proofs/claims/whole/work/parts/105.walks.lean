theorem dX11_readThrees_0 : decode cX11_readThrees 0 = .ok (.iload_n 1, 1) := by decide +kernel
theorem dX11_readThrees_1 : decode cX11_readThrees 1 = .ok (.iconst 4, 1) := by decide +kernel
theorem dX11_readThrees_2 : decode cX11_readThrees 2 = .ok (.invokestatic 104, 3) := by decide +kernel
theorem dX11_readThrees_5 : decode cX11_readThrees 5 = .ok (.ifCond .eq 12, 3) := by decide +kernel
theorem dX11_readThrees_8 : decode cX11_readThrees 8 = .ok (.iload_n 2, 1) := by decide +kernel
theorem dX11_readThrees_9 : decode cX11_readThrees 9 = .ok (.bipush 21, 2) := by decide +kernel
theorem dX11_readThrees_11 : decode cX11_readThrees 11 = .ok (.invokestatic 104, 3) := by decide +kernel
theorem dX11_readThrees_14 : decode cX11_readThrees 14 = .ok (.ifCond .ne 5, 3) := by decide +kernel
theorem dX11_readThrees_17 : decode cX11_readThrees 17 = .ok (.iconst 1, 1) := by decide +kernel
theorem dX11_readThrees_18 : decode cX11_readThrees 18 = .ok (.ireturn, 1) := by decide +kernel
theorem dX11_readThrees_19 : decode cX11_readThrees 19 = .ok (.aload_n 0, 1) := by decide +kernel
theorem dX11_readThrees_20 : decode cX11_readThrees 20 = .ok (.iload_n 1, 1) := by decide +kernel
theorem dX11_readThrees_21 : decode cX11_readThrees 21 = .ok (.invokevirtual 112, 3) := by decide +kernel
theorem dX11_readThrees_24 : decode cX11_readThrees 24 = .ok (.astore_n 3, 1) := by decide +kernel
theorem dX11_readThrees_25 : decode cX11_readThrees 25 = .ok (.aload_n 3, 1) := by decide +kernel
theorem dX11_readThrees_26 : decode cX11_readThrees 26 = .ok (.invokevirtual 140, 3) := by decide +kernel
theorem dX11_readThrees_29 : decode cX11_readThrees 29 = .ok (.ifCond .eq 5, 3) := by decide +kernel
theorem dX11_readThrees_32 : decode cX11_readThrees 32 = .ok (.iconst 2, 1) := by decide +kernel
theorem dX11_readThrees_33 : decode cX11_readThrees 33 = .ok (.ireturn, 1) := by decide +kernel
theorem dX11_readThrees_34 : decode cX11_readThrees 34 = .ok (.aload_n 3, 1) := by decide +kernel
theorem dX11_readThrees_35 : decode cX11_readThrees 35 = .ok (.iconst 0, 1) := by decide +kernel
theorem dX11_readThrees_36 : decode cX11_readThrees 36 = .ok (.iconst 3, 1) := by decide +kernel
theorem dX11_readThrees_37 : decode cX11_readThrees 37 = .ok (.iload_n 2, 1) := by decide +kernel
theorem dX11_readThrees_38 : decode cX11_readThrees 38 = .ok (.imul, 1) := by decide +kernel
theorem dX11_readThrees_39 : decode cX11_readThrees 39 = .ok (.invokevirtual 146, 3) := by decide +kernel
theorem dX11_readThrees_42 : decode cX11_readThrees 42 = .ok (.ifCond .ne 5, 3) := by decide +kernel
theorem dX11_readThrees_45 : decode cX11_readThrees 45 = .ok (.iconst 3, 1) := by decide +kernel
theorem dX11_readThrees_46 : decode cX11_readThrees 46 = .ok (.ireturn, 1) := by decide +kernel
theorem dX11_readThrees_47 : decode cX11_readThrees 47 = .ok (.aload_n 0, 1) := by decide +kernel
theorem dX11_readThrees_48 : decode cX11_readThrees 48 = .ok (.iconst 0, 1) := by decide +kernel
theorem dX11_readThrees_49 : decode cX11_readThrees 49 = .ok (.putfield 98, 3) := by decide +kernel
theorem dX11_readThrees_52 : decode cX11_readThrees 52 = .ok (.aload_n 0, 1) := by decide +kernel
theorem dX11_readThrees_53 : decode cX11_readThrees 53 = .ok (.iconst 0, 1) := by decide +kernel
theorem dX11_readThrees_54 : decode cX11_readThrees 54 = .ok (.putfield 101, 3) := by decide +kernel
theorem dX11_readThrees_57 : decode cX11_readThrees 57 = .ok (.iconst 0, 1) := by decide +kernel
theorem dX11_readThrees_58 : decode cX11_readThrees 58 = .ok (.istore 4, 2) := by decide +kernel
theorem dX11_readThrees_60 : decode cX11_readThrees 60 = .ok (.iload 4, 2) := by decide +kernel
theorem dX11_readThrees_62 : decode cX11_readThrees 62 = .ok (.iload_n 2, 1) := by decide +kernel
theorem dX11_readThrees_63 : decode cX11_readThrees 63 = .ok (.if_icmp .ge 130, 3) := by decide +kernel
theorem dX11_readThrees_66 : decode cX11_readThrees 66 = .ok (.aload_n 3, 1) := by decide +kernel
theorem dX11_readThrees_67 : decode cX11_readThrees 67 = .ok (.iconst 3, 1) := by decide +kernel
theorem dX11_readThrees_68 : decode cX11_readThrees 68 = .ok (.iload 4, 2) := by decide +kernel
theorem dX11_readThrees_70 : decode cX11_readThrees 70 = .ok (.imul, 1) := by decide +kernel
theorem dX11_readThrees_71 : decode cX11_readThrees 71 = .ok (.invokevirtual 136, 3) := by decide +kernel
theorem dX11_readThrees_74 : decode cX11_readThrees 74 = .ok (.lstore 5, 2) := by decide +kernel
theorem dX11_readThrees_76 : decode cX11_readThrees 76 = .ok (.aload_n 3, 1) := by decide +kernel
theorem dX11_readThrees_77 : decode cX11_readThrees 77 = .ok (.iconst 3, 1) := by decide +kernel
theorem dX11_readThrees_78 : decode cX11_readThrees 78 = .ok (.iload 4, 2) := by decide +kernel
theorem dX11_readThrees_80 : decode cX11_readThrees 80 = .ok (.imul, 1) := by decide +kernel
theorem dX11_readThrees_81 : decode cX11_readThrees 81 = .ok (.iconst 1, 1) := by decide +kernel
theorem dX11_readThrees_82 : decode cX11_readThrees 82 = .ok (.iadd, 1) := by decide +kernel
theorem dX11_readThrees_83 : decode cX11_readThrees 83 = .ok (.invokevirtual 136, 3) := by decide +kernel
theorem dX11_readThrees_86 : decode cX11_readThrees 86 = .ok (.lstore 7, 2) := by decide +kernel
theorem dX11_readThrees_88 : decode cX11_readThrees 88 = .ok (.aload_n 3, 1) := by decide +kernel
theorem dX11_readThrees_89 : decode cX11_readThrees 89 = .ok (.iconst 3, 1) := by decide +kernel
theorem dX11_readThrees_90 : decode cX11_readThrees 90 = .ok (.iload 4, 2) := by decide +kernel
theorem dX11_readThrees_92 : decode cX11_readThrees 92 = .ok (.imul, 1) := by decide +kernel
theorem dX11_readThrees_93 : decode cX11_readThrees 93 = .ok (.iconst 2, 1) := by decide +kernel
theorem dX11_readThrees_94 : decode cX11_readThrees 94 = .ok (.iadd, 1) := by decide +kernel
theorem dX11_readThrees_95 : decode cX11_readThrees 95 = .ok (.invokevirtual 136, 3) := by decide +kernel
theorem dX11_readThrees_98 : decode cX11_readThrees 98 = .ok (.lstore 9, 2) := by decide +kernel
theorem dX11_readThrees_100 : decode cX11_readThrees 100 = .ok (.lload 5, 2) := by decide +kernel
theorem dX11_readThrees_102 : decode cX11_readThrees 102 = .ok (.lconst 0, 1) := by decide +kernel
theorem dX11_readThrees_103 : decode cX11_readThrees 103 = .ok (.lcmp, 1) := by decide +kernel
theorem dX11_readThrees_104 : decode cX11_readThrees 104 = .ok (.ifCond .lt 60, 3) := by decide +kernel
theorem dX11_readThrees_107 : decode cX11_readThrees 107 = .ok (.lload 5, 2) := by decide +kernel
theorem dX11_readThrees_109 : decode cX11_readThrees 109 = .ok (.aload_n 0, 1) := by decide +kernel
theorem dX11_readThrees_110 : decode cX11_readThrees 110 = .ok (.getfield 10, 3) := by decide +kernel
theorem dX11_readThrees_113 : decode cX11_readThrees 113 = .ok (.iconst 3, 1) := by decide +kernel
theorem dX11_readThrees_114 : decode cX11_readThrees 114 = .ok (.invokevirtual 167, 3) := by decide +kernel
theorem dX11_readThrees_117 : decode cX11_readThrees 117 = .ok (.i2l, 1) := by decide +kernel
theorem dX11_readThrees_118 : decode cX11_readThrees 118 = .ok (.lcmp, 1) := by decide +kernel
theorem dX11_readThrees_119 : decode cX11_readThrees 119 = .ok (.ifCond .ge 45, 3) := by decide +kernel
theorem dX11_readThrees_122 : decode cX11_readThrees 122 = .ok (.lload 7, 2) := by decide +kernel
theorem dX11_readThrees_124 : decode cX11_readThrees 124 = .ok (.lconst 0, 1) := by decide +kernel
theorem dX11_readThrees_125 : decode cX11_readThrees 125 = .ok (.lcmp, 1) := by decide +kernel
theorem dX11_readThrees_126 : decode cX11_readThrees 126 = .ok (.ifCond .lt 38, 3) := by decide +kernel
theorem dX11_readThrees_129 : decode cX11_readThrees 129 = .ok (.lload 7, 2) := by decide +kernel
theorem dX11_readThrees_131 : decode cX11_readThrees 131 = .ok (.ldc2_w 440, 3) := by decide +kernel
theorem dX11_readThrees_134 : decode cX11_readThrees 134 = .ok (.lcmp, 1) := by decide +kernel
theorem dX11_readThrees_135 : decode cX11_readThrees 135 = .ok (.ifCond .gt 29, 3) := by decide +kernel
theorem dX11_readThrees_138 : decode cX11_readThrees 138 = .ok (.lload 9, 2) := by decide +kernel
theorem dX11_readThrees_140 : decode cX11_readThrees 140 = .ok (.lconst 0, 1) := by decide +kernel
theorem dX11_readThrees_141 : decode cX11_readThrees 141 = .ok (.lcmp, 1) := by decide +kernel
theorem dX11_readThrees_142 : decode cX11_readThrees 142 = .ok (.ifCond .lt 22, 3) := by decide +kernel
theorem dX11_readThrees_145 : decode cX11_readThrees 145 = .ok (.lload 9, 2) := by decide +kernel
theorem dX11_readThrees_147 : decode cX11_readThrees 147 = .ok (.aload_n 0, 1) := by decide +kernel
theorem dX11_readThrees_148 : decode cX11_readThrees 148 = .ok (.getfield 10, 3) := by decide +kernel
theorem dX11_readThrees_151 : decode cX11_readThrees 151 = .ok (.iconst 1, 1) := by decide +kernel
theorem dX11_readThrees_152 : decode cX11_readThrees 152 = .ok (.invokevirtual 167, 3) := by decide +kernel
theorem dX11_readThrees_155 : decode cX11_readThrees 155 = .ok (.i2l, 1) := by decide +kernel
theorem dX11_readThrees_156 : decode cX11_readThrees 156 = .ok (.lcmp, 1) := by decide +kernel
theorem dX11_readThrees_157 : decode cX11_readThrees 157 = .ok (.ifCond .gt 7, 3) := by decide +kernel
theorem dX11_readThrees_160 : decode cX11_readThrees 160 = .ok (.iconst 1, 1) := by decide +kernel
theorem dX11_readThrees_161 : decode cX11_readThrees 161 = .ok (.goto 4, 3) := by decide +kernel
theorem dX11_readThrees_164 : decode cX11_readThrees 164 = .ok (.iconst 0, 1) := by decide +kernel
theorem dX11_readThrees_165 : decode cX11_readThrees 165 = .ok (.istore 11, 2) := by decide +kernel
theorem dX11_readThrees_167 : decode cX11_readThrees 167 = .ok (.iload 11, 2) := by decide +kernel
theorem dX11_readThrees_169 : decode cX11_readThrees 169 = .ok (.ifCond .ne 5, 3) := by decide +kernel
theorem dX11_readThrees_172 : decode cX11_readThrees 172 = .ok (.iconst 5, 1) := by decide +kernel
theorem dX11_readThrees_173 : decode cX11_readThrees 173 = .ok (.ireturn, 1) := by decide +kernel
theorem dX11_readThrees_174 : decode cX11_readThrees 174 = .ok (.aload_n 0, 1) := by decide +kernel
theorem dX11_readThrees_175 : decode cX11_readThrees 175 = .ok (.lload 5, 2) := by decide +kernel
theorem dX11_readThrees_177 : decode cX11_readThrees 177 = .ok (.l2i, 1) := by decide +kernel
theorem dX11_readThrees_178 : decode cX11_readThrees 178 = .ok (.lload 7, 2) := by decide +kernel
theorem dX11_readThrees_180 : decode cX11_readThrees 180 = .ok (.l2i, 1) := by decide +kernel
theorem dX11_readThrees_181 : decode cX11_readThrees 181 = .ok (.lload 9, 2) := by decide +kernel
theorem dX11_readThrees_183 : decode cX11_readThrees 183 = .ok (.l2i, 1) := by decide +kernel
theorem dX11_readThrees_184 : decode cX11_readThrees 184 = .ok (.invokevirtual 442, 3) := by decide +kernel
theorem dX11_readThrees_187 : decode cX11_readThrees 187 = .ok (.iinc 4 1, 3) := by decide +kernel
theorem dX11_readThrees_190 : decode cX11_readThrees 190 = .ok (.goto (-130), 3) := by decide +kernel
theorem dX11_readThrees_193 : decode cX11_readThrees 193 = .ok (.iconst 0, 1) := by decide +kernel
theorem dX11_readThrees_194 : decode cX11_readThrees 194 = .ok (.ireturn, 1) := by decide +kernel
set_option maxRecDepth 100000 in
set_option maxHeartbeats 8000000 in
theorem c_X11_readThrees (l : Launch) (D : va_G) (cA : Nat → ClassId) (q aK aV : Nat → Nat) (hq : injG 167 q) {a1 : Int32} {a2 : Int32} {M M0 : Mem} {r0 : Int32} (h : f_X11_readThrees a1 a2 M = some (r0, M0)) : Met l yX11_readThrees (.code yX11_readThrees cX11_readThrees 12 (some .int) :: BW) ({ frames := 5, cells := 0, slots := 0, locals := 114 } : Room) (va_Pc [.ref (q 0), .int a1, .int a2] (CB 167 (ceC cA q) D cA q aK aV M)) (Qi 167 (ceC cA q) D q r0 M0) 0 0 (AqG 167 q) := by
  refine gMet RX11 (by decide +kernel) rfl hq (Nat.le_of_ble_eq_true rfl) ?_
  intro p e s m below meth c ls X hr hk hP hS hl
  have hx := X.1
  have hb := X.2.1
  have hl : lv_has ls 12 [(0, .ref (q 0)), (1, .int a1), (2, .int a2)] := hl
  rw [f_X11_readThrees] at h
  have hL60 : ∀ (b3 : Nat) (hb3 : shC b3 = 8) (fu : Nat) (b4 : Int32) (M : Mem) (res : (Nat) × Mem) (H : Heap) (locs : List Loc) (ls : Array Slot), f_X11_readThrees_L60 a2 b3 fu b4 M = some res → va_P D vwCl (wsG 167 (ceC cA q) q M) H → va_S (AqG 167 q) s.heap H locs → lv_has ls 12 [(0, .ref (q 0)), (2, .int a2), (3, .ref (q b3)), (4, .int b4)] → (res.1 = 0 → ∀ (H : Heap) (locs : List Loc) (ls : Array Slot), va_P D vwCl (wsG 167 (ceC cA q) q res.2) H → va_S (AqG 167 q) s.heap H locs → lv_has ls 12 [] → W p l e ({ frames := 5, cells := 0, slots := 0, locals := 114 } : Room) s m [.ref (q 0), .int a1, .int a2].toArray below meth c H locs 0 0 (MQ below (Qi 167 (ceC cA q) D q r0 M0) [.ref (q 0), .int a1, .int a2].toArray s 0 0 (AqG 167 q)) (F0 m 172 ls [])) → (res.1 = 1 → ∀ (H : Heap) (locs : List Loc) (ls : Array Slot), va_P D vwCl (wsG 167 (ceC cA q) q res.2) H → va_S (AqG 167 q) s.heap H locs → lv_has ls 12 [] → W p l e ({ frames := 5, cells := 0, slots := 0, locals := 114 } : Room) s m [.ref (q 0), .int a1, .int a2].toArray below meth c H locs 0 0 (MQ below (Qi 167 (ceC cA q) D q r0 M0) [.ref (q 0), .int a1, .int a2].toArray s 0 0 (AqG 167 q)) (F0 m 193 ls [])) → W p l e ({ frames := 5, cells := 0, slots := 0, locals := 114 } : Room) s m [.ref (q 0), .int a1, .int a2].toArray below meth c H locs 0 0 (MQ below (Qi 167 (ceC cA q) D q r0 M0) [.ref (q 0), .int a1, .int a2].toArray s 0 0 (AqG 167 q)) (F0 m 60 ls []) := by
    intro b3 hb3 fu
    induction fu with
    | zero => intro b4 M res H locs ls h; exact absurd h (by simp [f_X11_readThrees_L60])
    | succ fu ih =>
      intro b4 M res H locs ls h hP hS hl K60_0 K60_1
      rw [f_X11_readThrees_L60] at h
      have hJ165 : ∀ (b4 : Int32) (b5 : Int64) (b7 : Int64) (b9 : Int64) (s0 : Int32) (M : Mem) (H : Heap) (locs : List Loc) (ls : Array Slot), f_X11_readThrees_J165 (f_X11_readThrees_L60 a2 b3 fu) a2 b3 b4 b5 b7 b9 s0 M = some res → va_P D vwCl (wsG 167 (ceC cA q) q M) H → va_S (AqG 167 q) s.heap H locs → lv_has ls 12 [(0, .ref (q 0)), (2, .int a2), (3, .ref (q b3)), (4, .int b4), (5, .long b5), (7, .long b7), (9, .long b9)] → W p l e ({ frames := 5, cells := 0, slots := 0, locals := 114 } : Room) s m [.ref (q 0), .int a1, .int a2].toArray below meth c H locs 0 0 (MQ below (Qi 167 (ceC cA q) D q r0 M0) [.ref (q 0), .int a1, .int a2].toArray s 0 0 (AqG 167 q)) (F0 m 165 ls [.int s0]) := by
        intro b4 b5 b7 b9 s0 M H locs ls h hP hS hl
        rw [f_X11_readThrees_J165] at h
        refine lv_istore (lv' := [(11, .int s0), (0, .ref (q 0)), (2, .int a2), (3, .ref (q b3)), (4, .int b4), (5, .long b5), (7, .long b7), (9, .long b9)]) hx hb dX11_readThrees_165 hl (by decide) rfl (fun ls hl => ?_)
        refine lv_iload hx hb dX11_readThrees_167 (lv_at hl 0 rfl) ?_
        refine lv_if_ne (tgt := 174) hx hb dX11_readThrees_169 (by decide) (fun c51 => ?_) (fun c51 => ?_)
        · rw [if_neg c51] at h
          refine lv_aload_n hx hb dX11_readThrees_174 rfl (lv_at hl 1 rfl) ?_
          refine lv_lload hx hb dX11_readThrees_175 (lv_at hl 5 rfl) ?_
          refine lv_l2i hx hb dX11_readThrees_177 rfl ?_
          refine lv_lload hx hb dX11_readThrees_178 (lv_at hl 6 rfl) ?_
          refine lv_l2i hx hb dX11_readThrees_180 rfl ?_
          refine lv_lload hx hb dX11_readThrees_181 (lv_at hl 7 rfl) ?_
          refine lv_l2i hx hb dX11_readThrees_183 rfl ?_
          obtain ⟨_, M53, hc54, h⟩ := bnd_inv h
          refine gV_v (As := [.int (b5.toInt32), .int (b7.toInt32), .int (b9.toInt32)]) X hP hS hl.1 (c_X11_takeThree l D cA q aK aV hq hc54) sf_X11_takeThree bw_1017 sv_X11_takeThree (rcC_11 sC_0) rfl ⟨rfl, rfl⟩ ⟨Nat.le_of_ble_eq_true rfl, Nat.le_of_ble_eq_true rfl⟩ rfl rfl (Nat.le_of_ble_eq_true rfl) dX11_readThrees_184 (fun H locs hP hS => ?_)
          obtain ⟨y55, ey55, h⟩ := lt_inv h
          refine lv_iinc (v := y55) (lv' := [(4, .int y55), (11, .int s0), (0, .ref (q 0)), (2, .int a2), (3, .ref (q b3)), (5, .long b5), (7, .long b7), (9, .long b9)]) hx hb dX11_readThrees_187 hl (k := 4) rfl (by rw [ey55]; rfl) (by decide) rfl (fun ls hl => ?_)
          refine lv_goto (tgt := 60) hx hb dX11_readThrees_190 (by decide) ?_
          exact ih _ _ res _ _ _ h hP hS (lv_sub hl [2, 3, 4, 0] rfl) K60_0 K60_1
        · rw [if_pos c51] at h
          cases h
          exact K60_0 rfl _ _ _ hP hS (lv_sub hl [] rfl)
      have hJ164 : ∀ (b4 : Int32) (b5 : Int64) (b7 : Int64) (b9 : Int64) (M : Mem) (H : Heap) (locs : List Loc) (ls : Array Slot), f_X11_readThrees_J164 (f_X11_readThrees_L60 a2 b3 fu) a2 b3 b4 b5 b7 b9 M = some res → va_P D vwCl (wsG 167 (ceC cA q) q M) H → va_S (AqG 167 q) s.heap H locs → lv_has ls 12 [(0, .ref (q 0)), (2, .int a2), (3, .ref (q b3)), (4, .int b4), (5, .long b5), (7, .long b7), (9, .long b9)] → W p l e ({ frames := 5, cells := 0, slots := 0, locals := 114 } : Room) s m [.ref (q 0), .int a1, .int a2].toArray below meth c H locs 0 0 (MQ below (Qi 167 (ceC cA q) D q r0 M0) [.ref (q 0), .int a1, .int a2].toArray s 0 0 (AqG 167 q)) (F0 m 164 ls []) := by
        intro b4 b5 b7 b9 M H locs ls h hP hS hl
        rw [f_X11_readThrees_J164] at h
        refine lv_iconst (v := 0) hx hb dX11_readThrees_164 (by decide) ?_
        exact hJ165 _ _ _ _ _ _ _ _ _ h hP hS (lv_sub hl [0, 1, 2, 3, 4, 5, 6] rfl)
      refine lv_iload hx hb dX11_readThrees_60 (lv_at hl 3 rfl) ?_
      refine lv_iload_n hx hb dX11_readThrees_62 rfl (lv_at hl 1 rfl) ?_
      refine lv_icmp_ge (tgt := 193) hx hb dX11_readThrees_63 (by decide) (fun c27 => ?_) (fun c27 => ?_)
      · rw [if_pos c27] at h
        cases h
        exact K60_1 rfl _ _ _ hP hS (lv_sub hl [] rfl)
      · rw [if_neg c27] at h
        refine lv_aload_n hx hb dX11_readThrees_66 rfl (lv_at hl 2 rfl) ?_
        refine lv_iconst (v := 3) hx hb dX11_readThrees_67 (by decide) ?_
        refine lv_iload hx hb dX11_readThrees_68 (lv_at hl 3 rfl) ?_
        refine lv_imul hx hb dX11_readThrees_70 ?_
        obtain ⟨r28, M29, hc30, h⟩ := bnd_inv h
        refine gV_l (As := [.int ((3 : Int32) * b4)]) X hP hS hl.1 (c_X8_numberAt l D cA q aK aV hq hb3 hc30) sf_X8_numberAt bw_556 sv_X8_numberAt (rcC_8 hb3) rfl ⟨rfl, rfl⟩ ⟨Nat.le_of_ble_eq_true rfl, Nat.le_of_ble_eq_true rfl⟩ rfl rfl (Nat.le_of_ble_eq_true rfl) dX11_readThrees_71 (fun H locs hP hS => ?_)
        refine lv_lstore (lv' := [(5, .long r28), (0, .ref (q 0)), (2, .int a2), (3, .ref (q b3)), (4, .int b4)]) hx hb dX11_readThrees_74 hl (by decide) rfl (fun ls hl => ?_)
        refine lv_aload_n hx hb dX11_readThrees_76 rfl (lv_at hl 3 rfl) ?_
        refine lv_iconst (v := 3) hx hb dX11_readThrees_77 (by decide) ?_
        refine lv_iload hx hb dX11_readThrees_78 (lv_at hl 4 rfl) ?_
        refine lv_imul hx hb dX11_readThrees_80 ?_
        refine lv_iconst (v := 1) hx hb dX11_readThrees_81 (by decide) ?_
        refine lv_iadd hx hb dX11_readThrees_82 ?_
        obtain ⟨r31, M32, hc33, h⟩ := bnd_inv h
        refine gV_l (As := [.int (((3 : Int32) * b4) + (1 : Int32))]) X hP hS hl.1 (c_X8_numberAt l D cA q aK aV hq hb3 hc33) sf_X8_numberAt bw_556 sv_X8_numberAt (rcC_8 hb3) rfl ⟨rfl, rfl⟩ ⟨Nat.le_of_ble_eq_true rfl, Nat.le_of_ble_eq_true rfl⟩ rfl rfl (Nat.le_of_ble_eq_true rfl) dX11_readThrees_83 (fun H locs hP hS => ?_)
        refine lv_lstore (lv' := [(7, .long r31), (5, .long r28), (0, .ref (q 0)), (2, .int a2), (3, .ref (q b3)), (4, .int b4)]) hx hb dX11_readThrees_86 hl (by decide) rfl (fun ls hl => ?_)
        refine lv_aload_n hx hb dX11_readThrees_88 rfl (lv_at hl 4 rfl) ?_
        refine lv_iconst (v := 3) hx hb dX11_readThrees_89 (by decide) ?_
        refine lv_iload hx hb dX11_readThrees_90 (lv_at hl 5 rfl) ?_
        refine lv_imul hx hb dX11_readThrees_92 ?_
        refine lv_iconst (v := 2) hx hb dX11_readThrees_93 (by decide) ?_
        refine lv_iadd hx hb dX11_readThrees_94 ?_
        obtain ⟨r34, M35, hc36, h⟩ := bnd_inv h
        refine gV_l (As := [.int (((3 : Int32) * b4) + (2 : Int32))]) X hP hS hl.1 (c_X8_numberAt l D cA q aK aV hq hb3 hc36) sf_X8_numberAt bw_556 sv_X8_numberAt (rcC_8 hb3) rfl ⟨rfl, rfl⟩ ⟨Nat.le_of_ble_eq_true rfl, Nat.le_of_ble_eq_true rfl⟩ rfl rfl (Nat.le_of_ble_eq_true rfl) dX11_readThrees_95 (fun H locs hP hS => ?_)
        refine lv_lstore (lv' := [(9, .long r34), (7, .long r31), (5, .long r28), (0, .ref (q 0)), (2, .int a2), (3, .ref (q b3)), (4, .int b4)]) hx hb dX11_readThrees_98 hl (by decide) rfl (fun ls hl => ?_)
        refine lv_lload hx hb dX11_readThrees_100 (lv_at hl 2 rfl) ?_
        refine lv_lconst (v := 0) hx hb dX11_readThrees_102 (by decide) ?_
        refine W.lcmp hx hb dX11_readThrees_103 ?_
        refine lv_if_lt (tgt := 164) hx hb dX11_readThrees_104 (by decide) (fun c37 => ?_) (fun c37 => ?_)
        · rw [if_pos c37] at h
          exact hJ164 _ _ _ _ _ _ _ _ h hP hS (lv_sub hl [3, 4, 5, 6, 2, 1, 0] rfl)
        · rw [if_neg c37] at h
          refine lv_lload hx hb dX11_readThrees_107 (lv_at hl 2 rfl) ?_
          refine lv_aload_n hx hb dX11_readThrees_109 rfl (lv_at hl 3 rfl) ?_
          refine gfC_11_0 X hP sC_0 bw_430 dX11_readThrees_110 ?_
          obtain ⟨g38, h⟩ := gd_inv h
          have g38 := Decidable.not_not.mp g38
          refine lv_iconst (v := 3) hx hb dX11_readThrees_113 (by decide) ?_
          obtain ⟨r39, M40, hc41, h⟩ := bnd_inv h
          refine gV_i (As := [.int (3 : Int32)]) X hP hS hl.1 (c_X0_countOf l D cA q aK aV hq g38 hc41) sf_X0_countOf bw_750 sv_X0_countOf (rcC_0 g38) rfl ⟨rfl, rfl⟩ ⟨Nat.le_of_ble_eq_true rfl, Nat.le_of_ble_eq_true rfl⟩ rfl rfl (Nat.le_of_ble_eq_true rfl) dX11_readThrees_114 (fun H locs hP hS => ?_)
          refine lv_i2l hx hb dX11_readThrees_117 rfl ?_
          refine W.lcmp hx hb dX11_readThrees_118 ?_
          refine lv_if_ge (tgt := 164) hx hb dX11_readThrees_119 (by decide) (fun c42 => ?_) (fun c42 => ?_)
          · rw [if_pos c42] at h
            exact hJ164 _ _ _ _ _ _ _ _ h hP hS (lv_sub hl [3, 4, 5, 6, 2, 1, 0] rfl)
          · rw [if_neg c42] at h
            refine lv_lload hx hb dX11_readThrees_122 (lv_at hl 1 rfl) ?_
            refine lv_lconst (v := 0) hx hb dX11_readThrees_124 (by decide) ?_
            refine W.lcmp hx hb dX11_readThrees_125 ?_
            refine lv_if_lt (tgt := 164) hx hb dX11_readThrees_126 (by decide) (fun c43 => ?_) (fun c43 => ?_)
            · rw [if_pos c43] at h
              exact hJ164 _ _ _ _ _ _ _ _ h hP hS (lv_sub hl [3, 4, 5, 6, 2, 1, 0] rfl)
            · rw [if_neg c43] at h
              refine lv_lload hx hb dX11_readThrees_129 (lv_at hl 1 rfl) ?_
              refine lv_ldc2 hx hb X.2.2.2.1 (X.2.2.2.2.1 _ bw_1016) dX11_readThrees_131 ?_
              refine W.lcmp hx hb dX11_readThrees_134 ?_
              refine lv_if_gt (tgt := 164) hx hb dX11_readThrees_135 (by decide) (fun c44 => ?_) (fun c44 => ?_)
              · rw [if_pos c44] at h
                exact hJ164 _ _ _ _ _ _ _ _ h hP hS (lv_sub hl [3, 4, 5, 6, 2, 1, 0] rfl)
              · rw [if_neg c44] at h
                refine lv_lload hx hb dX11_readThrees_138 (lv_at hl 0 rfl) ?_
                refine lv_lconst (v := 0) hx hb dX11_readThrees_140 (by decide) ?_
                refine W.lcmp hx hb dX11_readThrees_141 ?_
                refine lv_if_lt (tgt := 164) hx hb dX11_readThrees_142 (by decide) (fun c45 => ?_) (fun c45 => ?_)
                · rw [if_pos c45] at h
                  exact hJ164 _ _ _ _ _ _ _ _ h hP hS (lv_sub hl [3, 4, 5, 6, 2, 1, 0] rfl)
                · rw [if_neg c45] at h
                  refine lv_lload hx hb dX11_readThrees_145 (lv_at hl 0 rfl) ?_
                  refine lv_aload_n hx hb dX11_readThrees_147 rfl (lv_at hl 3 rfl) ?_
                  refine gfC_11_0 X hP sC_0 bw_430 dX11_readThrees_148 ?_
                  obtain ⟨g46, h⟩ := gd_inv h
                  have g46 := Decidable.not_not.mp g46
                  refine lv_iconst (v := 1) hx hb dX11_readThrees_151 (by decide) ?_
                  obtain ⟨r47, M48, hc49, h⟩ := bnd_inv h
                  refine gV_i (As := [.int (1 : Int32)]) X hP hS hl.1 (c_X0_countOf l D cA q aK aV hq g46 hc49) sf_X0_countOf bw_750 sv_X0_countOf (rcC_0 g46) rfl ⟨rfl, rfl⟩ ⟨Nat.le_of_ble_eq_true rfl, Nat.le_of_ble_eq_true rfl⟩ rfl rfl (Nat.le_of_ble_eq_true rfl) dX11_readThrees_152 (fun H locs hP hS => ?_)
                  refine lv_i2l hx hb dX11_readThrees_155 rfl ?_
                  refine W.lcmp hx hb dX11_readThrees_156 ?_
                  refine lv_if_gt (tgt := 164) hx hb dX11_readThrees_157 (by decide) (fun c50 => ?_) (fun c50 => ?_)
                  · rw [if_pos c50] at h
                    exact hJ164 _ _ _ _ _ _ _ _ h hP hS (lv_sub hl [3, 4, 5, 6, 2, 1, 0] rfl)
                  · rw [if_neg c50] at h
                    refine lv_iconst (v := 1) hx hb dX11_readThrees_160 (by decide) ?_
                    refine lv_goto (tgt := 165) hx hb dX11_readThrees_161 (by decide) ?_
                    exact hJ165 _ _ _ _ _ _ _ _ _ h hP hS (lv_sub hl [3, 4, 5, 6, 2, 1, 0] rfl)
  refine lv_iload_n hx hb dX11_readThrees_0 rfl (lv_at hl 1 rfl) ?_
  refine lv_iconst (v := 4) hx hb dX11_readThrees_1 (by decide) ?_
  obtain ⟨r1, M2, hc3, h⟩ := bnd_inv h
  refine gS_i (As := [.int a1, .int (4 : Int32)]) X hP hS hl.1 (c_X11_within l D cA q aK aV hq hc3) sf_X11_within bw_504 ss_X11_within ⟨rfl, rfl⟩ ⟨Nat.le_of_ble_eq_true rfl, Nat.le_of_ble_eq_true rfl⟩ rfl rfl (Nat.le_of_ble_eq_true rfl) dX11_readThrees_2 (fun H locs hP hS => ?_)
  refine lv_if_eq (tgt := 17) hx hb dX11_readThrees_5 (by decide) (fun c4 => ?_) (fun c4 => ?_)
  · rw [if_pos c4] at h
    refine lv_iconst (v := 1) hx hb dX11_readThrees_17 (by decide) ?_
    exact end_i X hr hk hP hS h dX11_readThrees_18
  · rw [if_neg c4] at h
    refine lv_iload_n hx hb dX11_readThrees_8 rfl (lv_at hl 2 rfl) ?_
    refine lv_bipush (v := 21) hx hb dX11_readThrees_9 (by decide) ?_
    obtain ⟨r5, M6, hc7, h⟩ := bnd_inv h
    refine gS_i (As := [.int a2, .int (21 : Int32)]) X hP hS hl.1 (c_X11_within l D cA q aK aV hq hc7) sf_X11_within bw_504 ss_X11_within ⟨rfl, rfl⟩ ⟨Nat.le_of_ble_eq_true rfl, Nat.le_of_ble_eq_true rfl⟩ rfl rfl (Nat.le_of_ble_eq_true rfl) dX11_readThrees_11 (fun H locs hP hS => ?_)
    refine lv_if_ne (tgt := 19) hx hb dX11_readThrees_14 (by decide) (fun c8 => ?_) (fun c8 => ?_)
    · rw [if_neg c8] at h
      refine lv_aload_n hx hb dX11_readThrees_19 rfl (lv_at hl 0 rfl) ?_
      refine lv_iload_n hx hb dX11_readThrees_20 rfl (lv_at hl 1 rfl) ?_
      obtain ⟨r9, M10, hc11, h⟩ := bnd_inv h
      refine gV_r (As := [.int a1]) X hP hS hl.1 (c_X11_trayAt l D cA q aK aV hq hc11) sf_X11_trayAt bw_511 sv_X11_trayAt (rcC_11 sC_0) rfl ⟨rfl, rfl⟩ ⟨Nat.le_of_ble_eq_true rfl, Nat.le_of_ble_eq_true rfl⟩ rfl rfl (Nat.le_of_ble_eq_true rfl) dX11_readThrees_21 (fun H locs hP hS => ?_)
      obtain ⟨g12, h⟩ := gd_inv h
      have g12 := Decidable.not_not.mp g12
      refine lv_astore_n (lv' := [(3, .ref (q r9)), (0, .ref (q 0)), (1, .int a1), (2, .int a2)]) hx hb dX11_readThrees_24 rfl hl (by decide) rfl (fun ls hl => ?_)
      refine lv_aload_n hx hb dX11_readThrees_25 rfl (lv_at hl 0 rfl) ?_
      obtain ⟨r13, M14, hc15, h⟩ := bnd_inv h
      refine gV_i (As := []) X hP hS hl.1 (c_X8_isMissing l D cA q aK aV hq g12 hc15) sf_X8_isMissing bw_531 sv_X8_isMissing (rcC_8 g12) rfl ⟨rfl, rfl⟩ ⟨Nat.le_of_ble_eq_true rfl, Nat.le_of_ble_eq_true rfl⟩ rfl rfl (Nat.le_of_ble_eq_true rfl) dX11_readThrees_26 (fun H locs hP hS => ?_)
      refine lv_if_eq (tgt := 34) hx hb dX11_readThrees_29 (by decide) (fun c16 => ?_) (fun c16 => ?_)
      · rw [if_pos c16] at h
        refine lv_aload_n hx hb dX11_readThrees_34 rfl (lv_at hl 0 rfl) ?_
        refine lv_iconst (v := 0) hx hb dX11_readThrees_35 (by decide) ?_
        refine lv_iconst (v := 3) hx hb dX11_readThrees_36 (by decide) ?_
        refine lv_iload_n hx hb dX11_readThrees_37 rfl (lv_at hl 3 rfl) ?_
        refine lv_imul hx hb dX11_readThrees_38 ?_
        obtain ⟨r17, M18, hc19, h⟩ := bnd_inv h
        refine gV_i (As := [.int (0 : Int32), .int ((3 : Int32) * a2)]) X hP hS hl.1 (c_X8_hasRun l D cA q aK aV hq g12 hc19) sf_X8_hasRun bw_564 sv_X8_hasRun (rcC_8 g12) rfl ⟨rfl, rfl⟩ ⟨Nat.le_of_ble_eq_true rfl, Nat.le_of_ble_eq_true rfl⟩ rfl rfl (Nat.le_of_ble_eq_true rfl) dX11_readThrees_39 (fun H locs hP hS => ?_)
        refine lv_if_ne (tgt := 47) hx hb dX11_readThrees_42 (by decide) (fun c20 => ?_) (fun c20 => ?_)
        · rw [if_neg c20] at h
          refine lv_aload_n hx hb dX11_readThrees_47 rfl (lv_at hl 1 rfl) ?_
          refine lv_iconst (v := 0) hx hb dX11_readThrees_48 (by decide) ?_
          obtain ⟨M21, eM21, h⟩ := lt_inv h
          refine pfC_11_17 X hP hS sC_0 bw_447 eM21 dX11_readThrees_49 (fun H locs hP hS => ?_)
          refine lv_aload_n hx hb dX11_readThrees_52 rfl (lv_at hl 1 rfl) ?_
          refine lv_iconst (v := 0) hx hb dX11_readThrees_53 (by decide) ?_
          obtain ⟨M22, eM22, h⟩ := lt_inv h
          refine pfC_11_18 X hP hS sC_0 bw_448 eM22 dX11_readThrees_54 (fun H locs hP hS => ?_)
          refine lv_iconst (v := 0) hx hb dX11_readThrees_57 (by decide) ?_
          refine lv_istore (lv' := [(4, .int (0 : Int32)), (3, .ref (q r9)), (0, .ref (q 0)), (1, .int a1), (2, .int a2)]) hx hb dX11_readThrees_58 hl (by decide) rfl (fun ls hl => ?_)
          obtain ⟨s23, M24, hc25, h⟩ := bnd_inv h
          obtain ⟨k26, rfl⟩ : ∃ z, z = s23 := ⟨_, rfl⟩
          try dsimp only at h
          refine hL60 _ g12 fz _ _ _ _ _ _ hc25 hP hS (lv_sub hl [2, 4, 1, 0] rfl) (fun hke H locs ls hP hS hl => ?_) (fun hke H locs ls hP hS hl => ?_)
          · have hke : k26 = 0 := hke
            have hl : lv_has ls 12 [] := hl
            subst hke
            rw [if_pos rfl] at h
            refine lv_iconst (v := 5) hx hb dX11_readThrees_172 (by decide) ?_
            exact end_i X hr hk hP hS h dX11_readThrees_173
          · have hke : k26 = 1 := hke
            have hl : lv_has ls 12 [] := hl
            subst hke
            rw [if_neg (by decide)] at h
            refine lv_iconst (v := 0) hx hb dX11_readThrees_193 (by decide) ?_
            exact end_i X hr hk hP hS h dX11_readThrees_194
        · rw [if_pos c20] at h
          refine lv_iconst (v := 3) hx hb dX11_readThrees_45 (by decide) ?_
          exact end_i X hr hk hP hS h dX11_readThrees_46
      · rw [if_neg c16] at h
        refine lv_iconst (v := 2) hx hb dX11_readThrees_32 (by decide) ?_
        exact end_i X hr hk hP hS h dX11_readThrees_33
    · rw [if_pos c8] at h
      refine lv_iconst (v := 1) hx hb dX11_readThrees_17 (by decide) ?_
      exact end_i X hr hk hP hS h dX11_readThrees_18
theorem dX11_ways_0 : decode cX11_ways 0 = .ok (.aload_n 0, 1) := by decide +kernel
theorem dX11_ways_1 : decode cX11_ways 1 = .ok (.getfield 98, 3) := by decide +kernel
theorem dX11_ways_4 : decode cX11_ways 4 = .ok (.aload_n 0, 1) := by decide +kernel
theorem dX11_ways_5 : decode cX11_ways 5 = .ok (.getfield 101, 3) := by decide +kernel
theorem dX11_ways_8 : decode cX11_ways 8 = .ok (.iand, 1) := by decide +kernel
theorem dX11_ways_9 : decode cX11_ways 9 = .ok (.ifCond .eq 5, 3) := by decide +kernel
theorem dX11_ways_12 : decode cX11_ways 12 = .ok (.iconst 0, 1) := by decide +kernel
theorem dX11_ways_13 : decode cX11_ways 13 = .ok (.ireturn, 1) := by decide +kernel
theorem dX11_ways_14 : decode cX11_ways 14 = .ok (.iconst 1, 1) := by decide +kernel
theorem dX11_ways_15 : decode cX11_ways 15 = .ok (.aload_n 0, 1) := by decide +kernel
theorem dX11_ways_16 : decode cX11_ways 16 = .ok (.getfield 10, 3) := by decide +kernel
theorem dX11_ways_19 : decode cX11_ways 19 = .ok (.iconst 3, 1) := by decide +kernel
theorem dX11_ways_20 : decode cX11_ways 20 = .ok (.invokevirtual 167, 3) := by decide +kernel
theorem dX11_ways_23 : decode cX11_ways 23 = .ok (.aload_n 0, 1) := by decide +kernel
theorem dX11_ways_24 : decode cX11_ways 24 = .ok (.getfield 98, 3) := by decide +kernel
theorem dX11_ways_27 : decode cX11_ways 27 = .ok (.aload_n 0, 1) := by decide +kernel
theorem dX11_ways_28 : decode cX11_ways 28 = .ok (.getfield 101, 3) := by decide +kernel
theorem dX11_ways_31 : decode cX11_ways 31 = .ok (.ior, 1) := by decide +kernel
theorem dX11_ways_32 : decode cX11_ways 32 = .ok (.invokestatic 270, 3) := by decide +kernel
theorem dX11_ways_35 : decode cX11_ways 35 = .ok (.isub, 1) := by decide +kernel
theorem dX11_ways_36 : decode cX11_ways 36 = .ok (.ishl, 1) := by decide +kernel
theorem dX11_ways_37 : decode cX11_ways 37 = .ok (.ireturn, 1) := by decide +kernel
set_option maxRecDepth 100000 in
set_option maxHeartbeats 8000000 in
theorem c_X11_ways (l : Launch) (D : va_G) (cA : Nat → ClassId) (q aK aV : Nat → Nat) (hq : injG 167 q) {M M0 : Mem} {r0 : Int32} (h : f_X11_ways M = some (r0, M0)) : Met l yX11_ways (.code yX11_ways cX11_ways 1 (some .int) :: BW) ({ frames := 2, cells := 0, slots := 0, locals := 34 } : Room) (va_Pc [.ref (q 0)] (CB 167 (ceC cA q) D cA q aK aV M)) (Qi 167 (ceC cA q) D q r0 M0) 0 0 (AqG 167 q) := by
  refine gMet RX11 (by decide +kernel) rfl hq (Nat.le_of_ble_eq_true rfl) ?_
  intro p e s m below meth c ls X hr hk hP hS hl
  have hx := X.1
  have hb := X.2.1
  have hl : lv_has ls 1 [(0, .ref (q 0))] := hl
  rw [f_X11_ways] at h
  refine lv_aload_n hx hb dX11_ways_0 rfl (lv_at hl 0 rfl) ?_
  refine gfC_11_17 X hP sC_0 bw_447 dX11_ways_1 ?_
  refine lv_aload_n hx hb dX11_ways_4 rfl (lv_at hl 0 rfl) ?_
  refine gfC_11_18 X hP sC_0 bw_448 dX11_ways_5 ?_
  refine lv_iand hx hb dX11_ways_8 ?_
  refine lv_if_eq (tgt := 14) hx hb dX11_ways_9 (by decide) (fun c1 => ?_) (fun c1 => ?_)
  · rw [if_pos c1] at h
    refine lv_iconst (v := 1) hx hb dX11_ways_14 (by decide) ?_
    refine lv_aload_n hx hb dX11_ways_15 rfl (lv_at hl 0 rfl) ?_
    refine gfC_11_0 X hP sC_0 bw_430 dX11_ways_16 ?_
    obtain ⟨g2, h⟩ := gd_inv h
    have g2 := Decidable.not_not.mp g2
    refine lv_iconst (v := 3) hx hb dX11_ways_19 (by decide) ?_
    obtain ⟨r3, M4, hc5, h⟩ := bnd_inv h
    refine gV_i (As := [.int (3 : Int32)]) X hP hS hl.1 (c_X0_countOf l D cA q aK aV hq g2 hc5) sf_X0_countOf bw_750 sv_X0_countOf (rcC_0 g2) rfl ⟨rfl, rfl⟩ ⟨Nat.le_of_ble_eq_true rfl, Nat.le_of_ble_eq_true rfl⟩ rfl rfl (Nat.le_of_ble_eq_true rfl) dX11_ways_20 (fun H locs hP hS => ?_)
    refine lv_aload_n hx hb dX11_ways_23 rfl (lv_at hl 0 rfl) ?_
    refine gfC_11_17 X hP sC_0 bw_447 dX11_ways_24 ?_
    refine lv_aload_n hx hb dX11_ways_27 rfl (lv_at hl 0 rfl) ?_
    refine gfC_11_18 X hP sC_0 bw_448 dX11_ways_28 ?_
    refine lv_ior hx hb dX11_ways_31 ?_
    obtain ⟨r6, M7, hc8, h⟩ := bnd_inv h
    refine gS_i (As := [.int ((gI M4 0 17) ||| (gI M4 0 18))]) X hP hS hl.1 (c_J6_bitCount_0f7a4_C l D cA q aK aV hq hc8) sf_J6_bitCount_0f7a4 bw_894 ss_J6_bitCount_0f7a4 ⟨rfl, rfl⟩ ⟨Nat.le_of_ble_eq_true rfl, Nat.le_of_ble_eq_true rfl⟩ rfl rfl (Nat.le_of_ble_eq_true rfl) dX11_ways_32 (fun H locs hP hS => ?_)
    refine lv_isub hx hb dX11_ways_35 ?_
    refine lv_ishl hx hb dX11_ways_36 ?_
    exact end_i X hr hk hP hS h dX11_ways_37
  · rw [if_neg c1] at h
    refine lv_iconst (v := 0) hx hb dX11_ways_12 (by decide) ?_
    exact end_i X hr hk hP hS h dX11_ways_13
theorem dX11_fits_0 : decode cX11_fits 0 = .ok (.aload_n 0, 1) := by decide +kernel
theorem dX11_fits_1 : decode cX11_fits 1 = .ok (.iload_n 1, 1) := by decide +kernel
theorem dX11_fits_2 : decode cX11_fits 2 = .ok (.iload_n 2, 1) := by decide +kernel
theorem dX11_fits_3 : decode cX11_fits 3 = .ok (.invokevirtual 327, 3) := by decide +kernel
theorem dX11_fits_6 : decode cX11_fits 6 = .ok (.istore_n 3, 1) := by decide +kernel
theorem dX11_fits_7 : decode cX11_fits 7 = .ok (.iload_n 3, 1) := by decide +kernel
theorem dX11_fits_8 : decode cX11_fits 8 = .ok (.ifCond .eq 11, 3) := by decide +kernel
theorem dX11_fits_11 : decode cX11_fits 11 = .ok (.aload_n 0, 1) := by decide +kernel
theorem dX11_fits_12 : decode cX11_fits 12 = .ok (.iload_n 3, 1) := by decide +kernel
theorem dX11_fits_13 : decode cX11_fits 13 = .ok (.invokevirtual 132, 3) := by decide +kernel
theorem dX11_fits_16 : decode cX11_fits 16 = .ok (.goto 11, 3) := by decide +kernel
theorem dX11_fits_19 : decode cX11_fits 19 = .ok (.aload_n 0, 1) := by decide +kernel
theorem dX11_fits_20 : decode cX11_fits 20 = .ok (.aload_n 0, 1) := by decide +kernel
theorem dX11_fits_21 : decode cX11_fits 21 = .ok (.invokevirtual 330, 3) := by decide +kernel
theorem dX11_fits_24 : decode cX11_fits 24 = .ok (.invokevirtual 191, 3) := by decide +kernel
theorem dX11_fits_27 : decode cX11_fits 27 = .ok (.ireturn, 1) := by decide +kernel
set_option maxRecDepth 100000 in
set_option maxHeartbeats 8000000 in
theorem c_X11_fits (l : Launch) (D : va_G) (cA : Nat → ClassId) (q aK aV : Nat → Nat) (hq : injG 167 q) {a1 : Int32} {a2 : Int32} {M M0 : Mem} {r0 : Int32} (h : f_X11_fits a1 a2 M = some (r0, M0)) : Met l yX11_fits (.code yX11_fits cX11_fits 4 (some .int) :: BW) ({ frames := 6, cells := 0, slots := 0, locals := 145 } : Room) (va_Pc [.ref (q 0), .int a1, .int a2] (CB 167 (ceC cA q) D cA q aK aV M)) (Qi 167 (ceC cA q) D q r0 M0) 0 0 (AqG 167 q) := by
  refine gMet RX11 (by decide +kernel) rfl hq (Nat.le_of_ble_eq_true rfl) ?_
  intro p e s m below meth c ls X hr hk hP hS hl
  have hx := X.1
  have hb := X.2.1
  have hl : lv_has ls 4 [(0, .ref (q 0)), (1, .int a1), (2, .int a2)] := hl
  rw [f_X11_fits] at h
  refine lv_aload_n hx hb dX11_fits_0 rfl (lv_at hl 0 rfl) ?_
  refine lv_iload_n hx hb dX11_fits_1 rfl (lv_at hl 1 rfl) ?_
  refine lv_iload_n hx hb dX11_fits_2 rfl (lv_at hl 2 rfl) ?_
  obtain ⟨r1, M2, hc3, h⟩ := bnd_inv h
  refine gV_i (As := [.int a1, .int a2]) X hP hS hl.1 (c_X11_readThrees l D cA q aK aV hq hc3) sf_X11_readThrees bw_1012 sv_X11_readThrees (rcC_11 sC_0) rfl ⟨rfl, rfl⟩ ⟨Nat.le_of_ble_eq_true rfl, Nat.le_of_ble_eq_true rfl⟩ rfl rfl (Nat.le_of_ble_eq_true rfl) dX11_fits_3 (fun H locs hP hS => ?_)
  refine lv_istore_n (lv' := [(3, .int r1), (0, .ref (q 0)), (1, .int a1), (2, .int a2)]) hx hb dX11_fits_6 rfl hl (by decide) rfl (fun ls hl => ?_)
  refine lv_iload_n hx hb dX11_fits_7 rfl (lv_at hl 0 rfl) ?_
  refine lv_if_eq (tgt := 19) hx hb dX11_fits_8 (by decide) (fun c4 => ?_) (fun c4 => ?_)
  · rw [if_pos c4] at h
    refine lv_aload_n hx hb dX11_fits_19 rfl (lv_at hl 1 rfl) ?_
    refine lv_aload_n hx hb dX11_fits_20 rfl (lv_at hl 1 rfl) ?_
    obtain ⟨r5, M6, hc7, h⟩ := bnd_inv h
    refine gV_i (As := []) X hP hS hl.1 (c_X11_ways l D cA q aK aV hq hc7) sf_X11_ways bw_1025 sv_X11_ways (rcC_11 sC_0) rfl ⟨rfl, rfl⟩ ⟨Nat.le_of_ble_eq_true rfl, Nat.le_of_ble_eq_true rfl⟩ rfl rfl (Nat.le_of_ble_eq_true rfl) dX11_fits_21 (fun H locs hP hS => ?_)
    obtain ⟨r8, M9, hc10, h⟩ := bnd_inv h
    refine gV_i (As := [.int r5]) X hP hS hl.1 (c_X11_given l D cA q aK aV hq hc10) sf_X11_given bw_755 sv_X11_given (rcC_11 sC_0) rfl ⟨rfl, rfl⟩ ⟨Nat.le_of_ble_eq_true rfl, Nat.le_of_ble_eq_true rfl⟩ rfl rfl (Nat.le_of_ble_eq_true rfl) dX11_fits_24 (fun H locs hP hS => ?_)
    exact end_i X hr hk hP hS h dX11_fits_27
  · rw [if_neg c4] at h
    refine lv_aload_n hx hb dX11_fits_11 rfl (lv_at hl 1 rfl) ?_
    refine lv_iload_n hx hb dX11_fits_12 rfl (lv_at hl 0 rfl) ?_
    obtain ⟨r11, M12, hc13, h⟩ := bnd_inv h
    refine gV_i (As := [.int r1]) X hP hS hl.1 (c_X11_refused l D cA q aK aV hq hc13) sf_X11_refused bw_552 sv_X11_refused (rcC_11 sC_0) rfl ⟨rfl, rfl⟩ ⟨Nat.le_of_ble_eq_true rfl, Nat.le_of_ble_eq_true rfl⟩ rfl rfl (Nat.le_of_ble_eq_true rfl) dX11_fits_13 (fun H locs hP hS => ?_)
    refine lv_goto (tgt := 27) hx hb dX11_fits_16 (by decide) ?_
    exact end_i X hr hk hP hS h dX11_fits_27
theorem dX11_isOpen_0 : decode cX11_isOpen 0 = .ok (.aload_n 0, 1) := by decide +kernel
theorem dX11_isOpen_1 : decode cX11_isOpen 1 = .ok (.getfield 98, 3) := by decide +kernel
theorem dX11_isOpen_4 : decode cX11_isOpen 4 = .ok (.aload_n 0, 1) := by decide +kernel
theorem dX11_isOpen_5 : decode cX11_isOpen 5 = .ok (.getfield 101, 3) := by decide +kernel
theorem dX11_isOpen_8 : decode cX11_isOpen 8 = .ok (.ior, 1) := by decide +kernel
theorem dX11_isOpen_9 : decode cX11_isOpen 9 = .ok (.iload_n 1, 1) := by decide +kernel
theorem dX11_isOpen_10 : decode cX11_isOpen 10 = .ok (.invokestatic 336, 3) := by decide +kernel
theorem dX11_isOpen_13 : decode cX11_isOpen 13 = .ok (.ifCond .ne 7, 3) := by decide +kernel
theorem dX11_isOpen_16 : decode cX11_isOpen 16 = .ok (.iconst 1, 1) := by decide +kernel
theorem dX11_isOpen_17 : decode cX11_isOpen 17 = .ok (.goto 4, 3) := by decide +kernel
theorem dX11_isOpen_20 : decode cX11_isOpen 20 = .ok (.iconst 0, 1) := by decide +kernel
theorem dX11_isOpen_21 : decode cX11_isOpen 21 = .ok (.ireturn, 1) := by decide +kernel
set_option maxRecDepth 100000 in
set_option maxHeartbeats 8000000 in
theorem c_X11_isOpen (l : Launch) (D : va_G) (cA : Nat → ClassId) (q aK aV : Nat → Nat) (hq : injG 167 q) {a1 : Int32} {M M0 : Mem} {r0 : Int32} (h : f_X11_isOpen a1 M = some (r0, M0)) : Met l yX11_isOpen (.code yX11_isOpen cX11_isOpen 2 (some .boolean) :: BW) ({ frames := 2, cells := 0, slots := 0, locals := 34 } : Room) (va_Pc [.ref (q 0), .int a1] (CB 167 (ceC cA q) D cA q aK aV M)) (Qi 167 (ceC cA q) D q r0 M0) 0 0 (AqG 167 q) := by
  refine gMet RX11 (by decide +kernel) rfl hq (Nat.le_of_ble_eq_true rfl) ?_
  intro p e s m below meth c ls X hr hk hP hS hl
  have hx := X.1
  have hb := X.2.1
  have hl : lv_has ls 2 [(0, .ref (q 0)), (1, .int a1)] := hl
  rw [f_X11_isOpen] at h
  refine lv_aload_n hx hb dX11_isOpen_0 rfl (lv_at hl 0 rfl) ?_
  refine gfC_11_17 X hP sC_0 bw_447 dX11_isOpen_1 ?_
  refine lv_aload_n hx hb dX11_isOpen_4 rfl (lv_at hl 0 rfl) ?_
  refine gfC_11_18 X hP sC_0 bw_448 dX11_isOpen_5 ?_
  refine lv_ior hx hb dX11_isOpen_8 ?_
  refine lv_iload_n hx hb dX11_isOpen_9 rfl (lv_at hl 1 rfl) ?_
  obtain ⟨r1, M2, hc3, h⟩ := bnd_inv h
  refine gS_i (As := [.int ((gI M 0 17) ||| (gI M 0 18)), .int a1]) X hP hS hl.1 (c_X11_isIn l D cA q aK aV hq hc3) sf_X11_isIn bw_1037 ss_X11_isIn ⟨rfl, rfl⟩ ⟨Nat.le_of_ble_eq_true rfl, Nat.le_of_ble_eq_true rfl⟩ rfl rfl (Nat.le_of_ble_eq_true rfl) dX11_isOpen_10 (fun H locs hP hS => ?_)
  refine lv_if_ne (tgt := 20) hx hb dX11_isOpen_13 (by decide) (fun c4 => ?_) (fun c4 => ?_)
  · rw [if_neg c4] at h
    refine lv_iconst (v := 0) hx hb dX11_isOpen_20 (by decide) ?_
    exact end_z X hr hk hP hS (Or.inl rfl) h dX11_isOpen_21
  · rw [if_pos c4] at h
    refine lv_iconst (v := 1) hx hb dX11_isOpen_16 (by decide) ?_
    refine lv_goto (tgt := 21) hx hb dX11_isOpen_17 (by decide) ?_
    exact end_z X hr hk hP hS (Or.inr rfl) h dX11_isOpen_21
theorem dX11_sure_0 : decode cX11_sure 0 = .ok (.aload_n 0, 1) := by decide +kernel
theorem dX11_sure_1 : decode cX11_sure 1 = .ok (.getfield 10, 3) := by decide +kernel
theorem dX11_sure_4 : decode cX11_sure 4 = .ok (.iconst 3, 1) := by decide +kernel
theorem dX11_sure_5 : decode cX11_sure 5 = .ok (.iload_n 1, 1) := by decide +kernel
theorem dX11_sure_6 : decode cX11_sure 6 = .ok (.invokevirtual 213, 3) := by decide +kernel
theorem dX11_sure_9 : decode cX11_sure 9 = .ok (.ifCond .eq 12, 3) := by decide +kernel
theorem dX11_sure_12 : decode cX11_sure 12 = .ok (.aload_n 0, 1) := by decide +kernel
theorem dX11_sure_13 : decode cX11_sure 13 = .ok (.iload_n 2, 1) := by decide +kernel
theorem dX11_sure_14 : decode cX11_sure 14 = .ok (.iload_n 3, 1) := by decide +kernel
theorem dX11_sure_15 : decode cX11_sure 15 = .ok (.invokevirtual 327, 3) := by decide +kernel
theorem dX11_sure_18 : decode cX11_sure 18 = .ok (.goto 4, 3) := by decide +kernel
theorem dX11_sure_21 : decode cX11_sure 21 = .ok (.iconst 1, 1) := by decide +kernel
theorem dX11_sure_22 : decode cX11_sure 22 = .ok (.istore 4, 2) := by decide +kernel
theorem dX11_sure_24 : decode cX11_sure 24 = .ok (.iload 4, 2) := by decide +kernel
theorem dX11_sure_26 : decode cX11_sure 26 = .ok (.ifCond .eq 10, 3) := by decide +kernel
theorem dX11_sure_29 : decode cX11_sure 29 = .ok (.aload_n 0, 1) := by decide +kernel
theorem dX11_sure_30 : decode cX11_sure 30 = .ok (.iload 4, 2) := by decide +kernel
theorem dX11_sure_32 : decode cX11_sure 32 = .ok (.invokevirtual 132, 3) := by decide +kernel
theorem dX11_sure_35 : decode cX11_sure 35 = .ok (.ireturn, 1) := by decide +kernel
theorem dX11_sure_36 : decode cX11_sure 36 = .ok (.aload_n 0, 1) := by decide +kernel
theorem dX11_sure_37 : decode cX11_sure 37 = .ok (.invokevirtual 330, 3) := by decide +kernel
theorem dX11_sure_40 : decode cX11_sure 40 = .ok (.ifCond .eq 11, 3) := by decide +kernel
theorem dX11_sure_43 : decode cX11_sure 43 = .ok (.aload_n 0, 1) := by decide +kernel
theorem dX11_sure_44 : decode cX11_sure 44 = .ok (.iload_n 1, 1) := by decide +kernel
theorem dX11_sure_45 : decode cX11_sure 45 = .ok (.invokevirtual 333, 3) := by decide +kernel
theorem dX11_sure_48 : decode cX11_sure 48 = .ok (.ifCond .eq 10, 3) := by decide +kernel
theorem dX11_sure_51 : decode cX11_sure 51 = .ok (.aload_n 0, 1) := by decide +kernel
theorem dX11_sure_52 : decode cX11_sure 52 = .ok (.bipush 6, 2) := by decide +kernel
theorem dX11_sure_54 : decode cX11_sure 54 = .ok (.invokevirtual 132, 3) := by decide +kernel
theorem dX11_sure_57 : decode cX11_sure 57 = .ok (.ireturn, 1) := by decide +kernel
theorem dX11_sure_58 : decode cX11_sure 58 = .ok (.aload_n 0, 1) := by decide +kernel
theorem dX11_sure_59 : decode cX11_sure 59 = .ok (.aload_n 0, 1) := by decide +kernel
theorem dX11_sure_60 : decode cX11_sure 60 = .ok (.getfield 101, 3) := by decide +kernel
theorem dX11_sure_63 : decode cX11_sure 63 = .ok (.iload_n 1, 1) := by decide +kernel
theorem dX11_sure_64 : decode cX11_sure 64 = .ok (.invokestatic 336, 3) := by decide +kernel
theorem dX11_sure_67 : decode cX11_sure 67 = .ok (.ifCond .eq 7, 3) := by decide +kernel
theorem dX11_sure_70 : decode cX11_sure 70 = .ok (.iconst 1, 1) := by decide +kernel
theorem dX11_sure_71 : decode cX11_sure 71 = .ok (.goto 4, 3) := by decide +kernel
theorem dX11_sure_74 : decode cX11_sure 74 = .ok (.iconst 0, 1) := by decide +kernel
theorem dX11_sure_75 : decode cX11_sure 75 = .ok (.invokevirtual 191, 3) := by decide +kernel
theorem dX11_sure_78 : decode cX11_sure 78 = .ok (.ireturn, 1) := by decide +kernel
set_option maxRecDepth 100000 in
set_option maxHeartbeats 8000000 in
theorem c_X11_sure (l : Launch) (D : va_G) (cA : Nat → ClassId) (q aK aV : Nat → Nat) (hq : injG 167 q) {a1 : Int32} {a2 : Int32} {a3 : Int32} {M M0 : Mem} {r0 : Int32} (h : f_X11_sure a1 a2 a3 M = some (r0, M0)) : Met l yX11_sure (.code yX11_sure cX11_sure 5 (some .int) :: BW) ({ frames := 6, cells := 0, slots := 0, locals := 145 } : Room) (va_Pc [.ref (q 0), .int a1, .int a2, .int a3] (CB 167 (ceC cA q) D cA q aK aV M)) (Qi 167 (ceC cA q) D q r0 M0) 0 0 (AqG 167 q) := by
  refine gMet RX11 (by decide +kernel) rfl hq (Nat.le_of_ble_eq_true rfl) ?_
  intro p e s m below meth c ls X hr hk hP hS hl
  have hx := X.1
  have hb := X.2.1
  have hl : lv_has ls 5 [(0, .ref (q 0)), (1, .int a1), (2, .int a2), (3, .int a3)] := hl
  rw [f_X11_sure] at h
  have hJ22 : ∀ (s0 : Int32) (M : Mem) (H : Heap) (locs : List Loc) (ls : Array Slot), f_X11_sure_J22 a1 s0 M = some (r0, M0) → va_P D vwCl (wsG 167 (ceC cA q) q M) H → va_S (AqG 167 q) s.heap H locs → lv_has ls 5 [(0, .ref (q 0)), (1, .int a1)] → W p l e ({ frames := 6, cells := 0, slots := 0, locals := 145 } : Room) s m [.ref (q 0), .int a1, .int a2, .int a3].toArray below meth c H locs 0 0 (MQ below (Qi 167 (ceC cA q) D q r0 M0) [.ref (q 0), .int a1, .int a2, .int a3].toArray s 0 0 (AqG 167 q)) (F0 m 22 ls [.int s0]) := by
    intro s0 M H locs ls h hP hS hl
    rw [f_X11_sure_J22] at h
    refine lv_istore (lv' := [(4, .int s0), (0, .ref (q 0)), (1, .int a1)]) hx hb dX11_sure_22 hl (by decide) rfl (fun ls hl => ?_)
    refine lv_iload hx hb dX11_sure_24 (lv_at hl 0 rfl) ?_
    refine lv_if_eq (tgt := 36) hx hb dX11_sure_26 (by decide) (fun c9 => ?_) (fun c9 => ?_)
    · rw [if_pos c9] at h
      refine lv_aload_n hx hb dX11_sure_36 rfl (lv_at hl 1 rfl) ?_
      obtain ⟨r10, M11, hc12, h⟩ := bnd_inv h
      refine gV_i (As := []) X hP hS hl.1 (c_X11_ways l D cA q aK aV hq hc12) sf_X11_ways bw_1025 sv_X11_ways (rcC_11 sC_0) rfl ⟨rfl, rfl⟩ ⟨Nat.le_of_ble_eq_true rfl, Nat.le_of_ble_eq_true rfl⟩ rfl rfl (Nat.le_of_ble_eq_true rfl) dX11_sure_37 (fun H locs hP hS => ?_)
      refine lv_if_eq (tgt := 51) hx hb dX11_sure_40 (by decide) (fun c13 => ?_) (fun c13 => ?_)
      · rw [if_pos c13] at h
        refine lv_aload_n hx hb dX11_sure_51 rfl (lv_at hl 1 rfl) ?_
        refine lv_bipush (v := 6) hx hb dX11_sure_52 (by decide) ?_
        obtain ⟨r14, M15, hc16, h⟩ := bnd_inv h
        refine gV_i (As := [.int (6 : Int32)]) X hP hS hl.1 (c_X11_refused l D cA q aK aV hq hc16) sf_X11_refused bw_552 sv_X11_refused (rcC_11 sC_0) rfl ⟨rfl, rfl⟩ ⟨Nat.le_of_ble_eq_true rfl, Nat.le_of_ble_eq_true rfl⟩ rfl rfl (Nat.le_of_ble_eq_true rfl) dX11_sure_54 (fun H locs hP hS => ?_)
        exact end_i X hr hk hP hS h dX11_sure_57
      · rw [if_neg c13] at h
        refine lv_aload_n hx hb dX11_sure_43 rfl (lv_at hl 1 rfl) ?_
        refine lv_iload_n hx hb dX11_sure_44 rfl (lv_at hl 2 rfl) ?_
        obtain ⟨r17, M18, hc19, h⟩ := bnd_inv h
        refine gV_i (As := [.int a1]) X hP hS hl.1 (c_X11_isOpen l D cA q aK aV hq hc19) sf_X11_isOpen bw_1033 sv_X11_isOpen (rcC_11 sC_0) rfl ⟨rfl, rfl⟩ ⟨Nat.le_of_ble_eq_true rfl, Nat.le_of_ble_eq_true rfl⟩ rfl rfl (Nat.le_of_ble_eq_true rfl) dX11_sure_45 (fun H locs hP hS => ?_)
        refine lv_if_eq (tgt := 58) hx hb dX11_sure_48 (by decide) (fun c20 => ?_) (fun c20 => ?_)
        · rw [if_pos c20] at h
          refine lv_aload_n hx hb dX11_sure_58 rfl (lv_at hl 1 rfl) ?_
          refine lv_aload_n hx hb dX11_sure_59 rfl (lv_at hl 1 rfl) ?_
          refine gfC_11_18 X hP sC_0 bw_448 dX11_sure_60 ?_
          refine lv_iload_n hx hb dX11_sure_63 rfl (lv_at hl 2 rfl) ?_
          obtain ⟨r21, M22, hc23, h⟩ := bnd_inv h
          refine gS_i (As := [.int (gI M18 0 18), .int a1]) X hP hS hl.1 (c_X11_isIn l D cA q aK aV hq hc23) sf_X11_isIn bw_1037 ss_X11_isIn ⟨rfl, rfl⟩ ⟨Nat.le_of_ble_eq_true rfl, Nat.le_of_ble_eq_true rfl⟩ rfl rfl (Nat.le_of_ble_eq_true rfl) dX11_sure_64 (fun H locs hP hS => ?_)
          refine lv_if_eq (tgt := 74) hx hb dX11_sure_67 (by decide) (fun c24 => ?_) (fun c24 => ?_)
          · rw [if_pos c24] at h
            refine lv_iconst (v := 0) hx hb dX11_sure_74 (by decide) ?_
            obtain ⟨r25, M26, hc27, h⟩ := bnd_inv h
            refine gV_i (As := [.int (0 : Int32)]) X hP hS hl.1 (c_X11_given l D cA q aK aV hq hc27) sf_X11_given bw_755 sv_X11_given (rcC_11 sC_0) rfl ⟨rfl, rfl⟩ ⟨Nat.le_of_ble_eq_true rfl, Nat.le_of_ble_eq_true rfl⟩ rfl rfl (Nat.le_of_ble_eq_true rfl) dX11_sure_75 (fun H locs hP hS => ?_)
            exact end_i X hr hk hP hS h dX11_sure_78
          · rw [if_neg c24] at h
            refine lv_iconst (v := 1) hx hb dX11_sure_70 (by decide) ?_
            refine lv_goto (tgt := 75) hx hb dX11_sure_71 (by decide) ?_
            obtain ⟨r28, M29, hc30, h⟩ := bnd_inv h
            refine gV_i (As := [.int (1 : Int32)]) X hP hS hl.1 (c_X11_given l D cA q aK aV hq hc30) sf_X11_given bw_755 sv_X11_given (rcC_11 sC_0) rfl ⟨rfl, rfl⟩ ⟨Nat.le_of_ble_eq_true rfl, Nat.le_of_ble_eq_true rfl⟩ rfl rfl (Nat.le_of_ble_eq_true rfl) dX11_sure_75 (fun H locs hP hS => ?_)
            exact end_i X hr hk hP hS h dX11_sure_78
        · rw [if_neg c20] at h
          refine lv_aload_n hx hb dX11_sure_51 rfl (lv_at hl 1 rfl) ?_
          refine lv_bipush (v := 6) hx hb dX11_sure_52 (by decide) ?_
          obtain ⟨r31, M32, hc33, h⟩ := bnd_inv h
          refine gV_i (As := [.int (6 : Int32)]) X hP hS hl.1 (c_X11_refused l D cA q aK aV hq hc33) sf_X11_refused bw_552 sv_X11_refused (rcC_11 sC_0) rfl ⟨rfl, rfl⟩ ⟨Nat.le_of_ble_eq_true rfl, Nat.le_of_ble_eq_true rfl⟩ rfl rfl (Nat.le_of_ble_eq_true rfl) dX11_sure_54 (fun H locs hP hS => ?_)
          exact end_i X hr hk hP hS h dX11_sure_57
    · rw [if_neg c9] at h
      refine lv_aload_n hx hb dX11_sure_29 rfl (lv_at hl 1 rfl) ?_
      refine lv_iload hx hb dX11_sure_30 (lv_at hl 0 rfl) ?_
      obtain ⟨r34, M35, hc36, h⟩ := bnd_inv h
      refine gV_i (As := [.int s0]) X hP hS hl.1 (c_X11_refused l D cA q aK aV hq hc36) sf_X11_refused bw_552 sv_X11_refused (rcC_11 sC_0) rfl ⟨rfl, rfl⟩ ⟨Nat.le_of_ble_eq_true rfl, Nat.le_of_ble_eq_true rfl⟩ rfl rfl (Nat.le_of_ble_eq_true rfl) dX11_sure_32 (fun H locs hP hS => ?_)
      exact end_i X hr hk hP hS h dX11_sure_35
  refine lv_aload_n hx hb dX11_sure_0 rfl (lv_at hl 0 rfl) ?_
  refine gfC_11_0 X hP sC_0 bw_430 dX11_sure_1 ?_
  obtain ⟨g1, h⟩ := gd_inv h
  have g1 := Decidable.not_not.mp g1
  refine lv_iconst (v := 3) hx hb dX11_sure_4 (by decide) ?_
  refine lv_iload_n hx hb dX11_sure_5 rfl (lv_at hl 1 rfl) ?_
  obtain ⟨r2, M3, hc4, h⟩ := bnd_inv h
  refine gV_i (As := [.int (3 : Int32), .int a1]) X hP hS hl.1 (c_X0_has l D cA q aK aV hq g1 hc4) sf_X0_has bw_830 sv_X0_has (rcC_0 g1) rfl ⟨rfl, rfl⟩ ⟨Nat.le_of_ble_eq_true rfl, Nat.le_of_ble_eq_true rfl⟩ rfl rfl (Nat.le_of_ble_eq_true rfl) dX11_sure_6 (fun H locs hP hS => ?_)
  refine lv_if_eq (tgt := 21) hx hb dX11_sure_9 (by decide) (fun c5 => ?_) (fun c5 => ?_)
  · rw [if_pos c5] at h
    refine lv_iconst (v := 1) hx hb dX11_sure_21 (by decide) ?_
    exact hJ22 _ _ _ _ _ h hP hS (lv_sub hl [0, 1] rfl)
  · rw [if_neg c5] at h
    refine lv_aload_n hx hb dX11_sure_12 rfl (lv_at hl 0 rfl) ?_
    refine lv_iload_n hx hb dX11_sure_13 rfl (lv_at hl 2 rfl) ?_
    refine lv_iload_n hx hb dX11_sure_14 rfl (lv_at hl 3 rfl) ?_
    obtain ⟨r6, M7, hc8, h⟩ := bnd_inv h
    refine gV_i (As := [.int a2, .int a3]) X hP hS hl.1 (c_X11_readThrees l D cA q aK aV hq hc8) sf_X11_readThrees bw_1012 sv_X11_readThrees (rcC_11 sC_0) rfl ⟨rfl, rfl⟩ ⟨Nat.le_of_ble_eq_true rfl, Nat.le_of_ble_eq_true rfl⟩ rfl rfl (Nat.le_of_ble_eq_true rfl) dX11_sure_15 (fun H locs hP hS => ?_)
    refine lv_goto (tgt := 22) hx hb dX11_sure_18 (by decide) ?_
    exact hJ22 _ _ _ _ _ h hP hS (lv_sub hl [0, 1] rfl)
theorem dX11_commonDivisor_0 : decode cX11_commonDivisor 0 = .ok (.lload_n 0, 1) := by decide +kernel
theorem dX11_commonDivisor_1 : decode cX11_commonDivisor 1 = .ok (.lstore 4, 2) := by decide +kernel
theorem dX11_commonDivisor_3 : decode cX11_commonDivisor 3 = .ok (.lload_n 2, 1) := by decide +kernel
theorem dX11_commonDivisor_4 : decode cX11_commonDivisor 4 = .ok (.lstore 6, 2) := by decide +kernel
theorem dX11_commonDivisor_6 : decode cX11_commonDivisor 6 = .ok (.iconst 0, 1) := by decide +kernel
theorem dX11_commonDivisor_7 : decode cX11_commonDivisor 7 = .ok (.istore 8, 2) := by decide +kernel
theorem dX11_commonDivisor_9 : decode cX11_commonDivisor 9 = .ok (.iload 8, 2) := by decide +kernel
theorem dX11_commonDivisor_11 : decode cX11_commonDivisor 11 = .ok (.sipush 128, 3) := by decide +kernel
theorem dX11_commonDivisor_14 : decode cX11_commonDivisor 14 = .ok (.if_icmp .ge 31, 3) := by decide +kernel
theorem dX11_commonDivisor_17 : decode cX11_commonDivisor 17 = .ok (.lload 6, 2) := by decide +kernel
theorem dX11_commonDivisor_19 : decode cX11_commonDivisor 19 = .ok (.lconst 0, 1) := by decide +kernel
theorem dX11_commonDivisor_20 : decode cX11_commonDivisor 20 = .ok (.lcmp, 1) := by decide +kernel
theorem dX11_commonDivisor_21 : decode cX11_commonDivisor 21 = .ok (.ifCond .eq 24, 3) := by decide +kernel
theorem dX11_commonDivisor_24 : decode cX11_commonDivisor 24 = .ok (.lload 4, 2) := by decide +kernel
theorem dX11_commonDivisor_26 : decode cX11_commonDivisor 26 = .ok (.lload 6, 2) := by decide +kernel
theorem dX11_commonDivisor_28 : decode cX11_commonDivisor 28 = .ok (.lrem, 1) := by decide +kernel
theorem dX11_commonDivisor_29 : decode cX11_commonDivisor 29 = .ok (.lstore 9, 2) := by decide +kernel
theorem dX11_commonDivisor_31 : decode cX11_commonDivisor 31 = .ok (.lload 6, 2) := by decide +kernel
theorem dX11_commonDivisor_33 : decode cX11_commonDivisor 33 = .ok (.lstore 4, 2) := by decide +kernel
theorem dX11_commonDivisor_35 : decode cX11_commonDivisor 35 = .ok (.lload 9, 2) := by decide +kernel
theorem dX11_commonDivisor_37 : decode cX11_commonDivisor 37 = .ok (.lstore 6, 2) := by decide +kernel
theorem dX11_commonDivisor_39 : decode cX11_commonDivisor 39 = .ok (.iinc 8 1, 3) := by decide +kernel
theorem dX11_commonDivisor_42 : decode cX11_commonDivisor 42 = .ok (.goto (-33), 3) := by decide +kernel
theorem dX11_commonDivisor_45 : decode cX11_commonDivisor 45 = .ok (.lload 4, 2) := by decide +kernel
theorem dX11_commonDivisor_47 : decode cX11_commonDivisor 47 = .ok (.lreturn, 1) := by decide +kernel
set_option maxRecDepth 100000 in
set_option maxHeartbeats 8000000 in
theorem c_X11_commonDivisor (l : Launch) (D : va_G) (cA : Nat → ClassId) (q aK aV : Nat → Nat) (hq : injG 167 q) {a0 : Int64} {a2 : Int64} {M M0 : Mem} {r0 : Int64} (h : f_X11_commonDivisor a0 a2 M = some (r0, M0)) : Met l yX11_commonDivisor (.code yX11_commonDivisor cX11_commonDivisor 11 (some .long) :: BW) ({ frames := 1, cells := 0, slots := 0, locals := 22 } : Room) (va_Pc [.long a0, .long a2] (CB 167 (ceC cA q) D cA q aK aV M)) (Ql 167 (ceC cA q) D q r0 M0) 0 0 (AqG 167 q) := by
  refine gMet RX11 (by decide +kernel) rfl hq (Nat.le_of_ble_eq_true rfl) ?_
  intro p e s m below meth c ls X hr hk hP hS hl
  have hx := X.1
  have hb := X.2.1
  have hl : lv_has ls 11 [(0, .long a0), (2, .long a2)] := hl
  rw [f_X11_commonDivisor] at h
  have hL9 : ∀ (fu : Nat) (b4 : Int64) (b6 : Int64) (b8 : Int32) (M : Mem) (res : (Int64) × Mem) (H : Heap) (locs : List Loc) (ls : Array Slot), f_X11_commonDivisor_L9 fu b4 b6 b8 M = some res → va_P D vwCl (wsG 167 (ceC cA q) q M) H → va_S (AqG 167 q) s.heap H locs → lv_has ls 11 [(4, .long b4), (6, .long b6), (8, .int b8)] → (∀ (H : Heap) (locs : List Loc) (ls : Array Slot), va_P D vwCl (wsG 167 (ceC cA q) q res.2) H → va_S (AqG 167 q) s.heap H locs → lv_has ls 11 [(4, .long (res.1))] → W p l e ({ frames := 1, cells := 0, slots := 0, locals := 22 } : Room) s m [.long a0, .long a2].toArray below meth c H locs 0 0 (MQ below (Ql 167 (ceC cA q) D q r0 M0) [.long a0, .long a2].toArray s 0 0 (AqG 167 q)) (F0 m 45 ls [])) → W p l e ({ frames := 1, cells := 0, slots := 0, locals := 22 } : Room) s m [.long a0, .long a2].toArray below meth c H locs 0 0 (MQ below (Ql 167 (ceC cA q) D q r0 M0) [.long a0, .long a2].toArray s 0 0 (AqG 167 q)) (F0 m 9 ls []) := by
    intro fu
    induction fu with
    | zero => intro b4 b6 b8 M res H locs ls h; exact absurd h (by simp [f_X11_commonDivisor_L9])
    | succ fu ih =>
      intro b4 b6 b8 M res H locs ls h hP hS hl K9_0
      rw [f_X11_commonDivisor_L9] at h
      refine lv_iload hx hb dX11_commonDivisor_9 (lv_at hl 2 rfl) ?_
      refine lv_sipush (v := 128) hx hb dX11_commonDivisor_11 (by decide) ?_
      refine lv_icmp_ge (tgt := 45) hx hb dX11_commonDivisor_14 (by decide) (fun c5 => ?_) (fun c5 => ?_)
      · rw [if_pos c5] at h
        cases h
        exact K9_0 _ _ _ hP hS (lv_sub hl [0] rfl)
      · rw [if_neg c5] at h
        refine lv_lload hx hb dX11_commonDivisor_17 (lv_at hl 1 rfl) ?_
        refine lv_lconst (v := 0) hx hb dX11_commonDivisor_19 (by decide) ?_
        refine W.lcmp hx hb dX11_commonDivisor_20 ?_
        refine lv_if_eq (tgt := 45) hx hb dX11_commonDivisor_21 (by decide) (fun c6 => ?_) (fun c6 => ?_)
        · rw [if_pos c6] at h
          cases h
          exact K9_0 _ _ _ hP hS (lv_sub hl [0] rfl)
        · rw [if_neg c6] at h
          refine lv_lload hx hb dX11_commonDivisor_24 (lv_at hl 0 rfl) ?_
          refine lv_lload hx hb dX11_commonDivisor_26 (lv_at hl 1 rfl) ?_
          obtain ⟨g7, h⟩ := gd_inv h
          refine lv_lrem hx hb dX11_commonDivisor_28 g7 ?_
          obtain ⟨y8, ey8, h⟩ := lt_inv h
          refine topL ey8 ?_
          refine lv_lstore (lv' := [(9, .long y8), (4, .long b4), (6, .long b6), (8, .int b8)]) hx hb dX11_commonDivisor_29 hl (by decide) rfl (fun ls hl => ?_)
          refine lv_lload hx hb dX11_commonDivisor_31 (lv_at hl 2 rfl) ?_
          refine lv_lstore (lv' := [(4, .long b6), (9, .long y8), (6, .long b6), (8, .int b8)]) hx hb dX11_commonDivisor_33 hl (by decide) rfl (fun ls hl => ?_)
          refine lv_lload hx hb dX11_commonDivisor_35 (lv_at hl 1 rfl) ?_
          refine lv_lstore (lv' := [(6, .long y8), (4, .long b6), (9, .long y8), (8, .int b8)]) hx hb dX11_commonDivisor_37 hl (by decide) rfl (fun ls hl => ?_)
          obtain ⟨y9, ey9, h⟩ := lt_inv h
          refine lv_iinc (v := y9) (lv' := [(8, .int y9), (6, .long y8), (4, .long b6), (9, .long y8)]) hx hb dX11_commonDivisor_39 hl (k := 3) rfl (by rw [ey9]; rfl) (by decide) rfl (fun ls hl => ?_)
          refine lv_goto (tgt := 9) hx hb dX11_commonDivisor_42 (by decide) ?_
          exact ih _ _ _ _ res _ _ _ h hP hS (lv_sub hl [2, 1, 0] rfl) K9_0
  refine lv_lload_n hx hb dX11_commonDivisor_0 rfl (lv_at hl 0 rfl) ?_
  refine lv_lstore (lv' := [(4, .long a0), (0, .long a0), (2, .long a2)]) hx hb dX11_commonDivisor_1 hl (by decide) rfl (fun ls hl => ?_)
  refine lv_lload_n hx hb dX11_commonDivisor_3 rfl (lv_at hl 2 rfl) ?_
  refine lv_lstore (lv' := [(6, .long a2), (4, .long a0), (0, .long a0), (2, .long a2)]) hx hb dX11_commonDivisor_4 hl (by decide) rfl (fun ls hl => ?_)
  refine lv_iconst (v := 0) hx hb dX11_commonDivisor_6 (by decide) ?_
  refine lv_istore (lv' := [(8, .int (0 : Int32)), (6, .long a2), (4, .long a0), (0, .long a0), (2, .long a2)]) hx hb dX11_commonDivisor_7 hl (by decide) rfl (fun ls hl => ?_)
  obtain ⟨s1, M2, hc3, h⟩ := bnd_inv h
  obtain ⟨x4, rfl⟩ : ∃ z, z = s1 := ⟨_, rfl⟩
  try dsimp only at h
  refine hL9  fz _ _ _ _ _ _ _ _ hc3 hP hS (lv_sub hl [2, 1, 0] rfl) (fun H locs ls hP hS hl => ?_)
  have hl : lv_has ls 11 [(4, .long x4)] := hl
  refine lv_lload hx hb dX11_commonDivisor_45 (lv_at hl 0 rfl) ?_
  exact end_l X hr hk hP hS h dX11_commonDivisor_47
theorem dX11_tellFraction_0 : decode cX11_tellFraction 0 = .ok (.lload_n 1, 1) := by decide +kernel
theorem dX11_tellFraction_1 : decode cX11_tellFraction 1 = .ok (.lload_n 3, 1) := by decide +kernel
theorem dX11_tellFraction_2 : decode cX11_tellFraction 2 = .ok (.invokestatic 429, 3) := by decide +kernel
theorem dX11_tellFraction_5 : decode cX11_tellFraction 5 = .ok (.lstore 5, 2) := by decide +kernel
theorem dX11_tellFraction_7 : decode cX11_tellFraction 7 = .ok (.lload 5, 2) := by decide +kernel
theorem dX11_tellFraction_9 : decode cX11_tellFraction 9 = .ok (.lconst 0, 1) := by decide +kernel
theorem dX11_tellFraction_10 : decode cX11_tellFraction 10 = .ok (.lcmp, 1) := by decide +kernel
theorem dX11_tellFraction_11 : decode cX11_tellFraction 11 = .ok (.ifCond .le 19, 3) := by decide +kernel
theorem dX11_tellFraction_14 : decode cX11_tellFraction 14 = .ok (.aload_n 0, 1) := by decide +kernel
theorem dX11_tellFraction_15 : decode cX11_tellFraction 15 = .ok (.lload_n 1, 1) := by decide +kernel
theorem dX11_tellFraction_16 : decode cX11_tellFraction 16 = .ok (.lload 5, 2) := by decide +kernel
theorem dX11_tellFraction_18 : decode cX11_tellFraction 18 = .ok (.ldiv, 1) := by decide +kernel
theorem dX11_tellFraction_19 : decode cX11_tellFraction 19 = .ok (.putfield 85, 3) := by decide +kernel
theorem dX11_tellFraction_22 : decode cX11_tellFraction 22 = .ok (.aload_n 0, 1) := by decide +kernel
theorem dX11_tellFraction_23 : decode cX11_tellFraction 23 = .ok (.lload_n 3, 1) := by decide +kernel
theorem dX11_tellFraction_24 : decode cX11_tellFraction 24 = .ok (.lload 5, 2) := by decide +kernel
theorem dX11_tellFraction_26 : decode cX11_tellFraction 26 = .ok (.ldiv, 1) := by decide +kernel
theorem dX11_tellFraction_27 : decode cX11_tellFraction 27 = .ok (.putfield 89, 3) := by decide +kernel
theorem dX11_tellFraction_30 : decode cX11_tellFraction 30 = .ok (.aload_n 0, 1) := by decide +kernel
theorem dX11_tellFraction_31 : decode cX11_tellFraction 31 = .ok (.invokevirtual 120, 3) := by decide +kernel
theorem dX11_tellFraction_34 : decode cX11_tellFraction 34 = .ok (.ireturn, 1) := by decide +kernel
set_option maxRecDepth 100000 in
set_option maxHeartbeats 8000000 in
theorem c_X11_tellFraction (l : Launch) (D : va_G) (cA : Nat → ClassId) (q aK aV : Nat → Nat) (hq : injG 167 q) {a1 : Int64} {a3 : Int64} {M M0 : Mem} {r0 : Int32} (h : f_X11_tellFraction a1 a3 M = some (r0, M0)) : Met l yX11_tellFraction (.code yX11_tellFraction cX11_tellFraction 7 (some .boolean) :: BW) ({ frames := 2, cells := 0, slots := 0, locals := 52 } : Room) (va_Pc [.ref (q 0), .long a1, .long a3] (CB 167 (ceC cA q) D cA q aK aV M)) (Qi 167 (ceC cA q) D q r0 M0) 0 0 (AqG 167 q) := by
  refine gMet RX11 (by decide +kernel) rfl hq (Nat.le_of_ble_eq_true rfl) ?_
  intro p e s m below meth c ls X hr hk hP hS hl
  have hx := X.1
  have hb := X.2.1
  have hl : lv_has ls 7 [(0, .ref (q 0)), (1, .long a1), (3, .long a3)] := hl
  rw [f_X11_tellFraction] at h
  refine lv_lload_n hx hb dX11_tellFraction_0 rfl (lv_at hl 1 rfl) ?_
  refine lv_lload_n hx hb dX11_tellFraction_1 rfl (lv_at hl 2 rfl) ?_
  obtain ⟨r1, M2, hc3, h⟩ := bnd_inv h
  refine gS_l (As := [.long a1, .long a3]) X hP hS hl.1 (c_X11_commonDivisor l D cA q aK aV hq hc3) sf_X11_commonDivisor bw_1047 ss_X11_commonDivisor ⟨rfl, rfl⟩ ⟨Nat.le_of_ble_eq_true rfl, Nat.le_of_ble_eq_true rfl⟩ rfl rfl (Nat.le_of_ble_eq_true rfl) dX11_tellFraction_2 (fun H locs hP hS => ?_)
  refine lv_lstore (lv' := [(5, .long r1), (0, .ref (q 0)), (1, .long a1), (3, .long a3)]) hx hb dX11_tellFraction_5 hl (by decide) rfl (fun ls hl => ?_)
  refine lv_lload hx hb dX11_tellFraction_7 (lv_at hl 0 rfl) ?_
  refine lv_lconst (v := 0) hx hb dX11_tellFraction_9 (by decide) ?_
  refine W.lcmp hx hb dX11_tellFraction_10 ?_
  refine lv_if_le (tgt := 30) hx hb dX11_tellFraction_11 (by decide) (fun c4 => ?_) (fun c4 => ?_)
  · rw [if_pos c4] at h
    refine lv_aload_n hx hb dX11_tellFraction_30 rfl (lv_at hl 1 rfl) ?_
    obtain ⟨r5, M6, hc7, h⟩ := bnd_inv h
    refine gV_i (As := []) X hP hS hl.1 (c_X11_done l D cA q aK aV hq hc7) sf_X11_done bw_519 sv_X11_done (rcC_11 sC_0) rfl ⟨rfl, rfl⟩ ⟨Nat.le_of_ble_eq_true rfl, Nat.le_of_ble_eq_true rfl⟩ rfl rfl (Nat.le_of_ble_eq_true rfl) dX11_tellFraction_31 (fun H locs hP hS => ?_)
    obtain ⟨g8, h⟩ := gd_inv h
    exact end_z X hr hk hP hS (Decidable.not_not.mp g8) h dX11_tellFraction_34
  · rw [if_neg c4] at h
    refine lv_aload_n hx hb dX11_tellFraction_14 rfl (lv_at hl 1 rfl) ?_
    refine lv_lload_n hx hb dX11_tellFraction_15 rfl (lv_at hl 2 rfl) ?_
    refine lv_lload hx hb dX11_tellFraction_16 (lv_at hl 0 rfl) ?_
    obtain ⟨g9, h⟩ := gd_inv h
    refine lv_ldiv hx hb dX11_tellFraction_18 g9 ?_
    obtain ⟨M10, eM10, h⟩ := lt_inv h
    refine pfC_11_13 X hP hS sC_0 bw_443 eM10 dX11_tellFraction_19 (fun H locs hP hS => ?_)
    refine lv_aload_n hx hb dX11_tellFraction_22 rfl (lv_at hl 1 rfl) ?_
    refine lv_lload_n hx hb dX11_tellFraction_23 rfl (lv_at hl 3 rfl) ?_
    refine lv_lload hx hb dX11_tellFraction_24 (lv_at hl 0 rfl) ?_
    obtain ⟨g11, h⟩ := gd_inv h
    refine lv_ldiv hx hb dX11_tellFraction_26 g11 ?_
    obtain ⟨M12, eM12, h⟩ := lt_inv h
    refine pfC_11_14 X hP hS sC_0 bw_444 eM12 dX11_tellFraction_27 (fun H locs hP hS => ?_)
    refine lv_aload_n hx hb dX11_tellFraction_30 rfl (lv_at hl 1 rfl) ?_
    obtain ⟨r13, M14, hc15, h⟩ := bnd_inv h
    refine gV_i (As := []) X hP hS hl.1 (c_X11_done l D cA q aK aV hq hc15) sf_X11_done bw_519 sv_X11_done (rcC_11 sC_0) rfl ⟨rfl, rfl⟩ ⟨Nat.le_of_ble_eq_true rfl, Nat.le_of_ble_eq_true rfl⟩ rfl rfl (Nat.le_of_ble_eq_true rfl) dX11_tellFraction_31 (fun H locs hP hS => ?_)
    obtain ⟨g16, h⟩ := gd_inv h
    exact end_z X hr hk hP hS (Decidable.not_not.mp g16) h dX11_tellFraction_34
theorem dX11_odds_0 : decode cX11_odds 0 = .ok (.aload_n 0, 1) := by decide +kernel
theorem dX11_odds_1 : decode cX11_odds 1 = .ok (.getfield 10, 3) := by decide +kernel
theorem dX11_odds_4 : decode cX11_odds 4 = .ok (.iconst 3, 1) := by decide +kernel
theorem dX11_odds_5 : decode cX11_odds 5 = .ok (.iload_n 1, 1) := by decide +kernel
theorem dX11_odds_6 : decode cX11_odds 6 = .ok (.invokevirtual 213, 3) := by decide +kernel
theorem dX11_odds_9 : decode cX11_odds 9 = .ok (.ifCond .eq 12, 3) := by decide +kernel
theorem dX11_odds_12 : decode cX11_odds 12 = .ok (.aload_n 0, 1) := by decide +kernel
theorem dX11_odds_13 : decode cX11_odds 13 = .ok (.iload_n 2, 1) := by decide +kernel
theorem dX11_odds_14 : decode cX11_odds 14 = .ok (.iload_n 3, 1) := by decide +kernel
theorem dX11_odds_15 : decode cX11_odds 15 = .ok (.invokevirtual 327, 3) := by decide +kernel
theorem dX11_odds_18 : decode cX11_odds 18 = .ok (.goto 4, 3) := by decide +kernel
theorem dX11_odds_21 : decode cX11_odds 21 = .ok (.iconst 1, 1) := by decide +kernel
theorem dX11_odds_22 : decode cX11_odds 22 = .ok (.istore 4, 2) := by decide +kernel
theorem dX11_odds_24 : decode cX11_odds 24 = .ok (.iload 4, 2) := by decide +kernel
theorem dX11_odds_26 : decode cX11_odds 26 = .ok (.ifCond .eq 10, 3) := by decide +kernel
theorem dX11_odds_29 : decode cX11_odds 29 = .ok (.aload_n 0, 1) := by decide +kernel
theorem dX11_odds_30 : decode cX11_odds 30 = .ok (.iload 4, 2) := by decide +kernel
theorem dX11_odds_32 : decode cX11_odds 32 = .ok (.invokevirtual 108, 3) := by decide +kernel
theorem dX11_odds_35 : decode cX11_odds 35 = .ok (.ireturn, 1) := by decide +kernel
theorem dX11_odds_36 : decode cX11_odds 36 = .ok (.aload_n 0, 1) := by decide +kernel
theorem dX11_odds_37 : decode cX11_odds 37 = .ok (.invokevirtual 330, 3) := by decide +kernel
theorem dX11_odds_40 : decode cX11_odds 40 = .ok (.ifCond .ne 10, 3) := by decide +kernel
theorem dX11_odds_43 : decode cX11_odds 43 = .ok (.aload_n 0, 1) := by decide +kernel
theorem dX11_odds_44 : decode cX11_odds 44 = .ok (.bipush 6, 2) := by decide +kernel
theorem dX11_odds_46 : decode cX11_odds 46 = .ok (.invokevirtual 108, 3) := by decide +kernel
theorem dX11_odds_49 : decode cX11_odds 49 = .ok (.ireturn, 1) := by decide +kernel
theorem dX11_odds_50 : decode cX11_odds 50 = .ok (.aload_n 0, 1) := by decide +kernel
theorem dX11_odds_51 : decode cX11_odds 51 = .ok (.iload_n 1, 1) := by decide +kernel
theorem dX11_odds_52 : decode cX11_odds 52 = .ok (.invokevirtual 333, 3) := by decide +kernel
theorem dX11_odds_55 : decode cX11_odds 55 = .ok (.ifCond .eq 12, 3) := by decide +kernel
theorem dX11_odds_58 : decode cX11_odds 58 = .ok (.aload_n 0, 1) := by decide +kernel
theorem dX11_odds_59 : decode cX11_odds 59 = .ok (.lconst 1, 1) := by decide +kernel
theorem dX11_odds_60 : decode cX11_odds 60 = .ok (.ldc2_w 339, 3) := by decide +kernel
theorem dX11_odds_63 : decode cX11_odds 63 = .ok (.invokevirtual 341, 3) := by decide +kernel
theorem dX11_odds_66 : decode cX11_odds 66 = .ok (.ireturn, 1) := by decide +kernel
theorem dX11_odds_67 : decode cX11_odds 67 = .ok (.aload_n 0, 1) := by decide +kernel
theorem dX11_odds_68 : decode cX11_odds 68 = .ok (.aload_n 0, 1) := by decide +kernel
theorem dX11_odds_69 : decode cX11_odds 69 = .ok (.getfield 101, 3) := by decide +kernel
theorem dX11_odds_72 : decode cX11_odds 72 = .ok (.iload_n 1, 1) := by decide +kernel
theorem dX11_odds_73 : decode cX11_odds 73 = .ok (.invokestatic 336, 3) := by decide +kernel
theorem dX11_odds_76 : decode cX11_odds 76 = .ok (.ifCond .eq 7, 3) := by decide +kernel
theorem dX11_odds_79 : decode cX11_odds 79 = .ok (.lconst 1, 1) := by decide +kernel
theorem dX11_odds_80 : decode cX11_odds 80 = .ok (.goto 4, 3) := by decide +kernel
theorem dX11_odds_83 : decode cX11_odds 83 = .ok (.lconst 0, 1) := by decide +kernel
theorem dX11_odds_84 : decode cX11_odds 84 = .ok (.lconst 1, 1) := by decide +kernel
theorem dX11_odds_85 : decode cX11_odds 85 = .ok (.invokevirtual 341, 3) := by decide +kernel
theorem dX11_odds_88 : decode cX11_odds 88 = .ok (.ireturn, 1) := by decide +kernel
set_option maxRecDepth 100000 in
set_option maxHeartbeats 8000000 in
theorem c_X11_odds (l : Launch) (D : va_G) (cA : Nat → ClassId) (q aK aV : Nat → Nat) (hq : injG 167 q) {a1 : Int32} {a2 : Int32} {a3 : Int32} {M M0 : Mem} {r0 : Int32} (h : f_X11_odds a1 a2 a3 M = some (r0, M0)) : Met l yX11_odds (.code yX11_odds cX11_odds 5 (some .boolean) :: BW) ({ frames := 6, cells := 0, slots := 0, locals := 145 } : Room) (va_Pc [.ref (q 0), .int a1, .int a2, .int a3] (CB 167 (ceC cA q) D cA q aK aV M)) (Qi 167 (ceC cA q) D q r0 M0) 0 0 (AqG 167 q) := by
  refine gMet RX11 (by decide +kernel) rfl hq (Nat.le_of_ble_eq_true rfl) ?_
  intro p e s m below meth c ls X hr hk hP hS hl
  have hx := X.1
  have hb := X.2.1
  have hl : lv_has ls 5 [(0, .ref (q 0)), (1, .int a1), (2, .int a2), (3, .int a3)] := hl
  rw [f_X11_odds] at h
  have hJ22 : ∀ (s0 : Int32) (M : Mem) (H : Heap) (locs : List Loc) (ls : Array Slot), f_X11_odds_J22 a1 s0 M = some (r0, M0) → va_P D vwCl (wsG 167 (ceC cA q) q M) H → va_S (AqG 167 q) s.heap H locs → lv_has ls 5 [(0, .ref (q 0)), (1, .int a1)] → W p l e ({ frames := 6, cells := 0, slots := 0, locals := 145 } : Room) s m [.ref (q 0), .int a1, .int a2, .int a3].toArray below meth c H locs 0 0 (MQ below (Qi 167 (ceC cA q) D q r0 M0) [.ref (q 0), .int a1, .int a2, .int a3].toArray s 0 0 (AqG 167 q)) (F0 m 22 ls [.int s0]) := by
    intro s0 M H locs ls h hP hS hl
    rw [f_X11_odds_J22] at h
    refine lv_istore (lv' := [(4, .int s0), (0, .ref (q 0)), (1, .int a1)]) hx hb dX11_odds_22 hl (by decide) rfl (fun ls hl => ?_)
    refine lv_iload hx hb dX11_odds_24 (lv_at hl 0 rfl) ?_
    refine lv_if_eq (tgt := 36) hx hb dX11_odds_26 (by decide) (fun c9 => ?_) (fun c9 => ?_)
    · rw [if_pos c9] at h
      refine lv_aload_n hx hb dX11_odds_36 rfl (lv_at hl 1 rfl) ?_
      obtain ⟨r10, M11, hc12, h⟩ := bnd_inv h
      refine gV_i (As := []) X hP hS hl.1 (c_X11_ways l D cA q aK aV hq hc12) sf_X11_ways bw_1025 sv_X11_ways (rcC_11 sC_0) rfl ⟨rfl, rfl⟩ ⟨Nat.le_of_ble_eq_true rfl, Nat.le_of_ble_eq_true rfl⟩ rfl rfl (Nat.le_of_ble_eq_true rfl) dX11_odds_37 (fun H locs hP hS => ?_)
      refine lv_if_ne (tgt := 50) hx hb dX11_odds_40 (by decide) (fun c13 => ?_) (fun c13 => ?_)
      · rw [if_neg c13] at h
        refine lv_aload_n hx hb dX11_odds_50 rfl (lv_at hl 1 rfl) ?_
        refine lv_iload_n hx hb dX11_odds_51 rfl (lv_at hl 2 rfl) ?_
        obtain ⟨r14, M15, hc16, h⟩ := bnd_inv h
        refine gV_i (As := [.int a1]) X hP hS hl.1 (c_X11_isOpen l D cA q aK aV hq hc16) sf_X11_isOpen bw_1033 sv_X11_isOpen (rcC_11 sC_0) rfl ⟨rfl, rfl⟩ ⟨Nat.le_of_ble_eq_true rfl, Nat.le_of_ble_eq_true rfl⟩ rfl rfl (Nat.le_of_ble_eq_true rfl) dX11_odds_52 (fun H locs hP hS => ?_)
        refine lv_if_eq (tgt := 67) hx hb dX11_odds_55 (by decide) (fun c17 => ?_) (fun c17 => ?_)
        · rw [if_pos c17] at h
          refine lv_aload_n hx hb dX11_odds_67 rfl (lv_at hl 1 rfl) ?_
          refine lv_aload_n hx hb dX11_odds_68 rfl (lv_at hl 1 rfl) ?_
          refine gfC_11_18 X hP sC_0 bw_448 dX11_odds_69 ?_
          refine lv_iload_n hx hb dX11_odds_72 rfl (lv_at hl 2 rfl) ?_
          obtain ⟨r18, M19, hc20, h⟩ := bnd_inv h
          refine gS_i (As := [.int (gI M15 0 18), .int a1]) X hP hS hl.1 (c_X11_isIn l D cA q aK aV hq hc20) sf_X11_isIn bw_1037 ss_X11_isIn ⟨rfl, rfl⟩ ⟨Nat.le_of_ble_eq_true rfl, Nat.le_of_ble_eq_true rfl⟩ rfl rfl (Nat.le_of_ble_eq_true rfl) dX11_odds_73 (fun H locs hP hS => ?_)
          refine lv_if_eq (tgt := 83) hx hb dX11_odds_76 (by decide) (fun c21 => ?_) (fun c21 => ?_)
          · rw [if_pos c21] at h
            refine lv_lconst (v := 0) hx hb dX11_odds_83 (by decide) ?_
            refine lv_lconst (v := 1) hx hb dX11_odds_84 (by decide) ?_
            obtain ⟨r22, M23, hc24, h⟩ := bnd_inv h
            refine gV_i (As := [.long (0 : Int64), .long (1 : Int64)]) X hP hS hl.1 (c_X11_tellFraction l D cA q aK aV hq hc24) sf_X11_tellFraction bw_1043 sv_X11_tellFraction (rcC_11 sC_0) rfl ⟨rfl, rfl⟩ ⟨Nat.le_of_ble_eq_true rfl, Nat.le_of_ble_eq_true rfl⟩ rfl rfl (Nat.le_of_ble_eq_true rfl) dX11_odds_85 (fun H locs hP hS => ?_)
            obtain ⟨g25, h⟩ := gd_inv h
            exact end_z X hr hk hP hS (Decidable.not_not.mp g25) h dX11_odds_88
          · rw [if_neg c21] at h
            refine lv_lconst (v := 1) hx hb dX11_odds_79 (by decide) ?_
            refine lv_goto (tgt := 84) hx hb dX11_odds_80 (by decide) ?_
            refine lv_lconst (v := 1) hx hb dX11_odds_84 (by decide) ?_
            obtain ⟨r26, M27, hc28, h⟩ := bnd_inv h
            refine gV_i (As := [.long (1 : Int64), .long (1 : Int64)]) X hP hS hl.1 (c_X11_tellFraction l D cA q aK aV hq hc28) sf_X11_tellFraction bw_1043 sv_X11_tellFraction (rcC_11 sC_0) rfl ⟨rfl, rfl⟩ ⟨Nat.le_of_ble_eq_true rfl, Nat.le_of_ble_eq_true rfl⟩ rfl rfl (Nat.le_of_ble_eq_true rfl) dX11_odds_85 (fun H locs hP hS => ?_)
            obtain ⟨g29, h⟩ := gd_inv h
            exact end_z X hr hk hP hS (Decidable.not_not.mp g29) h dX11_odds_88
        · rw [if_neg c17] at h
          refine lv_aload_n hx hb dX11_odds_58 rfl (lv_at hl 1 rfl) ?_
          refine lv_lconst (v := 1) hx hb dX11_odds_59 (by decide) ?_
          refine lv_ldc2 hx hb X.2.2.2.1 (X.2.2.2.2.1 _ bw_1042) dX11_odds_60 ?_
          obtain ⟨r30, M31, hc32, h⟩ := bnd_inv h
          refine gV_i (As := [.long (1 : Int64), .long (2 : Int64)]) X hP hS hl.1 (c_X11_tellFraction l D cA q aK aV hq hc32) sf_X11_tellFraction bw_1043 sv_X11_tellFraction (rcC_11 sC_0) rfl ⟨rfl, rfl⟩ ⟨Nat.le_of_ble_eq_true rfl, Nat.le_of_ble_eq_true rfl⟩ rfl rfl (Nat.le_of_ble_eq_true rfl) dX11_odds_63 (fun H locs hP hS => ?_)
          obtain ⟨g33, h⟩ := gd_inv h
          exact end_z X hr hk hP hS (Decidable.not_not.mp g33) h dX11_odds_66
      · rw [if_pos c13] at h
        refine lv_aload_n hx hb dX11_odds_43 rfl (lv_at hl 1 rfl) ?_
        refine lv_bipush (v := 6) hx hb dX11_odds_44 (by decide) ?_
        obtain ⟨r34, M35, hc36, h⟩ := bnd_inv h
        refine gV_i (As := [.int (6 : Int32)]) X hP hS hl.1 (c_X11_denied l D cA q aK aV hq hc36) sf_X11_denied bw_507 sv_X11_denied (rcC_11 sC_0) rfl ⟨rfl, rfl⟩ ⟨Nat.le_of_ble_eq_true rfl, Nat.le_of_ble_eq_true rfl⟩ rfl rfl (Nat.le_of_ble_eq_true rfl) dX11_odds_46 (fun H locs hP hS => ?_)
        obtain ⟨g37, h⟩ := gd_inv h
        exact end_z X hr hk hP hS (Decidable.not_not.mp g37) h dX11_odds_49
    · rw [if_neg c9] at h
      refine lv_aload_n hx hb dX11_odds_29 rfl (lv_at hl 1 rfl) ?_
      refine lv_iload hx hb dX11_odds_30 (lv_at hl 0 rfl) ?_
      obtain ⟨r38, M39, hc40, h⟩ := bnd_inv h
      refine gV_i (As := [.int s0]) X hP hS hl.1 (c_X11_denied l D cA q aK aV hq hc40) sf_X11_denied bw_507 sv_X11_denied (rcC_11 sC_0) rfl ⟨rfl, rfl⟩ ⟨Nat.le_of_ble_eq_true rfl, Nat.le_of_ble_eq_true rfl⟩ rfl rfl (Nat.le_of_ble_eq_true rfl) dX11_odds_32 (fun H locs hP hS => ?_)
      obtain ⟨g41, h⟩ := gd_inv h
      exact end_z X hr hk hP hS (Decidable.not_not.mp g41) h dX11_odds_35
  refine lv_aload_n hx hb dX11_odds_0 rfl (lv_at hl 0 rfl) ?_
  refine gfC_11_0 X hP sC_0 bw_430 dX11_odds_1 ?_
  obtain ⟨g1, h⟩ := gd_inv h
  have g1 := Decidable.not_not.mp g1
  refine lv_iconst (v := 3) hx hb dX11_odds_4 (by decide) ?_
  refine lv_iload_n hx hb dX11_odds_5 rfl (lv_at hl 1 rfl) ?_
  obtain ⟨r2, M3, hc4, h⟩ := bnd_inv h
  refine gV_i (As := [.int (3 : Int32), .int a1]) X hP hS hl.1 (c_X0_has l D cA q aK aV hq g1 hc4) sf_X0_has bw_830 sv_X0_has (rcC_0 g1) rfl ⟨rfl, rfl⟩ ⟨Nat.le_of_ble_eq_true rfl, Nat.le_of_ble_eq_true rfl⟩ rfl rfl (Nat.le_of_ble_eq_true rfl) dX11_odds_6 (fun H locs hP hS => ?_)
  refine lv_if_eq (tgt := 21) hx hb dX11_odds_9 (by decide) (fun c5 => ?_) (fun c5 => ?_)
  · rw [if_pos c5] at h
    refine lv_iconst (v := 1) hx hb dX11_odds_21 (by decide) ?_
    exact hJ22 _ _ _ _ _ h hP hS (lv_sub hl [0, 1] rfl)
  · rw [if_neg c5] at h
    refine lv_aload_n hx hb dX11_odds_12 rfl (lv_at hl 0 rfl) ?_
    refine lv_iload_n hx hb dX11_odds_13 rfl (lv_at hl 2 rfl) ?_
    refine lv_iload_n hx hb dX11_odds_14 rfl (lv_at hl 3 rfl) ?_
    obtain ⟨r6, M7, hc8, h⟩ := bnd_inv h
    refine gV_i (As := [.int a2, .int a3]) X hP hS hl.1 (c_X11_readThrees l D cA q aK aV hq hc8) sf_X11_readThrees bw_1012 sv_X11_readThrees (rcC_11 sC_0) rfl ⟨rfl, rfl⟩ ⟨Nat.le_of_ble_eq_true rfl, Nat.le_of_ble_eq_true rfl⟩ rfl rfl (Nat.le_of_ble_eq_true rfl) dX11_odds_15 (fun H locs hP hS => ?_)
    refine lv_goto (tgt := 22) hx hb dX11_odds_18 (by decide) ?_
    exact hJ22 _ _ _ _ _ h hP hS (lv_sub hl [0, 1] rfl)
theorem dX11_bestQuestion_0 : decode cX11_bestQuestion 0 = .ok (.iconst 0, 1) := by decide +kernel
theorem dX11_bestQuestion_1 : decode cX11_bestQuestion 1 = .ok (.istore_n 1, 1) := by decide +kernel
theorem dX11_bestQuestion_2 : decode cX11_bestQuestion 2 = .ok (.iload_n 1, 1) := by decide +kernel
theorem dX11_bestQuestion_3 : decode cX11_bestQuestion 3 = .ok (.aload_n 0, 1) := by decide +kernel
theorem dX11_bestQuestion_4 : decode cX11_bestQuestion 4 = .ok (.getfield 10, 3) := by decide +kernel
theorem dX11_bestQuestion_7 : decode cX11_bestQuestion 7 = .ok (.iconst 3, 1) := by decide +kernel
theorem dX11_bestQuestion_8 : decode cX11_bestQuestion 8 = .ok (.invokevirtual 167, 3) := by decide +kernel
theorem dX11_bestQuestion_11 : decode cX11_bestQuestion 11 = .ok (.if_icmp .ge 88, 3) := by decide +kernel
theorem dX11_bestQuestion_14 : decode cX11_bestQuestion 14 = .ok (.aload_n 0, 1) := by decide +kernel
theorem dX11_bestQuestion_15 : decode cX11_bestQuestion 15 = .ok (.getfield 10, 3) := by decide +kernel
theorem dX11_bestQuestion_18 : decode cX11_bestQuestion 18 = .ok (.iload_n 1, 1) := by decide +kernel
theorem dX11_bestQuestion_19 : decode cX11_bestQuestion 19 = .ok (.invokevirtual 228, 3) := by decide +kernel
theorem dX11_bestQuestion_22 : decode cX11_bestQuestion 22 = .ok (.astore_n 2, 1) := by decide +kernel
theorem dX11_bestQuestion_23 : decode cX11_bestQuestion 23 = .ok (.iconst 0, 1) := by decide +kernel
theorem dX11_bestQuestion_24 : decode cX11_bestQuestion 24 = .ok (.istore_n 3, 1) := by decide +kernel
theorem dX11_bestQuestion_25 : decode cX11_bestQuestion 25 = .ok (.iload_n 3, 1) := by decide +kernel
theorem dX11_bestQuestion_26 : decode cX11_bestQuestion 26 = .ok (.bipush 9, 2) := by decide +kernel
theorem dX11_bestQuestion_28 : decode cX11_bestQuestion 28 = .ok (.if_icmp .gt 65, 3) := by decide +kernel
theorem dX11_bestQuestion_31 : decode cX11_bestQuestion 31 = .ok (.aload_n 0, 1) := by decide +kernel
theorem dX11_bestQuestion_32 : decode cX11_bestQuestion 32 = .ok (.iload_n 1, 1) := by decide +kernel
theorem dX11_bestQuestion_33 : decode cX11_bestQuestion 33 = .ok (.invokevirtual 333, 3) := by decide +kernel
theorem dX11_bestQuestion_36 : decode cX11_bestQuestion 36 = .ok (.ifCond .eq 57, 3) := by decide +kernel
theorem dX11_bestQuestion_39 : decode cX11_bestQuestion 39 = .ok (.aload_n 0, 1) := by decide +kernel
theorem dX11_bestQuestion_40 : decode cX11_bestQuestion 40 = .ok (.getfield 10, 3) := by decide +kernel
theorem dX11_bestQuestion_43 : decode cX11_bestQuestion 43 = .ok (.iconst 1, 1) := by decide +kernel
theorem dX11_bestQuestion_44 : decode cX11_bestQuestion 44 = .ok (.aload_n 2, 1) := by decide +kernel
theorem dX11_bestQuestion_45 : decode cX11_bestQuestion 45 = .ok (.getfield 232, 3) := by decide +kernel
theorem dX11_bestQuestion_48 : decode cX11_bestQuestion 48 = .ok (.iload_n 3, 1) := by decide +kernel
theorem dX11_bestQuestion_49 : decode cX11_bestQuestion 49 = .ok (.aload_n 2, 1) := by decide +kernel
theorem dX11_bestQuestion_50 : decode cX11_bestQuestion 50 = .ok (.getfield 237, 3) := by decide +kernel
theorem dX11_bestQuestion_53 : decode cX11_bestQuestion 53 = .ok (.invokevirtual 446, 3) := by decide +kernel
theorem dX11_bestQuestion_56 : decode cX11_bestQuestion 56 = .ok (.istore 4, 2) := by decide +kernel
theorem dX11_bestQuestion_58 : decode cX11_bestQuestion 58 = .ok (.iload 4, 2) := by decide +kernel
theorem dX11_bestQuestion_60 : decode cX11_bestQuestion 60 = .ok (.aload_n 0, 1) := by decide +kernel
theorem dX11_bestQuestion_61 : decode cX11_bestQuestion 61 = .ok (.getfield 10, 3) := by decide +kernel
theorem dX11_bestQuestion_64 : decode cX11_bestQuestion 64 = .ok (.iconst 2, 1) := by decide +kernel
theorem dX11_bestQuestion_65 : decode cX11_bestQuestion 65 = .ok (.aload_n 2, 1) := by decide +kernel
theorem dX11_bestQuestion_66 : decode cX11_bestQuestion 66 = .ok (.getfield 232, 3) := by decide +kernel
theorem dX11_bestQuestion_69 : decode cX11_bestQuestion 69 = .ok (.iload_n 3, 1) := by decide +kernel
theorem dX11_bestQuestion_70 : decode cX11_bestQuestion 70 = .ok (.aload_n 2, 1) := by decide +kernel
theorem dX11_bestQuestion_71 : decode cX11_bestQuestion 71 = .ok (.getfield 237, 3) := by decide +kernel
theorem dX11_bestQuestion_74 : decode cX11_bestQuestion 74 = .ok (.invokevirtual 446, 3) := by decide +kernel
theorem dX11_bestQuestion_77 : decode cX11_bestQuestion 77 = .ok (.if_icmp .eq 10, 3) := by decide +kernel
theorem dX11_bestQuestion_80 : decode cX11_bestQuestion 80 = .ok (.iload_n 1, 1) := by decide +kernel
theorem dX11_bestQuestion_81 : decode cX11_bestQuestion 81 = .ok (.bipush 10, 2) := by decide +kernel
theorem dX11_bestQuestion_83 : decode cX11_bestQuestion 83 = .ok (.imul, 1) := by decide +kernel
theorem dX11_bestQuestion_84 : decode cX11_bestQuestion 84 = .ok (.iload_n 3, 1) := by decide +kernel
theorem dX11_bestQuestion_85 : decode cX11_bestQuestion 85 = .ok (.iadd, 1) := by decide +kernel
theorem dX11_bestQuestion_86 : decode cX11_bestQuestion 86 = .ok (.ireturn, 1) := by decide +kernel
theorem dX11_bestQuestion_87 : decode cX11_bestQuestion 87 = .ok (.iinc 3 1, 3) := by decide +kernel
theorem dX11_bestQuestion_90 : decode cX11_bestQuestion 90 = .ok (.goto (-65), 3) := by decide +kernel
theorem dX11_bestQuestion_93 : decode cX11_bestQuestion 93 = .ok (.iinc 1 1, 3) := by decide +kernel
theorem dX11_bestQuestion_96 : decode cX11_bestQuestion 96 = .ok (.goto (-94), 3) := by decide +kernel
theorem dX11_bestQuestion_99 : decode cX11_bestQuestion 99 = .ok (.iconst 0, 1) := by decide +kernel
theorem dX11_bestQuestion_100 : decode cX11_bestQuestion 100 = .ok (.ireturn, 1) := by decide +kernel
set_option maxRecDepth 100000 in
set_option maxHeartbeats 8000000 in
theorem c_X11_bestQuestion (l : Launch) (D : va_G) (cA : Nat → ClassId) (q aK aV : Nat → Nat) (hq : injG 167 q) {M M0 : Mem} {r0 : Int32} (h : f_X11_bestQuestion M = some (r0, M0)) : Met l yX11_bestQuestion (.code yX11_bestQuestion cX11_bestQuestion 5 (some .int) :: BW) ({ frames := 4, cells := 0, slots := 0, locals := 90 } : Room) (va_Pc [.ref (q 0)] (CB 167 (ceC cA q) D cA q aK aV M)) (Qi 167 (ceC cA q) D q r0 M0) 0 0 (AqG 167 q) := by
  refine gMet RX11 (by decide +kernel) rfl hq (Nat.le_of_ble_eq_true rfl) ?_
  intro p e s m below meth c ls X hr hk hP hS hl
  have hx := X.1
  have hb := X.2.1
  have hl : lv_has ls 5 [(0, .ref (q 0))] := hl
  rw [f_X11_bestQuestion] at h
  have hL2 : ∀ (fu : Nat) (b1 : Int32) (M : Mem) (res : (Nat × Int32 × Int32) × Mem) (H : Heap) (locs : List Loc) (ls : Array Slot), f_X11_bestQuestion_L2 fu b1 M = some res → va_P D vwCl (wsG 167 (ceC cA q) q M) H → va_S (AqG 167 q) s.heap H locs → lv_has ls 5 [(0, .ref (q 0)), (1, .int b1)] → (res.1.1 = 0 → ∀ (H : Heap) (locs : List Loc) (ls : Array Slot), va_P D vwCl (wsG 167 (ceC cA q) q res.2) H → va_S (AqG 167 q) s.heap H locs → lv_has ls 5 [(1, .int (res.1.2.1)), (3, .int (res.1.2.2))] → W p l e ({ frames := 4, cells := 0, slots := 0, locals := 90 } : Room) s m [.ref (q 0)].toArray below meth c H locs 0 0 (MQ below (Qi 167 (ceC cA q) D q r0 M0) [.ref (q 0)].toArray s 0 0 (AqG 167 q)) (F0 m 80 ls [])) → (res.1.1 = 1 → ∀ (H : Heap) (locs : List Loc) (ls : Array Slot), va_P D vwCl (wsG 167 (ceC cA q) q res.2) H → va_S (AqG 167 q) s.heap H locs → lv_has ls 5 [] → W p l e ({ frames := 4, cells := 0, slots := 0, locals := 90 } : Room) s m [.ref (q 0)].toArray below meth c H locs 0 0 (MQ below (Qi 167 (ceC cA q) D q r0 M0) [.ref (q 0)].toArray s 0 0 (AqG 167 q)) (F0 m 99 ls [])) → W p l e ({ frames := 4, cells := 0, slots := 0, locals := 90 } : Room) s m [.ref (q 0)].toArray below meth c H locs 0 0 (MQ below (Qi 167 (ceC cA q) D q r0 M0) [.ref (q 0)].toArray s 0 0 (AqG 167 q)) (F0 m 2 ls []) := by
    intro fu
    induction fu with
    | zero => intro b1 M res H locs ls h; exact absurd h (by simp [f_X11_bestQuestion_L2])
    | succ fu ih =>
      intro b1 M res H locs ls h hP hS hl K2_0 K2_1
      rw [f_X11_bestQuestion_L2] at h
      have hL25 : ∀ (b1 : Int32) (b2 : Nat) (hb2 : shC b2 = 5) (fu : Nat) (b3 : Int32) (M : Mem) (res : (Nat × Int32) × Mem) (H : Heap) (locs : List Loc) (ls : Array Slot), f_X11_bestQuestion_L25 b1 b2 fu b3 M = some res → va_P D vwCl (wsG 167 (ceC cA q) q M) H → va_S (AqG 167 q) s.heap H locs → lv_has ls 5 [(0, .ref (q 0)), (1, .int b1), (2, .ref (q b2)), (3, .int b3)] → (res.1.1 = 0 → ∀ (H : Heap) (locs : List Loc) (ls : Array Slot), va_P D vwCl (wsG 167 (ceC cA q) q res.2) H → va_S (AqG 167 q) s.heap H locs → lv_has ls 5 [(1, .int b1), (3, .int (res.1.2))] → W p l e ({ frames := 4, cells := 0, slots := 0, locals := 90 } : Room) s m [.ref (q 0)].toArray below meth c H locs 0 0 (MQ below (Qi 167 (ceC cA q) D q r0 M0) [.ref (q 0)].toArray s 0 0 (AqG 167 q)) (F0 m 80 ls [])) → (res.1.1 = 1 → ∀ (H : Heap) (locs : List Loc) (ls : Array Slot), va_P D vwCl (wsG 167 (ceC cA q) q res.2) H → va_S (AqG 167 q) s.heap H locs → lv_has ls 5 [(0, .ref (q 0)), (1, .int b1)] → W p l e ({ frames := 4, cells := 0, slots := 0, locals := 90 } : Room) s m [.ref (q 0)].toArray below meth c H locs 0 0 (MQ below (Qi 167 (ceC cA q) D q r0 M0) [.ref (q 0)].toArray s 0 0 (AqG 167 q)) (F0 m 93 ls [])) → W p l e ({ frames := 4, cells := 0, slots := 0, locals := 90 } : Room) s m [.ref (q 0)].toArray below meth c H locs 0 0 (MQ below (Qi 167 (ceC cA q) D q r0 M0) [.ref (q 0)].toArray s 0 0 (AqG 167 q)) (F0 m 25 ls []) := by
        intro b1 b2 hb2 fu
        induction fu with
        | zero => intro b3 M res H locs ls h; exact absurd h (by simp [f_X11_bestQuestion_L25])
        | succ fu ih =>
          intro b3 M res H locs ls h hP hS hl K25_0 K25_1
          rw [f_X11_bestQuestion_L25] at h
          refine lv_iload_n hx hb dX11_bestQuestion_25 rfl (lv_at hl 3 rfl) ?_
          refine lv_bipush (v := 9) hx hb dX11_bestQuestion_26 (by decide) ?_
          refine lv_icmp_gt (tgt := 93) hx hb dX11_bestQuestion_28 (by decide) (fun c23 => ?_) (fun c23 => ?_)
          · rw [if_pos c23] at h
            cases h
            exact K25_1 rfl _ _ _ hP hS (lv_sub hl [0, 1] rfl)
          · rw [if_neg c23] at h
            refine lv_aload_n hx hb dX11_bestQuestion_31 rfl (lv_at hl 0 rfl) ?_
            refine lv_iload_n hx hb dX11_bestQuestion_32 rfl (lv_at hl 1 rfl) ?_
            obtain ⟨r24, M25, hc26, h⟩ := bnd_inv h
            refine gV_i (As := [.int b1]) X hP hS hl.1 (c_X11_isOpen l D cA q aK aV hq hc26) sf_X11_isOpen bw_1033 sv_X11_isOpen (rcC_11 sC_0) rfl ⟨rfl, rfl⟩ ⟨Nat.le_of_ble_eq_true rfl, Nat.le_of_ble_eq_true rfl⟩ rfl rfl (Nat.le_of_ble_eq_true rfl) dX11_bestQuestion_33 (fun H locs hP hS => ?_)
            refine lv_if_eq (tgt := 93) hx hb dX11_bestQuestion_36 (by decide) (fun c27 => ?_) (fun c27 => ?_)
            · rw [if_pos c27] at h
              cases h
              exact K25_1 rfl _ _ _ hP hS (lv_sub hl [0, 1] rfl)
            · rw [if_neg c27] at h
              refine lv_aload_n hx hb dX11_bestQuestion_39 rfl (lv_at hl 0 rfl) ?_
              refine gfC_11_0 X hP sC_0 bw_430 dX11_bestQuestion_40 ?_
              obtain ⟨g28, h⟩ := gd_inv h
              have g28 := Decidable.not_not.mp g28
              refine lv_iconst (v := 1) hx hb dX11_bestQuestion_43 (by decide) ?_
              refine lv_aload_n hx hb dX11_bestQuestion_44 rfl (lv_at hl 2 rfl) ?_
              refine gfC_5_1 X hP hb2 bw_119 dX11_bestQuestion_45 ?_
              refine lv_iload_n hx hb dX11_bestQuestion_48 rfl (lv_at hl 3 rfl) ?_
              refine lv_aload_n hx hb dX11_bestQuestion_49 rfl (lv_at hl 2 rfl) ?_
              refine gfC_5_2 X hP hb2 bw_123 dX11_bestQuestion_50 ?_
              obtain ⟨r29, M30, hc31, h⟩ := bnd_inv h
              refine gV_i (As := [.int (1 : Int32), .int (gI M25 b2 1), .int b3, .int (gI M25 b2 2)]) X hP hS hl.1 (c_X0_cueFor l D cA q aK aV hq g28 hc31) sf_X0_cueFor bw_1021 sv_X0_cueFor (rcC_0 g28) rfl ⟨rfl, rfl⟩ ⟨Nat.le_of_ble_eq_true rfl, Nat.le_of_ble_eq_true rfl⟩ rfl rfl (Nat.le_of_ble_eq_true rfl) dX11_bestQuestion_53 (fun H locs hP hS => ?_)
              refine lv_istore (lv' := [(4, .int r29), (0, .ref (q 0)), (1, .int b1), (2, .ref (q b2)), (3, .int b3)]) hx hb dX11_bestQuestion_56 hl (by decide) rfl (fun ls hl => ?_)
              refine lv_iload hx hb dX11_bestQuestion_58 (lv_at hl 0 rfl) ?_
              refine lv_aload_n hx hb dX11_bestQuestion_60 rfl (lv_at hl 1 rfl) ?_
              refine gfC_11_0 X hP sC_0 bw_430 dX11_bestQuestion_61 ?_
              obtain ⟨g32, h⟩ := gd_inv h
              have g32 := Decidable.not_not.mp g32
              refine lv_iconst (v := 2) hx hb dX11_bestQuestion_64 (by decide) ?_
              refine lv_aload_n hx hb dX11_bestQuestion_65 rfl (lv_at hl 3 rfl) ?_
              refine gfC_5_1 X hP hb2 bw_119 dX11_bestQuestion_66 ?_
              refine lv_iload_n hx hb dX11_bestQuestion_69 rfl (lv_at hl 4 rfl) ?_
              refine lv_aload_n hx hb dX11_bestQuestion_70 rfl (lv_at hl 3 rfl) ?_
              refine gfC_5_2 X hP hb2 bw_123 dX11_bestQuestion_71 ?_
              obtain ⟨r33, M34, hc35, h⟩ := bnd_inv h
              refine gV_i (As := [.int (2 : Int32), .int (gI M30 b2 1), .int b3, .int (gI M30 b2 2)]) X hP hS hl.1 (c_X0_cueFor l D cA q aK aV hq g32 hc35) sf_X0_cueFor bw_1021 sv_X0_cueFor (rcC_0 g32) rfl ⟨rfl, rfl⟩ ⟨Nat.le_of_ble_eq_true rfl, Nat.le_of_ble_eq_true rfl⟩ rfl rfl (Nat.le_of_ble_eq_true rfl) dX11_bestQuestion_74 (fun H locs hP hS => ?_)
              refine lv_icmp_eq (tgt := 87) hx hb dX11_bestQuestion_77 (by decide) (fun c36 => ?_) (fun c36 => ?_)
              · rw [if_pos c36] at h
                obtain ⟨y37, ey37, h⟩ := lt_inv h
                refine lv_iinc (v := y37) (lv' := [(3, .int y37), (4, .int r29), (0, .ref (q 0)), (1, .int b1), (2, .ref (q b2))]) hx hb dX11_bestQuestion_87 hl (k := 4) rfl (by rw [ey37]; rfl) (by decide) rfl (fun ls hl => ?_)
                refine lv_goto (tgt := 25) hx hb dX11_bestQuestion_90 (by decide) ?_
                exact ih _ _ res _ _ _ h hP hS (lv_sub hl [2, 3, 4, 0] rfl) K25_0 K25_1
              · rw [if_neg c36] at h
                cases h
                exact K25_0 rfl _ _ _ hP hS (lv_sub hl [2, 4] rfl)
      refine lv_iload_n hx hb dX11_bestQuestion_2 rfl (lv_at hl 1 rfl) ?_
      refine lv_aload_n hx hb dX11_bestQuestion_3 rfl (lv_at hl 0 rfl) ?_
      refine gfC_11_0 X hP sC_0 bw_430 dX11_bestQuestion_4 ?_
      obtain ⟨g7, h⟩ := gd_inv h
      have g7 := Decidable.not_not.mp g7
      refine lv_iconst (v := 3) hx hb dX11_bestQuestion_7 (by decide) ?_
      obtain ⟨r8, M9, hc10, h⟩ := bnd_inv h
      refine gV_i (As := [.int (3 : Int32)]) X hP hS hl.1 (c_X0_countOf l D cA q aK aV hq g7 hc10) sf_X0_countOf bw_750 sv_X0_countOf (rcC_0 g7) rfl ⟨rfl, rfl⟩ ⟨Nat.le_of_ble_eq_true rfl, Nat.le_of_ble_eq_true rfl⟩ rfl rfl (Nat.le_of_ble_eq_true rfl) dX11_bestQuestion_8 (fun H locs hP hS => ?_)
      refine lv_icmp_ge (tgt := 99) hx hb dX11_bestQuestion_11 (by decide) (fun c11 => ?_) (fun c11 => ?_)
      · rw [if_pos c11] at h
        cases h
        exact K2_1 rfl _ _ _ hP hS (lv_sub hl [] rfl)
      · rw [if_neg c11] at h
        refine lv_aload_n hx hb dX11_bestQuestion_14 rfl (lv_at hl 0 rfl) ?_
        refine gfC_11_0 X hP sC_0 bw_430 dX11_bestQuestion_15 ?_
        obtain ⟨g12, h⟩ := gd_inv h
        have g12 := Decidable.not_not.mp g12
        refine lv_iload_n hx hb dX11_bestQuestion_18 rfl (lv_at hl 1 rfl) ?_
        obtain ⟨r13, M14, hc15, h⟩ := bnd_inv h
        refine gV_r (As := [.int b1]) X hP hS hl.1 (c_X0_personAt l D cA q aK aV hq g12 hc15) sf_X0_personAt bw_852 sv_X0_personAt (rcC_0 g12) rfl ⟨rfl, rfl⟩ ⟨Nat.le_of_ble_eq_true rfl, Nat.le_of_ble_eq_true rfl⟩ rfl rfl (Nat.le_of_ble_eq_true rfl) dX11_bestQuestion_19 (fun H locs hP hS => ?_)
        obtain ⟨g16, h⟩ := gd_inv h
        have g16 := Decidable.not_not.mp g16
        refine lv_astore_n (lv' := [(2, .ref (q r13)), (0, .ref (q 0)), (1, .int b1)]) hx hb dX11_bestQuestion_22 rfl hl (by decide) rfl (fun ls hl => ?_)
        refine lv_iconst (v := 0) hx hb dX11_bestQuestion_23 (by decide) ?_
        refine lv_istore_n (lv' := [(3, .int (0 : Int32)), (2, .ref (q r13)), (0, .ref (q 0)), (1, .int b1)]) hx hb dX11_bestQuestion_24 rfl hl (by decide) rfl (fun ls hl => ?_)
        obtain ⟨s17, M18, hc19, h⟩ := bnd_inv h
        obtain ⟨k20, x21⟩ := s17
        try dsimp only at h
        refine hL25 _ _ g16 fz _ _ _ _ _ _ hc19 hP hS (lv_sub hl [2, 3, 1, 0] rfl) (fun hke H locs ls hP hS hl => ?_) (fun hke H locs ls hP hS hl => ?_)
        · have hke : k20 = 0 := hke
          have hl : lv_has ls 5 [(1, .int b1), (3, .int x21)] := hl
          subst hke
          rw [if_pos rfl] at h
          cases h
          exact K2_0 rfl _ _ _ hP hS (lv_sub hl [0, 1] rfl)
        · have hke : k20 = 1 := hke
          have hl : lv_has ls 5 [(0, .ref (q 0)), (1, .int b1)] := hl
          subst hke
          rw [if_neg (by decide)] at h
          obtain ⟨y22, ey22, h⟩ := lt_inv h
          refine lv_iinc (v := y22) (lv' := [(1, .int y22), (0, .ref (q 0))]) hx hb dX11_bestQuestion_93 hl (k := 1) rfl (by rw [ey22]; rfl) (by decide) rfl (fun ls hl => ?_)
          refine lv_goto (tgt := 2) hx hb dX11_bestQuestion_96 (by decide) ?_
          exact ih _ _ res _ _ _ h hP hS (lv_sub hl [1, 0] rfl) K2_0 K2_1
  refine lv_iconst (v := 0) hx hb dX11_bestQuestion_0 (by decide) ?_
  refine lv_istore_n (lv' := [(1, .int (0 : Int32)), (0, .ref (q 0))]) hx hb dX11_bestQuestion_1 rfl hl (by decide) rfl (fun ls hl => ?_)
  obtain ⟨s1, M2, hc3, h⟩ := bnd_inv h
  obtain ⟨k4, x5, x6⟩ := s1
  try dsimp only at h
  refine hL2  fz _ _ _ _ _ _ hc3 hP hS (lv_sub hl [1, 0] rfl) (fun hke H locs ls hP hS hl => ?_) (fun hke H locs ls hP hS hl => ?_)
  · have hke : k4 = 0 := hke
    have hl : lv_has ls 5 [(1, .int x5), (3, .int x6)] := hl
    subst hke
    rw [if_pos rfl] at h
    refine lv_iload_n hx hb dX11_bestQuestion_80 rfl (lv_at hl 0 rfl) ?_
    refine lv_bipush (v := 10) hx hb dX11_bestQuestion_81 (by decide) ?_
    refine lv_imul hx hb dX11_bestQuestion_83 ?_
    refine lv_iload_n hx hb dX11_bestQuestion_84 rfl (lv_at hl 1 rfl) ?_
    refine lv_iadd hx hb dX11_bestQuestion_85 ?_
    exact end_i X hr hk hP hS h dX11_bestQuestion_86
  · have hke : k4 = 1 := hke
    have hl : lv_has ls 5 [] := hl
    subst hke
    rw [if_neg (by decide)] at h
    refine lv_iconst (v := 0) hx hb dX11_bestQuestion_99 (by decide) ?_
    exact end_i X hr hk hP hS h dX11_bestQuestion_100
theorem dX11_ask_0 : decode cX11_ask 0 = .ok (.iload_n 3, 1) := by decide +kernel
theorem dX11_ask_1 : decode cX11_ask 1 = .ok (.iconst 2, 1) := by decide +kernel
theorem dX11_ask_2 : decode cX11_ask 2 = .ok (.invokestatic 104, 3) := by decide +kernel
theorem dX11_ask_5 : decode cX11_ask 5 = .ok (.ifCond .eq 12, 3) := by decide +kernel
theorem dX11_ask_8 : decode cX11_ask 8 = .ok (.aload_n 0, 1) := by decide +kernel
theorem dX11_ask_9 : decode cX11_ask 9 = .ok (.iload_n 1, 1) := by decide +kernel
theorem dX11_ask_10 : decode cX11_ask 10 = .ok (.iload_n 2, 1) := by decide +kernel
theorem dX11_ask_11 : decode cX11_ask 11 = .ok (.invokevirtual 327, 3) := by decide +kernel
theorem dX11_ask_14 : decode cX11_ask 14 = .ok (.goto 4, 3) := by decide +kernel
theorem dX11_ask_17 : decode cX11_ask 17 = .ok (.iconst 1, 1) := by decide +kernel
theorem dX11_ask_18 : decode cX11_ask 18 = .ok (.istore 4, 2) := by decide +kernel
theorem dX11_ask_20 : decode cX11_ask 20 = .ok (.iload 4, 2) := by decide +kernel
theorem dX11_ask_22 : decode cX11_ask 22 = .ok (.ifCond .eq 10, 3) := by decide +kernel
theorem dX11_ask_25 : decode cX11_ask 25 = .ok (.aload_n 0, 1) := by decide +kernel
theorem dX11_ask_26 : decode cX11_ask 26 = .ok (.iload 4, 2) := by decide +kernel
theorem dX11_ask_28 : decode cX11_ask 28 = .ok (.invokevirtual 132, 3) := by decide +kernel
theorem dX11_ask_31 : decode cX11_ask 31 = .ok (.ireturn, 1) := by decide +kernel
theorem dX11_ask_32 : decode cX11_ask 32 = .ok (.aload_n 0, 1) := by decide +kernel
theorem dX11_ask_33 : decode cX11_ask 33 = .ok (.invokevirtual 330, 3) := by decide +kernel
theorem dX11_ask_36 : decode cX11_ask 36 = .ok (.iconst 2, 1) := by decide +kernel
theorem dX11_ask_37 : decode cX11_ask 37 = .ok (.if_icmp .ge 10, 3) := by decide +kernel
theorem dX11_ask_40 : decode cX11_ask 40 = .ok (.aload_n 0, 1) := by decide +kernel
theorem dX11_ask_41 : decode cX11_ask 41 = .ok (.bipush 6, 2) := by decide +kernel
theorem dX11_ask_43 : decode cX11_ask 43 = .ok (.invokevirtual 132, 3) := by decide +kernel
theorem dX11_ask_46 : decode cX11_ask 46 = .ok (.ireturn, 1) := by decide +kernel
theorem dX11_ask_47 : decode cX11_ask 47 = .ok (.aload_n 0, 1) := by decide +kernel
theorem dX11_ask_48 : decode cX11_ask 48 = .ok (.invokevirtual 345, 3) := by decide +kernel
theorem dX11_ask_51 : decode cX11_ask 51 = .ok (.istore 5, 2) := by decide +kernel
theorem dX11_ask_53 : decode cX11_ask 53 = .ok (.aload_n 0, 1) := by decide +kernel
theorem dX11_ask_54 : decode cX11_ask 54 = .ok (.iload_n 3, 1) := by decide +kernel
theorem dX11_ask_55 : decode cX11_ask 55 = .ok (.ifCond .ne 11, 3) := by decide +kernel
theorem dX11_ask_58 : decode cX11_ask 58 = .ok (.iload 5, 2) := by decide +kernel
theorem dX11_ask_60 : decode cX11_ask 60 = .ok (.bipush 10, 2) := by decide +kernel
theorem dX11_ask_62 : decode cX11_ask 62 = .ok (.idiv, 1) := by decide +kernel
theorem dX11_ask_63 : decode cX11_ask 63 = .ok (.goto 8, 3) := by decide +kernel
theorem dX11_ask_66 : decode cX11_ask 66 = .ok (.iload 5, 2) := by decide +kernel
theorem dX11_ask_68 : decode cX11_ask 68 = .ok (.bipush 10, 2) := by decide +kernel
theorem dX11_ask_70 : decode cX11_ask 70 = .ok (.irem, 1) := by decide +kernel
theorem dX11_ask_71 : decode cX11_ask 71 = .ok (.invokevirtual 191, 3) := by decide +kernel
theorem dX11_ask_74 : decode cX11_ask 74 = .ok (.ireturn, 1) := by decide +kernel
set_option maxRecDepth 100000 in
set_option maxHeartbeats 8000000 in
theorem c_X11_ask (l : Launch) (D : va_G) (cA : Nat → ClassId) (q aK aV : Nat → Nat) (hq : injG 167 q) {a1 : Int32} {a2 : Int32} {a3 : Int32} {M M0 : Mem} {r0 : Int32} (h : f_X11_ask a1 a2 a3 M = some (r0, M0)) : Met l yX11_ask (.code yX11_ask cX11_ask 6 (some .int) :: BW) ({ frames := 6, cells := 0, slots := 0, locals := 145 } : Room) (va_Pc [.ref (q 0), .int a1, .int a2, .int a3] (CB 167 (ceC cA q) D cA q aK aV M)) (Qi 167 (ceC cA q) D q r0 M0) 0 0 (AqG 167 q) := by
  refine gMet RX11 (by decide +kernel) rfl hq (Nat.le_of_ble_eq_true rfl) ?_
  intro p e s m below meth c ls X hr hk hP hS hl
  have hx := X.1
  have hb := X.2.1
  have hl : lv_has ls 6 [(0, .ref (q 0)), (1, .int a1), (2, .int a2), (3, .int a3)] := hl
  rw [f_X11_ask] at h
  have hJ18 : ∀ (s0 : Int32) (M : Mem) (H : Heap) (locs : List Loc) (ls : Array Slot), f_X11_ask_J18 a3 s0 M = some (r0, M0) → va_P D vwCl (wsG 167 (ceC cA q) q M) H → va_S (AqG 167 q) s.heap H locs → lv_has ls 6 [(0, .ref (q 0)), (3, .int a3)] → W p l e ({ frames := 6, cells := 0, slots := 0, locals := 145 } : Room) s m [.ref (q 0), .int a1, .int a2, .int a3].toArray below meth c H locs 0 0 (MQ below (Qi 167 (ceC cA q) D q r0 M0) [.ref (q 0), .int a1, .int a2, .int a3].toArray s 0 0 (AqG 167 q)) (F0 m 18 ls [.int s0]) := by
    intro s0 M H locs ls h hP hS hl
    rw [f_X11_ask_J18] at h
    refine lv_istore (lv' := [(4, .int s0), (0, .ref (q 0)), (3, .int a3)]) hx hb dX11_ask_18 hl (by decide) rfl (fun ls hl => ?_)
    refine lv_iload hx hb dX11_ask_20 (lv_at hl 0 rfl) ?_
    refine lv_if_eq (tgt := 32) hx hb dX11_ask_22 (by decide) (fun c8 => ?_) (fun c8 => ?_)
    · rw [if_pos c8] at h
      refine lv_aload_n hx hb dX11_ask_32 rfl (lv_at hl 1 rfl) ?_
      obtain ⟨r9, M10, hc11, h⟩ := bnd_inv h
      refine gV_i (As := []) X hP hS hl.1 (c_X11_ways l D cA q aK aV hq hc11) sf_X11_ways bw_1025 sv_X11_ways (rcC_11 sC_0) rfl ⟨rfl, rfl⟩ ⟨Nat.le_of_ble_eq_true rfl, Nat.le_of_ble_eq_true rfl⟩ rfl rfl (Nat.le_of_ble_eq_true rfl) dX11_ask_33 (fun H locs hP hS => ?_)
      refine lv_iconst (v := 2) hx hb dX11_ask_36 (by decide) ?_
      refine lv_icmp_ge (tgt := 47) hx hb dX11_ask_37 (by decide) (fun c12 => ?_) (fun c12 => ?_)
      · rw [if_pos c12] at h
        refine lv_aload_n hx hb dX11_ask_47 rfl (lv_at hl 1 rfl) ?_
        obtain ⟨r13, M14, hc15, h⟩ := bnd_inv h
        refine gV_i (As := []) X hP hS hl.1 (c_X11_bestQuestion l D cA q aK aV hq hc15) sf_X11_bestQuestion bw_1054 sv_X11_bestQuestion (rcC_11 sC_0) rfl ⟨rfl, rfl⟩ ⟨Nat.le_of_ble_eq_true rfl, Nat.le_of_ble_eq_true rfl⟩ rfl rfl (Nat.le_of_ble_eq_true rfl) dX11_ask_48 (fun H locs hP hS => ?_)
        refine lv_istore (lv' := [(5, .int r13), (4, .int s0), (0, .ref (q 0)), (3, .int a3)]) hx hb dX11_ask_51 hl (by decide) rfl (fun ls hl => ?_)
        refine lv_aload_n hx hb dX11_ask_53 rfl (lv_at hl 2 rfl) ?_
        refine lv_iload_n hx hb dX11_ask_54 rfl (lv_at hl 3 rfl) ?_
        refine lv_if_ne (tgt := 66) hx hb dX11_ask_55 (by decide) (fun c16 => ?_) (fun c16 => ?_)
        · rw [if_neg c16] at h
          refine lv_iload hx hb dX11_ask_66 (lv_at hl 0 rfl) ?_
          refine lv_bipush (v := 10) hx hb dX11_ask_68 (by decide) ?_
          refine lv_irem hx hb dX11_ask_70 (by decide) ?_
          obtain ⟨r17, M18, hc19, h⟩ := bnd_inv h
          refine gV_i (As := [.int (r13 - r13 / (10 : Int32) * (10 : Int32))]) X hP hS hl.1 (c_X11_given l D cA q aK aV hq hc19) sf_X11_given bw_755 sv_X11_given (rcC_11 sC_0) rfl ⟨rfl, rfl⟩ ⟨Nat.le_of_ble_eq_true rfl, Nat.le_of_ble_eq_true rfl⟩ rfl rfl (Nat.le_of_ble_eq_true rfl) dX11_ask_71 (fun H locs hP hS => ?_)
          exact end_i X hr hk hP hS h dX11_ask_74
        · rw [if_pos c16] at h
          refine lv_iload hx hb dX11_ask_58 (lv_at hl 0 rfl) ?_
          refine lv_bipush (v := 10) hx hb dX11_ask_60 (by decide) ?_
          refine lv_idiv hx hb dX11_ask_62 (by decide) ?_
          refine lv_goto (tgt := 71) hx hb dX11_ask_63 (by decide) ?_
          obtain ⟨r20, M21, hc22, h⟩ := bnd_inv h
          refine gV_i (As := [.int (r13 / (10 : Int32))]) X hP hS hl.1 (c_X11_given l D cA q aK aV hq hc22) sf_X11_given bw_755 sv_X11_given (rcC_11 sC_0) rfl ⟨rfl, rfl⟩ ⟨Nat.le_of_ble_eq_true rfl, Nat.le_of_ble_eq_true rfl⟩ rfl rfl (Nat.le_of_ble_eq_true rfl) dX11_ask_71 (fun H locs hP hS => ?_)
          exact end_i X hr hk hP hS h dX11_ask_74
      · rw [if_neg c12] at h
        refine lv_aload_n hx hb dX11_ask_40 rfl (lv_at hl 1 rfl) ?_
        refine lv_bipush (v := 6) hx hb dX11_ask_41 (by decide) ?_
        obtain ⟨r23, M24, hc25, h⟩ := bnd_inv h
        refine gV_i (As := [.int (6 : Int32)]) X hP hS hl.1 (c_X11_refused l D cA q aK aV hq hc25) sf_X11_refused bw_552 sv_X11_refused (rcC_11 sC_0) rfl ⟨rfl, rfl⟩ ⟨Nat.le_of_ble_eq_true rfl, Nat.le_of_ble_eq_true rfl⟩ rfl rfl (Nat.le_of_ble_eq_true rfl) dX11_ask_43 (fun H locs hP hS => ?_)
        exact end_i X hr hk hP hS h dX11_ask_46
    · rw [if_neg c8] at h
      refine lv_aload_n hx hb dX11_ask_25 rfl (lv_at hl 1 rfl) ?_
      refine lv_iload hx hb dX11_ask_26 (lv_at hl 0 rfl) ?_
      obtain ⟨r26, M27, hc28, h⟩ := bnd_inv h
      refine gV_i (As := [.int s0]) X hP hS hl.1 (c_X11_refused l D cA q aK aV hq hc28) sf_X11_refused bw_552 sv_X11_refused (rcC_11 sC_0) rfl ⟨rfl, rfl⟩ ⟨Nat.le_of_ble_eq_true rfl, Nat.le_of_ble_eq_true rfl⟩ rfl rfl (Nat.le_of_ble_eq_true rfl) dX11_ask_28 (fun H locs hP hS => ?_)
      exact end_i X hr hk hP hS h dX11_ask_31
  refine lv_iload_n hx hb dX11_ask_0 rfl (lv_at hl 3 rfl) ?_
  refine lv_iconst (v := 2) hx hb dX11_ask_1 (by decide) ?_
  obtain ⟨r1, M2, hc3, h⟩ := bnd_inv h
  refine gS_i (As := [.int a3, .int (2 : Int32)]) X hP hS hl.1 (c_X11_within l D cA q aK aV hq hc3) sf_X11_within bw_504 ss_X11_within ⟨rfl, rfl⟩ ⟨Nat.le_of_ble_eq_true rfl, Nat.le_of_ble_eq_true rfl⟩ rfl rfl (Nat.le_of_ble_eq_true rfl) dX11_ask_2 (fun H locs hP hS => ?_)
  refine lv_if_eq (tgt := 17) hx hb dX11_ask_5 (by decide) (fun c4 => ?_) (fun c4 => ?_)
  · rw [if_pos c4] at h
    refine lv_iconst (v := 1) hx hb dX11_ask_17 (by decide) ?_
    exact hJ18 _ _ _ _ _ h hP hS (lv_sub hl [0, 3] rfl)
  · rw [if_neg c4] at h
    refine lv_aload_n hx hb dX11_ask_8 rfl (lv_at hl 0 rfl) ?_
    refine lv_iload_n hx hb dX11_ask_9 rfl (lv_at hl 1 rfl) ?_
    refine lv_iload_n hx hb dX11_ask_10 rfl (lv_at hl 2 rfl) ?_
    obtain ⟨r5, M6, hc7, h⟩ := bnd_inv h
    refine gV_i (As := [.int a1, .int a2]) X hP hS hl.1 (c_X11_readThrees l D cA q aK aV hq hc7) sf_X11_readThrees bw_1012 sv_X11_readThrees (rcC_11 sC_0) rfl ⟨rfl, rfl⟩ ⟨Nat.le_of_ble_eq_true rfl, Nat.le_of_ble_eq_true rfl⟩ rfl rfl (Nat.le_of_ble_eq_true rfl) dX11_ask_11 (fun H locs hP hS => ?_)
    refine lv_goto (tgt := 18) hx hb dX11_ask_14 (by decide) ?_
    exact hJ18 _ _ _ _ _ h hP hS (lv_sub hl [0, 3] rfl)
theorem dX11_leastPlan_0 : decode cX11_leastPlan 0 = .ok (.aload_n 0, 1) := by decide +kernel
theorem dX11_leastPlan_1 : decode cX11_leastPlan 1 = .ok (.getfield 10, 3) := by decide +kernel
theorem dX11_leastPlan_4 : decode cX11_leastPlan 4 = .ok (.iload_n 1, 1) := by decide +kernel
theorem dX11_leastPlan_5 : decode cX11_leastPlan 5 = .ok (.invokevirtual 228, 3) := by decide +kernel
theorem dX11_leastPlan_8 : decode cX11_leastPlan 8 = .ok (.astore_n 3, 1) := by decide +kernel
theorem dX11_leastPlan_9 : decode cX11_leastPlan 9 = .ok (.iconst (-1), 1) := by decide +kernel
theorem dX11_leastPlan_10 : decode cX11_leastPlan 10 = .ok (.istore 4, 2) := by decide +kernel
theorem dX11_leastPlan_12 : decode cX11_leastPlan 12 = .ok (.iconst 0, 1) := by decide +kernel
theorem dX11_leastPlan_13 : decode cX11_leastPlan 13 = .ok (.istore 5, 2) := by decide +kernel
theorem dX11_leastPlan_15 : decode cX11_leastPlan 15 = .ok (.iload 5, 2) := by decide +kernel
theorem dX11_leastPlan_17 : decode cX11_leastPlan 17 = .ok (.bipush 20, 2) := by decide +kernel
theorem dX11_leastPlan_19 : decode cX11_leastPlan 19 = .ok (.if_icmp .gt 136, 3) := by decide +kernel
theorem dX11_leastPlan_22 : decode cX11_leastPlan 22 = .ok (.aload_n 3, 1) := by decide +kernel
theorem dX11_leastPlan_23 : decode cX11_leastPlan 23 = .ok (.getfield 232, 3) := by decide +kernel
theorem dX11_leastPlan_26 : decode cX11_leastPlan 26 = .ok (.iload 5, 2) := by decide +kernel
theorem dX11_leastPlan_28 : decode cX11_leastPlan 28 = .ok (.iadd, 1) := by decide +kernel
theorem dX11_leastPlan_29 : decode cX11_leastPlan 29 = .ok (.bipush 99, 2) := by decide +kernel
theorem dX11_leastPlan_31 : decode cX11_leastPlan 31 = .ok (.if_icmp .gt 124, 3) := by decide +kernel
theorem dX11_leastPlan_34 : decode cX11_leastPlan 34 = .ok (.iconst 0, 1) := by decide +kernel
theorem dX11_leastPlan_35 : decode cX11_leastPlan 35 = .ok (.istore 6, 2) := by decide +kernel
theorem dX11_leastPlan_37 : decode cX11_leastPlan 37 = .ok (.iload 6, 2) := by decide +kernel
theorem dX11_leastPlan_39 : decode cX11_leastPlan 39 = .ok (.aload_n 0, 1) := by decide +kernel
theorem dX11_leastPlan_40 : decode cX11_leastPlan 40 = .ok (.getfield 10, 3) := by decide +kernel
theorem dX11_leastPlan_43 : decode cX11_leastPlan 43 = .ok (.iconst 0, 1) := by decide +kernel
theorem dX11_leastPlan_44 : decode cX11_leastPlan 44 = .ok (.invokevirtual 167, 3) := by decide +kernel
theorem dX11_leastPlan_47 : decode cX11_leastPlan 47 = .ok (.invokestatic 207, 3) := by decide +kernel
theorem dX11_leastPlan_50 : decode cX11_leastPlan 50 = .ok (.if_icmp .gt 99, 3) := by decide +kernel
theorem dX11_leastPlan_53 : decode cX11_leastPlan 53 = .ok (.iload 5, 2) := by decide +kernel
theorem dX11_leastPlan_55 : decode cX11_leastPlan 55 = .ok (.iload 6, 2) := by decide +kernel
theorem dX11_leastPlan_57 : decode cX11_leastPlan 57 = .ok (.aload_n 3, 1) := by decide +kernel
theorem dX11_leastPlan_58 : decode cX11_leastPlan 58 = .ok (.getfield 237, 3) := by decide +kernel
theorem dX11_leastPlan_61 : decode cX11_leastPlan 61 = .ok (.ixor, 1) := by decide +kernel
theorem dX11_leastPlan_62 : decode cX11_leastPlan 62 = .ok (.invokestatic 270, 3) := by decide +kernel
theorem dX11_leastPlan_65 : decode cX11_leastPlan 65 = .ok (.iadd, 1) := by decide +kernel
theorem dX11_leastPlan_66 : decode cX11_leastPlan 66 = .ok (.istore 7, 2) := by decide +kernel
theorem dX11_leastPlan_68 : decode cX11_leastPlan 68 = .ok (.iload 7, 2) := by decide +kernel
theorem dX11_leastPlan_70 : decode cX11_leastPlan 70 = .ok (.bipush 10, 2) := by decide +kernel
theorem dX11_leastPlan_72 : decode cX11_leastPlan 72 = .ok (.ishl, 1) := by decide +kernel
theorem dX11_leastPlan_73 : decode cX11_leastPlan 73 = .ok (.iload 5, 2) := by decide +kernel
theorem dX11_leastPlan_75 : decode cX11_leastPlan 75 = .ok (.iconst 5, 1) := by decide +kernel
theorem dX11_leastPlan_76 : decode cX11_leastPlan 76 = .ok (.ishl, 1) := by decide +kernel
theorem dX11_leastPlan_77 : decode cX11_leastPlan 77 = .ok (.ior, 1) := by decide +kernel
theorem dX11_leastPlan_78 : decode cX11_leastPlan 78 = .ok (.iload 6, 2) := by decide +kernel
theorem dX11_leastPlan_80 : decode cX11_leastPlan 80 = .ok (.ior, 1) := by decide +kernel
theorem dX11_leastPlan_81 : decode cX11_leastPlan 81 = .ok (.istore 8, 2) := by decide +kernel
theorem dX11_leastPlan_83 : decode cX11_leastPlan 83 = .ok (.aload_n 0, 1) := by decide +kernel
theorem dX11_leastPlan_84 : decode cX11_leastPlan 84 = .ok (.getfield 10, 3) := by decide +kernel
theorem dX11_leastPlan_87 : decode cX11_leastPlan 87 = .ok (.aload_n 3, 1) := by decide +kernel
theorem dX11_leastPlan_88 : decode cX11_leastPlan 88 = .ok (.getfield 243, 3) := by decide +kernel
theorem dX11_leastPlan_91 : decode cX11_leastPlan 91 = .ok (.aload_n 3, 1) := by decide +kernel
theorem dX11_leastPlan_92 : decode cX11_leastPlan 92 = .ok (.getfield 232, 3) := by decide +kernel
theorem dX11_leastPlan_95 : decode cX11_leastPlan 95 = .ok (.iload 5, 2) := by decide +kernel
theorem dX11_leastPlan_97 : decode cX11_leastPlan 97 = .ok (.iadd, 1) := by decide +kernel
theorem dX11_leastPlan_98 : decode cX11_leastPlan 98 = .ok (.aload_n 0, 1) := by decide +kernel
theorem dX11_leastPlan_99 : decode cX11_leastPlan 99 = .ok (.getfield 10, 3) := by decide +kernel
theorem dX11_leastPlan_102 : decode cX11_leastPlan 102 = .ok (.getfield 194, 3) := by decide +kernel
theorem dX11_leastPlan_105 : decode cX11_leastPlan 105 = .ok (.iload 6, 2) := by decide +kernel
theorem dX11_leastPlan_107 : decode cX11_leastPlan 107 = .ok (.invokevirtual 446, 3) := by decide +kernel
theorem dX11_leastPlan_110 : decode cX11_leastPlan 110 = .ok (.iload_n 2, 1) := by decide +kernel
theorem dX11_leastPlan_111 : decode cX11_leastPlan 111 = .ok (.if_icmp .ne 7, 3) := by decide +kernel
theorem dX11_leastPlan_114 : decode cX11_leastPlan 114 = .ok (.iconst 1, 1) := by decide +kernel
theorem dX11_leastPlan_115 : decode cX11_leastPlan 115 = .ok (.goto 4, 3) := by decide +kernel
theorem dX11_leastPlan_118 : decode cX11_leastPlan 118 = .ok (.iconst 0, 1) := by decide +kernel
theorem dX11_leastPlan_119 : decode cX11_leastPlan 119 = .ok (.istore 9, 2) := by decide +kernel
theorem dX11_leastPlan_121 : decode cX11_leastPlan 121 = .ok (.iload 9, 2) := by decide +kernel
theorem dX11_leastPlan_123 : decode cX11_leastPlan 123 = .ok (.ifCond .eq 20, 3) := by decide +kernel
theorem dX11_leastPlan_126 : decode cX11_leastPlan 126 = .ok (.iload 4, 2) := by decide +kernel
theorem dX11_leastPlan_128 : decode cX11_leastPlan 128 = .ok (.iconst (-1), 1) := by decide +kernel
theorem dX11_leastPlan_129 : decode cX11_leastPlan 129 = .ok (.if_icmp .eq 10, 3) := by decide +kernel
theorem dX11_leastPlan_132 : decode cX11_leastPlan 132 = .ok (.iload 8, 2) := by decide +kernel
theorem dX11_leastPlan_134 : decode cX11_leastPlan 134 = .ok (.iload 4, 2) := by decide +kernel
theorem dX11_leastPlan_136 : decode cX11_leastPlan 136 = .ok (.if_icmp .ge 7, 3) := by decide +kernel
theorem dX11_leastPlan_139 : decode cX11_leastPlan 139 = .ok (.iload 8, 2) := by decide +kernel
theorem dX11_leastPlan_141 : decode cX11_leastPlan 141 = .ok (.istore 4, 2) := by decide +kernel
theorem dX11_leastPlan_143 : decode cX11_leastPlan 143 = .ok (.iinc 6 1, 3) := by decide +kernel
theorem dX11_leastPlan_146 : decode cX11_leastPlan 146 = .ok (.goto (-109), 3) := by decide +kernel
theorem dX11_leastPlan_149 : decode cX11_leastPlan 149 = .ok (.iinc 5 1, 3) := by decide +kernel
theorem dX11_leastPlan_152 : decode cX11_leastPlan 152 = .ok (.goto (-137), 3) := by decide +kernel
theorem dX11_leastPlan_155 : decode cX11_leastPlan 155 = .ok (.iload 4, 2) := by decide +kernel
theorem dX11_leastPlan_157 : decode cX11_leastPlan 157 = .ok (.ireturn, 1) := by decide +kernel
set_option maxRecDepth 100000 in
set_option maxHeartbeats 8000000 in
theorem c_X11_leastPlan (l : Launch) (D : va_G) (cA : Nat → ClassId) (q aK aV : Nat → Nat) (hq : injG 167 q) {a1 : Int32} {a2 : Int32} {M M0 : Mem} {r0 : Int32} (h : f_X11_leastPlan a1 a2 M = some (r0, M0)) : Met l yX11_leastPlan (.code yX11_leastPlan cX11_leastPlan 10 (some .int) :: BW) ({ frames := 4, cells := 0, slots := 0, locals := 90 } : Room) (va_Pc [.ref (q 0), .int a1, .int a2] (CB 167 (ceC cA q) D cA q aK aV M)) (Qi 167 (ceC cA q) D q r0 M0) 0 0 (AqG 167 q) := by
  refine gMet RX11 (by decide +kernel) rfl hq (Nat.le_of_ble_eq_true rfl) ?_
  intro p e s m below meth c ls X hr hk hP hS hl
  have hx := X.1
  have hb := X.2.1
  have hl : lv_has ls 10 [(0, .ref (q 0)), (1, .int a1), (2, .int a2)] := hl
  rw [f_X11_leastPlan] at h
  have hL15 : ∀ (b3 : Nat) (hb3 : shC b3 = 5) (fu : Nat) (b4 : Int32) (b5 : Int32) (M : Mem) (res : (Int32) × Mem) (H : Heap) (locs : List Loc) (ls : Array Slot), f_X11_leastPlan_L15 a2 b3 fu b4 b5 M = some res → va_P D vwCl (wsG 167 (ceC cA q) q M) H → va_S (AqG 167 q) s.heap H locs → lv_has ls 10 [(0, .ref (q 0)), (2, .int a2), (3, .ref (q b3)), (4, .int b4), (5, .int b5)] → (∀ (H : Heap) (locs : List Loc) (ls : Array Slot), va_P D vwCl (wsG 167 (ceC cA q) q res.2) H → va_S (AqG 167 q) s.heap H locs → lv_has ls 10 [(4, .int (res.1))] → W p l e ({ frames := 4, cells := 0, slots := 0, locals := 90 } : Room) s m [.ref (q 0), .int a1, .int a2].toArray below meth c H locs 0 0 (MQ below (Qi 167 (ceC cA q) D q r0 M0) [.ref (q 0), .int a1, .int a2].toArray s 0 0 (AqG 167 q)) (F0 m 155 ls [])) → W p l e ({ frames := 4, cells := 0, slots := 0, locals := 90 } : Room) s m [.ref (q 0), .int a1, .int a2].toArray below meth c H locs 0 0 (MQ below (Qi 167 (ceC cA q) D q r0 M0) [.ref (q 0), .int a1, .int a2].toArray s 0 0 (AqG 167 q)) (F0 m 15 ls []) := by
    intro b3 hb3 fu
    induction fu with
    | zero => intro b4 b5 M res H locs ls h; exact absurd h (by simp [f_X11_leastPlan_L15])
    | succ fu ih =>
      intro b4 b5 M res H locs ls h hP hS hl K15_0
      rw [f_X11_leastPlan_L15] at h
      have hL37 : ∀ (b3 : Nat) (hb3 : shC b3 = 5) (b5 : Int32) (fu : Nat) (b4 : Int32) (b6 : Int32) (M : Mem) (res : (Int32) × Mem) (H : Heap) (locs : List Loc) (ls : Array Slot), f_X11_leastPlan_L37 a2 b3 b5 fu b4 b6 M = some res → va_P D vwCl (wsG 167 (ceC cA q) q M) H → va_S (AqG 167 q) s.heap H locs → lv_has ls 10 [(0, .ref (q 0)), (2, .int a2), (3, .ref (q b3)), (4, .int b4), (5, .int b5), (6, .int b6)] → (∀ (H : Heap) (locs : List Loc) (ls : Array Slot), va_P D vwCl (wsG 167 (ceC cA q) q res.2) H → va_S (AqG 167 q) s.heap H locs → lv_has ls 10 [(0, .ref (q 0)), (2, .int a2), (3, .ref (q b3)), (4, .int (res.1)), (5, .int b5)] → W p l e ({ frames := 4, cells := 0, slots := 0, locals := 90 } : Room) s m [.ref (q 0), .int a1, .int a2].toArray below meth c H locs 0 0 (MQ below (Qi 167 (ceC cA q) D q r0 M0) [.ref (q 0), .int a1, .int a2].toArray s 0 0 (AqG 167 q)) (F0 m 149 ls [])) → W p l e ({ frames := 4, cells := 0, slots := 0, locals := 90 } : Room) s m [.ref (q 0), .int a1, .int a2].toArray below meth c H locs 0 0 (MQ below (Qi 167 (ceC cA q) D q r0 M0) [.ref (q 0), .int a1, .int a2].toArray s 0 0 (AqG 167 q)) (F0 m 37 ls []) := by
        intro b3 hb3 b5 fu
        induction fu with
        | zero => intro b4 b6 M res H locs ls h; exact absurd h (by simp [f_X11_leastPlan_L37])
        | succ fu ih =>
          intro b4 b6 M res H locs ls h hP hS hl K37_0
          rw [f_X11_leastPlan_L37] at h
          have hJ119 : ∀ (b4 : Int32) (b6 : Int32) (b8 : Int32) (s0 : Int32) (M : Mem) (H : Heap) (locs : List Loc) (ls : Array Slot), f_X11_leastPlan_J119 (f_X11_leastPlan_L37 a2 b3 b5 fu) a2 b3 b4 b5 b6 b8 s0 M = some res → va_P D vwCl (wsG 167 (ceC cA q) q M) H → va_S (AqG 167 q) s.heap H locs → lv_has ls 10 [(0, .ref (q 0)), (2, .int a2), (3, .ref (q b3)), (4, .int b4), (5, .int b5), (6, .int b6), (8, .int b8)] → W p l e ({ frames := 4, cells := 0, slots := 0, locals := 90 } : Room) s m [.ref (q 0), .int a1, .int a2].toArray below meth c H locs 0 0 (MQ below (Qi 167 (ceC cA q) D q r0 M0) [.ref (q 0), .int a1, .int a2].toArray s 0 0 (AqG 167 q)) (F0 m 119 ls [.int s0]) := by
            intro b4 b6 b8 s0 M H locs ls h hP hS hl
            rw [f_X11_leastPlan_J119] at h
            refine lv_istore (lv' := [(9, .int s0), (0, .ref (q 0)), (2, .int a2), (3, .ref (q b3)), (4, .int b4), (5, .int b5), (6, .int b6), (8, .int b8)]) hx hb dX11_leastPlan_119 hl (by decide) rfl (fun ls hl => ?_)
            refine lv_iload hx hb dX11_leastPlan_121 (lv_at hl 0 rfl) ?_
            refine lv_if_eq (tgt := 143) hx hb dX11_leastPlan_123 (by decide) (fun c36 => ?_) (fun c36 => ?_)
            · rw [if_pos c36] at h
              obtain ⟨y37, ey37, h⟩ := lt_inv h
              refine lv_iinc (v := y37) (lv' := [(6, .int y37), (9, .int s0), (0, .ref (q 0)), (2, .int a2), (3, .ref (q b3)), (4, .int b4), (5, .int b5), (8, .int b8)]) hx hb dX11_leastPlan_143 hl (k := 6) rfl (by rw [ey37]; rfl) (by decide) rfl (fun ls hl => ?_)
              refine lv_goto (tgt := 37) hx hb dX11_leastPlan_146 (by decide) ?_
              exact ih _ _ _ res _ _ _ h hP hS (lv_sub hl [2, 3, 4, 5, 6, 0] rfl) K37_0
            · rw [if_neg c36] at h
              refine lv_iload hx hb dX11_leastPlan_126 (lv_at hl 4 rfl) ?_
              refine lv_iconst (v := -1) hx hb dX11_leastPlan_128 (by decide) ?_
              refine lv_icmp_eq (tgt := 139) hx hb dX11_leastPlan_129 (by decide) (fun c38 => ?_) (fun c38 => ?_)
              · rw [if_pos c38] at h
                refine lv_iload hx hb dX11_leastPlan_139 (lv_at hl 7 rfl) ?_
                refine lv_istore (lv' := [(4, .int b8), (9, .int s0), (0, .ref (q 0)), (2, .int a2), (3, .ref (q b3)), (5, .int b5), (6, .int b6), (8, .int b8)]) hx hb dX11_leastPlan_141 hl (by decide) rfl (fun ls hl => ?_)
                obtain ⟨y39, ey39, h⟩ := lt_inv h
                refine lv_iinc (v := y39) (lv' := [(6, .int y39), (4, .int b8), (9, .int s0), (0, .ref (q 0)), (2, .int a2), (3, .ref (q b3)), (5, .int b5), (8, .int b8)]) hx hb dX11_leastPlan_143 hl (k := 6) rfl (by rw [ey39]; rfl) (by decide) rfl (fun ls hl => ?_)
                refine lv_goto (tgt := 37) hx hb dX11_leastPlan_146 (by decide) ?_
                exact ih _ _ _ res _ _ _ h hP hS (lv_sub hl [3, 4, 5, 1, 6, 0] rfl) K37_0
              · rw [if_neg c38] at h
                refine lv_iload hx hb dX11_leastPlan_132 (lv_at hl 7 rfl) ?_
                refine lv_iload hx hb dX11_leastPlan_134 (lv_at hl 4 rfl) ?_
                refine lv_icmp_ge (tgt := 143) hx hb dX11_leastPlan_136 (by decide) (fun c40 => ?_) (fun c40 => ?_)
                · rw [if_pos c40] at h
                  obtain ⟨y41, ey41, h⟩ := lt_inv h
                  refine lv_iinc (v := y41) (lv' := [(6, .int y41), (9, .int s0), (0, .ref (q 0)), (2, .int a2), (3, .ref (q b3)), (4, .int b4), (5, .int b5), (8, .int b8)]) hx hb dX11_leastPlan_143 hl (k := 6) rfl (by rw [ey41]; rfl) (by decide) rfl (fun ls hl => ?_)
                  refine lv_goto (tgt := 37) hx hb dX11_leastPlan_146 (by decide) ?_
                  exact ih _ _ _ res _ _ _ h hP hS (lv_sub hl [2, 3, 4, 5, 6, 0] rfl) K37_0
                · rw [if_neg c40] at h
                  refine lv_iload hx hb dX11_leastPlan_139 (lv_at hl 7 rfl) ?_
                  refine lv_istore (lv' := [(4, .int b8), (9, .int s0), (0, .ref (q 0)), (2, .int a2), (3, .ref (q b3)), (5, .int b5), (6, .int b6), (8, .int b8)]) hx hb dX11_leastPlan_141 hl (by decide) rfl (fun ls hl => ?_)
                  obtain ⟨y42, ey42, h⟩ := lt_inv h
                  refine lv_iinc (v := y42) (lv' := [(6, .int y42), (4, .int b8), (9, .int s0), (0, .ref (q 0)), (2, .int a2), (3, .ref (q b3)), (5, .int b5), (8, .int b8)]) hx hb dX11_leastPlan_143 hl (k := 6) rfl (by rw [ey42]; rfl) (by decide) rfl (fun ls hl => ?_)
                  refine lv_goto (tgt := 37) hx hb dX11_leastPlan_146 (by decide) ?_
                  exact ih _ _ _ res _ _ _ h hP hS (lv_sub hl [3, 4, 5, 1, 6, 0] rfl) K37_0
          refine lv_iload hx hb dX11_leastPlan_37 (lv_at hl 5 rfl) ?_
          refine lv_aload_n hx hb dX11_leastPlan_39 rfl (lv_at hl 0 rfl) ?_
          refine gfC_11_0 X hP sC_0 bw_430 dX11_leastPlan_40 ?_
          obtain ⟨g17, h⟩ := gd_inv h
          have g17 := Decidable.not_not.mp g17
          refine lv_iconst (v := 0) hx hb dX11_leastPlan_43 (by decide) ?_
          obtain ⟨r18, M19, hc20, h⟩ := bnd_inv h
          refine gV_i (As := [.int (0 : Int32)]) X hP hS hl.1 (c_X0_countOf l D cA q aK aV hq g17 hc20) sf_X0_countOf bw_750 sv_X0_countOf (rcC_0 g17) rfl ⟨rfl, rfl⟩ ⟨Nat.le_of_ble_eq_true rfl, Nat.le_of_ble_eq_true rfl⟩ rfl rfl (Nat.le_of_ble_eq_true rfl) dX11_leastPlan_44 (fun H locs hP hS => ?_)
          obtain ⟨r21, M22, hc23, h⟩ := bnd_inv h
          refine gS_i (As := [.int r18]) X hP hS hl.1 (c_X11_setOfAll l D cA q aK aV hq hc23) sf_X11_setOfAll bw_818 ss_X11_setOfAll ⟨rfl, rfl⟩ ⟨Nat.le_of_ble_eq_true rfl, Nat.le_of_ble_eq_true rfl⟩ rfl rfl (Nat.le_of_ble_eq_true rfl) dX11_leastPlan_47 (fun H locs hP hS => ?_)
          refine lv_icmp_gt (tgt := 149) hx hb dX11_leastPlan_50 (by decide) (fun c24 => ?_) (fun c24 => ?_)
          · rw [if_pos c24] at h
            cases h
            exact K37_0 _ _ _ hP hS (lv_sub hl [0, 1, 2, 3, 4] rfl)
          · rw [if_neg c24] at h
            refine lv_iload hx hb dX11_leastPlan_53 (lv_at hl 4 rfl) ?_
            refine lv_iload hx hb dX11_leastPlan_55 (lv_at hl 5 rfl) ?_
            refine lv_aload_n hx hb dX11_leastPlan_57 rfl (lv_at hl 2 rfl) ?_
            refine gfC_5_2 X hP hb3 bw_123 dX11_leastPlan_58 ?_
            refine lv_ixor hx hb dX11_leastPlan_61 ?_
            obtain ⟨r25, M26, hc27, h⟩ := bnd_inv h
            refine gS_i (As := [.int (b6 ^^^ (gI M22 b3 2))]) X hP hS hl.1 (c_J6_bitCount_0f7a4_C l D cA q aK aV hq hc27) sf_J6_bitCount_0f7a4 bw_894 ss_J6_bitCount_0f7a4 ⟨rfl, rfl⟩ ⟨Nat.le_of_ble_eq_true rfl, Nat.le_of_ble_eq_true rfl⟩ rfl rfl (Nat.le_of_ble_eq_true rfl) dX11_leastPlan_62 (fun H locs hP hS => ?_)
            refine lv_iadd hx hb dX11_leastPlan_65 ?_
            obtain ⟨y28, ey28, h⟩ := lt_inv h
            refine topE ey28 ?_
            refine lv_istore (lv' := [(7, .int y28), (0, .ref (q 0)), (2, .int a2), (3, .ref (q b3)), (4, .int b4), (5, .int b5), (6, .int b6)]) hx hb dX11_leastPlan_66 hl (by decide) rfl (fun ls hl => ?_)
            refine lv_iload hx hb dX11_leastPlan_68 (lv_at hl 0 rfl) ?_
            refine lv_bipush (v := 10) hx hb dX11_leastPlan_70 (by decide) ?_
            refine lv_ishl hx hb dX11_leastPlan_72 ?_
            refine lv_iload hx hb dX11_leastPlan_73 (lv_at hl 5 rfl) ?_
            refine lv_iconst (v := 5) hx hb dX11_leastPlan_75 (by decide) ?_
            refine lv_ishl hx hb dX11_leastPlan_76 ?_
            refine lv_ior hx hb dX11_leastPlan_77 ?_
            refine lv_iload hx hb dX11_leastPlan_78 (lv_at hl 6 rfl) ?_
            refine lv_ior hx hb dX11_leastPlan_80 ?_
            obtain ⟨y29, ey29, h⟩ := lt_inv h
            refine topE ey29 ?_
            refine lv_istore (lv' := [(8, .int y29), (7, .int y28), (0, .ref (q 0)), (2, .int a2), (3, .ref (q b3)), (4, .int b4), (5, .int b5), (6, .int b6)]) hx hb dX11_leastPlan_81 hl (by decide) rfl (fun ls hl => ?_)
            refine lv_aload_n hx hb dX11_leastPlan_83 rfl (lv_at hl 2 rfl) ?_
            refine gfC_11_0 X hP sC_0 bw_430 dX11_leastPlan_84 ?_
            obtain ⟨g30, h⟩ := gd_inv h
            have g30 := Decidable.not_not.mp g30
            refine lv_aload_n hx hb dX11_leastPlan_87 rfl (lv_at hl 4 rfl) ?_
            refine gfC_5_0 X hP hb3 bw_114 dX11_leastPlan_88 ?_
            refine lv_aload_n hx hb dX11_leastPlan_91 rfl (lv_at hl 4 rfl) ?_
            refine gfC_5_1 X hP hb3 bw_119 dX11_leastPlan_92 ?_
            refine lv_iload hx hb dX11_leastPlan_95 (lv_at hl 6 rfl) ?_
            refine lv_iadd hx hb dX11_leastPlan_97 ?_
            refine lv_aload_n hx hb dX11_leastPlan_98 rfl (lv_at hl 2 rfl) ?_
            refine gfC_11_0 X hP sC_0 bw_430 dX11_leastPlan_99 ?_
            obtain ⟨g31, h⟩ := gd_inv h
            have g31 := Decidable.not_not.mp g31
            refine gfC_0_12 X hP g31 bw_171 dX11_leastPlan_102 ?_
            refine lv_iload hx hb dX11_leastPlan_105 (lv_at hl 7 rfl) ?_
            obtain ⟨r32, M33, hc34, h⟩ := bnd_inv h
            refine gV_i (As := [.int (gI M26 b3 0), .int ((gI M26 b3 1) + b5), .int (gI M26 (gR M26 0 0) 12), .int b6]) X hP hS hl.1 (c_X0_cueFor l D cA q aK aV hq g30 hc34) sf_X0_cueFor bw_1021 sv_X0_cueFor (rcC_0 g30) rfl ⟨rfl, rfl⟩ ⟨Nat.le_of_ble_eq_true rfl, Nat.le_of_ble_eq_true rfl⟩ rfl rfl (Nat.le_of_ble_eq_true rfl) dX11_leastPlan_107 (fun H locs hP hS => ?_)
            refine lv_iload_n hx hb dX11_leastPlan_110 rfl (lv_at hl 3 rfl) ?_
            refine lv_icmp_ne (tgt := 118) hx hb dX11_leastPlan_111 (by decide) (fun c35 => ?_) (fun c35 => ?_)
            · rw [if_neg c35] at h
              refine lv_iconst (v := 0) hx hb dX11_leastPlan_118 (by decide) ?_
              exact hJ119 _ _ _ _ _ _ _ _ h hP hS (lv_sub hl [2, 3, 4, 5, 6, 7, 0] rfl)
            · rw [if_pos c35] at h
              refine lv_iconst (v := 1) hx hb dX11_leastPlan_114 (by decide) ?_
              refine lv_goto (tgt := 119) hx hb dX11_leastPlan_115 (by decide) ?_
              exact hJ119 _ _ _ _ _ _ _ _ h hP hS (lv_sub hl [2, 3, 4, 5, 6, 7, 0] rfl)
      refine lv_iload hx hb dX11_leastPlan_15 (lv_at hl 4 rfl) ?_
      refine lv_bipush (v := 20) hx hb dX11_leastPlan_17 (by decide) ?_
      refine lv_icmp_gt (tgt := 155) hx hb dX11_leastPlan_19 (by decide) (fun c10 => ?_) (fun c10 => ?_)
      · rw [if_pos c10] at h
        cases h
        exact K15_0 _ _ _ hP hS (lv_sub hl [3] rfl)
      · rw [if_neg c10] at h
        refine lv_aload_n hx hb dX11_leastPlan_22 rfl (lv_at hl 2 rfl) ?_
        refine gfC_5_1 X hP hb3 bw_119 dX11_leastPlan_23 ?_
        refine lv_iload hx hb dX11_leastPlan_26 (lv_at hl 4 rfl) ?_
        refine lv_iadd hx hb dX11_leastPlan_28 ?_
        refine lv_bipush (v := 99) hx hb dX11_leastPlan_29 (by decide) ?_
        refine lv_icmp_gt (tgt := 155) hx hb dX11_leastPlan_31 (by decide) (fun c11 => ?_) (fun c11 => ?_)
        · rw [if_pos c11] at h
          cases h
          exact K15_0 _ _ _ hP hS (lv_sub hl [3] rfl)
        · rw [if_neg c11] at h
          refine lv_iconst (v := 0) hx hb dX11_leastPlan_34 (by decide) ?_
          refine lv_istore (lv' := [(6, .int (0 : Int32)), (0, .ref (q 0)), (2, .int a2), (3, .ref (q b3)), (4, .int b4), (5, .int b5)]) hx hb dX11_leastPlan_35 hl (by decide) rfl (fun ls hl => ?_)
          obtain ⟨s12, M13, hc14, h⟩ := bnd_inv h
          obtain ⟨x15, rfl⟩ : ∃ z, z = s12 := ⟨_, rfl⟩
          try dsimp only at h
          refine hL37 _ hb3 _ fz _ _ _ _ _ _ _ hc14 hP hS (lv_sub hl [1, 2, 3, 4, 5, 0] rfl) (fun H locs ls hP hS hl => ?_)
          have hl : lv_has ls 10 [(0, .ref (q 0)), (2, .int a2), (3, .ref (q b3)), (4, .int x15), (5, .int b5)] := hl
          obtain ⟨y16, ey16, h⟩ := lt_inv h
          refine lv_iinc (v := y16) (lv' := [(5, .int y16), (0, .ref (q 0)), (2, .int a2), (3, .ref (q b3)), (4, .int x15)]) hx hb dX11_leastPlan_149 hl (k := 4) rfl (by rw [ey16]; rfl) (by decide) rfl (fun ls hl => ?_)
          refine lv_goto (tgt := 15) hx hb dX11_leastPlan_152 (by decide) ?_
          exact ih _ _ _ res _ _ _ h hP hS (lv_sub hl [1, 2, 3, 4, 0] rfl) K15_0
  refine lv_aload_n hx hb dX11_leastPlan_0 rfl (lv_at hl 0 rfl) ?_
  refine gfC_11_0 X hP sC_0 bw_430 dX11_leastPlan_1 ?_
  obtain ⟨g1, h⟩ := gd_inv h
  have g1 := Decidable.not_not.mp g1
  refine lv_iload_n hx hb dX11_leastPlan_4 rfl (lv_at hl 1 rfl) ?_
  obtain ⟨r2, M3, hc4, h⟩ := bnd_inv h
  refine gV_r (As := [.int a1]) X hP hS hl.1 (c_X0_personAt l D cA q aK aV hq g1 hc4) sf_X0_personAt bw_852 sv_X0_personAt (rcC_0 g1) rfl ⟨rfl, rfl⟩ ⟨Nat.le_of_ble_eq_true rfl, Nat.le_of_ble_eq_true rfl⟩ rfl rfl (Nat.le_of_ble_eq_true rfl) dX11_leastPlan_5 (fun H locs hP hS => ?_)
  obtain ⟨g5, h⟩ := gd_inv h
  have g5 := Decidable.not_not.mp g5
  refine lv_astore_n (lv' := [(3, .ref (q r2)), (0, .ref (q 0)), (1, .int a1), (2, .int a2)]) hx hb dX11_leastPlan_8 rfl hl (by decide) rfl (fun ls hl => ?_)
  refine lv_iconst (v := -1) hx hb dX11_leastPlan_9 (by decide) ?_
  refine lv_istore (lv' := [(4, .int (-1 : Int32)), (3, .ref (q r2)), (0, .ref (q 0)), (1, .int a1), (2, .int a2)]) hx hb dX11_leastPlan_10 hl (by decide) rfl (fun ls hl => ?_)
  refine lv_iconst (v := 0) hx hb dX11_leastPlan_12 (by decide) ?_
  refine lv_istore (lv' := [(5, .int (0 : Int32)), (4, .int (-1 : Int32)), (3, .ref (q r2)), (0, .ref (q 0)), (1, .int a1), (2, .int a2)]) hx hb dX11_leastPlan_13 hl (by decide) rfl (fun ls hl => ?_)
  obtain ⟨s6, M7, hc8, h⟩ := bnd_inv h
  obtain ⟨x9, rfl⟩ : ∃ z, z = s6 := ⟨_, rfl⟩
  try dsimp only at h
  refine hL15 _ g5 fz _ _ _ _ _ _ _ hc8 hP hS (lv_sub hl [3, 5, 2, 1, 0] rfl) (fun H locs ls hP hS hl => ?_)
  have hl : lv_has ls 10 [(4, .int x9)] := hl
  refine lv_iload hx hb dX11_leastPlan_155 (lv_at hl 0 rfl) ?_
  exact end_i X hr hk hP hS h dX11_leastPlan_157
theorem dX11_least_0 : decode cX11_least 0 = .ok (.aload_n 0, 1) := by decide +kernel
theorem dX11_least_1 : decode cX11_least 1 = .ok (.getfield 10, 3) := by decide +kernel
theorem dX11_least_4 : decode cX11_least 4 = .ok (.iconst 3, 1) := by decide +kernel
theorem dX11_least_5 : decode cX11_least 5 = .ok (.iload_n 1, 1) := by decide +kernel
theorem dX11_least_6 : decode cX11_least 6 = .ok (.invokevirtual 213, 3) := by decide +kernel
theorem dX11_least_9 : decode cX11_least 9 = .ok (.ifCond .eq 15, 3) := by decide +kernel
theorem dX11_least_12 : decode cX11_least 12 = .ok (.aload_n 0, 1) := by decide +kernel
theorem dX11_least_13 : decode cX11_least 13 = .ok (.getfield 10, 3) := by decide +kernel
theorem dX11_least_16 : decode cX11_least 16 = .ok (.iconst 1, 1) := by decide +kernel
theorem dX11_least_17 : decode cX11_least 17 = .ok (.iload_n 2, 1) := by decide +kernel
theorem dX11_least_18 : decode cX11_least 18 = .ok (.invokevirtual 213, 3) := by decide +kernel
theorem dX11_least_21 : decode cX11_least 21 = .ok (.ifCond .ne 9, 3) := by decide +kernel
theorem dX11_least_24 : decode cX11_least 24 = .ok (.aload_n 0, 1) := by decide +kernel
theorem dX11_least_25 : decode cX11_least 25 = .ok (.iconst 1, 1) := by decide +kernel
theorem dX11_least_26 : decode cX11_least 26 = .ok (.invokevirtual 132, 3) := by decide +kernel
theorem dX11_least_29 : decode cX11_least 29 = .ok (.ireturn, 1) := by decide +kernel
theorem dX11_least_30 : decode cX11_least 30 = .ok (.aload_n 0, 1) := by decide +kernel
theorem dX11_least_31 : decode cX11_least 31 = .ok (.iload_n 1, 1) := by decide +kernel
theorem dX11_least_32 : decode cX11_least 32 = .ok (.iload_n 2, 1) := by decide +kernel
theorem dX11_least_33 : decode cX11_least 33 = .ok (.invokevirtual 348, 3) := by decide +kernel
theorem dX11_least_36 : decode cX11_least 36 = .ok (.istore_n 3, 1) := by decide +kernel
theorem dX11_least_37 : decode cX11_least 37 = .ok (.iload_n 3, 1) := by decide +kernel
theorem dX11_least_38 : decode cX11_least 38 = .ok (.iconst (-1), 1) := by decide +kernel
theorem dX11_least_39 : decode cX11_least 39 = .ok (.if_icmp .ne 12, 3) := by decide +kernel
theorem dX11_least_42 : decode cX11_least 42 = .ok (.aload_n 0, 1) := by decide +kernel
theorem dX11_least_43 : decode cX11_least 43 = .ok (.bipush 6, 2) := by decide +kernel
theorem dX11_least_45 : decode cX11_least 45 = .ok (.invokevirtual 132, 3) := by decide +kernel
theorem dX11_least_48 : decode cX11_least 48 = .ok (.goto 11, 3) := by decide +kernel
theorem dX11_least_51 : decode cX11_least 51 = .ok (.aload_n 0, 1) := by decide +kernel
theorem dX11_least_52 : decode cX11_least 52 = .ok (.iload_n 3, 1) := by decide +kernel
theorem dX11_least_53 : decode cX11_least 53 = .ok (.bipush 10, 2) := by decide +kernel
theorem dX11_least_55 : decode cX11_least 55 = .ok (.ishr, 1) := by decide +kernel
theorem dX11_least_56 : decode cX11_least 56 = .ok (.invokevirtual 191, 3) := by decide +kernel
theorem dX11_least_59 : decode cX11_least 59 = .ok (.ireturn, 1) := by decide +kernel
set_option maxRecDepth 100000 in
set_option maxHeartbeats 8000000 in
theorem c_X11_least (l : Launch) (D : va_G) (cA : Nat → ClassId) (q aK aV : Nat → Nat) (hq : injG 167 q) {a1 : Int32} {a2 : Int32} {M M0 : Mem} {r0 : Int32} (h : f_X11_least a1 a2 M = some (r0, M0)) : Met l yX11_least (.code yX11_least cX11_least 4 (some .int) :: BW) ({ frames := 5, cells := 0, slots := 0, locals := 119 } : Room) (va_Pc [.ref (q 0), .int a1, .int a2] (CB 167 (ceC cA q) D cA q aK aV M)) (Qi 167 (ceC cA q) D q r0 M0) 0 0 (AqG 167 q) := by
  refine gMet RX11 (by decide +kernel) rfl hq (Nat.le_of_ble_eq_true rfl) ?_
  intro p e s m below meth c ls X hr hk hP hS hl
  have hx := X.1
  have hb := X.2.1
  have hl : lv_has ls 4 [(0, .ref (q 0)), (1, .int a1), (2, .int a2)] := hl
  rw [f_X11_least] at h
  refine lv_aload_n hx hb dX11_least_0 rfl (lv_at hl 0 rfl) ?_
  refine gfC_11_0 X hP sC_0 bw_430 dX11_least_1 ?_
  obtain ⟨g1, h⟩ := gd_inv h
  have g1 := Decidable.not_not.mp g1
  refine lv_iconst (v := 3) hx hb dX11_least_4 (by decide) ?_
  refine lv_iload_n hx hb dX11_least_5 rfl (lv_at hl 1 rfl) ?_
  obtain ⟨r2, M3, hc4, h⟩ := bnd_inv h
  refine gV_i (As := [.int (3 : Int32), .int a1]) X hP hS hl.1 (c_X0_has l D cA q aK aV hq g1 hc4) sf_X0_has bw_830 sv_X0_has (rcC_0 g1) rfl ⟨rfl, rfl⟩ ⟨Nat.le_of_ble_eq_true rfl, Nat.le_of_ble_eq_true rfl⟩ rfl rfl (Nat.le_of_ble_eq_true rfl) dX11_least_6 (fun H locs hP hS => ?_)
  refine lv_if_eq (tgt := 24) hx hb dX11_least_9 (by decide) (fun c5 => ?_) (fun c5 => ?_)
  · rw [if_pos c5] at h
    refine lv_aload_n hx hb dX11_least_24 rfl (lv_at hl 0 rfl) ?_
    refine lv_iconst (v := 1) hx hb dX11_least_25 (by decide) ?_
    obtain ⟨r6, M7, hc8, h⟩ := bnd_inv h
    refine gV_i (As := [.int (1 : Int32)]) X hP hS hl.1 (c_X11_refused l D cA q aK aV hq hc8) sf_X11_refused bw_552 sv_X11_refused (rcC_11 sC_0) rfl ⟨rfl, rfl⟩ ⟨Nat.le_of_ble_eq_true rfl, Nat.le_of_ble_eq_true rfl⟩ rfl rfl (Nat.le_of_ble_eq_true rfl) dX11_least_26 (fun H locs hP hS => ?_)
    exact end_i X hr hk hP hS h dX11_least_29
  · rw [if_neg c5] at h
    refine lv_aload_n hx hb dX11_least_12 rfl (lv_at hl 0 rfl) ?_
    refine gfC_11_0 X hP sC_0 bw_430 dX11_least_13 ?_
    obtain ⟨g9, h⟩ := gd_inv h
    have g9 := Decidable.not_not.mp g9
    refine lv_iconst (v := 1) hx hb dX11_least_16 (by decide) ?_
    refine lv_iload_n hx hb dX11_least_17 rfl (lv_at hl 2 rfl) ?_
    obtain ⟨r10, M11, hc12, h⟩ := bnd_inv h
    refine gV_i (As := [.int (1 : Int32), .int a2]) X hP hS hl.1 (c_X0_has l D cA q aK aV hq g9 hc12) sf_X0_has bw_830 sv_X0_has (rcC_0 g9) rfl ⟨rfl, rfl⟩ ⟨Nat.le_of_ble_eq_true rfl, Nat.le_of_ble_eq_true rfl⟩ rfl rfl (Nat.le_of_ble_eq_true rfl) dX11_least_18 (fun H locs hP hS => ?_)
    refine lv_if_ne (tgt := 30) hx hb dX11_least_21 (by decide) (fun c13 => ?_) (fun c13 => ?_)
    · rw [if_neg c13] at h
      refine lv_aload_n hx hb dX11_least_30 rfl (lv_at hl 0 rfl) ?_
      refine lv_iload_n hx hb dX11_least_31 rfl (lv_at hl 1 rfl) ?_
      refine lv_iload_n hx hb dX11_least_32 rfl (lv_at hl 2 rfl) ?_
      obtain ⟨r14, M15, hc16, h⟩ := bnd_inv h
      refine gV_i (As := [.int a1, .int a2]) X hP hS hl.1 (c_X11_leastPlan l D cA q aK aV hq hc16) sf_X11_leastPlan bw_1062 sv_X11_leastPlan (rcC_11 sC_0) rfl ⟨rfl, rfl⟩ ⟨Nat.le_of_ble_eq_true rfl, Nat.le_of_ble_eq_true rfl⟩ rfl rfl (Nat.le_of_ble_eq_true rfl) dX11_least_33 (fun H locs hP hS => ?_)
      refine lv_istore_n (lv' := [(3, .int r14), (0, .ref (q 0)), (1, .int a1), (2, .int a2)]) hx hb dX11_least_36 rfl hl (by decide) rfl (fun ls hl => ?_)
      refine lv_iload_n hx hb dX11_least_37 rfl (lv_at hl 0 rfl) ?_
      refine lv_iconst (v := -1) hx hb dX11_least_38 (by decide) ?_
      refine lv_icmp_ne (tgt := 51) hx hb dX11_least_39 (by decide) (fun c17 => ?_) (fun c17 => ?_)
      · rw [if_neg c17] at h
        refine lv_aload_n hx hb dX11_least_51 rfl (lv_at hl 1 rfl) ?_
        refine lv_iload_n hx hb dX11_least_52 rfl (lv_at hl 0 rfl) ?_
        refine lv_bipush (v := 10) hx hb dX11_least_53 (by decide) ?_
        refine lv_ishr hx hb dX11_least_55 ?_
        obtain ⟨r18, M19, hc20, h⟩ := bnd_inv h
        refine gV_i (As := [.int (r14 >>> ((10 : Int32) &&& 31))]) X hP hS hl.1 (c_X11_given l D cA q aK aV hq hc20) sf_X11_given bw_755 sv_X11_given (rcC_11 sC_0) rfl ⟨rfl, rfl⟩ ⟨Nat.le_of_ble_eq_true rfl, Nat.le_of_ble_eq_true rfl⟩ rfl rfl (Nat.le_of_ble_eq_true rfl) dX11_least_56 (fun H locs hP hS => ?_)
        exact end_i X hr hk hP hS h dX11_least_59
      · rw [if_pos c17] at h
        refine lv_aload_n hx hb dX11_least_42 rfl (lv_at hl 1 rfl) ?_
        refine lv_bipush (v := 6) hx hb dX11_least_43 (by decide) ?_
        obtain ⟨r21, M22, hc23, h⟩ := bnd_inv h
        refine gV_i (As := [.int (6 : Int32)]) X hP hS hl.1 (c_X11_refused l D cA q aK aV hq hc23) sf_X11_refused bw_552 sv_X11_refused (rcC_11 sC_0) rfl ⟨rfl, rfl⟩ ⟨Nat.le_of_ble_eq_true rfl, Nat.le_of_ble_eq_true rfl⟩ rfl rfl (Nat.le_of_ble_eq_true rfl) dX11_least_45 (fun H locs hP hS => ?_)
        refine lv_goto (tgt := 59) hx hb dX11_least_48 (by decide) ?_
        exact end_i X hr hk hP hS h dX11_least_59
    · rw [if_pos c13] at h
      refine lv_aload_n hx hb dX11_least_24 rfl (lv_at hl 0 rfl) ?_
      refine lv_iconst (v := 1) hx hb dX11_least_25 (by decide) ?_
      obtain ⟨r24, M25, hc26, h⟩ := bnd_inv h
      refine gV_i (As := [.int (1 : Int32)]) X hP hS hl.1 (c_X11_refused l D cA q aK aV hq hc26) sf_X11_refused bw_552 sv_X11_refused (rcC_11 sC_0) rfl ⟨rfl, rfl⟩ ⟨Nat.le_of_ble_eq_true rfl, Nat.le_of_ble_eq_true rfl⟩ rfl rfl (Nat.le_of_ble_eq_true rfl) dX11_least_26 (fun H locs hP hS => ?_)
      exact end_i X hr hk hP hS h dX11_least_29
theorem dX11_leastBy_0 : decode cX11_leastBy 0 = .ok (.aload_n 0, 1) := by decide +kernel
theorem dX11_leastBy_1 : decode cX11_leastBy 1 = .ok (.getfield 10, 3) := by decide +kernel
theorem dX11_leastBy_4 : decode cX11_leastBy 4 = .ok (.iconst 3, 1) := by decide +kernel
theorem dX11_leastBy_5 : decode cX11_leastBy 5 = .ok (.iload_n 1, 1) := by decide +kernel
theorem dX11_leastBy_6 : decode cX11_leastBy 6 = .ok (.invokevirtual 213, 3) := by decide +kernel
theorem dX11_leastBy_9 : decode cX11_leastBy 9 = .ok (.ifCond .eq 23, 3) := by decide +kernel
theorem dX11_leastBy_12 : decode cX11_leastBy 12 = .ok (.aload_n 0, 1) := by decide +kernel
theorem dX11_leastBy_13 : decode cX11_leastBy 13 = .ok (.getfield 10, 3) := by decide +kernel
theorem dX11_leastBy_16 : decode cX11_leastBy 16 = .ok (.iconst 1, 1) := by decide +kernel
theorem dX11_leastBy_17 : decode cX11_leastBy 17 = .ok (.iload_n 2, 1) := by decide +kernel
theorem dX11_leastBy_18 : decode cX11_leastBy 18 = .ok (.invokevirtual 213, 3) := by decide +kernel
theorem dX11_leastBy_21 : decode cX11_leastBy 21 = .ok (.ifCond .eq 11, 3) := by decide +kernel
theorem dX11_leastBy_24 : decode cX11_leastBy 24 = .ok (.iload_n 3, 1) := by decide +kernel
theorem dX11_leastBy_25 : decode cX11_leastBy 25 = .ok (.iconst 2, 1) := by decide +kernel
theorem dX11_leastBy_26 : decode cX11_leastBy 26 = .ok (.invokestatic 104, 3) := by decide +kernel
theorem dX11_leastBy_29 : decode cX11_leastBy 29 = .ok (.ifCond .ne 9, 3) := by decide +kernel
theorem dX11_leastBy_32 : decode cX11_leastBy 32 = .ok (.aload_n 0, 1) := by decide +kernel
theorem dX11_leastBy_33 : decode cX11_leastBy 33 = .ok (.iconst 1, 1) := by decide +kernel
theorem dX11_leastBy_34 : decode cX11_leastBy 34 = .ok (.invokevirtual 132, 3) := by decide +kernel
theorem dX11_leastBy_37 : decode cX11_leastBy 37 = .ok (.ireturn, 1) := by decide +kernel
theorem dX11_leastBy_38 : decode cX11_leastBy 38 = .ok (.aload_n 0, 1) := by decide +kernel
theorem dX11_leastBy_39 : decode cX11_leastBy 39 = .ok (.iload_n 1, 1) := by decide +kernel
theorem dX11_leastBy_40 : decode cX11_leastBy 40 = .ok (.iload_n 2, 1) := by decide +kernel
theorem dX11_leastBy_41 : decode cX11_leastBy 41 = .ok (.invokevirtual 348, 3) := by decide +kernel
theorem dX11_leastBy_44 : decode cX11_leastBy 44 = .ok (.istore 4, 2) := by decide +kernel
theorem dX11_leastBy_46 : decode cX11_leastBy 46 = .ok (.iload 4, 2) := by decide +kernel
theorem dX11_leastBy_48 : decode cX11_leastBy 48 = .ok (.iconst (-1), 1) := by decide +kernel
theorem dX11_leastBy_49 : decode cX11_leastBy 49 = .ok (.if_icmp .ne 10, 3) := by decide +kernel
theorem dX11_leastBy_52 : decode cX11_leastBy 52 = .ok (.aload_n 0, 1) := by decide +kernel
theorem dX11_leastBy_53 : decode cX11_leastBy 53 = .ok (.bipush 6, 2) := by decide +kernel
theorem dX11_leastBy_55 : decode cX11_leastBy 55 = .ok (.invokevirtual 132, 3) := by decide +kernel
theorem dX11_leastBy_58 : decode cX11_leastBy 58 = .ok (.ireturn, 1) := by decide +kernel
theorem dX11_leastBy_59 : decode cX11_leastBy 59 = .ok (.aload_n 0, 1) := by decide +kernel
theorem dX11_leastBy_60 : decode cX11_leastBy 60 = .ok (.iload_n 3, 1) := by decide +kernel
theorem dX11_leastBy_61 : decode cX11_leastBy 61 = .ok (.ifCond .ne 13, 3) := by decide +kernel
theorem dX11_leastBy_64 : decode cX11_leastBy 64 = .ok (.iload 4, 2) := by decide +kernel
theorem dX11_leastBy_66 : decode cX11_leastBy 66 = .ok (.iconst 5, 1) := by decide +kernel
theorem dX11_leastBy_67 : decode cX11_leastBy 67 = .ok (.ishr, 1) := by decide +kernel
theorem dX11_leastBy_68 : decode cX11_leastBy 68 = .ok (.bipush 31, 2) := by decide +kernel
theorem dX11_leastBy_70 : decode cX11_leastBy 70 = .ok (.iand, 1) := by decide +kernel
theorem dX11_leastBy_71 : decode cX11_leastBy 71 = .ok (.goto 8, 3) := by decide +kernel
theorem dX11_leastBy_74 : decode cX11_leastBy 74 = .ok (.iload 4, 2) := by decide +kernel
theorem dX11_leastBy_76 : decode cX11_leastBy 76 = .ok (.bipush 31, 2) := by decide +kernel
theorem dX11_leastBy_78 : decode cX11_leastBy 78 = .ok (.iand, 1) := by decide +kernel
theorem dX11_leastBy_79 : decode cX11_leastBy 79 = .ok (.invokevirtual 191, 3) := by decide +kernel
theorem dX11_leastBy_82 : decode cX11_leastBy 82 = .ok (.ireturn, 1) := by decide +kernel
set_option maxRecDepth 100000 in
set_option maxHeartbeats 8000000 in
theorem c_X11_leastBy (l : Launch) (D : va_G) (cA : Nat → ClassId) (q aK aV : Nat → Nat) (hq : injG 167 q) {a1 : Int32} {a2 : Int32} {a3 : Int32} {M M0 : Mem} {r0 : Int32} (h : f_X11_leastBy a1 a2 a3 M = some (r0, M0)) : Met l yX11_leastBy (.code yX11_leastBy cX11_leastBy 5 (some .int) :: BW) ({ frames := 5, cells := 0, slots := 0, locals := 119 } : Room) (va_Pc [.ref (q 0), .int a1, .int a2, .int a3] (CB 167 (ceC cA q) D cA q aK aV M)) (Qi 167 (ceC cA q) D q r0 M0) 0 0 (AqG 167 q) := by
  refine gMet RX11 (by decide +kernel) rfl hq (Nat.le_of_ble_eq_true rfl) ?_
  intro p e s m below meth c ls X hr hk hP hS hl
  have hx := X.1
  have hb := X.2.1
  have hl : lv_has ls 5 [(0, .ref (q 0)), (1, .int a1), (2, .int a2), (3, .int a3)] := hl
  rw [f_X11_leastBy] at h
  refine lv_aload_n hx hb dX11_leastBy_0 rfl (lv_at hl 0 rfl) ?_
  refine gfC_11_0 X hP sC_0 bw_430 dX11_leastBy_1 ?_
  obtain ⟨g1, h⟩ := gd_inv h
  have g1 := Decidable.not_not.mp g1
  refine lv_iconst (v := 3) hx hb dX11_leastBy_4 (by decide) ?_
  refine lv_iload_n hx hb dX11_leastBy_5 rfl (lv_at hl 1 rfl) ?_
  obtain ⟨r2, M3, hc4, h⟩ := bnd_inv h
  refine gV_i (As := [.int (3 : Int32), .int a1]) X hP hS hl.1 (c_X0_has l D cA q aK aV hq g1 hc4) sf_X0_has bw_830 sv_X0_has (rcC_0 g1) rfl ⟨rfl, rfl⟩ ⟨Nat.le_of_ble_eq_true rfl, Nat.le_of_ble_eq_true rfl⟩ rfl rfl (Nat.le_of_ble_eq_true rfl) dX11_leastBy_6 (fun H locs hP hS => ?_)
  refine lv_if_eq (tgt := 32) hx hb dX11_leastBy_9 (by decide) (fun c5 => ?_) (fun c5 => ?_)
  · rw [if_pos c5] at h
    refine lv_aload_n hx hb dX11_leastBy_32 rfl (lv_at hl 0 rfl) ?_
    refine lv_iconst (v := 1) hx hb dX11_leastBy_33 (by decide) ?_
    obtain ⟨r6, M7, hc8, h⟩ := bnd_inv h
    refine gV_i (As := [.int (1 : Int32)]) X hP hS hl.1 (c_X11_refused l D cA q aK aV hq hc8) sf_X11_refused bw_552 sv_X11_refused (rcC_11 sC_0) rfl ⟨rfl, rfl⟩ ⟨Nat.le_of_ble_eq_true rfl, Nat.le_of_ble_eq_true rfl⟩ rfl rfl (Nat.le_of_ble_eq_true rfl) dX11_leastBy_34 (fun H locs hP hS => ?_)
    exact end_i X hr hk hP hS h dX11_leastBy_37
  · rw [if_neg c5] at h
    refine lv_aload_n hx hb dX11_leastBy_12 rfl (lv_at hl 0 rfl) ?_
    refine gfC_11_0 X hP sC_0 bw_430 dX11_leastBy_13 ?_
    obtain ⟨g9, h⟩ := gd_inv h
    have g9 := Decidable.not_not.mp g9
    refine lv_iconst (v := 1) hx hb dX11_leastBy_16 (by decide) ?_
    refine lv_iload_n hx hb dX11_leastBy_17 rfl (lv_at hl 2 rfl) ?_
    obtain ⟨r10, M11, hc12, h⟩ := bnd_inv h
    refine gV_i (As := [.int (1 : Int32), .int a2]) X hP hS hl.1 (c_X0_has l D cA q aK aV hq g9 hc12) sf_X0_has bw_830 sv_X0_has (rcC_0 g9) rfl ⟨rfl, rfl⟩ ⟨Nat.le_of_ble_eq_true rfl, Nat.le_of_ble_eq_true rfl⟩ rfl rfl (Nat.le_of_ble_eq_true rfl) dX11_leastBy_18 (fun H locs hP hS => ?_)
    refine lv_if_eq (tgt := 32) hx hb dX11_leastBy_21 (by decide) (fun c13 => ?_) (fun c13 => ?_)
    · rw [if_pos c13] at h
      refine lv_aload_n hx hb dX11_leastBy_32 rfl (lv_at hl 0 rfl) ?_
      refine lv_iconst (v := 1) hx hb dX11_leastBy_33 (by decide) ?_
      obtain ⟨r14, M15, hc16, h⟩ := bnd_inv h
      refine gV_i (As := [.int (1 : Int32)]) X hP hS hl.1 (c_X11_refused l D cA q aK aV hq hc16) sf_X11_refused bw_552 sv_X11_refused (rcC_11 sC_0) rfl ⟨rfl, rfl⟩ ⟨Nat.le_of_ble_eq_true rfl, Nat.le_of_ble_eq_true rfl⟩ rfl rfl (Nat.le_of_ble_eq_true rfl) dX11_leastBy_34 (fun H locs hP hS => ?_)
      exact end_i X hr hk hP hS h dX11_leastBy_37
    · rw [if_neg c13] at h
      refine lv_iload_n hx hb dX11_leastBy_24 rfl (lv_at hl 3 rfl) ?_
      refine lv_iconst (v := 2) hx hb dX11_leastBy_25 (by decide) ?_
      obtain ⟨r17, M18, hc19, h⟩ := bnd_inv h
      refine gS_i (As := [.int a3, .int (2 : Int32)]) X hP hS hl.1 (c_X11_within l D cA q aK aV hq hc19) sf_X11_within bw_504 ss_X11_within ⟨rfl, rfl⟩ ⟨Nat.le_of_ble_eq_true rfl, Nat.le_of_ble_eq_true rfl⟩ rfl rfl (Nat.le_of_ble_eq_true rfl) dX11_leastBy_26 (fun H locs hP hS => ?_)
      refine lv_if_ne (tgt := 38) hx hb dX11_leastBy_29 (by decide) (fun c20 => ?_) (fun c20 => ?_)
      · rw [if_neg c20] at h
        refine lv_aload_n hx hb dX11_leastBy_38 rfl (lv_at hl 0 rfl) ?_
        refine lv_iload_n hx hb dX11_leastBy_39 rfl (lv_at hl 1 rfl) ?_
        refine lv_iload_n hx hb dX11_leastBy_40 rfl (lv_at hl 2 rfl) ?_
        obtain ⟨r21, M22, hc23, h⟩ := bnd_inv h
        refine gV_i (As := [.int a1, .int a2]) X hP hS hl.1 (c_X11_leastPlan l D cA q aK aV hq hc23) sf_X11_leastPlan bw_1062 sv_X11_leastPlan (rcC_11 sC_0) rfl ⟨rfl, rfl⟩ ⟨Nat.le_of_ble_eq_true rfl, Nat.le_of_ble_eq_true rfl⟩ rfl rfl (Nat.le_of_ble_eq_true rfl) dX11_leastBy_41 (fun H locs hP hS => ?_)
        refine lv_istore (lv' := [(4, .int r21), (0, .ref (q 0)), (1, .int a1), (2, .int a2), (3, .int a3)]) hx hb dX11_leastBy_44 hl (by decide) rfl (fun ls hl => ?_)
        refine lv_iload hx hb dX11_leastBy_46 (lv_at hl 0 rfl) ?_
        refine lv_iconst (v := -1) hx hb dX11_leastBy_48 (by decide) ?_
        refine lv_icmp_ne (tgt := 59) hx hb dX11_leastBy_49 (by decide) (fun c24 => ?_) (fun c24 => ?_)
        · rw [if_neg c24] at h
          refine lv_aload_n hx hb dX11_leastBy_59 rfl (lv_at hl 1 rfl) ?_
          refine lv_iload_n hx hb dX11_leastBy_60 rfl (lv_at hl 4 rfl) ?_
          refine lv_if_ne (tgt := 74) hx hb dX11_leastBy_61 (by decide) (fun c25 => ?_) (fun c25 => ?_)
          · rw [if_neg c25] at h
            refine lv_iload hx hb dX11_leastBy_74 (lv_at hl 0 rfl) ?_
            refine lv_bipush (v := 31) hx hb dX11_leastBy_76 (by decide) ?_
            refine lv_iand hx hb dX11_leastBy_78 ?_
            obtain ⟨r26, M27, hc28, h⟩ := bnd_inv h
            refine gV_i (As := [.int (r21 &&& (31 : Int32))]) X hP hS hl.1 (c_X11_given l D cA q aK aV hq hc28) sf_X11_given bw_755 sv_X11_given (rcC_11 sC_0) rfl ⟨rfl, rfl⟩ ⟨Nat.le_of_ble_eq_true rfl, Nat.le_of_ble_eq_true rfl⟩ rfl rfl (Nat.le_of_ble_eq_true rfl) dX11_leastBy_79 (fun H locs hP hS => ?_)
            exact end_i X hr hk hP hS h dX11_leastBy_82
          · rw [if_pos c25] at h
            refine lv_iload hx hb dX11_leastBy_64 (lv_at hl 0 rfl) ?_
            refine lv_iconst (v := 5) hx hb dX11_leastBy_66 (by decide) ?_
            refine lv_ishr hx hb dX11_leastBy_67 ?_
            refine lv_bipush (v := 31) hx hb dX11_leastBy_68 (by decide) ?_
            refine lv_iand hx hb dX11_leastBy_70 ?_
            refine lv_goto (tgt := 79) hx hb dX11_leastBy_71 (by decide) ?_
            obtain ⟨r29, M30, hc31, h⟩ := bnd_inv h
            refine gV_i (As := [.int ((r21 >>> ((5 : Int32) &&& 31)) &&& (31 : Int32))]) X hP hS hl.1 (c_X11_given l D cA q aK aV hq hc31) sf_X11_given bw_755 sv_X11_given (rcC_11 sC_0) rfl ⟨rfl, rfl⟩ ⟨Nat.le_of_ble_eq_true rfl, Nat.le_of_ble_eq_true rfl⟩ rfl rfl (Nat.le_of_ble_eq_true rfl) dX11_leastBy_79 (fun H locs hP hS => ?_)
            exact end_i X hr hk hP hS h dX11_leastBy_82
        · rw [if_pos c24] at h
          refine lv_aload_n hx hb dX11_leastBy_52 rfl (lv_at hl 1 rfl) ?_
          refine lv_bipush (v := 6) hx hb dX11_leastBy_53 (by decide) ?_
          obtain ⟨r32, M33, hc34, h⟩ := bnd_inv h
          refine gV_i (As := [.int (6 : Int32)]) X hP hS hl.1 (c_X11_refused l D cA q aK aV hq hc34) sf_X11_refused bw_552 sv_X11_refused (rcC_11 sC_0) rfl ⟨rfl, rfl⟩ ⟨Nat.le_of_ble_eq_true rfl, Nat.le_of_ble_eq_true rfl⟩ rfl rfl (Nat.le_of_ble_eq_true rfl) dX11_leastBy_55 (fun H locs hP hS => ?_)
          exact end_i X hr hk hP hS h dX11_leastBy_58
      · rw [if_pos c20] at h
        refine lv_aload_n hx hb dX11_leastBy_32 rfl (lv_at hl 0 rfl) ?_
        refine lv_iconst (v := 1) hx hb dX11_leastBy_33 (by decide) ?_
        obtain ⟨r35, M36, hc37, h⟩ := bnd_inv h
        refine gV_i (As := [.int (1 : Int32)]) X hP hS hl.1 (c_X11_refused l D cA q aK aV hq hc37) sf_X11_refused bw_552 sv_X11_refused (rcC_11 sC_0) rfl ⟨rfl, rfl⟩ ⟨Nat.le_of_ble_eq_true rfl, Nat.le_of_ble_eq_true rfl⟩ rfl rfl (Nat.le_of_ble_eq_true rfl) dX11_leastBy_34 (fun H locs hP hS => ?_)
        exact end_i X hr hk hP hS h dX11_leastBy_37
theorem dX10_countSmells_0 : decode cX10_countSmells 0 = .ok (.iconst 1, 1) := by decide +kernel
theorem dX10_countSmells_1 : decode cX10_countSmells 1 = .ok (.aload_n 1, 1) := by decide +kernel
theorem dX10_countSmells_2 : decode cX10_countSmells 2 = .ok (.iconst 0, 1) := by decide +kernel
theorem dX10_countSmells_3 : decode cX10_countSmells 3 = .ok (.invokevirtual 30, 3) := by decide +kernel
theorem dX10_countSmells_6 : decode cX10_countSmells 6 = .ok (.ishl, 1) := by decide +kernel
theorem dX10_countSmells_7 : decode cX10_countSmells 7 = .ok (.istore 5, 2) := by decide +kernel
theorem dX10_countSmells_9 : decode cX10_countSmells 9 = .ok (.iconst 0, 1) := by decide +kernel
theorem dX10_countSmells_10 : decode cX10_countSmells 10 = .ok (.istore 6, 2) := by decide +kernel
theorem dX10_countSmells_12 : decode cX10_countSmells 12 = .ok (.iconst 0, 1) := by decide +kernel
theorem dX10_countSmells_13 : decode cX10_countSmells 13 = .ok (.istore 7, 2) := by decide +kernel
theorem dX10_countSmells_15 : decode cX10_countSmells 15 = .ok (.iload 7, 2) := by decide +kernel
theorem dX10_countSmells_17 : decode cX10_countSmells 17 = .ok (.aload_n 1, 1) := by decide +kernel
theorem dX10_countSmells_18 : decode cX10_countSmells 18 = .ok (.iconst 2, 1) := by decide +kernel
theorem dX10_countSmells_19 : decode cX10_countSmells 19 = .ok (.invokevirtual 30, 3) := by decide +kernel
theorem dX10_countSmells_22 : decode cX10_countSmells 22 = .ok (.if_icmp .ge 173, 3) := by decide +kernel
theorem dX10_countSmells_25 : decode cX10_countSmells 25 = .ok (.iload 5, 2) := by decide +kernel
theorem dX10_countSmells_27 : decode cX10_countSmells 27 = .ok (.ifCond .le 168, 3) := by decide +kernel
theorem dX10_countSmells_30 : decode cX10_countSmells 30 = .ok (.aload_n 1, 1) := by decide +kernel
theorem dX10_countSmells_31 : decode cX10_countSmells 31 = .ok (.iload 7, 2) := by decide +kernel
theorem dX10_countSmells_33 : decode cX10_countSmells 33 = .ok (.invokevirtual 36, 3) := by decide +kernel
theorem dX10_countSmells_36 : decode cX10_countSmells 36 = .ok (.astore 8, 2) := by decide +kernel
theorem dX10_countSmells_38 : decode cX10_countSmells 38 = .ok (.aload 8, 2) := by decide +kernel
theorem dX10_countSmells_40 : decode cX10_countSmells 40 = .ok (.getfield 40, 3) := by decide +kernel
theorem dX10_countSmells_43 : decode cX10_countSmells 43 = .ok (.iconst (-1), 1) := by decide +kernel
theorem dX10_countSmells_44 : decode cX10_countSmells 44 = .ok (.if_icmp .eq 16, 3) := by decide +kernel
theorem dX10_countSmells_47 : decode cX10_countSmells 47 = .ok (.iload 6, 2) := by decide +kernel
theorem dX10_countSmells_49 : decode cX10_countSmells 49 = .ok (.aload 8, 2) := by decide +kernel
theorem dX10_countSmells_51 : decode cX10_countSmells 51 = .ok (.getfield 40, 3) := by decide +kernel
theorem dX10_countSmells_54 : decode cX10_countSmells 54 = .ok (.invokestatic 45, 3) := by decide +kernel
theorem dX10_countSmells_57 : decode cX10_countSmells 57 = .ok (.ifCond .ne 7, 3) := by decide +kernel
theorem dX10_countSmells_60 : decode cX10_countSmells 60 = .ok (.iconst 1, 1) := by decide +kernel
theorem dX10_countSmells_61 : decode cX10_countSmells 61 = .ok (.goto 4, 3) := by decide +kernel
theorem dX10_countSmells_64 : decode cX10_countSmells 64 = .ok (.iconst 0, 1) := by decide +kernel
theorem dX10_countSmells_65 : decode cX10_countSmells 65 = .ok (.istore 9, 2) := by decide +kernel
theorem dX10_countSmells_67 : decode cX10_countSmells 67 = .ok (.iload 9, 2) := by decide +kernel
theorem dX10_countSmells_69 : decode cX10_countSmells 69 = .ok (.ifCond .eq 120, 3) := by decide +kernel
theorem dX10_countSmells_72 : decode cX10_countSmells 72 = .ok (.aload 8, 2) := by decide +kernel
theorem dX10_countSmells_74 : decode cX10_countSmells 74 = .ok (.iload_n 2, 1) := by decide +kernel
theorem dX10_countSmells_75 : decode cX10_countSmells 75 = .ok (.iload_n 3, 1) := by decide +kernel
theorem dX10_countSmells_76 : decode cX10_countSmells 76 = .ok (.iload 4, 2) := by decide +kernel
theorem dX10_countSmells_78 : decode cX10_countSmells 78 = .ok (.bipush 31, 2) := by decide +kernel
theorem dX10_countSmells_80 : decode cX10_countSmells 80 = .ok (.invokevirtual 49, 3) := by decide +kernel
theorem dX10_countSmells_83 : decode cX10_countSmells 83 = .ok (.ifCond .eq 106, 3) := by decide +kernel
theorem dX10_countSmells_86 : decode cX10_countSmells 86 = .ok (.aload 8, 2) := by decide +kernel
theorem dX10_countSmells_88 : decode cX10_countSmells 88 = .ok (.getfield 40, 3) := by decide +kernel
theorem dX10_countSmells_91 : decode cX10_countSmells 91 = .ok (.iconst (-1), 1) := by decide +kernel
theorem dX10_countSmells_92 : decode cX10_countSmells 92 = .ok (.if_icmp .ne 8, 3) := by decide +kernel
theorem dX10_countSmells_95 : decode cX10_countSmells 95 = .ok (.iload 5, 2) := by decide +kernel
theorem dX10_countSmells_97 : decode cX10_countSmells 97 = .ok (.goto 7, 3) := by decide +kernel
theorem dX10_countSmells_100 : decode cX10_countSmells 100 = .ok (.iload 5, 2) := by decide +kernel
theorem dX10_countSmells_102 : decode cX10_countSmells 102 = .ok (.iconst 2, 1) := by decide +kernel
theorem dX10_countSmells_103 : decode cX10_countSmells 103 = .ok (.idiv, 1) := by decide +kernel
theorem dX10_countSmells_104 : decode cX10_countSmells 104 = .ok (.istore 10, 2) := by decide +kernel
theorem dX10_countSmells_106 : decode cX10_countSmells 106 = .ok (.iload 6, 2) := by decide +kernel
theorem dX10_countSmells_108 : decode cX10_countSmells 108 = .ok (.aload 8, 2) := by decide +kernel
theorem dX10_countSmells_110 : decode cX10_countSmells 110 = .ok (.getfield 40, 3) := by decide +kernel
theorem dX10_countSmells_113 : decode cX10_countSmells 113 = .ok (.iconst (-1), 1) := by decide +kernel
theorem dX10_countSmells_114 : decode cX10_countSmells 114 = .ok (.if_icmp .ne 7, 3) := by decide +kernel
theorem dX10_countSmells_117 : decode cX10_countSmells 117 = .ok (.iconst 0, 1) := by decide +kernel
theorem dX10_countSmells_118 : decode cX10_countSmells 118 = .ok (.goto 10, 3) := by decide +kernel
theorem dX10_countSmells_121 : decode cX10_countSmells 121 = .ok (.iconst 1, 1) := by decide +kernel
theorem dX10_countSmells_122 : decode cX10_countSmells 122 = .ok (.aload 8, 2) := by decide +kernel
theorem dX10_countSmells_124 : decode cX10_countSmells 124 = .ok (.getfield 40, 3) := by decide +kernel
theorem dX10_countSmells_127 : decode cX10_countSmells 127 = .ok (.ishl, 1) := by decide +kernel
theorem dX10_countSmells_128 : decode cX10_countSmells 128 = .ok (.ior, 1) := by decide +kernel
theorem dX10_countSmells_129 : decode cX10_countSmells 129 = .ok (.istore 6, 2) := by decide +kernel
theorem dX10_countSmells_131 : decode cX10_countSmells 131 = .ok (.iload 5, 2) := by decide +kernel
theorem dX10_countSmells_133 : decode cX10_countSmells 133 = .ok (.iload 10, 2) := by decide +kernel
theorem dX10_countSmells_135 : decode cX10_countSmells 135 = .ok (.isub, 1) := by decide +kernel
theorem dX10_countSmells_136 : decode cX10_countSmells 136 = .ok (.istore 5, 2) := by decide +kernel
theorem dX10_countSmells_138 : decode cX10_countSmells 138 = .ok (.aload_n 0, 1) := by decide +kernel
theorem dX10_countSmells_139 : decode cX10_countSmells 139 = .ok (.getfield 9, 3) := by decide +kernel
theorem dX10_countSmells_142 : decode cX10_countSmells 142 = .ok (.iload 7, 2) := by decide +kernel
theorem dX10_countSmells_144 : decode cX10_countSmells 144 = .ok (.aload_n 0, 1) := by decide +kernel
theorem dX10_countSmells_145 : decode cX10_countSmells 145 = .ok (.getfield 9, 3) := by decide +kernel
theorem dX10_countSmells_148 : decode cX10_countSmells 148 = .ok (.iload 7, 2) := by decide +kernel
theorem dX10_countSmells_150 : decode cX10_countSmells 150 = .ok (.invokestatic 53, 3) := by decide +kernel
theorem dX10_countSmells_153 : decode cX10_countSmells 153 = .ok (.iload 10, 2) := by decide +kernel
theorem dX10_countSmells_155 : decode cX10_countSmells 155 = .ok (.iadd, 1) := by decide +kernel
theorem dX10_countSmells_156 : decode cX10_countSmells 156 = .ok (.invokestatic 22, 3) := by decide +kernel
theorem dX10_countSmells_159 : decode cX10_countSmells 159 = .ok (.aload_n 0, 1) := by decide +kernel
theorem dX10_countSmells_160 : decode cX10_countSmells 160 = .ok (.getfield 15, 3) := by decide +kernel
theorem dX10_countSmells_163 : decode cX10_countSmells 163 = .ok (.iload 7, 2) := by decide +kernel
theorem dX10_countSmells_165 : decode cX10_countSmells 165 = .ok (.aload_n 0, 1) := by decide +kernel
theorem dX10_countSmells_166 : decode cX10_countSmells 166 = .ok (.getfield 15, 3) := by decide +kernel
theorem dX10_countSmells_169 : decode cX10_countSmells 169 = .ok (.iload 7, 2) := by decide +kernel
theorem dX10_countSmells_171 : decode cX10_countSmells 171 = .ok (.invokestatic 53, 3) := by decide +kernel
theorem dX10_countSmells_174 : decode cX10_countSmells 174 = .ok (.iload_n 2, 1) := by decide +kernel
theorem dX10_countSmells_175 : decode cX10_countSmells 175 = .ok (.iconst 1, 1) := by decide +kernel
theorem dX10_countSmells_176 : decode cX10_countSmells 176 = .ok (.if_icmp .ne 8, 3) := by decide +kernel
theorem dX10_countSmells_179 : decode cX10_countSmells 179 = .ok (.iload 10, 2) := by decide +kernel
theorem dX10_countSmells_181 : decode cX10_countSmells 181 = .ok (.goto 4, 3) := by decide +kernel
theorem dX10_countSmells_184 : decode cX10_countSmells 184 = .ok (.iconst 0, 1) := by decide +kernel
theorem dX10_countSmells_185 : decode cX10_countSmells 185 = .ok (.iadd, 1) := by decide +kernel
theorem dX10_countSmells_186 : decode cX10_countSmells 186 = .ok (.invokestatic 22, 3) := by decide +kernel
theorem dX10_countSmells_189 : decode cX10_countSmells 189 = .ok (.iinc 7 1, 3) := by decide +kernel
theorem dX10_countSmells_192 : decode cX10_countSmells 192 = .ok (.goto (-177), 3) := by decide +kernel
theorem dX10_countSmells_195 : decode cX10_countSmells 195 = .ok (.aload_n 0, 1) := by decide +kernel
theorem dX10_countSmells_196 : decode cX10_countSmells 196 = .ok (.dup, 1) := by decide +kernel
theorem dX10_countSmells_197 : decode cX10_countSmells 197 = .ok (.getfield 18, 3) := by decide +kernel
theorem dX10_countSmells_200 : decode cX10_countSmells 200 = .ok (.iload 5, 2) := by decide +kernel
theorem dX10_countSmells_202 : decode cX10_countSmells 202 = .ok (.iadd, 1) := by decide +kernel
theorem dX10_countSmells_203 : decode cX10_countSmells 203 = .ok (.putfield 18, 3) := by decide +kernel
theorem dX10_countSmells_206 : decode cX10_countSmells 206 = .ok (.return_, 1) := by decide +kernel
set_option maxRecDepth 100000 in
set_option maxHeartbeats 8000000 in
theorem c_X10_countSmells (l : Launch) (D : va_G) (cA : Nat → ClassId) (q aK aV : Nat → Nat) (hq : injG 167 q) {a1 : Nat} {a2 : Int32} {a3 : Int32} {a4 : Int32} {M M0 : Mem} (h1 : shC a1 = 0) (h : f_X10_countSmells a1 a2 a3 a4 M = some ((), M0)) : Met l yX10_countSmells (.code yX10_countSmells cX10_countSmells 11 none :: BW) ({ frames := 2, cells := 0, slots := 0, locals := 40 } : Room) (va_Pc [.ref (q 18), .ref (q a1), .int a2, .int a3, .int a4] (CB 167 (ceC cA q) D cA q aK aV M)) (Qv 167 (ceC cA q) D q M0) 0 0 (AqG 167 q) := by
  refine gMet RX10 (by decide +kernel) rfl hq (Nat.le_of_ble_eq_true rfl) ?_
  intro p e s m below meth c ls X hr hk hP hS hl
  have hx := X.1
  have hb := X.2.1
  have hl : lv_has ls 11 [(0, .ref (q 18)), (1, .ref (q a1)), (2, .int a2), (3, .int a3), (4, .int a4)] := hl
  rw [f_X10_countSmells] at h
  have hL15 : ∀ (fu : Nat) (b5 : Int32) (b6 : Int32) (b7 : Int32) (M : Mem) (res : (Int32) × Mem) (H : Heap) (locs : List Loc) (ls : Array Slot), f_X10_countSmells_L15 a1 a2 a3 a4 fu b5 b6 b7 M = some res → va_P D vwCl (wsG 167 (ceC cA q) q M) H → va_S (AqG 167 q) s.heap H locs → lv_has ls 11 [(0, .ref (q 18)), (1, .ref (q a1)), (2, .int a2), (3, .int a3), (4, .int a4), (5, .int b5), (6, .int b6), (7, .int b7)] → (∀ (H : Heap) (locs : List Loc) (ls : Array Slot), va_P D vwCl (wsG 167 (ceC cA q) q res.2) H → va_S (AqG 167 q) s.heap H locs → lv_has ls 11 [(0, .ref (q 18)), (5, .int (res.1))] → W p l e ({ frames := 2, cells := 0, slots := 0, locals := 40 } : Room) s m [.ref (q 18), .ref (q a1), .int a2, .int a3, .int a4].toArray below meth c H locs 0 0 (MQ below (Qv 167 (ceC cA q) D q M0) [.ref (q 18), .ref (q a1), .int a2, .int a3, .int a4].toArray s 0 0 (AqG 167 q)) (F0 m 195 ls [])) → W p l e ({ frames := 2, cells := 0, slots := 0, locals := 40 } : Room) s m [.ref (q 18), .ref (q a1), .int a2, .int a3, .int a4].toArray below meth c H locs 0 0 (MQ below (Qv 167 (ceC cA q) D q M0) [.ref (q 18), .ref (q a1), .int a2, .int a3, .int a4].toArray s 0 0 (AqG 167 q)) (F0 m 15 ls []) := by
    intro fu
    induction fu with
    | zero => intro b5 b6 b7 M res H locs ls h; exact absurd h (by simp [f_X10_countSmells_L15])
    | succ fu ih =>
      intro b5 b6 b7 M res H locs ls h hP hS hl K15_0
      rw [f_X10_countSmells_L15] at h
      have hJ128 : ∀ (b5 : Int32) (b7 : Int32) (b10 : Int32) (s0 : Int32) (s1 : Int32) (M : Mem) (H : Heap) (locs : List Loc) (ls : Array Slot), f_X10_countSmells_J128 (f_X10_countSmells_L15 a1 a2 a3 a4 fu) a1 a2 a3 a4 b5 b7 b10 s0 s1 M = some res → va_P D vwCl (wsG 167 (ceC cA q) q M) H → va_S (AqG 167 q) s.heap H locs → lv_has ls 11 [(0, .ref (q 18)), (1, .ref (q a1)), (2, .int a2), (3, .int a3), (4, .int a4), (5, .int b5), (7, .int b7), (10, .int b10)] → W p l e ({ frames := 2, cells := 0, slots := 0, locals := 40 } : Room) s m [.ref (q 18), .ref (q a1), .int a2, .int a3, .int a4].toArray below meth c H locs 0 0 (MQ below (Qv 167 (ceC cA q) D q M0) [.ref (q 18), .ref (q a1), .int a2, .int a3, .int a4].toArray s 0 0 (AqG 167 q)) (F0 m 128 ls [.int s1, .int s0]) := by
        intro b5 b7 b10 s0 s1 M H locs ls h hP hS hl
        rw [f_X10_countSmells_J128] at h
        refine lv_ior hx hb dX10_countSmells_128 ?_
        obtain ⟨y33, ey33, h⟩ := lt_inv h
        refine topE ey33 ?_
        refine lv_istore (lv' := [(6, .int y33), (0, .ref (q 18)), (1, .ref (q a1)), (2, .int a2), (3, .int a3), (4, .int a4), (5, .int b5), (7, .int b7), (10, .int b10)]) hx hb dX10_countSmells_129 hl (by decide) rfl (fun ls hl => ?_)
        refine lv_iload hx hb dX10_countSmells_131 (lv_at hl 6 rfl) ?_
        refine lv_iload hx hb dX10_countSmells_133 (lv_at hl 8 rfl) ?_
        refine lv_isub hx hb dX10_countSmells_135 ?_
        obtain ⟨y34, ey34, h⟩ := lt_inv h
        refine topE ey34 ?_
        refine lv_istore (lv' := [(5, .int y34), (6, .int y33), (0, .ref (q 18)), (1, .ref (q a1)), (2, .int a2), (3, .int a3), (4, .int a4), (7, .int b7), (10, .int b10)]) hx hb dX10_countSmells_136 hl (by decide) rfl (fun ls hl => ?_)
        refine lv_aload_n hx hb dX10_countSmells_138 rfl (lv_at hl 2 rfl) ?_
        refine gfC_10_0 X hP sC_18 bw_354 dX10_countSmells_139 ?_
        refine lv_iload hx hb dX10_countSmells_142 (lv_at hl 7 rfl) ?_
        refine lv_aload_n hx hb dX10_countSmells_144 rfl (lv_at hl 2 rfl) ?_
        refine gfC_10_0 X hP sC_18 bw_354 dX10_countSmells_145 ?_
        refine lv_iload hx hb dX10_countSmells_148 (lv_at hl 7 rfl) ?_
        obtain ⟨r35, M36, hc37, h⟩ := bnd_inv h
        refine gSN_i (As := [.ref (q 19), .int b7]) X hP hS hl.1 (c_X11_cell l D cA q aK aV hq sC_19 hc37) sf_X11_cell nw_23 ss_X11_cell ⟨rfl, rfl⟩ ⟨Nat.le_of_ble_eq_true rfl, Nat.le_of_ble_eq_true rfl⟩ rfl rfl (Nat.le_of_ble_eq_true rfl) dX10_countSmells_150 (fun H locs hP hS => ?_)
        refine lv_iload hx hb dX10_countSmells_153 (lv_at hl 8 rfl) ?_
        refine lv_iadd hx hb dX10_countSmells_155 ?_
        obtain ⟨_, M39, hc40, h⟩ := bnd_inv h
        refine gSN_v (As := [.ref (q 19), .int b7, .int (r35 + b10)]) X hP hS hl.1 (c_X11_put l D cA q aK aV hq sC_19 hc40) sf_X11_put nw_21 ss_X11_put ⟨rfl, rfl⟩ ⟨Nat.le_of_ble_eq_true rfl, Nat.le_of_ble_eq_true rfl⟩ rfl rfl (Nat.le_of_ble_eq_true rfl) dX10_countSmells_156 (fun H locs hP hS => ?_)
        refine lv_aload_n hx hb dX10_countSmells_159 rfl (lv_at hl 2 rfl) ?_
        refine gfC_10_1 X hP sC_18 bw_356 dX10_countSmells_160 ?_
        refine lv_iload hx hb dX10_countSmells_163 (lv_at hl 7 rfl) ?_
        refine lv_aload_n hx hb dX10_countSmells_165 rfl (lv_at hl 2 rfl) ?_
        refine gfC_10_1 X hP sC_18 bw_356 dX10_countSmells_166 ?_
        refine lv_iload hx hb dX10_countSmells_169 (lv_at hl 7 rfl) ?_
        obtain ⟨r41, M42, hc43, h⟩ := bnd_inv h
        refine gSN_i (As := [.ref (q 20), .int b7]) X hP hS hl.1 (c_X11_cell l D cA q aK aV hq sC_20 hc43) sf_X11_cell nw_23 ss_X11_cell ⟨rfl, rfl⟩ ⟨Nat.le_of_ble_eq_true rfl, Nat.le_of_ble_eq_true rfl⟩ rfl rfl (Nat.le_of_ble_eq_true rfl) dX10_countSmells_171 (fun H locs hP hS => ?_)
        refine lv_iload_n hx hb dX10_countSmells_174 rfl (lv_at hl 4 rfl) ?_
        refine lv_iconst (v := 1) hx hb dX10_countSmells_175 (by decide) ?_
        refine lv_icmp_ne (tgt := 184) hx hb dX10_countSmells_176 (by decide) (fun c44 => ?_) (fun c44 => ?_)
        · rw [if_neg c44] at h
          refine lv_iconst (v := 0) hx hb dX10_countSmells_184 (by decide) ?_
          refine lv_iadd hx hb dX10_countSmells_185 ?_
          obtain ⟨_, M46, hc47, h⟩ := bnd_inv h
          refine gSN_v (As := [.ref (q 20), .int b7, .int (r41 + (0 : Int32))]) X hP hS hl.1 (c_X11_put l D cA q aK aV hq sC_20 hc47) sf_X11_put nw_21 ss_X11_put ⟨rfl, rfl⟩ ⟨Nat.le_of_ble_eq_true rfl, Nat.le_of_ble_eq_true rfl⟩ rfl rfl (Nat.le_of_ble_eq_true rfl) dX10_countSmells_186 (fun H locs hP hS => ?_)
          obtain ⟨y48, ey48, h⟩ := lt_inv h
          refine lv_iinc (v := y48) (lv' := [(7, .int y48), (5, .int y34), (6, .int y33), (0, .ref (q 18)), (1, .ref (q a1)), (2, .int a2), (3, .int a3), (4, .int a4), (10, .int b10)]) hx hb dX10_countSmells_189 hl (k := 7) rfl (by rw [ey48]; rfl) (by decide) rfl (fun ls hl => ?_)
          refine lv_goto (tgt := 15) hx hb dX10_countSmells_192 (by decide) ?_
          exact ih _ _ _ _ res _ _ _ h hP hS (lv_sub hl [3, 4, 5, 6, 7, 1, 2, 0] rfl) K15_0
        · rw [if_pos c44] at h
          refine lv_iload hx hb dX10_countSmells_179 (lv_at hl 8 rfl) ?_
          refine lv_goto (tgt := 185) hx hb dX10_countSmells_181 (by decide) ?_
          refine lv_iadd hx hb dX10_countSmells_185 ?_
          obtain ⟨_, M50, hc51, h⟩ := bnd_inv h
          refine gSN_v (As := [.ref (q 20), .int b7, .int (r41 + b10)]) X hP hS hl.1 (c_X11_put l D cA q aK aV hq sC_20 hc51) sf_X11_put nw_21 ss_X11_put ⟨rfl, rfl⟩ ⟨Nat.le_of_ble_eq_true rfl, Nat.le_of_ble_eq_true rfl⟩ rfl rfl (Nat.le_of_ble_eq_true rfl) dX10_countSmells_186 (fun H locs hP hS => ?_)
          obtain ⟨y52, ey52, h⟩ := lt_inv h
          refine lv_iinc (v := y52) (lv' := [(7, .int y52), (5, .int y34), (6, .int y33), (0, .ref (q 18)), (1, .ref (q a1)), (2, .int a2), (3, .int a3), (4, .int a4), (10, .int b10)]) hx hb dX10_countSmells_189 hl (k := 7) rfl (by rw [ey52]; rfl) (by decide) rfl (fun ls hl => ?_)
          refine lv_goto (tgt := 15) hx hb dX10_countSmells_192 (by decide) ?_
          exact ih _ _ _ _ res _ _ _ h hP hS (lv_sub hl [3, 4, 5, 6, 7, 1, 2, 0] rfl) K15_0
      have hJ104 : ∀ (b5 : Int32) (b6 : Int32) (b7 : Int32) (b8 : Nat) (hb8 : shC b8 = 6) (s0 : Int32) (M : Mem) (H : Heap) (locs : List Loc) (ls : Array Slot), f_X10_countSmells_J104 (f_X10_countSmells_L15 a1 a2 a3 a4 fu) a1 a2 a3 a4 b5 b6 b7 b8 s0 M = some res → va_P D vwCl (wsG 167 (ceC cA q) q M) H → va_S (AqG 167 q) s.heap H locs → lv_has ls 11 [(0, .ref (q 18)), (1, .ref (q a1)), (2, .int a2), (3, .int a3), (4, .int a4), (5, .int b5), (6, .int b6), (7, .int b7), (8, .ref (q b8))] → W p l e ({ frames := 2, cells := 0, slots := 0, locals := 40 } : Room) s m [.ref (q 18), .ref (q a1), .int a2, .int a3, .int a4].toArray below meth c H locs 0 0 (MQ below (Qv 167 (ceC cA q) D q M0) [.ref (q 18), .ref (q a1), .int a2, .int a3, .int a4].toArray s 0 0 (AqG 167 q)) (F0 m 104 ls [.int s0]) := by
        intro b5 b6 b7 b8 hb8 s0 M H locs ls h hP hS hl
        rw [f_X10_countSmells_J104] at h
        refine lv_istore (lv' := [(10, .int s0), (0, .ref (q 18)), (1, .ref (q a1)), (2, .int a2), (3, .int a3), (4, .int a4), (5, .int b5), (6, .int b6), (7, .int b7), (8, .ref (q b8))]) hx hb dX10_countSmells_104 hl (by decide) rfl (fun ls hl => ?_)
        refine lv_iload hx hb dX10_countSmells_106 (lv_at hl 7 rfl) ?_
        refine lv_aload hx hb dX10_countSmells_108 (lv_at hl 9 rfl) ?_
        refine gfC_6_2 X hP hb8 bw_72 dX10_countSmells_110 ?_
        refine lv_iconst (v := -1) hx hb dX10_countSmells_113 (by decide) ?_
        refine lv_icmp_ne (tgt := 121) hx hb dX10_countSmells_114 (by decide) (fun c32 => ?_) (fun c32 => ?_)
        · rw [if_neg c32] at h
          refine lv_iconst (v := 1) hx hb dX10_countSmells_121 (by decide) ?_
          refine lv_aload hx hb dX10_countSmells_122 (lv_at hl 9 rfl) ?_
          refine gfC_6_2 X hP hb8 bw_72 dX10_countSmells_124 ?_
          refine lv_ishl hx hb dX10_countSmells_127 ?_
          exact hJ128 _ _ _ _ _ _ _ _ _ h hP hS (lv_sub hl [1, 2, 3, 4, 5, 6, 8, 0] rfl)
        · rw [if_pos c32] at h
          refine lv_iconst (v := 0) hx hb dX10_countSmells_117 (by decide) ?_
          refine lv_goto (tgt := 128) hx hb dX10_countSmells_118 (by decide) ?_
          exact hJ128 _ _ _ _ _ _ _ _ _ h hP hS (lv_sub hl [1, 2, 3, 4, 5, 6, 8, 0] rfl)
      have hJ65 : ∀ (b5 : Int32) (b6 : Int32) (b7 : Int32) (b8 : Nat) (hb8 : shC b8 = 6) (s0 : Int32) (M : Mem) (H : Heap) (locs : List Loc) (ls : Array Slot), f_X10_countSmells_J65 (f_X10_countSmells_L15 a1 a2 a3 a4 fu) a1 a2 a3 a4 b5 b6 b7 b8 s0 M = some res → va_P D vwCl (wsG 167 (ceC cA q) q M) H → va_S (AqG 167 q) s.heap H locs → lv_has ls 11 [(0, .ref (q 18)), (1, .ref (q a1)), (2, .int a2), (3, .int a3), (4, .int a4), (5, .int b5), (6, .int b6), (7, .int b7), (8, .ref (q b8))] → W p l e ({ frames := 2, cells := 0, slots := 0, locals := 40 } : Room) s m [.ref (q 18), .ref (q a1), .int a2, .int a3, .int a4].toArray below meth c H locs 0 0 (MQ below (Qv 167 (ceC cA q) D q M0) [.ref (q 18), .ref (q a1), .int a2, .int a3, .int a4].toArray s 0 0 (AqG 167 q)) (F0 m 65 ls [.int s0]) := by
        intro b5 b6 b7 b8 hb8 s0 M H locs ls h hP hS hl
        rw [f_X10_countSmells_J65] at h
        refine lv_istore (lv' := [(9, .int s0), (0, .ref (q 18)), (1, .ref (q a1)), (2, .int a2), (3, .int a3), (4, .int a4), (5, .int b5), (6, .int b6), (7, .int b7), (8, .ref (q b8))]) hx hb dX10_countSmells_65 hl (by decide) rfl (fun ls hl => ?_)
        refine lv_iload hx hb dX10_countSmells_67 (lv_at hl 0 rfl) ?_
        refine lv_if_eq (tgt := 189) hx hb dX10_countSmells_69 (by decide) (fun c24 => ?_) (fun c24 => ?_)
        · rw [if_pos c24] at h
          obtain ⟨y25, ey25, h⟩ := lt_inv h
          refine lv_iinc (v := y25) (lv' := [(7, .int y25), (9, .int s0), (0, .ref (q 18)), (1, .ref (q a1)), (2, .int a2), (3, .int a3), (4, .int a4), (5, .int b5), (6, .int b6), (8, .ref (q b8))]) hx hb dX10_countSmells_189 hl (k := 8) rfl (by rw [ey25]; rfl) (by decide) rfl (fun ls hl => ?_)
          refine lv_goto (tgt := 15) hx hb dX10_countSmells_192 (by decide) ?_
          exact ih _ _ _ _ res _ _ _ h hP hS (lv_sub hl [2, 3, 4, 5, 6, 7, 8, 0] rfl) K15_0
        · rw [if_neg c24] at h
          refine lv_aload hx hb dX10_countSmells_72 (lv_at hl 9 rfl) ?_
          refine lv_iload_n hx hb dX10_countSmells_74 rfl (lv_at hl 3 rfl) ?_
          refine lv_iload_n hx hb dX10_countSmells_75 rfl (lv_at hl 4 rfl) ?_
          refine lv_iload hx hb dX10_countSmells_76 (lv_at hl 5 rfl) ?_
          refine lv_bipush (v := 31) hx hb dX10_countSmells_78 (by decide) ?_
          obtain ⟨r26, M27, hc28, h⟩ := bnd_inv h
          refine gV_i (As := [.int a2, .int a3, .int a4, .int (31 : Int32)]) X hP hS hl.1 (c_X6_bearsOn l D cA q aK aV hq hb8 hc28) sf_X6_bearsOn bw_1086 sv_X6_bearsOn (rcC_6 hb8) rfl ⟨rfl, rfl⟩ ⟨Nat.le_of_ble_eq_true rfl, Nat.le_of_ble_eq_true rfl⟩ rfl rfl (Nat.le_of_ble_eq_true rfl) dX10_countSmells_80 (fun H locs hP hS => ?_)
          refine lv_if_eq (tgt := 189) hx hb dX10_countSmells_83 (by decide) (fun c29 => ?_) (fun c29 => ?_)
          · rw [if_pos c29] at h
            obtain ⟨y30, ey30, h⟩ := lt_inv h
            refine lv_iinc (v := y30) (lv' := [(7, .int y30), (9, .int s0), (0, .ref (q 18)), (1, .ref (q a1)), (2, .int a2), (3, .int a3), (4, .int a4), (5, .int b5), (6, .int b6), (8, .ref (q b8))]) hx hb dX10_countSmells_189 hl (k := 8) rfl (by rw [ey30]; rfl) (by decide) rfl (fun ls hl => ?_)
            refine lv_goto (tgt := 15) hx hb dX10_countSmells_192 (by decide) ?_
            exact ih _ _ _ _ res _ _ _ h hP hS (lv_sub hl [2, 3, 4, 5, 6, 7, 8, 0] rfl) K15_0
          · rw [if_neg c29] at h
            refine lv_aload hx hb dX10_countSmells_86 (lv_at hl 9 rfl) ?_
            refine gfC_6_2 X hP hb8 bw_72 dX10_countSmells_88 ?_
            refine lv_iconst (v := -1) hx hb dX10_countSmells_91 (by decide) ?_
            refine lv_icmp_ne (tgt := 100) hx hb dX10_countSmells_92 (by decide) (fun c31 => ?_) (fun c31 => ?_)
            · rw [if_neg c31] at h
              refine lv_iload hx hb dX10_countSmells_100 (lv_at hl 6 rfl) ?_
              refine lv_iconst (v := 2) hx hb dX10_countSmells_102 (by decide) ?_
              refine lv_idiv hx hb dX10_countSmells_103 (by decide) ?_
              exact hJ104 _ _ _ _ hb8 _ _ _ _ _ h hP hS (lv_sub hl [1, 2, 3, 4, 5, 6, 7, 8, 9] rfl)
            · rw [if_pos c31] at h
              refine lv_iload hx hb dX10_countSmells_95 (lv_at hl 6 rfl) ?_
              refine lv_goto (tgt := 104) hx hb dX10_countSmells_97 (by decide) ?_
              exact hJ104 _ _ _ _ hb8 _ _ _ _ _ h hP hS (lv_sub hl [1, 2, 3, 4, 5, 6, 7, 8, 9] rfl)
      have hJ60 : ∀ (b5 : Int32) (b6 : Int32) (b7 : Int32) (b8 : Nat) (hb8 : shC b8 = 6) (M : Mem) (H : Heap) (locs : List Loc) (ls : Array Slot), f_X10_countSmells_J60 (f_X10_countSmells_L15 a1 a2 a3 a4 fu) a1 a2 a3 a4 b5 b6 b7 b8 M = some res → va_P D vwCl (wsG 167 (ceC cA q) q M) H → va_S (AqG 167 q) s.heap H locs → lv_has ls 11 [(0, .ref (q 18)), (1, .ref (q a1)), (2, .int a2), (3, .int a3), (4, .int a4), (5, .int b5), (6, .int b6), (7, .int b7), (8, .ref (q b8))] → W p l e ({ frames := 2, cells := 0, slots := 0, locals := 40 } : Room) s m [.ref (q 18), .ref (q a1), .int a2, .int a3, .int a4].toArray below meth c H locs 0 0 (MQ below (Qv 167 (ceC cA q) D q M0) [.ref (q 18), .ref (q a1), .int a2, .int a3, .int a4].toArray s 0 0 (AqG 167 q)) (F0 m 60 ls []) := by
        intro b5 b6 b7 b8 hb8 M H locs ls h hP hS hl
        rw [f_X10_countSmells_J60] at h
        refine lv_iconst (v := 1) hx hb dX10_countSmells_60 (by decide) ?_
        refine lv_goto (tgt := 65) hx hb dX10_countSmells_61 (by decide) ?_
        exact hJ65 _ _ _ _ hb8 _ _ _ _ _ h hP hS (lv_sub hl [0, 1, 2, 3, 4, 5, 6, 7, 8] rfl)
      refine lv_iload hx hb dX10_countSmells_15 (lv_at hl 7 rfl) ?_
      refine lv_aload_n hx hb dX10_countSmells_17 rfl (lv_at hl 1 rfl) ?_
      refine lv_iconst (v := 2) hx hb dX10_countSmells_18 (by decide) ?_
      obtain ⟨r10, M11, hc12, h⟩ := bnd_inv h
      refine gV_i (As := [.int (2 : Int32)]) X hP hS hl.1 (c_X0_countOf l D cA q aK aV hq h1 hc12) sf_X0_countOf bw_1083 sv_X0_countOf (rcC_0 h1) rfl ⟨rfl, rfl⟩ ⟨Nat.le_of_ble_eq_true rfl, Nat.le_of_ble_eq_true rfl⟩ rfl rfl (Nat.le_of_ble_eq_true rfl) dX10_countSmells_19 (fun H locs hP hS => ?_)
      refine lv_icmp_ge (tgt := 195) hx hb dX10_countSmells_22 (by decide) (fun c13 => ?_) (fun c13 => ?_)
      · rw [if_pos c13] at h
        cases h
        exact K15_0 _ _ _ hP hS (lv_sub hl [0, 5] rfl)
      · rw [if_neg c13] at h
        refine lv_iload hx hb dX10_countSmells_25 (lv_at hl 5 rfl) ?_
        refine lv_if_le (tgt := 195) hx hb dX10_countSmells_27 (by decide) (fun c14 => ?_) (fun c14 => ?_)
        · rw [if_pos c14] at h
          cases h
          exact K15_0 _ _ _ hP hS (lv_sub hl [0, 5] rfl)
        · rw [if_neg c14] at h
          refine lv_aload_n hx hb dX10_countSmells_30 rfl (lv_at hl 1 rfl) ?_
          refine lv_iload hx hb dX10_countSmells_31 (lv_at hl 7 rfl) ?_
          obtain ⟨r15, M16, hc17, h⟩ := bnd_inv h
          refine gV_r (As := [.int b7]) X hP hS hl.1 (c_X0_ruleAt l D cA q aK aV hq h1 hc17) sf_X0_ruleAt bw_1084 sv_X0_ruleAt (rcC_0 h1) rfl ⟨rfl, rfl⟩ ⟨Nat.le_of_ble_eq_true rfl, Nat.le_of_ble_eq_true rfl⟩ rfl rfl (Nat.le_of_ble_eq_true rfl) dX10_countSmells_33 (fun H locs hP hS => ?_)
          obtain ⟨g18, h⟩ := gd_inv h
          have g18 := Decidable.not_not.mp g18
          refine lv_astore (lv' := [(8, .ref (q r15)), (0, .ref (q 18)), (1, .ref (q a1)), (2, .int a2), (3, .int a3), (4, .int a4), (5, .int b5), (6, .int b6), (7, .int b7)]) hx hb dX10_countSmells_36 hl (by decide) rfl (fun ls hl => ?_)
          refine lv_aload hx hb dX10_countSmells_38 (lv_at hl 0 rfl) ?_
          refine gfC_6_2 X hP g18 bw_72 dX10_countSmells_40 ?_
          refine lv_iconst (v := -1) hx hb dX10_countSmells_43 (by decide) ?_
          refine lv_icmp_eq (tgt := 60) hx hb dX10_countSmells_44 (by decide) (fun c19 => ?_) (fun c19 => ?_)
          · rw [if_pos c19] at h
            exact hJ60 _ _ _ _ g18 _ _ _ _ h hP hS (lv_sub hl [1, 2, 3, 4, 5, 6, 7, 8, 0] rfl)
          · rw [if_neg c19] at h
            refine lv_iload hx hb dX10_countSmells_47 (lv_at hl 7 rfl) ?_
            refine lv_aload hx hb dX10_countSmells_49 (lv_at hl 0 rfl) ?_
            refine gfC_6_2 X hP g18 bw_72 dX10_countSmells_51 ?_
            obtain ⟨r20, M21, hc22, h⟩ := bnd_inv h
            refine gSN_i (As := [.int b6, .int (gI M16 r15 2)]) X hP hS hl.1 (c_X11_isIn l D cA q aK aV hq hc22) sf_X11_isIn nw_22 ss_X11_isIn ⟨rfl, rfl⟩ ⟨Nat.le_of_ble_eq_true rfl, Nat.le_of_ble_eq_true rfl⟩ rfl rfl (Nat.le_of_ble_eq_true rfl) dX10_countSmells_54 (fun H locs hP hS => ?_)
            refine lv_if_ne (tgt := 64) hx hb dX10_countSmells_57 (by decide) (fun c23 => ?_) (fun c23 => ?_)
            · rw [if_neg c23] at h
              refine lv_iconst (v := 0) hx hb dX10_countSmells_64 (by decide) ?_
              exact hJ65 _ _ _ _ g18 _ _ _ _ _ h hP hS (lv_sub hl [1, 2, 3, 4, 5, 6, 7, 8, 0] rfl)
            · rw [if_pos c23] at h
              exact hJ60 _ _ _ _ g18 _ _ _ _ h hP hS (lv_sub hl [1, 2, 3, 4, 5, 6, 7, 8, 0] rfl)
  refine lv_iconst (v := 1) hx hb dX10_countSmells_0 (by decide) ?_
  refine lv_aload_n hx hb dX10_countSmells_1 rfl (lv_at hl 1 rfl) ?_
  refine lv_iconst (v := 0) hx hb dX10_countSmells_2 (by decide) ?_
  obtain ⟨r1, M2, hc3, h⟩ := bnd_inv h
  refine gV_i (As := [.int (0 : Int32)]) X hP hS hl.1 (c_X0_countOf l D cA q aK aV hq h1 hc3) sf_X0_countOf bw_1083 sv_X0_countOf (rcC_0 h1) rfl ⟨rfl, rfl⟩ ⟨Nat.le_of_ble_eq_true rfl, Nat.le_of_ble_eq_true rfl⟩ rfl rfl (Nat.le_of_ble_eq_true rfl) dX10_countSmells_3 (fun H locs hP hS => ?_)
  refine lv_ishl hx hb dX10_countSmells_6 ?_
  obtain ⟨y4, ey4, h⟩ := lt_inv h
  refine topE ey4 ?_
  refine lv_istore (lv' := [(5, .int y4), (0, .ref (q 18)), (1, .ref (q a1)), (2, .int a2), (3, .int a3), (4, .int a4)]) hx hb dX10_countSmells_7 hl (by decide) rfl (fun ls hl => ?_)
  refine lv_iconst (v := 0) hx hb dX10_countSmells_9 (by decide) ?_
  refine lv_istore (lv' := [(6, .int (0 : Int32)), (5, .int y4), (0, .ref (q 18)), (1, .ref (q a1)), (2, .int a2), (3, .int a3), (4, .int a4)]) hx hb dX10_countSmells_10 hl (by decide) rfl (fun ls hl => ?_)
  refine lv_iconst (v := 0) hx hb dX10_countSmells_12 (by decide) ?_
  refine lv_istore (lv' := [(7, .int (0 : Int32)), (6, .int (0 : Int32)), (5, .int y4), (0, .ref (q 18)), (1, .ref (q a1)), (2, .int a2), (3, .int a3), (4, .int a4)]) hx hb dX10_countSmells_13 hl (by decide) rfl (fun ls hl => ?_)
  obtain ⟨s5, M6, hc7, h⟩ := bnd_inv h
  obtain ⟨x8, rfl⟩ : ∃ z, z = s5 := ⟨_, rfl⟩
  try dsimp only at h
  refine hL15  fz _ _ _ _ _ _ _ _ hc7 hP hS (lv_sub hl [3, 4, 5, 6, 7, 2, 1, 0] rfl) (fun H locs ls hP hS hl => ?_)
  have hl : lv_has ls 11 [(0, .ref (q 18)), (5, .int x8)] := hl
  refine lv_aload_n hx hb dX10_countSmells_195 rfl (lv_at hl 0 rfl) ?_
  refine lv_dup hx hb dX10_countSmells_196 rfl ?_
  refine gfC_10_2 X hP sC_18 bw_358 dX10_countSmells_197 ?_
  refine lv_iload hx hb dX10_countSmells_200 (lv_at hl 1 rfl) ?_
  refine lv_iadd hx hb dX10_countSmells_202 ?_
  obtain ⟨M9, eM9, h⟩ := lt_inv h
  refine pfC_10_2 X hP hS sC_18 bw_358 eM9 dX10_countSmells_203 (fun H locs hP hS => ?_)
  exact end_v X hr hk hP hS h dX10_countSmells_206
theorem dX10_countIn_0 : decode cX10_countIn 0 = .ok (.iconst 0, 1) := by decide +kernel
theorem dX10_countIn_1 : decode cX10_countIn 1 = .ok (.istore_n 2, 1) := by decide +kernel
theorem dX10_countIn_2 : decode cX10_countIn 2 = .ok (.iload_n 2, 1) := by decide +kernel
theorem dX10_countIn_3 : decode cX10_countIn 3 = .ok (.bipush 8, 2) := by decide +kernel
theorem dX10_countIn_5 : decode cX10_countIn 5 = .ok (.if_icmp .ge 27, 3) := by decide +kernel
theorem dX10_countIn_8 : decode cX10_countIn 8 = .ok (.aload_n 0, 1) := by decide +kernel
theorem dX10_countIn_9 : decode cX10_countIn 9 = .ok (.getfield 9, 3) := by decide +kernel
theorem dX10_countIn_12 : decode cX10_countIn 12 = .ok (.iload_n 2, 1) := by decide +kernel
theorem dX10_countIn_13 : decode cX10_countIn 13 = .ok (.iconst 0, 1) := by decide +kernel
theorem dX10_countIn_14 : decode cX10_countIn 14 = .ok (.invokestatic 22, 3) := by decide +kernel
theorem dX10_countIn_17 : decode cX10_countIn 17 = .ok (.aload_n 0, 1) := by decide +kernel
theorem dX10_countIn_18 : decode cX10_countIn 18 = .ok (.getfield 15, 3) := by decide +kernel
theorem dX10_countIn_21 : decode cX10_countIn 21 = .ok (.iload_n 2, 1) := by decide +kernel
theorem dX10_countIn_22 : decode cX10_countIn 22 = .ok (.iconst 0, 1) := by decide +kernel
theorem dX10_countIn_23 : decode cX10_countIn 23 = .ok (.invokestatic 22, 3) := by decide +kernel
theorem dX10_countIn_26 : decode cX10_countIn 26 = .ok (.iinc 2 1, 3) := by decide +kernel
theorem dX10_countIn_29 : decode cX10_countIn 29 = .ok (.goto (-27), 3) := by decide +kernel
theorem dX10_countIn_32 : decode cX10_countIn 32 = .ok (.aload_n 0, 1) := by decide +kernel
theorem dX10_countIn_33 : decode cX10_countIn 33 = .ok (.iconst 0, 1) := by decide +kernel
theorem dX10_countIn_34 : decode cX10_countIn 34 = .ok (.putfield 18, 3) := by decide +kernel
theorem dX10_countIn_37 : decode cX10_countIn 37 = .ok (.iconst 0, 1) := by decide +kernel
theorem dX10_countIn_38 : decode cX10_countIn 38 = .ok (.istore_n 2, 1) := by decide +kernel
theorem dX10_countIn_39 : decode cX10_countIn 39 = .ok (.iload_n 2, 1) := by decide +kernel
theorem dX10_countIn_40 : decode cX10_countIn 40 = .ok (.bipush 20, 2) := by decide +kernel
theorem dX10_countIn_42 : decode cX10_countIn 42 = .ok (.if_icmp .gt 39, 3) := by decide +kernel
theorem dX10_countIn_45 : decode cX10_countIn 45 = .ok (.iconst 0, 1) := by decide +kernel
theorem dX10_countIn_46 : decode cX10_countIn 46 = .ok (.istore_n 3, 1) := by decide +kernel
theorem dX10_countIn_47 : decode cX10_countIn 47 = .ok (.iload_n 3, 1) := by decide +kernel
theorem dX10_countIn_48 : decode cX10_countIn 48 = .ok (.bipush 9, 2) := by decide +kernel
theorem dX10_countIn_50 : decode cX10_countIn 50 = .ok (.if_icmp .gt 25, 3) := by decide +kernel
theorem dX10_countIn_53 : decode cX10_countIn 53 = .ok (.aload_n 0, 1) := by decide +kernel
theorem dX10_countIn_54 : decode cX10_countIn 54 = .ok (.aload_n 1, 1) := by decide +kernel
theorem dX10_countIn_55 : decode cX10_countIn 55 = .ok (.iconst 1, 1) := by decide +kernel
theorem dX10_countIn_56 : decode cX10_countIn 56 = .ok (.iload_n 2, 1) := by decide +kernel
theorem dX10_countIn_57 : decode cX10_countIn 57 = .ok (.iload_n 3, 1) := by decide +kernel
theorem dX10_countIn_58 : decode cX10_countIn 58 = .ok (.invokevirtual 26, 3) := by decide +kernel
theorem dX10_countIn_61 : decode cX10_countIn 61 = .ok (.aload_n 0, 1) := by decide +kernel
theorem dX10_countIn_62 : decode cX10_countIn 62 = .ok (.aload_n 1, 1) := by decide +kernel
theorem dX10_countIn_63 : decode cX10_countIn 63 = .ok (.iconst 2, 1) := by decide +kernel
theorem dX10_countIn_64 : decode cX10_countIn 64 = .ok (.iload_n 2, 1) := by decide +kernel
theorem dX10_countIn_65 : decode cX10_countIn 65 = .ok (.iload_n 3, 1) := by decide +kernel
theorem dX10_countIn_66 : decode cX10_countIn 66 = .ok (.invokevirtual 26, 3) := by decide +kernel
theorem dX10_countIn_69 : decode cX10_countIn 69 = .ok (.iinc 3 1, 3) := by decide +kernel
theorem dX10_countIn_72 : decode cX10_countIn 72 = .ok (.goto (-25), 3) := by decide +kernel
theorem dX10_countIn_75 : decode cX10_countIn 75 = .ok (.iinc 2 1, 3) := by decide +kernel
theorem dX10_countIn_78 : decode cX10_countIn 78 = .ok (.goto (-39), 3) := by decide +kernel
theorem dX10_countIn_81 : decode cX10_countIn 81 = .ok (.return_, 1) := by decide +kernel
set_option maxRecDepth 100000 in
set_option maxHeartbeats 8000000 in
theorem c_X10_countIn (l : Launch) (D : va_G) (cA : Nat → ClassId) (q aK aV : Nat → Nat) (hq : injG 167 q) {a1 : Nat} {M M0 : Mem} (h1 : shC a1 = 0) (h : f_X10_countIn a1 M = some ((), M0)) : Met l yX10_countIn (.code yX10_countIn cX10_countIn 4 none :: BW) ({ frames := 3, cells := 0, slots := 0, locals := 70 } : Room) (va_Pc [.ref (q 18), .ref (q a1)] (CB 167 (ceC cA q) D cA q aK aV M)) (Qv 167 (ceC cA q) D q M0) 0 0 (AqG 167 q) := by
  refine gMet RX10 (by decide +kernel) rfl hq (Nat.le_of_ble_eq_true rfl) ?_
  intro p e s m below meth c ls X hr hk hP hS hl
  have hx := X.1
  have hb := X.2.1
  have hl : lv_has ls 4 [(0, .ref (q 18)), (1, .ref (q a1))] := hl
  rw [f_X10_countIn] at h
  have hL39 : ∀ (fu : Nat) (b2 : Int32) (M : Mem) (res : (Unit) × Mem) (H : Heap) (locs : List Loc) (ls : Array Slot), f_X10_countIn_L39 a1 fu b2 M = some res → va_P D vwCl (wsG 167 (ceC cA q) q M) H → va_S (AqG 167 q) s.heap H locs → lv_has ls 4 [(0, .ref (q 18)), (1, .ref (q a1)), (2, .int b2)] → (∀ (H : Heap) (locs : List Loc) (ls : Array Slot), va_P D vwCl (wsG 167 (ceC cA q) q res.2) H → va_S (AqG 167 q) s.heap H locs → lv_has ls 4 [] → W p l e ({ frames := 3, cells := 0, slots := 0, locals := 70 } : Room) s m [.ref (q 18), .ref (q a1)].toArray below meth c H locs 0 0 (MQ below (Qv 167 (ceC cA q) D q M0) [.ref (q 18), .ref (q a1)].toArray s 0 0 (AqG 167 q)) (F0 m 81 ls [])) → W p l e ({ frames := 3, cells := 0, slots := 0, locals := 70 } : Room) s m [.ref (q 18), .ref (q a1)].toArray below meth c H locs 0 0 (MQ below (Qv 167 (ceC cA q) D q M0) [.ref (q 18), .ref (q a1)].toArray s 0 0 (AqG 167 q)) (F0 m 39 ls []) := by
    intro fu
    induction fu with
    | zero => intro b2 M res H locs ls h; exact absurd h (by simp [f_X10_countIn_L39])
    | succ fu ih =>
      intro b2 M res H locs ls h hP hS hl K39_0
      rw [f_X10_countIn_L39] at h
      have hL47 : ∀ (b2 : Int32) (fu : Nat) (b3 : Int32) (M : Mem) (res : (Unit) × Mem) (H : Heap) (locs : List Loc) (ls : Array Slot), f_X10_countIn_L47 a1 b2 fu b3 M = some res → va_P D vwCl (wsG 167 (ceC cA q) q M) H → va_S (AqG 167 q) s.heap H locs → lv_has ls 4 [(0, .ref (q 18)), (1, .ref (q a1)), (2, .int b2), (3, .int b3)] → (∀ (H : Heap) (locs : List Loc) (ls : Array Slot), va_P D vwCl (wsG 167 (ceC cA q) q res.2) H → va_S (AqG 167 q) s.heap H locs → lv_has ls 4 [(0, .ref (q 18)), (1, .ref (q a1)), (2, .int b2)] → W p l e ({ frames := 3, cells := 0, slots := 0, locals := 70 } : Room) s m [.ref (q 18), .ref (q a1)].toArray below meth c H locs 0 0 (MQ below (Qv 167 (ceC cA q) D q M0) [.ref (q 18), .ref (q a1)].toArray s 0 0 (AqG 167 q)) (F0 m 75 ls [])) → W p l e ({ frames := 3, cells := 0, slots := 0, locals := 70 } : Room) s m [.ref (q 18), .ref (q a1)].toArray below meth c H locs 0 0 (MQ below (Qv 167 (ceC cA q) D q M0) [.ref (q 18), .ref (q a1)].toArray s 0 0 (AqG 167 q)) (F0 m 47 ls []) := by
        intro b2 fu
        induction fu with
        | zero => intro b3 M res H locs ls h; exact absurd h (by simp [f_X10_countIn_L47])
        | succ fu ih =>
          intro b3 M res H locs ls h hP hS hl K47_0
          rw [f_X10_countIn_L47] at h
          refine lv_iload_n hx hb dX10_countIn_47 rfl (lv_at hl 3 rfl) ?_
          refine lv_bipush (v := 9) hx hb dX10_countIn_48 (by decide) ?_
          refine lv_icmp_gt (tgt := 75) hx hb dX10_countIn_50 (by decide) (fun c21 => ?_) (fun c21 => ?_)
          · rw [if_pos c21] at h
            cases h
            exact K47_0 _ _ _ hP hS (lv_sub hl [0, 1, 2] rfl)
          · rw [if_neg c21] at h
            refine lv_aload_n hx hb dX10_countIn_53 rfl (lv_at hl 0 rfl) ?_
            refine lv_aload_n hx hb dX10_countIn_54 rfl (lv_at hl 1 rfl) ?_
            refine lv_iconst (v := 1) hx hb dX10_countIn_55 (by decide) ?_
            refine lv_iload_n hx hb dX10_countIn_56 rfl (lv_at hl 2 rfl) ?_
            refine lv_iload_n hx hb dX10_countIn_57 rfl (lv_at hl 3 rfl) ?_
            obtain ⟨_, M23, hc24, h⟩ := bnd_inv h
            refine gV_v (As := [.ref (q a1), .int (1 : Int32), .int b2, .int b3]) X hP hS hl.1 (c_X10_countSmells l D cA q aK aV hq h1 hc24) sf_X10_countSmells bw_1079 sv_X10_countSmells (rcC_10 sC_18) rfl ⟨rfl, rfl⟩ ⟨Nat.le_of_ble_eq_true rfl, Nat.le_of_ble_eq_true rfl⟩ rfl rfl (Nat.le_of_ble_eq_true rfl) dX10_countIn_58 (fun H locs hP hS => ?_)
            refine lv_aload_n hx hb dX10_countIn_61 rfl (lv_at hl 0 rfl) ?_
            refine lv_aload_n hx hb dX10_countIn_62 rfl (lv_at hl 1 rfl) ?_
            refine lv_iconst (v := 2) hx hb dX10_countIn_63 (by decide) ?_
            refine lv_iload_n hx hb dX10_countIn_64 rfl (lv_at hl 2 rfl) ?_
            refine lv_iload_n hx hb dX10_countIn_65 rfl (lv_at hl 3 rfl) ?_
            obtain ⟨_, M26, hc27, h⟩ := bnd_inv h
            refine gV_v (As := [.ref (q a1), .int (2 : Int32), .int b2, .int b3]) X hP hS hl.1 (c_X10_countSmells l D cA q aK aV hq h1 hc27) sf_X10_countSmells bw_1079 sv_X10_countSmells (rcC_10 sC_18) rfl ⟨rfl, rfl⟩ ⟨Nat.le_of_ble_eq_true rfl, Nat.le_of_ble_eq_true rfl⟩ rfl rfl (Nat.le_of_ble_eq_true rfl) dX10_countIn_66 (fun H locs hP hS => ?_)
            obtain ⟨y28, ey28, h⟩ := lt_inv h
            refine lv_iinc (v := y28) (lv' := [(3, .int y28), (0, .ref (q 18)), (1, .ref (q a1)), (2, .int b2)]) hx hb dX10_countIn_69 hl (k := 3) rfl (by rw [ey28]; rfl) (by decide) rfl (fun ls hl => ?_)
            refine lv_goto (tgt := 47) hx hb dX10_countIn_72 (by decide) ?_
            exact ih _ _ res _ _ _ h hP hS (lv_sub hl [1, 2, 3, 0] rfl) K47_0
      refine lv_iload_n hx hb dX10_countIn_39 rfl (lv_at hl 2 rfl) ?_
      refine lv_bipush (v := 20) hx hb dX10_countIn_40 (by decide) ?_
      refine lv_icmp_gt (tgt := 81) hx hb dX10_countIn_42 (by decide) (fun c16 => ?_) (fun c16 => ?_)
      · rw [if_pos c16] at h
        cases h
        exact K39_0 _ _ _ hP hS (lv_sub hl [] rfl)
      · rw [if_neg c16] at h
        refine lv_iconst (v := 0) hx hb dX10_countIn_45 (by decide) ?_
        refine lv_istore_n (lv' := [(3, .int (0 : Int32)), (0, .ref (q 18)), (1, .ref (q a1)), (2, .int b2)]) hx hb dX10_countIn_46 rfl hl (by decide) rfl (fun ls hl => ?_)
        obtain ⟨s17, M18, hc19, h⟩ := bnd_inv h
        try dsimp only at h
        refine hL47 _ fz _ _ _ _ _ _ hc19 hP hS (lv_sub hl [1, 2, 3, 0] rfl) (fun H locs ls hP hS hl => ?_)
        have hl : lv_has ls 4 [(0, .ref (q 18)), (1, .ref (q a1)), (2, .int b2)] := hl
        obtain ⟨y20, ey20, h⟩ := lt_inv h
        refine lv_iinc (v := y20) (lv' := [(2, .int y20), (0, .ref (q 18)), (1, .ref (q a1))]) hx hb dX10_countIn_75 hl (k := 2) rfl (by rw [ey20]; rfl) (by decide) rfl (fun ls hl => ?_)
        refine lv_goto (tgt := 39) hx hb dX10_countIn_78 (by decide) ?_
        exact ih _ _ res _ _ _ h hP hS (lv_sub hl [1, 2, 0] rfl) K39_0
  have hL2 : ∀ (fu : Nat) (b2 : Int32) (M : Mem) (res : (Unit) × Mem) (H : Heap) (locs : List Loc) (ls : Array Slot), f_X10_countIn_L2 a1 fu b2 M = some res → va_P D vwCl (wsG 167 (ceC cA q) q M) H → va_S (AqG 167 q) s.heap H locs → lv_has ls 4 [(0, .ref (q 18)), (1, .ref (q a1)), (2, .int b2)] → (∀ (H : Heap) (locs : List Loc) (ls : Array Slot), va_P D vwCl (wsG 167 (ceC cA q) q res.2) H → va_S (AqG 167 q) s.heap H locs → lv_has ls 4 [(0, .ref (q 18)), (1, .ref (q a1))] → W p l e ({ frames := 3, cells := 0, slots := 0, locals := 70 } : Room) s m [.ref (q 18), .ref (q a1)].toArray below meth c H locs 0 0 (MQ below (Qv 167 (ceC cA q) D q M0) [.ref (q 18), .ref (q a1)].toArray s 0 0 (AqG 167 q)) (F0 m 32 ls [])) → W p l e ({ frames := 3, cells := 0, slots := 0, locals := 70 } : Room) s m [.ref (q 18), .ref (q a1)].toArray below meth c H locs 0 0 (MQ below (Qv 167 (ceC cA q) D q M0) [.ref (q 18), .ref (q a1)].toArray s 0 0 (AqG 167 q)) (F0 m 2 ls []) := by
    intro fu
    induction fu with
    | zero => intro b2 M res H locs ls h; exact absurd h (by simp [f_X10_countIn_L2])
    | succ fu ih =>
      intro b2 M res H locs ls h hP hS hl K2_0
      rw [f_X10_countIn_L2] at h
      refine lv_iload_n hx hb dX10_countIn_2 rfl (lv_at hl 2 rfl) ?_
      refine lv_bipush (v := 8) hx hb dX10_countIn_3 (by decide) ?_
      refine lv_icmp_ge (tgt := 32) hx hb dX10_countIn_5 (by decide) (fun c8 => ?_) (fun c8 => ?_)
      · rw [if_pos c8] at h
        cases h
        exact K2_0 _ _ _ hP hS (lv_sub hl [0, 1] rfl)
      · rw [if_neg c8] at h
        refine lv_aload_n hx hb dX10_countIn_8 rfl (lv_at hl 0 rfl) ?_
        refine gfC_10_0 X hP sC_18 bw_354 dX10_countIn_9 ?_
        refine lv_iload_n hx hb dX10_countIn_12 rfl (lv_at hl 2 rfl) ?_
        refine lv_iconst (v := 0) hx hb dX10_countIn_13 (by decide) ?_
        obtain ⟨_, M10, hc11, h⟩ := bnd_inv h
        refine gSN_v (As := [.ref (q 19), .int b2, .int (0 : Int32)]) X hP hS hl.1 (c_X11_put l D cA q aK aV hq sC_19 hc11) sf_X11_put nw_21 ss_X11_put ⟨rfl, rfl⟩ ⟨Nat.le_of_ble_eq_true rfl, Nat.le_of_ble_eq_true rfl⟩ rfl rfl (Nat.le_of_ble_eq_true rfl) dX10_countIn_14 (fun H locs hP hS => ?_)
        refine lv_aload_n hx hb dX10_countIn_17 rfl (lv_at hl 0 rfl) ?_
        refine gfC_10_1 X hP sC_18 bw_356 dX10_countIn_18 ?_
        refine lv_iload_n hx hb dX10_countIn_21 rfl (lv_at hl 2 rfl) ?_
        refine lv_iconst (v := 0) hx hb dX10_countIn_22 (by decide) ?_
        obtain ⟨_, M13, hc14, h⟩ := bnd_inv h
        refine gSN_v (As := [.ref (q 20), .int b2, .int (0 : Int32)]) X hP hS hl.1 (c_X11_put l D cA q aK aV hq sC_20 hc14) sf_X11_put nw_21 ss_X11_put ⟨rfl, rfl⟩ ⟨Nat.le_of_ble_eq_true rfl, Nat.le_of_ble_eq_true rfl⟩ rfl rfl (Nat.le_of_ble_eq_true rfl) dX10_countIn_23 (fun H locs hP hS => ?_)
        obtain ⟨y15, ey15, h⟩ := lt_inv h
        refine lv_iinc (v := y15) (lv' := [(2, .int y15), (0, .ref (q 18)), (1, .ref (q a1))]) hx hb dX10_countIn_26 hl (k := 2) rfl (by rw [ey15]; rfl) (by decide) rfl (fun ls hl => ?_)
        refine lv_goto (tgt := 2) hx hb dX10_countIn_29 (by decide) ?_
        exact ih _ _ res _ _ _ h hP hS (lv_sub hl [1, 2, 0] rfl) K2_0
  refine lv_iconst (v := 0) hx hb dX10_countIn_0 (by decide) ?_
  refine lv_istore_n (lv' := [(2, .int (0 : Int32)), (0, .ref (q 18)), (1, .ref (q a1))]) hx hb dX10_countIn_1 rfl hl (by decide) rfl (fun ls hl => ?_)
  obtain ⟨s1, M2, hc3, h⟩ := bnd_inv h
  try dsimp only at h
  refine hL2  fz _ _ _ _ _ _ hc3 hP hS (lv_sub hl [1, 2, 0] rfl) (fun H locs ls hP hS hl => ?_)
  have hl : lv_has ls 4 [(0, .ref (q 18)), (1, .ref (q a1))] := hl
  refine lv_aload_n hx hb dX10_countIn_32 rfl (lv_at hl 0 rfl) ?_
  refine lv_iconst (v := 0) hx hb dX10_countIn_33 (by decide) ?_
  obtain ⟨M4, eM4, h⟩ := lt_inv h
  refine pfC_10_2 X hP hS sC_18 bw_358 eM4 dX10_countIn_34 (fun H locs hP hS => ?_)
  refine lv_iconst (v := 0) hx hb dX10_countIn_37 (by decide) ?_
  refine lv_istore_n (lv' := [(2, .int (0 : Int32)), (0, .ref (q 18)), (1, .ref (q a1))]) hx hb dX10_countIn_38 rfl hl (by decide) rfl (fun ls hl => ?_)
  obtain ⟨s5, M6, hc7, h⟩ := bnd_inv h
  try dsimp only at h
  refine hL39  fz _ _ _ _ _ _ hc7 hP hS (lv_sub hl [1, 2, 0] rfl) (fun H locs ls hP hS hl => ?_)
  have hl : lv_has ls 4 [] := hl
  exact end_v X hr hk hP hS h dX10_countIn_81
