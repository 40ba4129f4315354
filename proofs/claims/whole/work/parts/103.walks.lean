theorem dX11_setOfAll_0 : decode cX11_setOfAll 0 = .ok (.iconst 1, 1) := by decide +kernel
theorem dX11_setOfAll_1 : decode cX11_setOfAll 1 = .ok (.iload_n 0, 1) := by decide +kernel
theorem dX11_setOfAll_2 : decode cX11_setOfAll 2 = .ok (.ishl, 1) := by decide +kernel
theorem dX11_setOfAll_3 : decode cX11_setOfAll 3 = .ok (.iconst 1, 1) := by decide +kernel
theorem dX11_setOfAll_4 : decode cX11_setOfAll 4 = .ok (.isub, 1) := by decide +kernel
theorem dX11_setOfAll_5 : decode cX11_setOfAll 5 = .ok (.ireturn, 1) := by decide +kernel
set_option maxRecDepth 100000 in
set_option maxHeartbeats 8000000 in
theorem c_X11_setOfAll (l : Launch) (D : va_G) (cA : Nat → ClassId) (q aK aV : Nat → Nat) (hq : injG 167 q) {a0 : Int32} {M M0 : Mem} {r0 : Int32} (h : f_X11_setOfAll a0 M = some (r0, M0)) : Met l yX11_setOfAll (.code yX11_setOfAll cX11_setOfAll 1 (some .int) :: BW) ({ frames := 1, cells := 0, slots := 0, locals := 12 } : Room) (va_Pc [.int a0] (CB 167 (ceC cA q) D cA q aK aV M)) (Qi 167 (ceC cA q) D q r0 M0) 0 0 (AqG 167 q) := by
  refine gMet RX11 (by decide +kernel) rfl hq (Nat.le_of_ble_eq_true rfl) ?_
  intro p e s m below meth c ls X hr hk hP hS hl
  have hx := X.1
  have hb := X.2.1
  have hl : lv_has ls 1 [(0, .int a0)] := hl
  rw [f_X11_setOfAll] at h
  refine lv_iconst (v := 1) hx hb dX11_setOfAll_0 (by decide) ?_
  refine lv_iload_n hx hb dX11_setOfAll_1 rfl (lv_at hl 0 rfl) ?_
  refine lv_ishl hx hb dX11_setOfAll_2 ?_
  refine lv_iconst (v := 1) hx hb dX11_setOfAll_3 (by decide) ?_
  refine lv_isub hx hb dX11_setOfAll_4 ?_
  exact end_i X hr hk hP hS h dX11_setOfAll_5
theorem dX0_votesOf_0 : decode cX0_votesOf 0 = .ok (.iconst 0, 1) := by decide +kernel
theorem dX0_votesOf_1 : decode cX0_votesOf 1 = .ok (.istore_n 2, 1) := by decide +kernel
theorem dX0_votesOf_2 : decode cX0_votesOf 2 = .ok (.iconst 0, 1) := by decide +kernel
theorem dX0_votesOf_3 : decode cX0_votesOf 3 = .ok (.istore_n 3, 1) := by decide +kernel
theorem dX0_votesOf_4 : decode cX0_votesOf 4 = .ok (.iload_n 3, 1) := by decide +kernel
theorem dX0_votesOf_5 : decode cX0_votesOf 5 = .ok (.aload_n 0, 1) := by decide +kernel
theorem dX0_votesOf_6 : decode cX0_votesOf 6 = .ok (.iconst 4, 1) := by decide +kernel
theorem dX0_votesOf_7 : decode cX0_votesOf 7 = .ok (.invokevirtual 77, 3) := by decide +kernel
theorem dX0_votesOf_10 : decode cX0_votesOf 10 = .ok (.if_icmp .ge 32, 3) := by decide +kernel
theorem dX0_votesOf_13 : decode cX0_votesOf 13 = .ok (.iload_n 2, 1) := by decide +kernel
theorem dX0_votesOf_14 : decode cX0_votesOf 14 = .ok (.iload_n 1, 1) := by decide +kernel
theorem dX0_votesOf_15 : decode cX0_votesOf 15 = .ok (.iload_n 3, 1) := by decide +kernel
theorem dX0_votesOf_16 : decode cX0_votesOf 16 = .ok (.invokestatic 127, 3) := by decide +kernel
theorem dX0_votesOf_19 : decode cX0_votesOf 19 = .ok (.ifCond .eq 14, 3) := by decide +kernel
theorem dX0_votesOf_22 : decode cX0_votesOf 22 = .ok (.aload_n 0, 1) := by decide +kernel
theorem dX0_votesOf_23 : decode cX0_votesOf 23 = .ok (.getfield 37, 3) := by decide +kernel
theorem dX0_votesOf_26 : decode cX0_votesOf 26 = .ok (.iload_n 3, 1) := by decide +kernel
theorem dX0_votesOf_27 : decode cX0_votesOf 27 = .ok (.invokestatic 102, 3) := by decide +kernel
theorem dX0_votesOf_30 : decode cX0_votesOf 30 = .ok (.goto 4, 3) := by decide +kernel
theorem dX0_votesOf_33 : decode cX0_votesOf 33 = .ok (.iconst 0, 1) := by decide +kernel
theorem dX0_votesOf_34 : decode cX0_votesOf 34 = .ok (.iadd, 1) := by decide +kernel
theorem dX0_votesOf_35 : decode cX0_votesOf 35 = .ok (.istore_n 2, 1) := by decide +kernel
theorem dX0_votesOf_36 : decode cX0_votesOf 36 = .ok (.iinc 3 1, 3) := by decide +kernel
theorem dX0_votesOf_39 : decode cX0_votesOf 39 = .ok (.goto (-35), 3) := by decide +kernel
theorem dX0_votesOf_42 : decode cX0_votesOf 42 = .ok (.iload_n 2, 1) := by decide +kernel
theorem dX0_votesOf_43 : decode cX0_votesOf 43 = .ok (.ireturn, 1) := by decide +kernel
set_option maxRecDepth 100000 in
set_option maxHeartbeats 8000000 in
theorem c_X0_votesOf (l : Launch) (D : va_G) (cA : Nat → ClassId) (q aK aV : Nat → Nat) (hq : injG 167 q) {a0 : Nat} {a1 : Int32} {M M0 : Mem} {r0 : Int32} (h0 : shC a0 = 0) (h : f_X0_votesOf a0 a1 M = some (r0, M0)) : Met l yX0_votesOf (.code yX0_votesOf cX0_votesOf 4 (some .int) :: BW) ({ frames := 2, cells := 0, slots := 0, locals := 34 } : Room) (va_Pc [.ref (q a0), .int a1] (CB 167 (ceC cA q) D cA q aK aV M)) (Qi 167 (ceC cA q) D q r0 M0) 0 0 (AqG 167 q) := by
  refine gMet RX0 (by decide +kernel) rfl hq (Nat.le_of_ble_eq_true rfl) ?_
  intro p e s m below meth c ls X hr hk hP hS hl
  have hx := X.1
  have hb := X.2.1
  have hl : lv_has ls 4 [(0, .ref (q a0)), (1, .int a1)] := hl
  rw [f_X0_votesOf] at h
  have hL4 : ∀ (fu : Nat) (b2 : Int32) (b3 : Int32) (M : Mem) (res : (Int32) × Mem) (H : Heap) (locs : List Loc) (ls : Array Slot), f_X0_votesOf_L4 a0 a1 fu b2 b3 M = some res → va_P D vwCl (wsG 167 (ceC cA q) q M) H → va_S (AqG 167 q) s.heap H locs → lv_has ls 4 [(0, .ref (q a0)), (1, .int a1), (2, .int b2), (3, .int b3)] → (∀ (H : Heap) (locs : List Loc) (ls : Array Slot), va_P D vwCl (wsG 167 (ceC cA q) q res.2) H → va_S (AqG 167 q) s.heap H locs → lv_has ls 4 [(2, .int (res.1))] → W p l e ({ frames := 2, cells := 0, slots := 0, locals := 34 } : Room) s m [.ref (q a0), .int a1].toArray below meth c H locs 0 0 (MQ below (Qi 167 (ceC cA q) D q r0 M0) [.ref (q a0), .int a1].toArray s 0 0 (AqG 167 q)) (F0 m 42 ls [])) → W p l e ({ frames := 2, cells := 0, slots := 0, locals := 34 } : Room) s m [.ref (q a0), .int a1].toArray below meth c H locs 0 0 (MQ below (Qi 167 (ceC cA q) D q r0 M0) [.ref (q a0), .int a1].toArray s 0 0 (AqG 167 q)) (F0 m 4 ls []) := by
    intro fu
    induction fu with
    | zero => intro b2 b3 M res H locs ls h; exact absurd h (by simp [f_X0_votesOf_L4])
    | succ fu ih =>
      intro b2 b3 M res H locs ls h hP hS hl K4_0
      rw [f_X0_votesOf_L4] at h
      refine lv_iload_n hx hb dX0_votesOf_4 rfl (lv_at hl 3 rfl) ?_
      refine lv_aload_n hx hb dX0_votesOf_5 rfl (lv_at hl 0 rfl) ?_
      refine lv_iconst (v := 4) hx hb dX0_votesOf_6 (by decide) ?_
      obtain ⟨r5, M6, hc7, h⟩ := bnd_inv h
      refine gV_i (As := [.int (4 : Int32)]) X hP hS hl.1 (c_X0_countOf l D cA q aK aV hq h0 hc7) sf_X0_countOf bw_645 sv_X0_countOf (rcC_0 h0) rfl ⟨rfl, rfl⟩ ⟨Nat.le_of_ble_eq_true rfl, Nat.le_of_ble_eq_true rfl⟩ rfl rfl (Nat.le_of_ble_eq_true rfl) dX0_votesOf_7 (fun H locs hP hS => ?_)
      refine lv_icmp_ge (tgt := 42) hx hb dX0_votesOf_10 (by decide) (fun c8 => ?_) (fun c8 => ?_)
      · rw [if_pos c8] at h
        cases h
        exact K4_0 _ _ _ hP hS (lv_sub hl [2] rfl)
      · rw [if_neg c8] at h
        refine lv_iload_n hx hb dX0_votesOf_13 rfl (lv_at hl 2 rfl) ?_
        refine lv_iload_n hx hb dX0_votesOf_14 rfl (lv_at hl 1 rfl) ?_
        refine lv_iload_n hx hb dX0_votesOf_15 rfl (lv_at hl 3 rfl) ?_
        obtain ⟨r9, M10, hc11, h⟩ := bnd_inv h
        refine gSN_i (As := [.int a1, .int b3]) X hP hS hl.1 (c_X11_isIn l D cA q aK aV hq hc11) sf_X11_isIn nw_19 ss_X11_isIn ⟨rfl, rfl⟩ ⟨Nat.le_of_ble_eq_true rfl, Nat.le_of_ble_eq_true rfl⟩ rfl rfl (Nat.le_of_ble_eq_true rfl) dX0_votesOf_16 (fun H locs hP hS => ?_)
        refine lv_if_eq (tgt := 33) hx hb dX0_votesOf_19 (by decide) (fun c12 => ?_) (fun c12 => ?_)
        · rw [if_pos c12] at h
          refine lv_iconst (v := 0) hx hb dX0_votesOf_33 (by decide) ?_
          refine lv_iadd hx hb dX0_votesOf_34 ?_
          obtain ⟨y13, ey13, h⟩ := lt_inv h
          refine topE ey13 ?_
          refine lv_istore_n (lv' := [(2, .int y13), (0, .ref (q a0)), (1, .int a1), (3, .int b3)]) hx hb dX0_votesOf_35 rfl hl (by decide) rfl (fun ls hl => ?_)
          obtain ⟨y14, ey14, h⟩ := lt_inv h
          refine lv_iinc (v := y14) (lv' := [(3, .int y14), (2, .int y13), (0, .ref (q a0)), (1, .int a1)]) hx hb dX0_votesOf_36 hl (k := 3) rfl (by rw [ey14]; rfl) (by decide) rfl (fun ls hl => ?_)
          refine lv_goto (tgt := 4) hx hb dX0_votesOf_39 (by decide) ?_
          exact ih _ _ _ res _ _ _ h hP hS (lv_sub hl [2, 3, 1, 0] rfl) K4_0
        · rw [if_neg c12] at h
          refine lv_aload_n hx hb dX0_votesOf_22 rfl (lv_at hl 0 rfl) ?_
          refine gfC_0_6 X hP h0 bw_153 dX0_votesOf_23 ?_
          refine lv_iload_n hx hb dX0_votesOf_26 rfl (lv_at hl 3 rfl) ?_
          obtain ⟨r15, M16, hc17, h⟩ := bnd_inv h
          refine gSN_i (As := [.ref (q (a0 + 21)), .int b3]) X hP hS hl.1 (c_X11_cell l D cA q aK aV hq ((kC_0_6 h0).1) hc17) sf_X11_cell nw_11 ss_X11_cell ⟨rfl, rfl⟩ ⟨Nat.le_of_ble_eq_true rfl, Nat.le_of_ble_eq_true rfl⟩ rfl rfl (Nat.le_of_ble_eq_true rfl) dX0_votesOf_27 (fun H locs hP hS => ?_)
          refine lv_goto (tgt := 34) hx hb dX0_votesOf_30 (by decide) ?_
          refine lv_iadd hx hb dX0_votesOf_34 ?_
          obtain ⟨y18, ey18, h⟩ := lt_inv h
          refine topE ey18 ?_
          refine lv_istore_n (lv' := [(2, .int y18), (0, .ref (q a0)), (1, .int a1), (3, .int b3)]) hx hb dX0_votesOf_35 rfl hl (by decide) rfl (fun ls hl => ?_)
          obtain ⟨y19, ey19, h⟩ := lt_inv h
          refine lv_iinc (v := y19) (lv' := [(3, .int y19), (2, .int y18), (0, .ref (q a0)), (1, .int a1)]) hx hb dX0_votesOf_36 hl (k := 3) rfl (by rw [ey19]; rfl) (by decide) rfl (fun ls hl => ?_)
          refine lv_goto (tgt := 4) hx hb dX0_votesOf_39 (by decide) ?_
          exact ih _ _ _ res _ _ _ h hP hS (lv_sub hl [2, 3, 1, 0] rfl) K4_0
  refine lv_iconst (v := 0) hx hb dX0_votesOf_0 (by decide) ?_
  refine lv_istore_n (lv' := [(2, .int (0 : Int32)), (0, .ref (q a0)), (1, .int a1)]) hx hb dX0_votesOf_1 rfl hl (by decide) rfl (fun ls hl => ?_)
  refine lv_iconst (v := 0) hx hb dX0_votesOf_2 (by decide) ?_
  refine lv_istore_n (lv' := [(3, .int (0 : Int32)), (2, .int (0 : Int32)), (0, .ref (q a0)), (1, .int a1)]) hx hb dX0_votesOf_3 rfl hl (by decide) rfl (fun ls hl => ?_)
  obtain ⟨s1, M2, hc3, h⟩ := bnd_inv h
  obtain ⟨x4, rfl⟩ : ∃ z, z = s1 := ⟨_, rfl⟩
  try dsimp only at h
  refine hL4  fz _ _ _ _ _ _ _ hc3 hP hS (lv_sub hl [2, 3, 1, 0] rfl) (fun H locs ls hP hS hl => ?_)
  have hl : lv_has ls 4 [(2, .int x4)] := hl
  refine lv_iload_n hx hb dX0_votesOf_42 rfl (lv_at hl 0 rfl) ?_
  exact end_i X hr hk hP hS h dX0_votesOf_43
theorem dX11_told_0 : decode cX11_told 0 = .ok (.iload_n 1, 1) := by decide +kernel
theorem dX11_told_1 : decode cX11_told 1 = .ok (.bipush 6, 2) := by decide +kernel
theorem dX11_told_3 : decode cX11_told 3 = .ok (.invokestatic 104, 3) := by decide +kernel
theorem dX11_told_6 : decode cX11_told 6 = .ok (.ifCond .eq 16, 3) := by decide +kernel
theorem dX11_told_9 : decode cX11_told 9 = .ok (.aload_n 0, 1) := by decide +kernel
theorem dX11_told_10 : decode cX11_told 10 = .ok (.aload_n 0, 1) := by decide +kernel
theorem dX11_told_11 : decode cX11_told 11 = .ok (.getfield 10, 3) := by decide +kernel
theorem dX11_told_14 : decode cX11_told 14 = .ok (.iload_n 1, 1) := by decide +kernel
theorem dX11_told_15 : decode cX11_told 15 = .ok (.invokevirtual 167, 3) := by decide +kernel
theorem dX11_told_18 : decode cX11_told 18 = .ok (.invokevirtual 191, 3) := by decide +kernel
theorem dX11_told_21 : decode cX11_told 21 = .ok (.ireturn, 1) := by decide +kernel
theorem dX11_told_22 : decode cX11_told 22 = .ok (.iload_n 1, 1) := by decide +kernel
theorem dX11_told_23 : decode cX11_told 23 = .ok (.tableswitch 139 6 12 #[41, 53, 65, 78, 91, 104, 116], 41) := by decide +kernel
theorem dX11_told_64 : decode cX11_told 64 = .ok (.aload_n 0, 1) := by decide +kernel
theorem dX11_told_65 : decode cX11_told 65 = .ok (.aload_n 0, 1) := by decide +kernel
theorem dX11_told_66 : decode cX11_told 66 = .ok (.getfield 10, 3) := by decide +kernel
theorem dX11_told_69 : decode cX11_told 69 = .ok (.getfield 194, 3) := by decide +kernel
theorem dX11_told_72 : decode cX11_told 72 = .ok (.invokevirtual 191, 3) := by decide +kernel
theorem dX11_told_75 : decode cX11_told 75 = .ok (.ireturn, 1) := by decide +kernel
theorem dX11_told_76 : decode cX11_told 76 = .ok (.aload_n 0, 1) := by decide +kernel
theorem dX11_told_77 : decode cX11_told 77 = .ok (.aload_n 0, 1) := by decide +kernel
theorem dX11_told_78 : decode cX11_told 78 = .ok (.getfield 10, 3) := by decide +kernel
theorem dX11_told_81 : decode cX11_told 81 = .ok (.getfield 197, 3) := by decide +kernel
theorem dX11_told_84 : decode cX11_told 84 = .ok (.invokevirtual 191, 3) := by decide +kernel
theorem dX11_told_87 : decode cX11_told 87 = .ok (.ireturn, 1) := by decide +kernel
theorem dX11_told_88 : decode cX11_told 88 = .ok (.aload_n 0, 1) := by decide +kernel
theorem dX11_told_89 : decode cX11_told 89 = .ok (.aload_n 0, 1) := by decide +kernel
theorem dX11_told_90 : decode cX11_told 90 = .ok (.getfield 10, 3) := by decide +kernel
theorem dX11_told_93 : decode cX11_told 93 = .ok (.iconst 0, 1) := by decide +kernel
theorem dX11_told_94 : decode cX11_told 94 = .ok (.invokevirtual 200, 3) := by decide +kernel
theorem dX11_told_97 : decode cX11_told 97 = .ok (.invokevirtual 191, 3) := by decide +kernel
theorem dX11_told_100 : decode cX11_told 100 = .ok (.ireturn, 1) := by decide +kernel
theorem dX11_told_101 : decode cX11_told 101 = .ok (.aload_n 0, 1) := by decide +kernel
theorem dX11_told_102 : decode cX11_told 102 = .ok (.aload_n 0, 1) := by decide +kernel
theorem dX11_told_103 : decode cX11_told 103 = .ok (.getfield 10, 3) := by decide +kernel
theorem dX11_told_106 : decode cX11_told 106 = .ok (.iconst 1, 1) := by decide +kernel
theorem dX11_told_107 : decode cX11_told 107 = .ok (.invokevirtual 200, 3) := by decide +kernel
theorem dX11_told_110 : decode cX11_told 110 = .ok (.invokevirtual 191, 3) := by decide +kernel
theorem dX11_told_113 : decode cX11_told 113 = .ok (.ireturn, 1) := by decide +kernel
theorem dX11_told_114 : decode cX11_told 114 = .ok (.aload_n 0, 1) := by decide +kernel
theorem dX11_told_115 : decode cX11_told 115 = .ok (.aload_n 0, 1) := by decide +kernel
theorem dX11_told_116 : decode cX11_told 116 = .ok (.getfield 10, 3) := by decide +kernel
theorem dX11_told_119 : decode cX11_told 119 = .ok (.iconst 2, 1) := by decide +kernel
theorem dX11_told_120 : decode cX11_told 120 = .ok (.invokevirtual 200, 3) := by decide +kernel
theorem dX11_told_123 : decode cX11_told 123 = .ok (.invokevirtual 191, 3) := by decide +kernel
theorem dX11_told_126 : decode cX11_told 126 = .ok (.ireturn, 1) := by decide +kernel
theorem dX11_told_127 : decode cX11_told 127 = .ok (.aload_n 0, 1) := by decide +kernel
theorem dX11_told_128 : decode cX11_told 128 = .ok (.aload_n 0, 1) := by decide +kernel
theorem dX11_told_129 : decode cX11_told 129 = .ok (.getfield 10, 3) := by decide +kernel
theorem dX11_told_132 : decode cX11_told 132 = .ok (.invokevirtual 203, 3) := by decide +kernel
theorem dX11_told_135 : decode cX11_told 135 = .ok (.invokevirtual 191, 3) := by decide +kernel
theorem dX11_told_138 : decode cX11_told 138 = .ok (.ireturn, 1) := by decide +kernel
theorem dX11_told_139 : decode cX11_told 139 = .ok (.aload_n 0, 1) := by decide +kernel
theorem dX11_told_140 : decode cX11_told 140 = .ok (.aload_n 0, 1) := by decide +kernel
theorem dX11_told_141 : decode cX11_told 141 = .ok (.getfield 10, 3) := by decide +kernel
theorem dX11_told_144 : decode cX11_told 144 = .ok (.aload_n 0, 1) := by decide +kernel
theorem dX11_told_145 : decode cX11_told 145 = .ok (.getfield 10, 3) := by decide +kernel
theorem dX11_told_148 : decode cX11_told 148 = .ok (.iconst 4, 1) := by decide +kernel
theorem dX11_told_149 : decode cX11_told 149 = .ok (.invokevirtual 167, 3) := by decide +kernel
theorem dX11_told_152 : decode cX11_told 152 = .ok (.invokestatic 207, 3) := by decide +kernel
theorem dX11_told_155 : decode cX11_told 155 = .ok (.invokevirtual 210, 3) := by decide +kernel
theorem dX11_told_158 : decode cX11_told 158 = .ok (.invokevirtual 191, 3) := by decide +kernel
theorem dX11_told_161 : decode cX11_told 161 = .ok (.ireturn, 1) := by decide +kernel
theorem dX11_told_162 : decode cX11_told 162 = .ok (.aload_n 0, 1) := by decide +kernel
theorem dX11_told_163 : decode cX11_told 163 = .ok (.iconst 1, 1) := by decide +kernel
theorem dX11_told_164 : decode cX11_told 164 = .ok (.invokevirtual 132, 3) := by decide +kernel
theorem dX11_told_167 : decode cX11_told 167 = .ok (.ireturn, 1) := by decide +kernel
set_option maxRecDepth 100000 in
set_option maxHeartbeats 8000000 in
theorem c_X11_told (l : Launch) (D : va_G) (cA : Nat → ClassId) (q aK aV : Nat → Nat) (hq : injG 167 q) {a1 : Int32} {M M0 : Mem} {r0 : Int32} (h : f_X11_told a1 M = some (r0, M0)) : Met l yX11_told (.code yX11_told cX11_told 2 (some .int) :: BW) ({ frames := 3, cells := 0, slots := 0, locals := 59 } : Room) (va_Pc [.ref (q 0), .int a1] (CB 167 (ceC cA q) D cA q aK aV M)) (Qi 167 (ceC cA q) D q r0 M0) 0 0 (AqG 167 q) := by
  refine gMet RX11 (by decide +kernel) rfl hq (Nat.le_of_ble_eq_true rfl) ?_
  intro p e s m below meth c ls X hr hk hP hS hl
  have hx := X.1
  have hb := X.2.1
  have hl : lv_has ls 2 [(0, .ref (q 0)), (1, .int a1)] := hl
  rw [f_X11_told] at h
  refine lv_iload_n hx hb dX11_told_0 rfl (lv_at hl 1 rfl) ?_
  refine lv_bipush (v := 6) hx hb dX11_told_1 (by decide) ?_
  obtain ⟨r1, M2, hc3, h⟩ := bnd_inv h
  refine gS_i (As := [.int a1, .int (6 : Int32)]) X hP hS hl.1 (c_X11_within l D cA q aK aV hq hc3) sf_X11_within bw_504 ss_X11_within ⟨rfl, rfl⟩ ⟨Nat.le_of_ble_eq_true rfl, Nat.le_of_ble_eq_true rfl⟩ rfl rfl (Nat.le_of_ble_eq_true rfl) dX11_told_3 (fun H locs hP hS => ?_)
  refine lv_if_eq (tgt := 22) hx hb dX11_told_6 (by decide) (fun c4 => ?_) (fun c4 => ?_)
  · rw [if_pos c4] at h
    refine lv_iload_n hx hb dX11_told_22 rfl (lv_at hl 1 rfl) ?_
    by_cases c9 : a1 = 6
    · rw [if_pos c9] at h
      refine lv_tableIn (tgt := 64) hx hb dX11_told_23 (by rw [c9]; decide) (by rw [c9]; decide) (by rw [c9]; rfl) (by decide) ?_
      refine lv_aload_n hx hb dX11_told_64 rfl (lv_at hl 0 rfl) ?_
      refine lv_aload_n hx hb dX11_told_65 rfl (lv_at hl 0 rfl) ?_
      refine gfC_11_0 X hP sC_0 bw_430 dX11_told_66 ?_
      obtain ⟨g5, h⟩ := gd_inv h
      have g5 := Decidable.not_not.mp g5
      refine gfC_0_12 X hP g5 bw_171 dX11_told_69 ?_
      obtain ⟨r6, M7, hc8, h⟩ := bnd_inv h
      refine gV_i (As := [.int (gI M2 (gR M2 0 0) 12)]) X hP hS hl.1 (c_X11_given l D cA q aK aV hq hc8) sf_X11_given bw_755 sv_X11_given (rcC_11 sC_0) rfl ⟨rfl, rfl⟩ ⟨Nat.le_of_ble_eq_true rfl, Nat.le_of_ble_eq_true rfl⟩ rfl rfl (Nat.le_of_ble_eq_true rfl) dX11_told_72 (fun H locs hP hS => ?_)
      exact end_i X hr hk hP hS h dX11_told_75
    rw [if_neg c9] at h
    by_cases c14 : a1 = 7
    · rw [if_pos c14] at h
      refine lv_tableIn (tgt := 76) hx hb dX11_told_23 (by rw [c14]; decide) (by rw [c14]; decide) (by rw [c14]; rfl) (by decide) ?_
      refine lv_aload_n hx hb dX11_told_76 rfl (lv_at hl 0 rfl) ?_
      refine lv_aload_n hx hb dX11_told_77 rfl (lv_at hl 0 rfl) ?_
      refine gfC_11_0 X hP sC_0 bw_430 dX11_told_78 ?_
      obtain ⟨g10, h⟩ := gd_inv h
      have g10 := Decidable.not_not.mp g10
      refine gfC_0_13 X hP g10 bw_173 dX11_told_81 ?_
      obtain ⟨r11, M12, hc13, h⟩ := bnd_inv h
      refine gV_i (As := [.int (gI M2 (gR M2 0 0) 13)]) X hP hS hl.1 (c_X11_given l D cA q aK aV hq hc13) sf_X11_given bw_755 sv_X11_given (rcC_11 sC_0) rfl ⟨rfl, rfl⟩ ⟨Nat.le_of_ble_eq_true rfl, Nat.le_of_ble_eq_true rfl⟩ rfl rfl (Nat.le_of_ble_eq_true rfl) dX11_told_84 (fun H locs hP hS => ?_)
      exact end_i X hr hk hP hS h dX11_told_87
    rw [if_neg c14] at h
    by_cases c22 : a1 = 8
    · rw [if_pos c22] at h
      refine lv_tableIn (tgt := 88) hx hb dX11_told_23 (by rw [c22]; decide) (by rw [c22]; decide) (by rw [c22]; rfl) (by decide) ?_
      refine lv_aload_n hx hb dX11_told_88 rfl (lv_at hl 0 rfl) ?_
      refine lv_aload_n hx hb dX11_told_89 rfl (lv_at hl 0 rfl) ?_
      refine gfC_11_0 X hP sC_0 bw_430 dX11_told_90 ?_
      obtain ⟨g15, h⟩ := gd_inv h
      have g15 := Decidable.not_not.mp g15
      refine lv_iconst (v := 0) hx hb dX11_told_93 (by decide) ?_
      obtain ⟨r16, M17, hc18, h⟩ := bnd_inv h
      refine gV_i (As := [.int (0 : Int32)]) X hP hS hl.1 (c_X0_setOfFate l D cA q aK aV hq g15 hc18) sf_X0_setOfFate bw_809 sv_X0_setOfFate (rcC_0 g15) rfl ⟨rfl, rfl⟩ ⟨Nat.le_of_ble_eq_true rfl, Nat.le_of_ble_eq_true rfl⟩ rfl rfl (Nat.le_of_ble_eq_true rfl) dX11_told_94 (fun H locs hP hS => ?_)
      obtain ⟨r19, M20, hc21, h⟩ := bnd_inv h
      refine gV_i (As := [.int r16]) X hP hS hl.1 (c_X11_given l D cA q aK aV hq hc21) sf_X11_given bw_755 sv_X11_given (rcC_11 sC_0) rfl ⟨rfl, rfl⟩ ⟨Nat.le_of_ble_eq_true rfl, Nat.le_of_ble_eq_true rfl⟩ rfl rfl (Nat.le_of_ble_eq_true rfl) dX11_told_97 (fun H locs hP hS => ?_)
      exact end_i X hr hk hP hS h dX11_told_100
    rw [if_neg c22] at h
    by_cases c30 : a1 = 9
    · rw [if_pos c30] at h
      refine lv_tableIn (tgt := 101) hx hb dX11_told_23 (by rw [c30]; decide) (by rw [c30]; decide) (by rw [c30]; rfl) (by decide) ?_
      refine lv_aload_n hx hb dX11_told_101 rfl (lv_at hl 0 rfl) ?_
      refine lv_aload_n hx hb dX11_told_102 rfl (lv_at hl 0 rfl) ?_
      refine gfC_11_0 X hP sC_0 bw_430 dX11_told_103 ?_
      obtain ⟨g23, h⟩ := gd_inv h
      have g23 := Decidable.not_not.mp g23
      refine lv_iconst (v := 1) hx hb dX11_told_106 (by decide) ?_
      obtain ⟨r24, M25, hc26, h⟩ := bnd_inv h
      refine gV_i (As := [.int (1 : Int32)]) X hP hS hl.1 (c_X0_setOfFate l D cA q aK aV hq g23 hc26) sf_X0_setOfFate bw_809 sv_X0_setOfFate (rcC_0 g23) rfl ⟨rfl, rfl⟩ ⟨Nat.le_of_ble_eq_true rfl, Nat.le_of_ble_eq_true rfl⟩ rfl rfl (Nat.le_of_ble_eq_true rfl) dX11_told_107 (fun H locs hP hS => ?_)
      obtain ⟨r27, M28, hc29, h⟩ := bnd_inv h
      refine gV_i (As := [.int r24]) X hP hS hl.1 (c_X11_given l D cA q aK aV hq hc29) sf_X11_given bw_755 sv_X11_given (rcC_11 sC_0) rfl ⟨rfl, rfl⟩ ⟨Nat.le_of_ble_eq_true rfl, Nat.le_of_ble_eq_true rfl⟩ rfl rfl (Nat.le_of_ble_eq_true rfl) dX11_told_110 (fun H locs hP hS => ?_)
      exact end_i X hr hk hP hS h dX11_told_113
    rw [if_neg c30] at h
    by_cases c38 : a1 = 10
    · rw [if_pos c38] at h
      refine lv_tableIn (tgt := 114) hx hb dX11_told_23 (by rw [c38]; decide) (by rw [c38]; decide) (by rw [c38]; rfl) (by decide) ?_
      refine lv_aload_n hx hb dX11_told_114 rfl (lv_at hl 0 rfl) ?_
      refine lv_aload_n hx hb dX11_told_115 rfl (lv_at hl 0 rfl) ?_
      refine gfC_11_0 X hP sC_0 bw_430 dX11_told_116 ?_
      obtain ⟨g31, h⟩ := gd_inv h
      have g31 := Decidable.not_not.mp g31
      refine lv_iconst (v := 2) hx hb dX11_told_119 (by decide) ?_
      obtain ⟨r32, M33, hc34, h⟩ := bnd_inv h
      refine gV_i (As := [.int (2 : Int32)]) X hP hS hl.1 (c_X0_setOfFate l D cA q aK aV hq g31 hc34) sf_X0_setOfFate bw_809 sv_X0_setOfFate (rcC_0 g31) rfl ⟨rfl, rfl⟩ ⟨Nat.le_of_ble_eq_true rfl, Nat.le_of_ble_eq_true rfl⟩ rfl rfl (Nat.le_of_ble_eq_true rfl) dX11_told_120 (fun H locs hP hS => ?_)
      obtain ⟨r35, M36, hc37, h⟩ := bnd_inv h
      refine gV_i (As := [.int r32]) X hP hS hl.1 (c_X11_given l D cA q aK aV hq hc37) sf_X11_given bw_755 sv_X11_given (rcC_11 sC_0) rfl ⟨rfl, rfl⟩ ⟨Nat.le_of_ble_eq_true rfl, Nat.le_of_ble_eq_true rfl⟩ rfl rfl (Nat.le_of_ble_eq_true rfl) dX11_told_123 (fun H locs hP hS => ?_)
      exact end_i X hr hk hP hS h dX11_told_126
    rw [if_neg c38] at h
    by_cases c46 : a1 = 11
    · rw [if_pos c46] at h
      refine lv_tableIn (tgt := 127) hx hb dX11_told_23 (by rw [c46]; decide) (by rw [c46]; decide) (by rw [c46]; rfl) (by decide) ?_
      refine lv_aload_n hx hb dX11_told_127 rfl (lv_at hl 0 rfl) ?_
      refine lv_aload_n hx hb dX11_told_128 rfl (lv_at hl 0 rfl) ?_
      refine gfC_11_0 X hP sC_0 bw_430 dX11_told_129 ?_
      obtain ⟨g39, h⟩ := gd_inv h
      have g39 := Decidable.not_not.mp g39
      obtain ⟨r40, M41, hc42, h⟩ := bnd_inv h
      refine gV_i (As := []) X hP hS hl.1 (c_X0_guiltySet l D cA q aK aV hq g39 hc42) sf_X0_guiltySet bw_814 sv_X0_guiltySet (rcC_0 g39) rfl ⟨rfl, rfl⟩ ⟨Nat.le_of_ble_eq_true rfl, Nat.le_of_ble_eq_true rfl⟩ rfl rfl (Nat.le_of_ble_eq_true rfl) dX11_told_132 (fun H locs hP hS => ?_)
      obtain ⟨r43, M44, hc45, h⟩ := bnd_inv h
      refine gV_i (As := [.int r40]) X hP hS hl.1 (c_X11_given l D cA q aK aV hq hc45) sf_X11_given bw_755 sv_X11_given (rcC_11 sC_0) rfl ⟨rfl, rfl⟩ ⟨Nat.le_of_ble_eq_true rfl, Nat.le_of_ble_eq_true rfl⟩ rfl rfl (Nat.le_of_ble_eq_true rfl) dX11_told_135 (fun H locs hP hS => ?_)
      exact end_i X hr hk hP hS h dX11_told_138
    rw [if_neg c46] at h
    by_cases c61 : a1 = 12
    · rw [if_pos c61] at h
      refine lv_tableIn (tgt := 139) hx hb dX11_told_23 (by rw [c61]; decide) (by rw [c61]; decide) (by rw [c61]; rfl) (by decide) ?_
      refine lv_aload_n hx hb dX11_told_139 rfl (lv_at hl 0 rfl) ?_
      refine lv_aload_n hx hb dX11_told_140 rfl (lv_at hl 0 rfl) ?_
      refine gfC_11_0 X hP sC_0 bw_430 dX11_told_141 ?_
      obtain ⟨g47, h⟩ := gd_inv h
      have g47 := Decidable.not_not.mp g47
      refine lv_aload_n hx hb dX11_told_144 rfl (lv_at hl 0 rfl) ?_
      refine gfC_11_0 X hP sC_0 bw_430 dX11_told_145 ?_
      obtain ⟨g48, h⟩ := gd_inv h
      have g48 := Decidable.not_not.mp g48
      refine lv_iconst (v := 4) hx hb dX11_told_148 (by decide) ?_
      obtain ⟨r49, M50, hc51, h⟩ := bnd_inv h
      refine gV_i (As := [.int (4 : Int32)]) X hP hS hl.1 (c_X0_countOf l D cA q aK aV hq g48 hc51) sf_X0_countOf bw_750 sv_X0_countOf (rcC_0 g48) rfl ⟨rfl, rfl⟩ ⟨Nat.le_of_ble_eq_true rfl, Nat.le_of_ble_eq_true rfl⟩ rfl rfl (Nat.le_of_ble_eq_true rfl) dX11_told_149 (fun H locs hP hS => ?_)
      obtain ⟨r52, M53, hc54, h⟩ := bnd_inv h
      refine gS_i (As := [.int r49]) X hP hS hl.1 (c_X11_setOfAll l D cA q aK aV hq hc54) sf_X11_setOfAll bw_818 ss_X11_setOfAll ⟨rfl, rfl⟩ ⟨Nat.le_of_ble_eq_true rfl, Nat.le_of_ble_eq_true rfl⟩ rfl rfl (Nat.le_of_ble_eq_true rfl) dX11_told_152 (fun H locs hP hS => ?_)
      obtain ⟨r55, M56, hc57, h⟩ := bnd_inv h
      refine gV_i (As := [.int r52]) X hP hS hl.1 (c_X0_votesOf l D cA q aK aV hq g47 hc57) sf_X0_votesOf bw_821 sv_X0_votesOf (rcC_0 g47) rfl ⟨rfl, rfl⟩ ⟨Nat.le_of_ble_eq_true rfl, Nat.le_of_ble_eq_true rfl⟩ rfl rfl (Nat.le_of_ble_eq_true rfl) dX11_told_155 (fun H locs hP hS => ?_)
      obtain ⟨r58, M59, hc60, h⟩ := bnd_inv h
      refine gV_i (As := [.int r55]) X hP hS hl.1 (c_X11_given l D cA q aK aV hq hc60) sf_X11_given bw_755 sv_X11_given (rcC_11 sC_0) rfl ⟨rfl, rfl⟩ ⟨Nat.le_of_ble_eq_true rfl, Nat.le_of_ble_eq_true rfl⟩ rfl rfl (Nat.le_of_ble_eq_true rfl) dX11_told_158 (fun H locs hP hS => ?_)
      exact end_i X hr hk hP hS h dX11_told_161
    rw [if_neg c61] at h
    refine lv_tableOut (tgt := 162) hx hb dX11_told_23 (by have nc9 := lv_neT (a := 6) c9 (by decide); have nc14 := lv_neT (a := 7) c14 (by decide); have nc22 := lv_neT (a := 8) c22 (by decide); have nc30 := lv_neT (a := 9) c30 (by decide); have nc38 := lv_neT (a := 10) c38 (by decide); have nc46 := lv_neT (a := 11) c46 (by decide); have nc61 := lv_neT (a := 12) c61 (by decide); omega) (by decide) ?_
    refine lv_aload_n hx hb dX11_told_162 rfl (lv_at hl 0 rfl) ?_
    refine lv_iconst (v := 1) hx hb dX11_told_163 (by decide) ?_
    obtain ⟨r62, M63, hc64, h⟩ := bnd_inv h
    refine gV_i (As := [.int (1 : Int32)]) X hP hS hl.1 (c_X11_refused l D cA q aK aV hq hc64) sf_X11_refused bw_552 sv_X11_refused (rcC_11 sC_0) rfl ⟨rfl, rfl⟩ ⟨Nat.le_of_ble_eq_true rfl, Nat.le_of_ble_eq_true rfl⟩ rfl rfl (Nat.le_of_ble_eq_true rfl) dX11_told_164 (fun H locs hP hS => ?_)
    exact end_i X hr hk hP hS h dX11_told_167
  · rw [if_neg c4] at h
    refine lv_aload_n hx hb dX11_told_9 rfl (lv_at hl 0 rfl) ?_
    refine lv_aload_n hx hb dX11_told_10 rfl (lv_at hl 0 rfl) ?_
    refine gfC_11_0 X hP sC_0 bw_430 dX11_told_11 ?_
    obtain ⟨g65, h⟩ := gd_inv h
    have g65 := Decidable.not_not.mp g65
    refine lv_iload_n hx hb dX11_told_14 rfl (lv_at hl 1 rfl) ?_
    obtain ⟨r66, M67, hc68, h⟩ := bnd_inv h
    refine gV_i (As := [.int a1]) X hP hS hl.1 (c_X0_countOf l D cA q aK aV hq g65 hc68) sf_X0_countOf bw_750 sv_X0_countOf (rcC_0 g65) rfl ⟨rfl, rfl⟩ ⟨Nat.le_of_ble_eq_true rfl, Nat.le_of_ble_eq_true rfl⟩ rfl rfl (Nat.le_of_ble_eq_true rfl) dX11_told_15 (fun H locs hP hS => ?_)
    obtain ⟨r69, M70, hc71, h⟩ := bnd_inv h
    refine gV_i (As := [.int r66]) X hP hS hl.1 (c_X11_given l D cA q aK aV hq hc71) sf_X11_given bw_755 sv_X11_given (rcC_11 sC_0) rfl ⟨rfl, rfl⟩ ⟨Nat.le_of_ble_eq_true rfl, Nat.le_of_ble_eq_true rfl⟩ rfl rfl (Nat.le_of_ble_eq_true rfl) dX11_told_18 (fun H locs hP hS => ?_)
    exact end_i X hr hk hP hS h dX11_told_21
theorem dX0_has_0 : decode cX0_has 0 = .ok (.iload_n 2, 1) := by decide +kernel
theorem dX0_has_1 : decode cX0_has 1 = .ok (.ifCond .lt 16, 3) := by decide +kernel
theorem dX0_has_4 : decode cX0_has 4 = .ok (.iload_n 2, 1) := by decide +kernel
theorem dX0_has_5 : decode cX0_has 5 = .ok (.aload_n 0, 1) := by decide +kernel
theorem dX0_has_6 : decode cX0_has 6 = .ok (.iload_n 1, 1) := by decide +kernel
theorem dX0_has_7 : decode cX0_has 7 = .ok (.invokevirtual 77, 3) := by decide +kernel
theorem dX0_has_10 : decode cX0_has 10 = .ok (.if_icmp .ge 7, 3) := by decide +kernel
theorem dX0_has_13 : decode cX0_has 13 = .ok (.iconst 1, 1) := by decide +kernel
theorem dX0_has_14 : decode cX0_has 14 = .ok (.goto 4, 3) := by decide +kernel
theorem dX0_has_17 : decode cX0_has 17 = .ok (.iconst 0, 1) := by decide +kernel
theorem dX0_has_18 : decode cX0_has 18 = .ok (.ireturn, 1) := by decide +kernel
set_option maxRecDepth 100000 in
set_option maxHeartbeats 8000000 in
theorem c_X0_has (l : Launch) (D : va_G) (cA : Nat → ClassId) (q aK aV : Nat → Nat) (hq : injG 167 q) {a0 : Nat} {a1 : Int32} {a2 : Int32} {M M0 : Mem} {r0 : Int32} (h0 : shC a0 = 0) (h : f_X0_has a0 a1 a2 M = some (r0, M0)) : Met l yX0_has (.code yX0_has cX0_has 3 (some .boolean) :: BW) ({ frames := 2, cells := 0, slots := 0, locals := 34 } : Room) (va_Pc [.ref (q a0), .int a1, .int a2] (CB 167 (ceC cA q) D cA q aK aV M)) (Qi 167 (ceC cA q) D q r0 M0) 0 0 (AqG 167 q) := by
  refine gMet RX0 (by decide +kernel) rfl hq (Nat.le_of_ble_eq_true rfl) ?_
  intro p e s m below meth c ls X hr hk hP hS hl
  have hx := X.1
  have hb := X.2.1
  have hl : lv_has ls 3 [(0, .ref (q a0)), (1, .int a1), (2, .int a2)] := hl
  rw [f_X0_has] at h
  refine lv_iload_n hx hb dX0_has_0 rfl (lv_at hl 2 rfl) ?_
  refine lv_if_lt (tgt := 17) hx hb dX0_has_1 (by decide) (fun c1 => ?_) (fun c1 => ?_)
  · rw [if_pos c1] at h
    refine lv_iconst (v := 0) hx hb dX0_has_17 (by decide) ?_
    exact end_z X hr hk hP hS (Or.inl rfl) h dX0_has_18
  · rw [if_neg c1] at h
    refine lv_iload_n hx hb dX0_has_4 rfl (lv_at hl 2 rfl) ?_
    refine lv_aload_n hx hb dX0_has_5 rfl (lv_at hl 0 rfl) ?_
    refine lv_iload_n hx hb dX0_has_6 rfl (lv_at hl 1 rfl) ?_
    obtain ⟨r2, M3, hc4, h⟩ := bnd_inv h
    refine gV_i (As := [.int a1]) X hP hS hl.1 (c_X0_countOf l D cA q aK aV hq h0 hc4) sf_X0_countOf bw_645 sv_X0_countOf (rcC_0 h0) rfl ⟨rfl, rfl⟩ ⟨Nat.le_of_ble_eq_true rfl, Nat.le_of_ble_eq_true rfl⟩ rfl rfl (Nat.le_of_ble_eq_true rfl) dX0_has_7 (fun H locs hP hS => ?_)
    refine lv_icmp_ge (tgt := 17) hx hb dX0_has_10 (by decide) (fun c5 => ?_) (fun c5 => ?_)
    · rw [if_pos c5] at h
      refine lv_iconst (v := 0) hx hb dX0_has_17 (by decide) ?_
      exact end_z X hr hk hP hS (Or.inl rfl) h dX0_has_18
    · rw [if_neg c5] at h
      refine lv_iconst (v := 1) hx hb dX0_has_13 (by decide) ?_
      refine lv_goto (tgt := 18) hx hb dX0_has_14 (by decide) ?_
      exact end_z X hr hk hP hS (Or.inr rfl) h dX0_has_18
theorem dX0_senseOf_0 : decode cX0_senseOf 0 = .ok (.aload_n 0, 1) := by decide +kernel
theorem dX0_senseOf_1 : decode cX0_senseOf 1 = .ok (.iconst 1, 1) := by decide +kernel
theorem dX0_senseOf_2 : decode cX0_senseOf 2 = .ok (.iload_n 1, 1) := by decide +kernel
theorem dX0_senseOf_3 : decode cX0_senseOf 3 = .ok (.invokevirtual 137, 3) := by decide +kernel
theorem dX0_senseOf_6 : decode cX0_senseOf 6 = .ok (.ifCond .eq 14, 3) := by decide +kernel
theorem dX0_senseOf_9 : decode cX0_senseOf 9 = .ok (.aload_n 0, 1) := by decide +kernel
theorem dX0_senseOf_10 : decode cX0_senseOf 10 = .ok (.getfield 19, 3) := by decide +kernel
theorem dX0_senseOf_13 : decode cX0_senseOf 13 = .ok (.iload_n 1, 1) := by decide +kernel
theorem dX0_senseOf_14 : decode cX0_senseOf 14 = .ok (.invokestatic 102, 3) := by decide +kernel
theorem dX0_senseOf_17 : decode cX0_senseOf 17 = .ok (.goto 4, 3) := by decide +kernel
theorem dX0_senseOf_20 : decode cX0_senseOf 20 = .ok (.iconst 0, 1) := by decide +kernel
theorem dX0_senseOf_21 : decode cX0_senseOf 21 = .ok (.ireturn, 1) := by decide +kernel
set_option maxRecDepth 100000 in
set_option maxHeartbeats 8000000 in
theorem c_X0_senseOf (l : Launch) (D : va_G) (cA : Nat → ClassId) (q aK aV : Nat → Nat) (hq : injG 167 q) {a0 : Nat} {a1 : Int32} {M M0 : Mem} {r0 : Int32} (h0 : shC a0 = 0) (h : f_X0_senseOf a0 a1 M = some (r0, M0)) : Met l yX0_senseOf (.code yX0_senseOf cX0_senseOf 2 (some .int) :: BW) ({ frames := 3, cells := 0, slots := 0, locals := 56 } : Room) (va_Pc [.ref (q a0), .int a1] (CB 167 (ceC cA q) D cA q aK aV M)) (Qi 167 (ceC cA q) D q r0 M0) 0 0 (AqG 167 q) := by
  refine gMet RX0 (by decide +kernel) rfl hq (Nat.le_of_ble_eq_true rfl) ?_
  intro p e s m below meth c ls X hr hk hP hS hl
  have hx := X.1
  have hb := X.2.1
  have hl : lv_has ls 2 [(0, .ref (q a0)), (1, .int a1)] := hl
  rw [f_X0_senseOf] at h
  refine lv_aload_n hx hb dX0_senseOf_0 rfl (lv_at hl 0 rfl) ?_
  refine lv_iconst (v := 1) hx hb dX0_senseOf_1 (by decide) ?_
  refine lv_iload_n hx hb dX0_senseOf_2 rfl (lv_at hl 1 rfl) ?_
  obtain ⟨r1, M2, hc3, h⟩ := bnd_inv h
  refine gV_i (As := [.int (1 : Int32), .int a1]) X hP hS hl.1 (c_X0_has l D cA q aK aV hq h0 hc3) sf_X0_has bw_838 sv_X0_has (rcC_0 h0) rfl ⟨rfl, rfl⟩ ⟨Nat.le_of_ble_eq_true rfl, Nat.le_of_ble_eq_true rfl⟩ rfl rfl (Nat.le_of_ble_eq_true rfl) dX0_senseOf_3 (fun H locs hP hS => ?_)
  refine lv_if_eq (tgt := 20) hx hb dX0_senseOf_6 (by decide) (fun c4 => ?_) (fun c4 => ?_)
  · rw [if_pos c4] at h
    refine lv_iconst (v := 0) hx hb dX0_senseOf_20 (by decide) ?_
    exact end_i X hr hk hP hS h dX0_senseOf_21
  · rw [if_neg c4] at h
    refine lv_aload_n hx hb dX0_senseOf_9 rfl (lv_at hl 0 rfl) ?_
    refine gfC_0_2 X hP h0 bw_145 dX0_senseOf_10 ?_
    refine lv_iload_n hx hb dX0_senseOf_13 rfl (lv_at hl 1 rfl) ?_
    obtain ⟨r5, M6, hc7, h⟩ := bnd_inv h
    refine gSN_i (As := [.ref (q (a0 + 3)), .int a1]) X hP hS hl.1 (c_X11_cell l D cA q aK aV hq ((kC_0_2 h0).1) hc7) sf_X11_cell nw_11 ss_X11_cell ⟨rfl, rfl⟩ ⟨Nat.le_of_ble_eq_true rfl, Nat.le_of_ble_eq_true rfl⟩ rfl rfl (Nat.le_of_ble_eq_true rfl) dX0_senseOf_14 (fun H locs hP hS => ?_)
    refine lv_goto (tgt := 21) hx hb dX0_senseOf_17 (by decide) ?_
    exact end_i X hr hk hP hS h dX0_senseOf_21
theorem dX11_sense_0 : decode cX11_sense 0 = .ok (.aload_n 0, 1) := by decide +kernel
theorem dX11_sense_1 : decode cX11_sense 1 = .ok (.getfield 10, 3) := by decide +kernel
theorem dX11_sense_4 : decode cX11_sense 4 = .ok (.iconst 1, 1) := by decide +kernel
theorem dX11_sense_5 : decode cX11_sense 5 = .ok (.iload_n 1, 1) := by decide +kernel
theorem dX11_sense_6 : decode cX11_sense 6 = .ok (.invokevirtual 213, 3) := by decide +kernel
theorem dX11_sense_9 : decode cX11_sense 9 = .ok (.ifCond .ne 9, 3) := by decide +kernel
theorem dX11_sense_12 : decode cX11_sense 12 = .ok (.aload_n 0, 1) := by decide +kernel
theorem dX11_sense_13 : decode cX11_sense 13 = .ok (.iconst 1, 1) := by decide +kernel
theorem dX11_sense_14 : decode cX11_sense 14 = .ok (.invokevirtual 132, 3) := by decide +kernel
theorem dX11_sense_17 : decode cX11_sense 17 = .ok (.ireturn, 1) := by decide +kernel
theorem dX11_sense_18 : decode cX11_sense 18 = .ok (.aload_n 0, 1) := by decide +kernel
theorem dX11_sense_19 : decode cX11_sense 19 = .ok (.aload_n 0, 1) := by decide +kernel
theorem dX11_sense_20 : decode cX11_sense 20 = .ok (.getfield 10, 3) := by decide +kernel
theorem dX11_sense_23 : decode cX11_sense 23 = .ok (.iload_n 1, 1) := by decide +kernel
theorem dX11_sense_24 : decode cX11_sense 24 = .ok (.invokevirtual 216, 3) := by decide +kernel
theorem dX11_sense_27 : decode cX11_sense 27 = .ok (.invokevirtual 191, 3) := by decide +kernel
theorem dX11_sense_30 : decode cX11_sense 30 = .ok (.ireturn, 1) := by decide +kernel
set_option maxRecDepth 100000 in
set_option maxHeartbeats 8000000 in
theorem c_X11_sense (l : Launch) (D : va_G) (cA : Nat → ClassId) (q aK aV : Nat → Nat) (hq : injG 167 q) {a1 : Int32} {M M0 : Mem} {r0 : Int32} (h : f_X11_sense a1 M = some (r0, M0)) : Met l yX11_sense (.code yX11_sense cX11_sense 2 (some .int) :: BW) ({ frames := 4, cells := 0, slots := 0, locals := 77 } : Room) (va_Pc [.ref (q 0), .int a1] (CB 167 (ceC cA q) D cA q aK aV M)) (Qi 167 (ceC cA q) D q r0 M0) 0 0 (AqG 167 q) := by
  refine gMet RX11 (by decide +kernel) rfl hq (Nat.le_of_ble_eq_true rfl) ?_
  intro p e s m below meth c ls X hr hk hP hS hl
  have hx := X.1
  have hb := X.2.1
  have hl : lv_has ls 2 [(0, .ref (q 0)), (1, .int a1)] := hl
  rw [f_X11_sense] at h
  refine lv_aload_n hx hb dX11_sense_0 rfl (lv_at hl 0 rfl) ?_
  refine gfC_11_0 X hP sC_0 bw_430 dX11_sense_1 ?_
  obtain ⟨g1, h⟩ := gd_inv h
  have g1 := Decidable.not_not.mp g1
  refine lv_iconst (v := 1) hx hb dX11_sense_4 (by decide) ?_
  refine lv_iload_n hx hb dX11_sense_5 rfl (lv_at hl 1 rfl) ?_
  obtain ⟨r2, M3, hc4, h⟩ := bnd_inv h
  refine gV_i (As := [.int (1 : Int32), .int a1]) X hP hS hl.1 (c_X0_has l D cA q aK aV hq g1 hc4) sf_X0_has bw_830 sv_X0_has (rcC_0 g1) rfl ⟨rfl, rfl⟩ ⟨Nat.le_of_ble_eq_true rfl, Nat.le_of_ble_eq_true rfl⟩ rfl rfl (Nat.le_of_ble_eq_true rfl) dX11_sense_6 (fun H locs hP hS => ?_)
  refine lv_if_ne (tgt := 18) hx hb dX11_sense_9 (by decide) (fun c5 => ?_) (fun c5 => ?_)
  · rw [if_neg c5] at h
    refine lv_aload_n hx hb dX11_sense_18 rfl (lv_at hl 0 rfl) ?_
    refine lv_aload_n hx hb dX11_sense_19 rfl (lv_at hl 0 rfl) ?_
    refine gfC_11_0 X hP sC_0 bw_430 dX11_sense_20 ?_
    obtain ⟨g6, h⟩ := gd_inv h
    have g6 := Decidable.not_not.mp g6
    refine lv_iload_n hx hb dX11_sense_23 rfl (lv_at hl 1 rfl) ?_
    obtain ⟨r7, M8, hc9, h⟩ := bnd_inv h
    refine gV_i (As := [.int a1]) X hP hS hl.1 (c_X0_senseOf l D cA q aK aV hq g6 hc9) sf_X0_senseOf bw_834 sv_X0_senseOf (rcC_0 g6) rfl ⟨rfl, rfl⟩ ⟨Nat.le_of_ble_eq_true rfl, Nat.le_of_ble_eq_true rfl⟩ rfl rfl (Nat.le_of_ble_eq_true rfl) dX11_sense_24 (fun H locs hP hS => ?_)
    obtain ⟨r10, M11, hc12, h⟩ := bnd_inv h
    refine gV_i (As := [.int r7]) X hP hS hl.1 (c_X11_given l D cA q aK aV hq hc12) sf_X11_given bw_755 sv_X11_given (rcC_11 sC_0) rfl ⟨rfl, rfl⟩ ⟨Nat.le_of_ble_eq_true rfl, Nat.le_of_ble_eq_true rfl⟩ rfl rfl (Nat.le_of_ble_eq_true rfl) dX11_sense_27 (fun H locs hP hS => ?_)
    exact end_i X hr hk hP hS h dX11_sense_30
  · rw [if_pos c5] at h
    refine lv_aload_n hx hb dX11_sense_12 rfl (lv_at hl 0 rfl) ?_
    refine lv_iconst (v := 1) hx hb dX11_sense_13 (by decide) ?_
    obtain ⟨r13, M14, hc15, h⟩ := bnd_inv h
    refine gV_i (As := [.int (1 : Int32)]) X hP hS hl.1 (c_X11_refused l D cA q aK aV hq hc15) sf_X11_refused bw_552 sv_X11_refused (rcC_11 sC_0) rfl ⟨rfl, rfl⟩ ⟨Nat.le_of_ble_eq_true rfl, Nat.le_of_ble_eq_true rfl⟩ rfl rfl (Nat.le_of_ble_eq_true rfl) dX11_sense_14 (fun H locs hP hS => ?_)
    exact end_i X hr hk hP hS h dX11_sense_17
theorem dX6_partOf_0 : decode cX6_partOf 0 = .ok (.iload_n 1, 1) := by decide +kernel
theorem dX6_partOf_1 : decode cX6_partOf 1 = .ok (.tableswitch 60 0 4 #[35, 40, 45, 50, 55], 35) := by decide +kernel
theorem dX6_partOf_36 : decode cX6_partOf 36 = .ok (.aload_n 0, 1) := by decide +kernel
theorem dX6_partOf_37 : decode cX6_partOf 37 = .ok (.getfield 9, 3) := by decide +kernel
theorem dX6_partOf_40 : decode cX6_partOf 40 = .ok (.ireturn, 1) := by decide +kernel
theorem dX6_partOf_41 : decode cX6_partOf 41 = .ok (.aload_n 0, 1) := by decide +kernel
theorem dX6_partOf_42 : decode cX6_partOf 42 = .ok (.getfield 15, 3) := by decide +kernel
theorem dX6_partOf_45 : decode cX6_partOf 45 = .ok (.ireturn, 1) := by decide +kernel
theorem dX6_partOf_46 : decode cX6_partOf 46 = .ok (.aload_n 0, 1) := by decide +kernel
theorem dX6_partOf_47 : decode cX6_partOf 47 = .ok (.getfield 21, 3) := by decide +kernel
theorem dX6_partOf_50 : decode cX6_partOf 50 = .ok (.ireturn, 1) := by decide +kernel
theorem dX6_partOf_51 : decode cX6_partOf 51 = .ok (.aload_n 0, 1) := by decide +kernel
theorem dX6_partOf_52 : decode cX6_partOf 52 = .ok (.getfield 30, 3) := by decide +kernel
theorem dX6_partOf_55 : decode cX6_partOf 55 = .ok (.ireturn, 1) := by decide +kernel
theorem dX6_partOf_56 : decode cX6_partOf 56 = .ok (.aload_n 0, 1) := by decide +kernel
theorem dX6_partOf_57 : decode cX6_partOf 57 = .ok (.getfield 18, 3) := by decide +kernel
theorem dX6_partOf_60 : decode cX6_partOf 60 = .ok (.ireturn, 1) := by decide +kernel
theorem dX6_partOf_61 : decode cX6_partOf 61 = .ok (.iconst (-1), 1) := by decide +kernel
theorem dX6_partOf_62 : decode cX6_partOf 62 = .ok (.ireturn, 1) := by decide +kernel
set_option maxRecDepth 100000 in
set_option maxHeartbeats 8000000 in
theorem c_X6_partOf (l : Launch) (D : va_G) (cA : Nat → ClassId) (q aK aV : Nat → Nat) (hq : injG 167 q) {a0 : Nat} {a1 : Int32} {M M0 : Mem} {r0 : Int32} (h0 : shC a0 = 6) (h : f_X6_partOf a0 a1 M = some (r0, M0)) : Met l yX6_partOf (.code yX6_partOf cX6_partOf 2 (some .int) :: BW) ({ frames := 1, cells := 0, slots := 0, locals := 13 } : Room) (va_Pc [.ref (q a0), .int a1] (CB 167 (ceC cA q) D cA q aK aV M)) (Qi 167 (ceC cA q) D q r0 M0) 0 0 (AqG 167 q) := by
  refine gMet RX6 (by decide +kernel) rfl hq (Nat.le_of_ble_eq_true rfl) ?_
  intro p e s m below meth c ls X hr hk hP hS hl
  have hx := X.1
  have hb := X.2.1
  have hl : lv_has ls 2 [(0, .ref (q a0)), (1, .int a1)] := hl
  rw [f_X6_partOf] at h
  refine lv_iload_n hx hb dX6_partOf_0 rfl (lv_at hl 1 rfl) ?_
  by_cases c1 : a1 = 0
  · rw [if_pos c1] at h
    refine lv_tableIn (tgt := 36) hx hb dX6_partOf_1 (by rw [c1]; decide) (by rw [c1]; decide) (by rw [c1]; rfl) (by decide) ?_
    refine lv_aload_n hx hb dX6_partOf_36 rfl (lv_at hl 0 rfl) ?_
    refine gfC_6_0 X hP h0 bw_65 dX6_partOf_37 ?_
    exact end_i X hr hk hP hS h dX6_partOf_40
  rw [if_neg c1] at h
  by_cases c2 : a1 = 1
  · rw [if_pos c2] at h
    refine lv_tableIn (tgt := 41) hx hb dX6_partOf_1 (by rw [c2]; decide) (by rw [c2]; decide) (by rw [c2]; rfl) (by decide) ?_
    refine lv_aload_n hx hb dX6_partOf_41 rfl (lv_at hl 0 rfl) ?_
    refine gfC_6_1 X hP h0 bw_68 dX6_partOf_42 ?_
    exact end_i X hr hk hP hS h dX6_partOf_45
  rw [if_neg c2] at h
  by_cases c3 : a1 = 2
  · rw [if_pos c3] at h
    refine lv_tableIn (tgt := 46) hx hb dX6_partOf_1 (by rw [c3]; decide) (by rw [c3]; decide) (by rw [c3]; rfl) (by decide) ?_
    refine lv_aload_n hx hb dX6_partOf_46 rfl (lv_at hl 0 rfl) ?_
    refine gfC_6_3 X hP h0 bw_75 dX6_partOf_47 ?_
    exact end_i X hr hk hP hS h dX6_partOf_50
  rw [if_neg c3] at h
  by_cases c4 : a1 = 3
  · rw [if_pos c4] at h
    refine lv_tableIn (tgt := 51) hx hb dX6_partOf_1 (by rw [c4]; decide) (by rw [c4]; decide) (by rw [c4]; rfl) (by decide) ?_
    refine lv_aload_n hx hb dX6_partOf_51 rfl (lv_at hl 0 rfl) ?_
    refine gfC_6_6 X hP h0 bw_81 dX6_partOf_52 ?_
    exact end_i X hr hk hP hS h dX6_partOf_55
  rw [if_neg c4] at h
  by_cases c5 : a1 = 4
  · rw [if_pos c5] at h
    refine lv_tableIn (tgt := 56) hx hb dX6_partOf_1 (by rw [c5]; decide) (by rw [c5]; decide) (by rw [c5]; rfl) (by decide) ?_
    refine lv_aload_n hx hb dX6_partOf_56 rfl (lv_at hl 0 rfl) ?_
    refine gfC_6_2 X hP h0 bw_71 dX6_partOf_57 ?_
    exact end_i X hr hk hP hS h dX6_partOf_60
  rw [if_neg c5] at h
  refine lv_tableOut (tgt := 61) hx hb dX6_partOf_1 (by have nc1 := lv_neT (a := 0) c1 (by decide); have nc2 := lv_neT (a := 1) c2 (by decide); have nc3 := lv_neT (a := 2) c3 (by decide); have nc4 := lv_neT (a := 3) c4 (by decide); have nc5 := lv_neT (a := 4) c5 (by decide); omega) (by decide) ?_
  refine lv_iconst (v := -1) hx hb dX6_partOf_61 (by decide) ?_
  exact end_i X hr hk hP hS h dX6_partOf_62
theorem dX11_rule_0 : decode cX11_rule 0 = .ok (.aload_n 0, 1) := by decide +kernel
theorem dX11_rule_1 : decode cX11_rule 1 = .ok (.getfield 10, 3) := by decide +kernel
theorem dX11_rule_4 : decode cX11_rule 4 = .ok (.iconst 2, 1) := by decide +kernel
theorem dX11_rule_5 : decode cX11_rule 5 = .ok (.iload_n 1, 1) := by decide +kernel
theorem dX11_rule_6 : decode cX11_rule 6 = .ok (.invokevirtual 213, 3) := by decide +kernel
theorem dX11_rule_9 : decode cX11_rule 9 = .ok (.ifCond .eq 11, 3) := by decide +kernel
theorem dX11_rule_12 : decode cX11_rule 12 = .ok (.iload_n 2, 1) := by decide +kernel
theorem dX11_rule_13 : decode cX11_rule 13 = .ok (.iconst 5, 1) := by decide +kernel
theorem dX11_rule_14 : decode cX11_rule 14 = .ok (.invokestatic 104, 3) := by decide +kernel
theorem dX11_rule_17 : decode cX11_rule 17 = .ok (.ifCond .ne 9, 3) := by decide +kernel
theorem dX11_rule_20 : decode cX11_rule 20 = .ok (.aload_n 0, 1) := by decide +kernel
theorem dX11_rule_21 : decode cX11_rule 21 = .ok (.iconst 1, 1) := by decide +kernel
theorem dX11_rule_22 : decode cX11_rule 22 = .ok (.invokevirtual 132, 3) := by decide +kernel
theorem dX11_rule_25 : decode cX11_rule 25 = .ok (.ireturn, 1) := by decide +kernel
theorem dX11_rule_26 : decode cX11_rule 26 = .ok (.aload_n 0, 1) := by decide +kernel
theorem dX11_rule_27 : decode cX11_rule 27 = .ok (.getfield 10, 3) := by decide +kernel
theorem dX11_rule_30 : decode cX11_rule 30 = .ok (.iload_n 1, 1) := by decide +kernel
theorem dX11_rule_31 : decode cX11_rule 31 = .ok (.invokevirtual 219, 3) := by decide +kernel
theorem dX11_rule_34 : decode cX11_rule 34 = .ok (.iload_n 2, 1) := by decide +kernel
theorem dX11_rule_35 : decode cX11_rule 35 = .ok (.invokevirtual 223, 3) := by decide +kernel
theorem dX11_rule_38 : decode cX11_rule 38 = .ok (.istore_n 3, 1) := by decide +kernel
theorem dX11_rule_39 : decode cX11_rule 39 = .ok (.iload_n 3, 1) := by decide +kernel
theorem dX11_rule_40 : decode cX11_rule 40 = .ok (.iconst (-1), 1) := by decide +kernel
theorem dX11_rule_41 : decode cX11_rule 41 = .ok (.if_icmp .ne 12, 3) := by decide +kernel
theorem dX11_rule_44 : decode cX11_rule 44 = .ok (.aload_n 0, 1) := by decide +kernel
theorem dX11_rule_45 : decode cX11_rule 45 = .ok (.bipush 6, 2) := by decide +kernel
theorem dX11_rule_47 : decode cX11_rule 47 = .ok (.invokevirtual 132, 3) := by decide +kernel
theorem dX11_rule_50 : decode cX11_rule 50 = .ok (.goto 8, 3) := by decide +kernel
theorem dX11_rule_53 : decode cX11_rule 53 = .ok (.aload_n 0, 1) := by decide +kernel
theorem dX11_rule_54 : decode cX11_rule 54 = .ok (.iload_n 3, 1) := by decide +kernel
theorem dX11_rule_55 : decode cX11_rule 55 = .ok (.invokevirtual 191, 3) := by decide +kernel
theorem dX11_rule_58 : decode cX11_rule 58 = .ok (.ireturn, 1) := by decide +kernel
set_option maxRecDepth 100000 in
set_option maxHeartbeats 8000000 in
theorem c_X11_rule (l : Launch) (D : va_G) (cA : Nat → ClassId) (q aK aV : Nat → Nat) (hq : injG 167 q) {a1 : Int32} {a2 : Int32} {M M0 : Mem} {r0 : Int32} (h : f_X11_rule a1 a2 M = some (r0, M0)) : Met l yX11_rule (.code yX11_rule cX11_rule 4 (some .int) :: BW) ({ frames := 3, cells := 0, slots := 0, locals := 56 } : Room) (va_Pc [.ref (q 0), .int a1, .int a2] (CB 167 (ceC cA q) D cA q aK aV M)) (Qi 167 (ceC cA q) D q r0 M0) 0 0 (AqG 167 q) := by
  refine gMet RX11 (by decide +kernel) rfl hq (Nat.le_of_ble_eq_true rfl) ?_
  intro p e s m below meth c ls X hr hk hP hS hl
  have hx := X.1
  have hb := X.2.1
  have hl : lv_has ls 4 [(0, .ref (q 0)), (1, .int a1), (2, .int a2)] := hl
  rw [f_X11_rule] at h
  refine lv_aload_n hx hb dX11_rule_0 rfl (lv_at hl 0 rfl) ?_
  refine gfC_11_0 X hP sC_0 bw_430 dX11_rule_1 ?_
  obtain ⟨g1, h⟩ := gd_inv h
  have g1 := Decidable.not_not.mp g1
  refine lv_iconst (v := 2) hx hb dX11_rule_4 (by decide) ?_
  refine lv_iload_n hx hb dX11_rule_5 rfl (lv_at hl 1 rfl) ?_
  obtain ⟨r2, M3, hc4, h⟩ := bnd_inv h
  refine gV_i (As := [.int (2 : Int32), .int a1]) X hP hS hl.1 (c_X0_has l D cA q aK aV hq g1 hc4) sf_X0_has bw_830 sv_X0_has (rcC_0 g1) rfl ⟨rfl, rfl⟩ ⟨Nat.le_of_ble_eq_true rfl, Nat.le_of_ble_eq_true rfl⟩ rfl rfl (Nat.le_of_ble_eq_true rfl) dX11_rule_6 (fun H locs hP hS => ?_)
  refine lv_if_eq (tgt := 20) hx hb dX11_rule_9 (by decide) (fun c5 => ?_) (fun c5 => ?_)
  · rw [if_pos c5] at h
    refine lv_aload_n hx hb dX11_rule_20 rfl (lv_at hl 0 rfl) ?_
    refine lv_iconst (v := 1) hx hb dX11_rule_21 (by decide) ?_
    obtain ⟨r6, M7, hc8, h⟩ := bnd_inv h
    refine gV_i (As := [.int (1 : Int32)]) X hP hS hl.1 (c_X11_refused l D cA q aK aV hq hc8) sf_X11_refused bw_552 sv_X11_refused (rcC_11 sC_0) rfl ⟨rfl, rfl⟩ ⟨Nat.le_of_ble_eq_true rfl, Nat.le_of_ble_eq_true rfl⟩ rfl rfl (Nat.le_of_ble_eq_true rfl) dX11_rule_22 (fun H locs hP hS => ?_)
    exact end_i X hr hk hP hS h dX11_rule_25
  · rw [if_neg c5] at h
    refine lv_iload_n hx hb dX11_rule_12 rfl (lv_at hl 2 rfl) ?_
    refine lv_iconst (v := 5) hx hb dX11_rule_13 (by decide) ?_
    obtain ⟨r9, M10, hc11, h⟩ := bnd_inv h
    refine gS_i (As := [.int a2, .int (5 : Int32)]) X hP hS hl.1 (c_X11_within l D cA q aK aV hq hc11) sf_X11_within bw_504 ss_X11_within ⟨rfl, rfl⟩ ⟨Nat.le_of_ble_eq_true rfl, Nat.le_of_ble_eq_true rfl⟩ rfl rfl (Nat.le_of_ble_eq_true rfl) dX11_rule_14 (fun H locs hP hS => ?_)
    refine lv_if_ne (tgt := 26) hx hb dX11_rule_17 (by decide) (fun c12 => ?_) (fun c12 => ?_)
    · rw [if_neg c12] at h
      refine lv_aload_n hx hb dX11_rule_26 rfl (lv_at hl 0 rfl) ?_
      refine gfC_11_0 X hP sC_0 bw_430 dX11_rule_27 ?_
      obtain ⟨g13, h⟩ := gd_inv h
      have g13 := Decidable.not_not.mp g13
      refine lv_iload_n hx hb dX11_rule_30 rfl (lv_at hl 1 rfl) ?_
      obtain ⟨r14, M15, hc16, h⟩ := bnd_inv h
      refine gV_r (As := [.int a1]) X hP hS hl.1 (c_X0_ruleAt l D cA q aK aV hq g13 hc16) sf_X0_ruleAt bw_843 sv_X0_ruleAt (rcC_0 g13) rfl ⟨rfl, rfl⟩ ⟨Nat.le_of_ble_eq_true rfl, Nat.le_of_ble_eq_true rfl⟩ rfl rfl (Nat.le_of_ble_eq_true rfl) dX11_rule_31 (fun H locs hP hS => ?_)
      obtain ⟨g17, h⟩ := gd_inv h
      have g17 := Decidable.not_not.mp g17
      refine lv_iload_n hx hb dX11_rule_34 rfl (lv_at hl 2 rfl) ?_
      obtain ⟨r18, M19, hc20, h⟩ := bnd_inv h
      refine gV_i (As := [.int a2]) X hP hS hl.1 (c_X6_partOf l D cA q aK aV hq g17 hc20) sf_X6_partOf bw_844 sv_X6_partOf (rcC_6 g17) rfl ⟨rfl, rfl⟩ ⟨Nat.le_of_ble_eq_true rfl, Nat.le_of_ble_eq_true rfl⟩ rfl rfl (Nat.le_of_ble_eq_true rfl) dX11_rule_35 (fun H locs hP hS => ?_)
      refine lv_istore_n (lv' := [(3, .int r18), (0, .ref (q 0)), (1, .int a1), (2, .int a2)]) hx hb dX11_rule_38 rfl hl (by decide) rfl (fun ls hl => ?_)
      refine lv_iload_n hx hb dX11_rule_39 rfl (lv_at hl 0 rfl) ?_
      refine lv_iconst (v := -1) hx hb dX11_rule_40 (by decide) ?_
      refine lv_icmp_ne (tgt := 53) hx hb dX11_rule_41 (by decide) (fun c21 => ?_) (fun c21 => ?_)
      · rw [if_neg c21] at h
        refine lv_aload_n hx hb dX11_rule_53 rfl (lv_at hl 1 rfl) ?_
        refine lv_iload_n hx hb dX11_rule_54 rfl (lv_at hl 0 rfl) ?_
        obtain ⟨r22, M23, hc24, h⟩ := bnd_inv h
        refine gV_i (As := [.int r18]) X hP hS hl.1 (c_X11_given l D cA q aK aV hq hc24) sf_X11_given bw_755 sv_X11_given (rcC_11 sC_0) rfl ⟨rfl, rfl⟩ ⟨Nat.le_of_ble_eq_true rfl, Nat.le_of_ble_eq_true rfl⟩ rfl rfl (Nat.le_of_ble_eq_true rfl) dX11_rule_55 (fun H locs hP hS => ?_)
        exact end_i X hr hk hP hS h dX11_rule_58
      · rw [if_pos c21] at h
        refine lv_aload_n hx hb dX11_rule_44 rfl (lv_at hl 1 rfl) ?_
        refine lv_bipush (v := 6) hx hb dX11_rule_45 (by decide) ?_
        obtain ⟨r25, M26, hc27, h⟩ := bnd_inv h
        refine gV_i (As := [.int (6 : Int32)]) X hP hS hl.1 (c_X11_refused l D cA q aK aV hq hc27) sf_X11_refused bw_552 sv_X11_refused (rcC_11 sC_0) rfl ⟨rfl, rfl⟩ ⟨Nat.le_of_ble_eq_true rfl, Nat.le_of_ble_eq_true rfl⟩ rfl rfl (Nat.le_of_ble_eq_true rfl) dX11_rule_47 (fun H locs hP hS => ?_)
        refine lv_goto (tgt := 58) hx hb dX11_rule_50 (by decide) ?_
        exact end_i X hr hk hP hS h dX11_rule_58
    · rw [if_pos c12] at h
      refine lv_aload_n hx hb dX11_rule_20 rfl (lv_at hl 0 rfl) ?_
      refine lv_iconst (v := 1) hx hb dX11_rule_21 (by decide) ?_
      obtain ⟨r28, M29, hc30, h⟩ := bnd_inv h
      refine gV_i (As := [.int (1 : Int32)]) X hP hS hl.1 (c_X11_refused l D cA q aK aV hq hc30) sf_X11_refused bw_552 sv_X11_refused (rcC_11 sC_0) rfl ⟨rfl, rfl⟩ ⟨Nat.le_of_ble_eq_true rfl, Nat.le_of_ble_eq_true rfl⟩ rfl rfl (Nat.le_of_ble_eq_true rfl) dX11_rule_22 (fun H locs hP hS => ?_)
      exact end_i X hr hk hP hS h dX11_rule_25
theorem dX11_person_0 : decode cX11_person 0 = .ok (.aload_n 0, 1) := by decide +kernel
theorem dX11_person_1 : decode cX11_person 1 = .ok (.getfield 10, 3) := by decide +kernel
theorem dX11_person_4 : decode cX11_person 4 = .ok (.iconst 3, 1) := by decide +kernel
theorem dX11_person_5 : decode cX11_person 5 = .ok (.iload_n 1, 1) := by decide +kernel
theorem dX11_person_6 : decode cX11_person 6 = .ok (.invokevirtual 213, 3) := by decide +kernel
theorem dX11_person_9 : decode cX11_person 9 = .ok (.ifCond .ne 9, 3) := by decide +kernel
theorem dX11_person_12 : decode cX11_person 12 = .ok (.aload_n 0, 1) := by decide +kernel
theorem dX11_person_13 : decode cX11_person 13 = .ok (.iconst 1, 1) := by decide +kernel
theorem dX11_person_14 : decode cX11_person 14 = .ok (.invokevirtual 132, 3) := by decide +kernel
theorem dX11_person_17 : decode cX11_person 17 = .ok (.ireturn, 1) := by decide +kernel
theorem dX11_person_18 : decode cX11_person 18 = .ok (.aload_n 0, 1) := by decide +kernel
theorem dX11_person_19 : decode cX11_person 19 = .ok (.getfield 10, 3) := by decide +kernel
theorem dX11_person_22 : decode cX11_person 22 = .ok (.iload_n 1, 1) := by decide +kernel
theorem dX11_person_23 : decode cX11_person 23 = .ok (.invokevirtual 228, 3) := by decide +kernel
theorem dX11_person_26 : decode cX11_person 26 = .ok (.astore_n 3, 1) := by decide +kernel
theorem dX11_person_27 : decode cX11_person 27 = .ok (.iload_n 2, 1) := by decide +kernel
theorem dX11_person_28 : decode cX11_person 28 = .ok (.tableswitch 90 0 4 #[36, 45, 54, 63, 81], 36) := by decide +kernel
theorem dX11_person_64 : decode cX11_person 64 = .ok (.aload_n 0, 1) := by decide +kernel
theorem dX11_person_65 : decode cX11_person 65 = .ok (.aload_n 3, 1) := by decide +kernel
theorem dX11_person_66 : decode cX11_person 66 = .ok (.getfield 232, 3) := by decide +kernel
theorem dX11_person_69 : decode cX11_person 69 = .ok (.invokevirtual 191, 3) := by decide +kernel
theorem dX11_person_72 : decode cX11_person 72 = .ok (.ireturn, 1) := by decide +kernel
theorem dX11_person_73 : decode cX11_person 73 = .ok (.aload_n 0, 1) := by decide +kernel
theorem dX11_person_74 : decode cX11_person 74 = .ok (.aload_n 3, 1) := by decide +kernel
theorem dX11_person_75 : decode cX11_person 75 = .ok (.getfield 237, 3) := by decide +kernel
theorem dX11_person_78 : decode cX11_person 78 = .ok (.invokevirtual 191, 3) := by decide +kernel
theorem dX11_person_81 : decode cX11_person 81 = .ok (.ireturn, 1) := by decide +kernel
theorem dX11_person_82 : decode cX11_person 82 = .ok (.aload_n 0, 1) := by decide +kernel
theorem dX11_person_83 : decode cX11_person 83 = .ok (.aload_n 3, 1) := by decide +kernel
theorem dX11_person_84 : decode cX11_person 84 = .ok (.getfield 240, 3) := by decide +kernel
theorem dX11_person_87 : decode cX11_person 87 = .ok (.invokevirtual 191, 3) := by decide +kernel
theorem dX11_person_90 : decode cX11_person 90 = .ok (.ireturn, 1) := by decide +kernel
theorem dX11_person_91 : decode cX11_person 91 = .ok (.aload_n 0, 1) := by decide +kernel
theorem dX11_person_92 : decode cX11_person 92 = .ok (.aload_n 3, 1) := by decide +kernel
theorem dX11_person_93 : decode cX11_person 93 = .ok (.getfield 243, 3) := by decide +kernel
theorem dX11_person_96 : decode cX11_person 96 = .ok (.iconst 1, 1) := by decide +kernel
theorem dX11_person_97 : decode cX11_person 97 = .ok (.if_icmp .ne 7, 3) := by decide +kernel
theorem dX11_person_100 : decode cX11_person 100 = .ok (.iconst 1, 1) := by decide +kernel
theorem dX11_person_101 : decode cX11_person 101 = .ok (.goto 4, 3) := by decide +kernel
theorem dX11_person_104 : decode cX11_person 104 = .ok (.iconst 0, 1) := by decide +kernel
theorem dX11_person_105 : decode cX11_person 105 = .ok (.invokevirtual 191, 3) := by decide +kernel
theorem dX11_person_108 : decode cX11_person 108 = .ok (.ireturn, 1) := by decide +kernel
theorem dX11_person_109 : decode cX11_person 109 = .ok (.aload_n 0, 1) := by decide +kernel
theorem dX11_person_110 : decode cX11_person 110 = .ok (.aload_n 3, 1) := by decide +kernel
theorem dX11_person_111 : decode cX11_person 111 = .ok (.getfield 246, 3) := by decide +kernel
theorem dX11_person_114 : decode cX11_person 114 = .ok (.invokevirtual 191, 3) := by decide +kernel
theorem dX11_person_117 : decode cX11_person 117 = .ok (.ireturn, 1) := by decide +kernel
theorem dX11_person_118 : decode cX11_person 118 = .ok (.aload_n 0, 1) := by decide +kernel
theorem dX11_person_119 : decode cX11_person 119 = .ok (.iconst 1, 1) := by decide +kernel
theorem dX11_person_120 : decode cX11_person 120 = .ok (.invokevirtual 132, 3) := by decide +kernel
theorem dX11_person_123 : decode cX11_person 123 = .ok (.ireturn, 1) := by decide +kernel
set_option maxRecDepth 100000 in
set_option maxHeartbeats 8000000 in
theorem c_X11_person (l : Launch) (D : va_G) (cA : Nat → ClassId) (q aK aV : Nat → Nat) (hq : injG 167 q) {a1 : Int32} {a2 : Int32} {M M0 : Mem} {r0 : Int32} (h : f_X11_person a1 a2 M = some (r0, M0)) : Met l yX11_person (.code yX11_person cX11_person 4 (some .int) :: BW) ({ frames := 3, cells := 0, slots := 0, locals := 56 } : Room) (va_Pc [.ref (q 0), .int a1, .int a2] (CB 167 (ceC cA q) D cA q aK aV M)) (Qi 167 (ceC cA q) D q r0 M0) 0 0 (AqG 167 q) := by
  refine gMet RX11 (by decide +kernel) rfl hq (Nat.le_of_ble_eq_true rfl) ?_
  intro p e s m below meth c ls X hr hk hP hS hl
  have hx := X.1
  have hb := X.2.1
  have hl : lv_has ls 4 [(0, .ref (q 0)), (1, .int a1), (2, .int a2)] := hl
  rw [f_X11_person] at h
  refine lv_aload_n hx hb dX11_person_0 rfl (lv_at hl 0 rfl) ?_
  refine gfC_11_0 X hP sC_0 bw_430 dX11_person_1 ?_
  obtain ⟨g1, h⟩ := gd_inv h
  have g1 := Decidable.not_not.mp g1
  refine lv_iconst (v := 3) hx hb dX11_person_4 (by decide) ?_
  refine lv_iload_n hx hb dX11_person_5 rfl (lv_at hl 1 rfl) ?_
  obtain ⟨r2, M3, hc4, h⟩ := bnd_inv h
  refine gV_i (As := [.int (3 : Int32), .int a1]) X hP hS hl.1 (c_X0_has l D cA q aK aV hq g1 hc4) sf_X0_has bw_830 sv_X0_has (rcC_0 g1) rfl ⟨rfl, rfl⟩ ⟨Nat.le_of_ble_eq_true rfl, Nat.le_of_ble_eq_true rfl⟩ rfl rfl (Nat.le_of_ble_eq_true rfl) dX11_person_6 (fun H locs hP hS => ?_)
  refine lv_if_ne (tgt := 18) hx hb dX11_person_9 (by decide) (fun c5 => ?_) (fun c5 => ?_)
  · rw [if_neg c5] at h
    refine lv_aload_n hx hb dX11_person_18 rfl (lv_at hl 0 rfl) ?_
    refine gfC_11_0 X hP sC_0 bw_430 dX11_person_19 ?_
    obtain ⟨g6, h⟩ := gd_inv h
    have g6 := Decidable.not_not.mp g6
    refine lv_iload_n hx hb dX11_person_22 rfl (lv_at hl 1 rfl) ?_
    obtain ⟨r7, M8, hc9, h⟩ := bnd_inv h
    refine gV_r (As := [.int a1]) X hP hS hl.1 (c_X0_personAt l D cA q aK aV hq g6 hc9) sf_X0_personAt bw_852 sv_X0_personAt (rcC_0 g6) rfl ⟨rfl, rfl⟩ ⟨Nat.le_of_ble_eq_true rfl, Nat.le_of_ble_eq_true rfl⟩ rfl rfl (Nat.le_of_ble_eq_true rfl) dX11_person_23 (fun H locs hP hS => ?_)
    obtain ⟨g10, h⟩ := gd_inv h
    have g10 := Decidable.not_not.mp g10
    refine lv_astore_n (lv' := [(3, .ref (q r7)), (0, .ref (q 0)), (1, .int a1), (2, .int a2)]) hx hb dX11_person_26 rfl hl (by decide) rfl (fun ls hl => ?_)
    refine lv_iload_n hx hb dX11_person_27 rfl (lv_at hl 3 rfl) ?_
    by_cases c14 : a2 = 0
    · rw [if_pos c14] at h
      refine lv_tableIn (tgt := 64) hx hb dX11_person_28 (by rw [c14]; decide) (by rw [c14]; decide) (by rw [c14]; rfl) (by decide) ?_
      refine lv_aload_n hx hb dX11_person_64 rfl (lv_at hl 1 rfl) ?_
      refine lv_aload_n hx hb dX11_person_65 rfl (lv_at hl 0 rfl) ?_
      refine gfC_5_1 X hP g10 bw_119 dX11_person_66 ?_
      obtain ⟨r11, M12, hc13, h⟩ := bnd_inv h
      refine gV_i (As := [.int (gI M8 r7 1)]) X hP hS hl.1 (c_X11_given l D cA q aK aV hq hc13) sf_X11_given bw_755 sv_X11_given (rcC_11 sC_0) rfl ⟨rfl, rfl⟩ ⟨Nat.le_of_ble_eq_true rfl, Nat.le_of_ble_eq_true rfl⟩ rfl rfl (Nat.le_of_ble_eq_true rfl) dX11_person_69 (fun H locs hP hS => ?_)
      exact end_i X hr hk hP hS h dX11_person_72
    rw [if_neg c14] at h
    by_cases c18 : a2 = 1
    · rw [if_pos c18] at h
      refine lv_tableIn (tgt := 73) hx hb dX11_person_28 (by rw [c18]; decide) (by rw [c18]; decide) (by rw [c18]; rfl) (by decide) ?_
      refine lv_aload_n hx hb dX11_person_73 rfl (lv_at hl 1 rfl) ?_
      refine lv_aload_n hx hb dX11_person_74 rfl (lv_at hl 0 rfl) ?_
      refine gfC_5_2 X hP g10 bw_123 dX11_person_75 ?_
      obtain ⟨r15, M16, hc17, h⟩ := bnd_inv h
      refine gV_i (As := [.int (gI M8 r7 2)]) X hP hS hl.1 (c_X11_given l D cA q aK aV hq hc17) sf_X11_given bw_755 sv_X11_given (rcC_11 sC_0) rfl ⟨rfl, rfl⟩ ⟨Nat.le_of_ble_eq_true rfl, Nat.le_of_ble_eq_true rfl⟩ rfl rfl (Nat.le_of_ble_eq_true rfl) dX11_person_78 (fun H locs hP hS => ?_)
      exact end_i X hr hk hP hS h dX11_person_81
    rw [if_neg c18] at h
    by_cases c22 : a2 = 2
    · rw [if_pos c22] at h
      refine lv_tableIn (tgt := 82) hx hb dX11_person_28 (by rw [c22]; decide) (by rw [c22]; decide) (by rw [c22]; rfl) (by decide) ?_
      refine lv_aload_n hx hb dX11_person_82 rfl (lv_at hl 1 rfl) ?_
      refine lv_aload_n hx hb dX11_person_83 rfl (lv_at hl 0 rfl) ?_
      refine gfC_5_3 X hP g10 bw_128 dX11_person_84 ?_
      obtain ⟨r19, M20, hc21, h⟩ := bnd_inv h
      refine gV_i (As := [.int (gI M8 r7 3)]) X hP hS hl.1 (c_X11_given l D cA q aK aV hq hc21) sf_X11_given bw_755 sv_X11_given (rcC_11 sC_0) rfl ⟨rfl, rfl⟩ ⟨Nat.le_of_ble_eq_true rfl, Nat.le_of_ble_eq_true rfl⟩ rfl rfl (Nat.le_of_ble_eq_true rfl) dX11_person_87 (fun H locs hP hS => ?_)
      exact end_i X hr hk hP hS h dX11_person_90
    rw [if_neg c22] at h
    by_cases c30 : a2 = 3
    · rw [if_pos c30] at h
      refine lv_tableIn (tgt := 91) hx hb dX11_person_28 (by rw [c30]; decide) (by rw [c30]; decide) (by rw [c30]; rfl) (by decide) ?_
      refine lv_aload_n hx hb dX11_person_91 rfl (lv_at hl 1 rfl) ?_
      refine lv_aload_n hx hb dX11_person_92 rfl (lv_at hl 0 rfl) ?_
      refine gfC_5_0 X hP g10 bw_114 dX11_person_93 ?_
      refine lv_iconst (v := 1) hx hb dX11_person_96 (by decide) ?_
      refine lv_icmp_ne (tgt := 104) hx hb dX11_person_97 (by decide) (fun c23 => ?_) (fun c23 => ?_)
      · rw [if_neg c23] at h
        refine lv_iconst (v := 0) hx hb dX11_person_104 (by decide) ?_
        obtain ⟨r24, M25, hc26, h⟩ := bnd_inv h
        refine gV_i (As := [.int (0 : Int32)]) X hP hS hl.1 (c_X11_given l D cA q aK aV hq hc26) sf_X11_given bw_755 sv_X11_given (rcC_11 sC_0) rfl ⟨rfl, rfl⟩ ⟨Nat.le_of_ble_eq_true rfl, Nat.le_of_ble_eq_true rfl⟩ rfl rfl (Nat.le_of_ble_eq_true rfl) dX11_person_105 (fun H locs hP hS => ?_)
        exact end_i X hr hk hP hS h dX11_person_108
      · rw [if_pos c23] at h
        refine lv_iconst (v := 1) hx hb dX11_person_100 (by decide) ?_
        refine lv_goto (tgt := 105) hx hb dX11_person_101 (by decide) ?_
        obtain ⟨r27, M28, hc29, h⟩ := bnd_inv h
        refine gV_i (As := [.int (1 : Int32)]) X hP hS hl.1 (c_X11_given l D cA q aK aV hq hc29) sf_X11_given bw_755 sv_X11_given (rcC_11 sC_0) rfl ⟨rfl, rfl⟩ ⟨Nat.le_of_ble_eq_true rfl, Nat.le_of_ble_eq_true rfl⟩ rfl rfl (Nat.le_of_ble_eq_true rfl) dX11_person_105 (fun H locs hP hS => ?_)
        exact end_i X hr hk hP hS h dX11_person_108
    rw [if_neg c30] at h
    by_cases c34 : a2 = 4
    · rw [if_pos c34] at h
      refine lv_tableIn (tgt := 109) hx hb dX11_person_28 (by rw [c34]; decide) (by rw [c34]; decide) (by rw [c34]; rfl) (by decide) ?_
      refine lv_aload_n hx hb dX11_person_109 rfl (lv_at hl 1 rfl) ?_
      refine lv_aload_n hx hb dX11_person_110 rfl (lv_at hl 0 rfl) ?_
      refine gfC_5_4 X hP g10 bw_130 dX11_person_111 ?_
      obtain ⟨r31, M32, hc33, h⟩ := bnd_inv h
      refine gV_i (As := [.int (gI M8 r7 4)]) X hP hS hl.1 (c_X11_given l D cA q aK aV hq hc33) sf_X11_given bw_755 sv_X11_given (rcC_11 sC_0) rfl ⟨rfl, rfl⟩ ⟨Nat.le_of_ble_eq_true rfl, Nat.le_of_ble_eq_true rfl⟩ rfl rfl (Nat.le_of_ble_eq_true rfl) dX11_person_114 (fun H locs hP hS => ?_)
      exact end_i X hr hk hP hS h dX11_person_117
    rw [if_neg c34] at h
    refine lv_tableOut (tgt := 118) hx hb dX11_person_28 (by have nc14 := lv_neT (a := 0) c14 (by decide); have nc18 := lv_neT (a := 1) c18 (by decide); have nc22 := lv_neT (a := 2) c22 (by decide); have nc30 := lv_neT (a := 3) c30 (by decide); have nc34 := lv_neT (a := 4) c34 (by decide); omega) (by decide) ?_
    refine lv_aload_n hx hb dX11_person_118 rfl (lv_at hl 1 rfl) ?_
    refine lv_iconst (v := 1) hx hb dX11_person_119 (by decide) ?_
    obtain ⟨r35, M36, hc37, h⟩ := bnd_inv h
    refine gV_i (As := [.int (1 : Int32)]) X hP hS hl.1 (c_X11_refused l D cA q aK aV hq hc37) sf_X11_refused bw_552 sv_X11_refused (rcC_11 sC_0) rfl ⟨rfl, rfl⟩ ⟨Nat.le_of_ble_eq_true rfl, Nat.le_of_ble_eq_true rfl⟩ rfl rfl (Nat.le_of_ble_eq_true rfl) dX11_person_120 (fun H locs hP hS => ?_)
    exact end_i X hr hk hP hS h dX11_person_123
  · rw [if_pos c5] at h
    refine lv_aload_n hx hb dX11_person_12 rfl (lv_at hl 0 rfl) ?_
    refine lv_iconst (v := 1) hx hb dX11_person_13 (by decide) ?_
    obtain ⟨r38, M39, hc40, h⟩ := bnd_inv h
    refine gV_i (As := [.int (1 : Int32)]) X hP hS hl.1 (c_X11_refused l D cA q aK aV hq hc40) sf_X11_refused bw_552 sv_X11_refused (rcC_11 sC_0) rfl ⟨rfl, rfl⟩ ⟨Nat.le_of_ble_eq_true rfl, Nat.le_of_ble_eq_true rfl⟩ rfl rfl (Nat.le_of_ble_eq_true rfl) dX11_person_14 (fun H locs hP hS => ?_)
    exact end_i X hr hk hP hS h dX11_person_17
theorem dX11_reader_0 : decode cX11_reader 0 = .ok (.aload_n 0, 1) := by decide +kernel
theorem dX11_reader_1 : decode cX11_reader 1 = .ok (.getfield 10, 3) := by decide +kernel
theorem dX11_reader_4 : decode cX11_reader 4 = .ok (.iconst 4, 1) := by decide +kernel
theorem dX11_reader_5 : decode cX11_reader 5 = .ok (.iload_n 1, 1) := by decide +kernel
theorem dX11_reader_6 : decode cX11_reader 6 = .ok (.invokevirtual 213, 3) := by decide +kernel
theorem dX11_reader_9 : decode cX11_reader 9 = .ok (.ifCond .eq 11, 3) := by decide +kernel
theorem dX11_reader_12 : decode cX11_reader 12 = .ok (.iload_n 2, 1) := by decide +kernel
theorem dX11_reader_13 : decode cX11_reader 13 = .ok (.iconst 2, 1) := by decide +kernel
theorem dX11_reader_14 : decode cX11_reader 14 = .ok (.invokestatic 104, 3) := by decide +kernel
theorem dX11_reader_17 : decode cX11_reader 17 = .ok (.ifCond .ne 9, 3) := by decide +kernel
theorem dX11_reader_20 : decode cX11_reader 20 = .ok (.aload_n 0, 1) := by decide +kernel
theorem dX11_reader_21 : decode cX11_reader 21 = .ok (.iconst 1, 1) := by decide +kernel
theorem dX11_reader_22 : decode cX11_reader 22 = .ok (.invokevirtual 132, 3) := by decide +kernel
theorem dX11_reader_25 : decode cX11_reader 25 = .ok (.ireturn, 1) := by decide +kernel
theorem dX11_reader_26 : decode cX11_reader 26 = .ok (.aload_n 0, 1) := by decide +kernel
theorem dX11_reader_27 : decode cX11_reader 27 = .ok (.iload_n 2, 1) := by decide +kernel
theorem dX11_reader_28 : decode cX11_reader 28 = .ok (.ifCond .ne 13, 3) := by decide +kernel
theorem dX11_reader_31 : decode cX11_reader 31 = .ok (.aload_n 0, 1) := by decide +kernel
theorem dX11_reader_32 : decode cX11_reader 32 = .ok (.getfield 10, 3) := by decide +kernel
theorem dX11_reader_35 : decode cX11_reader 35 = .ok (.getfield 247, 3) := by decide +kernel
theorem dX11_reader_38 : decode cX11_reader 38 = .ok (.goto 10, 3) := by decide +kernel
theorem dX11_reader_41 : decode cX11_reader 41 = .ok (.aload_n 0, 1) := by decide +kernel
theorem dX11_reader_42 : decode cX11_reader 42 = .ok (.getfield 10, 3) := by decide +kernel
theorem dX11_reader_45 : decode cX11_reader 45 = .ok (.getfield 251, 3) := by decide +kernel
theorem dX11_reader_48 : decode cX11_reader 48 = .ok (.iload_n 1, 1) := by decide +kernel
theorem dX11_reader_49 : decode cX11_reader 49 = .ok (.invokestatic 254, 3) := by decide +kernel
theorem dX11_reader_52 : decode cX11_reader 52 = .ok (.invokevirtual 191, 3) := by decide +kernel
theorem dX11_reader_55 : decode cX11_reader 55 = .ok (.ireturn, 1) := by decide +kernel
set_option maxRecDepth 100000 in
set_option maxHeartbeats 8000000 in
theorem c_X11_reader (l : Launch) (D : va_G) (cA : Nat → ClassId) (q aK aV : Nat → Nat) (hq : injG 167 q) {a1 : Int32} {a2 : Int32} {M M0 : Mem} {r0 : Int32} (h : f_X11_reader a1 a2 M = some (r0, M0)) : Met l yX11_reader (.code yX11_reader cX11_reader 3 (some .int) :: BW) ({ frames := 3, cells := 0, slots := 0, locals := 56 } : Room) (va_Pc [.ref (q 0), .int a1, .int a2] (CB 167 (ceC cA q) D cA q aK aV M)) (Qi 167 (ceC cA q) D q r0 M0) 0 0 (AqG 167 q) := by
  refine gMet RX11 (by decide +kernel) rfl hq (Nat.le_of_ble_eq_true rfl) ?_
  intro p e s m below meth c ls X hr hk hP hS hl
  have hx := X.1
  have hb := X.2.1
  have hl : lv_has ls 3 [(0, .ref (q 0)), (1, .int a1), (2, .int a2)] := hl
  rw [f_X11_reader] at h
  have hJ48 : ∀ (s1 : Nat) (hs1 : shC s1 = 20) (zs1 : alC s1 = 6) (M : Mem) (H : Heap) (locs : List Loc) (ls : Array Slot), f_X11_reader_J48 a1 s1 M = some (r0, M0) → va_P D vwCl (wsG 167 (ceC cA q) q M) H → va_S (AqG 167 q) s.heap H locs → lv_has ls 3 [(1, .int a1)] → W p l e ({ frames := 3, cells := 0, slots := 0, locals := 56 } : Room) s m [.ref (q 0), .int a1, .int a2].toArray below meth c H locs 0 0 (MQ below (Qi 167 (ceC cA q) D q r0 M0) [.ref (q 0), .int a1, .int a2].toArray s 0 0 (AqG 167 q)) (F0 m 48 ls [.ref (q s1), .ref (q 0)]) := by
    intro s1 hs1 zs1 M H locs ls h hP hS hl
    rw [f_X11_reader_J48] at h
    refine lv_iload_n hx hb dX11_reader_48 rfl (lv_at hl 0 rfl) ?_
    obtain ⟨r19, M20, hc21, h⟩ := bnd_inv h
    refine gS_i (As := [.ref (q s1), .int a1]) X hP hS hl.1 (c_X11_cell l D cA q aK aV hq hs1 hc21) sf_X11_cell bw_857 ss_X11_cell ⟨rfl, rfl⟩ ⟨Nat.le_of_ble_eq_true rfl, Nat.le_of_ble_eq_true rfl⟩ rfl rfl (Nat.le_of_ble_eq_true rfl) dX11_reader_49 (fun H locs hP hS => ?_)
    obtain ⟨r22, M23, hc24, h⟩ := bnd_inv h
    refine gV_i (As := [.int r19]) X hP hS hl.1 (c_X11_given l D cA q aK aV hq hc24) sf_X11_given bw_755 sv_X11_given (rcC_11 sC_0) rfl ⟨rfl, rfl⟩ ⟨Nat.le_of_ble_eq_true rfl, Nat.le_of_ble_eq_true rfl⟩ rfl rfl (Nat.le_of_ble_eq_true rfl) dX11_reader_52 (fun H locs hP hS => ?_)
    exact end_i X hr hk hP hS h dX11_reader_55
  refine lv_aload_n hx hb dX11_reader_0 rfl (lv_at hl 0 rfl) ?_
  refine gfC_11_0 X hP sC_0 bw_430 dX11_reader_1 ?_
  obtain ⟨g1, h⟩ := gd_inv h
  have g1 := Decidable.not_not.mp g1
  refine lv_iconst (v := 4) hx hb dX11_reader_4 (by decide) ?_
  refine lv_iload_n hx hb dX11_reader_5 rfl (lv_at hl 1 rfl) ?_
  obtain ⟨r2, M3, hc4, h⟩ := bnd_inv h
  refine gV_i (As := [.int (4 : Int32), .int a1]) X hP hS hl.1 (c_X0_has l D cA q aK aV hq g1 hc4) sf_X0_has bw_830 sv_X0_has (rcC_0 g1) rfl ⟨rfl, rfl⟩ ⟨Nat.le_of_ble_eq_true rfl, Nat.le_of_ble_eq_true rfl⟩ rfl rfl (Nat.le_of_ble_eq_true rfl) dX11_reader_6 (fun H locs hP hS => ?_)
  refine lv_if_eq (tgt := 20) hx hb dX11_reader_9 (by decide) (fun c5 => ?_) (fun c5 => ?_)
  · rw [if_pos c5] at h
    refine lv_aload_n hx hb dX11_reader_20 rfl (lv_at hl 0 rfl) ?_
    refine lv_iconst (v := 1) hx hb dX11_reader_21 (by decide) ?_
    obtain ⟨r6, M7, hc8, h⟩ := bnd_inv h
    refine gV_i (As := [.int (1 : Int32)]) X hP hS hl.1 (c_X11_refused l D cA q aK aV hq hc8) sf_X11_refused bw_552 sv_X11_refused (rcC_11 sC_0) rfl ⟨rfl, rfl⟩ ⟨Nat.le_of_ble_eq_true rfl, Nat.le_of_ble_eq_true rfl⟩ rfl rfl (Nat.le_of_ble_eq_true rfl) dX11_reader_22 (fun H locs hP hS => ?_)
    exact end_i X hr hk hP hS h dX11_reader_25
  · rw [if_neg c5] at h
    refine lv_iload_n hx hb dX11_reader_12 rfl (lv_at hl 2 rfl) ?_
    refine lv_iconst (v := 2) hx hb dX11_reader_13 (by decide) ?_
    obtain ⟨r9, M10, hc11, h⟩ := bnd_inv h
    refine gS_i (As := [.int a2, .int (2 : Int32)]) X hP hS hl.1 (c_X11_within l D cA q aK aV hq hc11) sf_X11_within bw_504 ss_X11_within ⟨rfl, rfl⟩ ⟨Nat.le_of_ble_eq_true rfl, Nat.le_of_ble_eq_true rfl⟩ rfl rfl (Nat.le_of_ble_eq_true rfl) dX11_reader_14 (fun H locs hP hS => ?_)
    refine lv_if_ne (tgt := 26) hx hb dX11_reader_17 (by decide) (fun c12 => ?_) (fun c12 => ?_)
    · rw [if_neg c12] at h
      refine lv_aload_n hx hb dX11_reader_26 rfl (lv_at hl 0 rfl) ?_
      refine lv_iload_n hx hb dX11_reader_27 rfl (lv_at hl 2 rfl) ?_
      refine lv_if_ne (tgt := 41) hx hb dX11_reader_28 (by decide) (fun c13 => ?_) (fun c13 => ?_)
      · rw [if_neg c13] at h
        refine lv_aload_n hx hb dX11_reader_41 rfl (lv_at hl 0 rfl) ?_
        refine gfC_11_0 X hP sC_0 bw_430 dX11_reader_42 ?_
        obtain ⟨g14, h⟩ := gd_inv h
        have g14 := Decidable.not_not.mp g14
        refine gfC_0_6 X hP g14 bw_155 dX11_reader_45 ?_
        exact hJ48 _ ((kC_0_6 g14).1) ((kC_0_6 g14).2) _ _ _ _ h hP hS (lv_sub hl [1] rfl)
      · rw [if_pos c13] at h
        refine lv_aload_n hx hb dX11_reader_31 rfl (lv_at hl 0 rfl) ?_
        refine gfC_11_0 X hP sC_0 bw_430 dX11_reader_32 ?_
        obtain ⟨g15, h⟩ := gd_inv h
        have g15 := Decidable.not_not.mp g15
        refine gfC_0_5 X hP g15 bw_152 dX11_reader_35 ?_
        refine lv_goto (tgt := 48) hx hb dX11_reader_38 (by decide) ?_
        exact hJ48 _ ((kC_0_5 g15).1) ((kC_0_5 g15).2) _ _ _ _ h hP hS (lv_sub hl [1] rfl)
    · rw [if_pos c12] at h
      refine lv_aload_n hx hb dX11_reader_20 rfl (lv_at hl 0 rfl) ?_
      refine lv_iconst (v := 1) hx hb dX11_reader_21 (by decide) ?_
      obtain ⟨r16, M17, hc18, h⟩ := bnd_inv h
      refine gV_i (As := [.int (1 : Int32)]) X hP hS hl.1 (c_X11_refused l D cA q aK aV hq hc18) sf_X11_refused bw_552 sv_X11_refused (rcC_11 sC_0) rfl ⟨rfl, rfl⟩ ⟨Nat.le_of_ble_eq_true rfl, Nat.le_of_ble_eq_true rfl⟩ rfl rfl (Nat.le_of_ble_eq_true rfl) dX11_reader_22 (fun H locs hP hS => ?_)
      exact end_i X hr hk hP hS h dX11_reader_25
theorem dX11_word_0 : decode cX11_word 0 = .ok (.aload_n 0, 1) := by decide +kernel
theorem dX11_word_1 : decode cX11_word 1 = .ok (.getfield 10, 3) := by decide +kernel
theorem dX11_word_4 : decode cX11_word 4 = .ok (.iconst 5, 1) := by decide +kernel
theorem dX11_word_5 : decode cX11_word 5 = .ok (.iload_n 1, 1) := by decide +kernel
theorem dX11_word_6 : decode cX11_word 6 = .ok (.invokevirtual 213, 3) := by decide +kernel
theorem dX11_word_9 : decode cX11_word 9 = .ok (.ifCond .eq 11, 3) := by decide +kernel
theorem dX11_word_12 : decode cX11_word 12 = .ok (.iload_n 2, 1) := by decide +kernel
theorem dX11_word_13 : decode cX11_word 13 = .ok (.iconst 2, 1) := by decide +kernel
theorem dX11_word_14 : decode cX11_word 14 = .ok (.invokestatic 104, 3) := by decide +kernel
theorem dX11_word_17 : decode cX11_word 17 = .ok (.ifCond .ne 9, 3) := by decide +kernel
theorem dX11_word_20 : decode cX11_word 20 = .ok (.aload_n 0, 1) := by decide +kernel
theorem dX11_word_21 : decode cX11_word 21 = .ok (.iconst 1, 1) := by decide +kernel
theorem dX11_word_22 : decode cX11_word 22 = .ok (.invokevirtual 132, 3) := by decide +kernel
theorem dX11_word_25 : decode cX11_word 25 = .ok (.ireturn, 1) := by decide +kernel
theorem dX11_word_26 : decode cX11_word 26 = .ok (.aload_n 0, 1) := by decide +kernel
theorem dX11_word_27 : decode cX11_word 27 = .ok (.iload_n 2, 1) := by decide +kernel
theorem dX11_word_28 : decode cX11_word 28 = .ok (.ifCond .ne 13, 3) := by decide +kernel
theorem dX11_word_31 : decode cX11_word 31 = .ok (.aload_n 0, 1) := by decide +kernel
theorem dX11_word_32 : decode cX11_word 32 = .ok (.getfield 10, 3) := by decide +kernel
theorem dX11_word_35 : decode cX11_word 35 = .ok (.getfield 258, 3) := by decide +kernel
theorem dX11_word_38 : decode cX11_word 38 = .ok (.goto 10, 3) := by decide +kernel
theorem dX11_word_41 : decode cX11_word 41 = .ok (.aload_n 0, 1) := by decide +kernel
theorem dX11_word_42 : decode cX11_word 42 = .ok (.getfield 10, 3) := by decide +kernel
theorem dX11_word_45 : decode cX11_word 45 = .ok (.getfield 261, 3) := by decide +kernel
theorem dX11_word_48 : decode cX11_word 48 = .ok (.iload_n 1, 1) := by decide +kernel
theorem dX11_word_49 : decode cX11_word 49 = .ok (.invokestatic 254, 3) := by decide +kernel
theorem dX11_word_52 : decode cX11_word 52 = .ok (.invokevirtual 191, 3) := by decide +kernel
theorem dX11_word_55 : decode cX11_word 55 = .ok (.ireturn, 1) := by decide +kernel
set_option maxRecDepth 100000 in
set_option maxHeartbeats 8000000 in
theorem c_X11_word (l : Launch) (D : va_G) (cA : Nat → ClassId) (q aK aV : Nat → Nat) (hq : injG 167 q) {a1 : Int32} {a2 : Int32} {M M0 : Mem} {r0 : Int32} (h : f_X11_word a1 a2 M = some (r0, M0)) : Met l yX11_word (.code yX11_word cX11_word 3 (some .int) :: BW) ({ frames := 3, cells := 0, slots := 0, locals := 56 } : Room) (va_Pc [.ref (q 0), .int a1, .int a2] (CB 167 (ceC cA q) D cA q aK aV M)) (Qi 167 (ceC cA q) D q r0 M0) 0 0 (AqG 167 q) := by
  refine gMet RX11 (by decide +kernel) rfl hq (Nat.le_of_ble_eq_true rfl) ?_
  intro p e s m below meth c ls X hr hk hP hS hl
  have hx := X.1
  have hb := X.2.1
  have hl : lv_has ls 3 [(0, .ref (q 0)), (1, .int a1), (2, .int a2)] := hl
  rw [f_X11_word] at h
  have hJ48 : ∀ (s1 : Nat) (hs1 : shC s1 = 20) (zs1 : alC s1 = 10) (M : Mem) (H : Heap) (locs : List Loc) (ls : Array Slot), f_X11_word_J48 a1 s1 M = some (r0, M0) → va_P D vwCl (wsG 167 (ceC cA q) q M) H → va_S (AqG 167 q) s.heap H locs → lv_has ls 3 [(1, .int a1)] → W p l e ({ frames := 3, cells := 0, slots := 0, locals := 56 } : Room) s m [.ref (q 0), .int a1, .int a2].toArray below meth c H locs 0 0 (MQ below (Qi 167 (ceC cA q) D q r0 M0) [.ref (q 0), .int a1, .int a2].toArray s 0 0 (AqG 167 q)) (F0 m 48 ls [.ref (q s1), .ref (q 0)]) := by
    intro s1 hs1 zs1 M H locs ls h hP hS hl
    rw [f_X11_word_J48] at h
    refine lv_iload_n hx hb dX11_word_48 rfl (lv_at hl 0 rfl) ?_
    obtain ⟨r19, M20, hc21, h⟩ := bnd_inv h
    refine gS_i (As := [.ref (q s1), .int a1]) X hP hS hl.1 (c_X11_cell l D cA q aK aV hq hs1 hc21) sf_X11_cell bw_857 ss_X11_cell ⟨rfl, rfl⟩ ⟨Nat.le_of_ble_eq_true rfl, Nat.le_of_ble_eq_true rfl⟩ rfl rfl (Nat.le_of_ble_eq_true rfl) dX11_word_49 (fun H locs hP hS => ?_)
    obtain ⟨r22, M23, hc24, h⟩ := bnd_inv h
    refine gV_i (As := [.int r19]) X hP hS hl.1 (c_X11_given l D cA q aK aV hq hc24) sf_X11_given bw_755 sv_X11_given (rcC_11 sC_0) rfl ⟨rfl, rfl⟩ ⟨Nat.le_of_ble_eq_true rfl, Nat.le_of_ble_eq_true rfl⟩ rfl rfl (Nat.le_of_ble_eq_true rfl) dX11_word_52 (fun H locs hP hS => ?_)
    exact end_i X hr hk hP hS h dX11_word_55
  refine lv_aload_n hx hb dX11_word_0 rfl (lv_at hl 0 rfl) ?_
  refine gfC_11_0 X hP sC_0 bw_430 dX11_word_1 ?_
  obtain ⟨g1, h⟩ := gd_inv h
  have g1 := Decidable.not_not.mp g1
  refine lv_iconst (v := 5) hx hb dX11_word_4 (by decide) ?_
  refine lv_iload_n hx hb dX11_word_5 rfl (lv_at hl 1 rfl) ?_
  obtain ⟨r2, M3, hc4, h⟩ := bnd_inv h
  refine gV_i (As := [.int (5 : Int32), .int a1]) X hP hS hl.1 (c_X0_has l D cA q aK aV hq g1 hc4) sf_X0_has bw_830 sv_X0_has (rcC_0 g1) rfl ⟨rfl, rfl⟩ ⟨Nat.le_of_ble_eq_true rfl, Nat.le_of_ble_eq_true rfl⟩ rfl rfl (Nat.le_of_ble_eq_true rfl) dX11_word_6 (fun H locs hP hS => ?_)
  refine lv_if_eq (tgt := 20) hx hb dX11_word_9 (by decide) (fun c5 => ?_) (fun c5 => ?_)
  · rw [if_pos c5] at h
    refine lv_aload_n hx hb dX11_word_20 rfl (lv_at hl 0 rfl) ?_
    refine lv_iconst (v := 1) hx hb dX11_word_21 (by decide) ?_
    obtain ⟨r6, M7, hc8, h⟩ := bnd_inv h
    refine gV_i (As := [.int (1 : Int32)]) X hP hS hl.1 (c_X11_refused l D cA q aK aV hq hc8) sf_X11_refused bw_552 sv_X11_refused (rcC_11 sC_0) rfl ⟨rfl, rfl⟩ ⟨Nat.le_of_ble_eq_true rfl, Nat.le_of_ble_eq_true rfl⟩ rfl rfl (Nat.le_of_ble_eq_true rfl) dX11_word_22 (fun H locs hP hS => ?_)
    exact end_i X hr hk hP hS h dX11_word_25
  · rw [if_neg c5] at h
    refine lv_iload_n hx hb dX11_word_12 rfl (lv_at hl 2 rfl) ?_
    refine lv_iconst (v := 2) hx hb dX11_word_13 (by decide) ?_
    obtain ⟨r9, M10, hc11, h⟩ := bnd_inv h
    refine gS_i (As := [.int a2, .int (2 : Int32)]) X hP hS hl.1 (c_X11_within l D cA q aK aV hq hc11) sf_X11_within bw_504 ss_X11_within ⟨rfl, rfl⟩ ⟨Nat.le_of_ble_eq_true rfl, Nat.le_of_ble_eq_true rfl⟩ rfl rfl (Nat.le_of_ble_eq_true rfl) dX11_word_14 (fun H locs hP hS => ?_)
    refine lv_if_ne (tgt := 26) hx hb dX11_word_17 (by decide) (fun c12 => ?_) (fun c12 => ?_)
    · rw [if_neg c12] at h
      refine lv_aload_n hx hb dX11_word_26 rfl (lv_at hl 0 rfl) ?_
      refine lv_iload_n hx hb dX11_word_27 rfl (lv_at hl 2 rfl) ?_
      refine lv_if_ne (tgt := 41) hx hb dX11_word_28 (by decide) (fun c13 => ?_) (fun c13 => ?_)
      · rw [if_neg c13] at h
        refine lv_aload_n hx hb dX11_word_41 rfl (lv_at hl 0 rfl) ?_
        refine gfC_11_0 X hP sC_0 bw_430 dX11_word_42 ?_
        obtain ⟨g14, h⟩ := gd_inv h
        have g14 := Decidable.not_not.mp g14
        refine gfC_0_8 X hP g14 bw_161 dX11_word_45 ?_
        exact hJ48 _ ((kC_0_8 g14).1) ((kC_0_8 g14).2) _ _ _ _ h hP hS (lv_sub hl [1] rfl)
      · rw [if_pos c13] at h
        refine lv_aload_n hx hb dX11_word_31 rfl (lv_at hl 0 rfl) ?_
        refine gfC_11_0 X hP sC_0 bw_430 dX11_word_32 ?_
        obtain ⟨g15, h⟩ := gd_inv h
        have g15 := Decidable.not_not.mp g15
        refine gfC_0_7 X hP g15 bw_158 dX11_word_35 ?_
        refine lv_goto (tgt := 48) hx hb dX11_word_38 (by decide) ?_
        exact hJ48 _ ((kC_0_7 g15).1) ((kC_0_7 g15).2) _ _ _ _ h hP hS (lv_sub hl [1] rfl)
    · rw [if_pos c12] at h
      refine lv_aload_n hx hb dX11_word_20 rfl (lv_at hl 0 rfl) ?_
      refine lv_iconst (v := 1) hx hb dX11_word_21 (by decide) ?_
      obtain ⟨r16, M17, hc18, h⟩ := bnd_inv h
      refine gV_i (As := [.int (1 : Int32)]) X hP hS hl.1 (c_X11_refused l D cA q aK aV hq hc18) sf_X11_refused bw_552 sv_X11_refused (rcC_11 sC_0) rfl ⟨rfl, rfl⟩ ⟨Nat.le_of_ble_eq_true rfl, Nat.le_of_ble_eq_true rfl⟩ rfl rfl (Nat.le_of_ble_eq_true rfl) dX11_word_22 (fun H locs hP hS => ?_)
      exact end_i X hr hk hP hS h dX11_word_25
theorem dX0_hasRoomFor_0 : decode cX0_hasRoomFor 0 = .ok (.aload_n 0, 1) := by decide +kernel
theorem dX0_hasRoomFor_1 : decode cX0_hasRoomFor 1 = .ok (.getfield 67, 3) := by decide +kernel
theorem dX0_hasRoomFor_4 : decode cX0_hasRoomFor 4 = .ok (.iload_n 1, 1) := by decide +kernel
theorem dX0_hasRoomFor_5 : decode cX0_hasRoomFor 5 = .ok (.iadd, 1) := by decide +kernel
theorem dX0_hasRoomFor_6 : decode cX0_hasRoomFor 6 = .ok (.sipush 9999, 3) := by decide +kernel
theorem dX0_hasRoomFor_9 : decode cX0_hasRoomFor 9 = .ok (.if_icmp .gt 7, 3) := by decide +kernel
theorem dX0_hasRoomFor_12 : decode cX0_hasRoomFor 12 = .ok (.iconst 1, 1) := by decide +kernel
theorem dX0_hasRoomFor_13 : decode cX0_hasRoomFor 13 = .ok (.goto 4, 3) := by decide +kernel
theorem dX0_hasRoomFor_16 : decode cX0_hasRoomFor 16 = .ok (.iconst 0, 1) := by decide +kernel
theorem dX0_hasRoomFor_17 : decode cX0_hasRoomFor 17 = .ok (.ireturn, 1) := by decide +kernel
set_option maxRecDepth 100000 in
set_option maxHeartbeats 8000000 in
theorem c_X0_hasRoomFor (l : Launch) (D : va_G) (cA : Nat → ClassId) (q aK aV : Nat → Nat) (hq : injG 167 q) {a0 : Nat} {a1 : Int32} {M M0 : Mem} {r0 : Int32} (h0 : shC a0 = 0) (h : f_X0_hasRoomFor a0 a1 M = some (r0, M0)) : Met l yX0_hasRoomFor (.code yX0_hasRoomFor cX0_hasRoomFor 2 (some .boolean) :: BW) ({ frames := 1, cells := 0, slots := 0, locals := 13 } : Room) (va_Pc [.ref (q a0), .int a1] (CB 167 (ceC cA q) D cA q aK aV M)) (Qi 167 (ceC cA q) D q r0 M0) 0 0 (AqG 167 q) := by
  refine gMet RX0 (by decide +kernel) rfl hq (Nat.le_of_ble_eq_true rfl) ?_
  intro p e s m below meth c ls X hr hk hP hS hl
  have hx := X.1
  have hb := X.2.1
  have hl : lv_has ls 2 [(0, .ref (q a0)), (1, .int a1)] := hl
  rw [f_X0_hasRoomFor] at h
  refine lv_aload_n hx hb dX0_hasRoomFor_0 rfl (lv_at hl 0 rfl) ?_
  refine gfC_0_13 X hP h0 bw_172 dX0_hasRoomFor_1 ?_
  refine lv_iload_n hx hb dX0_hasRoomFor_4 rfl (lv_at hl 1 rfl) ?_
  refine lv_iadd hx hb dX0_hasRoomFor_5 ?_
  refine lv_sipush (v := 9999) hx hb dX0_hasRoomFor_6 (by decide) ?_
  refine lv_icmp_gt (tgt := 16) hx hb dX0_hasRoomFor_9 (by decide) (fun c1 => ?_) (fun c1 => ?_)
  · rw [if_pos c1] at h
    refine lv_iconst (v := 0) hx hb dX0_hasRoomFor_16 (by decide) ?_
    exact end_z X hr hk hP hS (Or.inl rfl) h dX0_hasRoomFor_17
  · rw [if_neg c1] at h
    refine lv_iconst (v := 1) hx hb dX0_hasRoomFor_12 (by decide) ?_
    refine lv_goto (tgt := 17) hx hb dX0_hasRoomFor_13 (by decide) ?_
    exact end_z X hr hk hP hS (Or.inr rfl) h dX0_hasRoomFor_17
theorem dX6_bearsOn_0 : decode cX6_bearsOn 0 = .ok (.aload_n 0, 1) := by decide +kernel
theorem dX6_bearsOn_1 : decode cX6_bearsOn 1 = .ok (.getfield 15, 3) := by decide +kernel
theorem dX6_bearsOn_4 : decode cX6_bearsOn 4 = .ok (.ifCond .eq 11, 3) := by decide +kernel
theorem dX6_bearsOn_7 : decode cX6_bearsOn 7 = .ok (.aload_n 0, 1) := by decide +kernel
theorem dX6_bearsOn_8 : decode cX6_bearsOn 8 = .ok (.getfield 15, 3) := by decide +kernel
theorem dX6_bearsOn_11 : decode cX6_bearsOn 11 = .ok (.iload_n 1, 1) := by decide +kernel
theorem dX6_bearsOn_12 : decode cX6_bearsOn 12 = .ok (.if_icmp .ne 59, 3) := by decide +kernel
theorem dX6_bearsOn_15 : decode cX6_bearsOn 15 = .ok (.iload_n 2, 1) := by decide +kernel
theorem dX6_bearsOn_16 : decode cX6_bearsOn 16 = .ok (.aload_n 0, 1) := by decide +kernel
theorem dX6_bearsOn_17 : decode cX6_bearsOn 17 = .ok (.getfield 24, 3) := by decide +kernel
theorem dX6_bearsOn_20 : decode cX6_bearsOn 20 = .ok (.if_icmp .lt 51, 3) := by decide +kernel
theorem dX6_bearsOn_23 : decode cX6_bearsOn 23 = .ok (.iload_n 2, 1) := by decide +kernel
theorem dX6_bearsOn_24 : decode cX6_bearsOn 24 = .ok (.aload_n 0, 1) := by decide +kernel
theorem dX6_bearsOn_25 : decode cX6_bearsOn 25 = .ok (.getfield 27, 3) := by decide +kernel
theorem dX6_bearsOn_28 : decode cX6_bearsOn 28 = .ok (.if_icmp .gt 43, 3) := by decide +kernel
theorem dX6_bearsOn_31 : decode cX6_bearsOn 31 = .ok (.iload_n 3, 1) := by decide +kernel
theorem dX6_bearsOn_32 : decode cX6_bearsOn 32 = .ok (.aload_n 0, 1) := by decide +kernel
theorem dX6_bearsOn_33 : decode cX6_bearsOn 33 = .ok (.getfield 33, 3) := by decide +kernel
theorem dX6_bearsOn_36 : decode cX6_bearsOn 36 = .ok (.if_icmp .lt 35, 3) := by decide +kernel
theorem dX6_bearsOn_39 : decode cX6_bearsOn 39 = .ok (.iload_n 3, 1) := by decide +kernel
theorem dX6_bearsOn_40 : decode cX6_bearsOn 40 = .ok (.aload_n 0, 1) := by decide +kernel
theorem dX6_bearsOn_41 : decode cX6_bearsOn 41 = .ok (.getfield 36, 3) := by decide +kernel
theorem dX6_bearsOn_44 : decode cX6_bearsOn 44 = .ok (.if_icmp .gt 27, 3) := by decide +kernel
theorem dX6_bearsOn_47 : decode cX6_bearsOn 47 = .ok (.aload_n 0, 1) := by decide +kernel
theorem dX6_bearsOn_48 : decode cX6_bearsOn 48 = .ok (.getfield 18, 3) := by decide +kernel
theorem dX6_bearsOn_51 : decode cX6_bearsOn 51 = .ok (.iconst (-1), 1) := by decide +kernel
theorem dX6_bearsOn_52 : decode cX6_bearsOn 52 = .ok (.if_icmp .eq 15, 3) := by decide +kernel
theorem dX6_bearsOn_55 : decode cX6_bearsOn 55 = .ok (.iload 4, 2) := by decide +kernel
theorem dX6_bearsOn_57 : decode cX6_bearsOn 57 = .ok (.aload_n 0, 1) := by decide +kernel
theorem dX6_bearsOn_58 : decode cX6_bearsOn 58 = .ok (.getfield 18, 3) := by decide +kernel
theorem dX6_bearsOn_61 : decode cX6_bearsOn 61 = .ok (.ishr, 1) := by decide +kernel
theorem dX6_bearsOn_62 : decode cX6_bearsOn 62 = .ok (.iconst 1, 1) := by decide +kernel
theorem dX6_bearsOn_63 : decode cX6_bearsOn 63 = .ok (.iand, 1) := by decide +kernel
theorem dX6_bearsOn_64 : decode cX6_bearsOn 64 = .ok (.ifCond .eq 7, 3) := by decide +kernel
theorem dX6_bearsOn_67 : decode cX6_bearsOn 67 = .ok (.iconst 1, 1) := by decide +kernel
theorem dX6_bearsOn_68 : decode cX6_bearsOn 68 = .ok (.goto 4, 3) := by decide +kernel
theorem dX6_bearsOn_71 : decode cX6_bearsOn 71 = .ok (.iconst 0, 1) := by decide +kernel
theorem dX6_bearsOn_72 : decode cX6_bearsOn 72 = .ok (.ireturn, 1) := by decide +kernel
set_option maxRecDepth 100000 in
set_option maxHeartbeats 8000000 in
theorem c_X6_bearsOn (l : Launch) (D : va_G) (cA : Nat → ClassId) (q aK aV : Nat → Nat) (hq : injG 167 q) {a0 : Nat} {a1 : Int32} {a2 : Int32} {a3 : Int32} {a4 : Int32} {M M0 : Mem} {r0 : Int32} (h0 : shC a0 = 6) (h : f_X6_bearsOn a0 a1 a2 a3 a4 M = some (r0, M0)) : Met l yX6_bearsOn (.code yX6_bearsOn cX6_bearsOn 5 (some .boolean) :: BW) ({ frames := 1, cells := 0, slots := 0, locals := 16 } : Room) (va_Pc [.ref (q a0), .int a1, .int a2, .int a3, .int a4] (CB 167 (ceC cA q) D cA q aK aV M)) (Qi 167 (ceC cA q) D q r0 M0) 0 0 (AqG 167 q) := by
  refine gMet RX6 (by decide +kernel) rfl hq (Nat.le_of_ble_eq_true rfl) ?_
  intro p e s m below meth c ls X hr hk hP hS hl
  have hx := X.1
  have hb := X.2.1
  have hl : lv_has ls 5 [(0, .ref (q a0)), (1, .int a1), (2, .int a2), (3, .int a3), (4, .int a4)] := hl
  rw [f_X6_bearsOn] at h
  have hJ15 : ∀ (M : Mem) (H : Heap) (locs : List Loc) (ls : Array Slot), f_X6_bearsOn_J15 a0 a2 a3 a4 M = some (r0, M0) → va_P D vwCl (wsG 167 (ceC cA q) q M) H → va_S (AqG 167 q) s.heap H locs → lv_has ls 5 [(0, .ref (q a0)), (2, .int a2), (3, .int a3), (4, .int a4)] → W p l e ({ frames := 1, cells := 0, slots := 0, locals := 16 } : Room) s m [.ref (q a0), .int a1, .int a2, .int a3, .int a4].toArray below meth c H locs 0 0 (MQ below (Qi 167 (ceC cA q) D q r0 M0) [.ref (q a0), .int a1, .int a2, .int a3, .int a4].toArray s 0 0 (AqG 167 q)) (F0 m 15 ls []) := by
    intro M H locs ls h hP hS hl
    rw [f_X6_bearsOn_J15] at h
    refine lv_iload_n hx hb dX6_bearsOn_15 rfl (lv_at hl 1 rfl) ?_
    refine lv_aload_n hx hb dX6_bearsOn_16 rfl (lv_at hl 0 rfl) ?_
    refine gfC_6_4 X hP h0 bw_77 dX6_bearsOn_17 ?_
    refine lv_icmp_lt (tgt := 71) hx hb dX6_bearsOn_20 (by decide) (fun c3 => ?_) (fun c3 => ?_)
    · rw [if_pos c3] at h
      refine lv_iconst (v := 0) hx hb dX6_bearsOn_71 (by decide) ?_
      exact end_z X hr hk hP hS (Or.inl rfl) h dX6_bearsOn_72
    · rw [if_neg c3] at h
      refine lv_iload_n hx hb dX6_bearsOn_23 rfl (lv_at hl 1 rfl) ?_
      refine lv_aload_n hx hb dX6_bearsOn_24 rfl (lv_at hl 0 rfl) ?_
      refine gfC_6_5 X hP h0 bw_79 dX6_bearsOn_25 ?_
      refine lv_icmp_gt (tgt := 71) hx hb dX6_bearsOn_28 (by decide) (fun c4 => ?_) (fun c4 => ?_)
      · rw [if_pos c4] at h
        refine lv_iconst (v := 0) hx hb dX6_bearsOn_71 (by decide) ?_
        exact end_z X hr hk hP hS (Or.inl rfl) h dX6_bearsOn_72
      · rw [if_neg c4] at h
        refine lv_iload_n hx hb dX6_bearsOn_31 rfl (lv_at hl 2 rfl) ?_
        refine lv_aload_n hx hb dX6_bearsOn_32 rfl (lv_at hl 0 rfl) ?_
        refine gfC_6_7 X hP h0 bw_83 dX6_bearsOn_33 ?_
        refine lv_icmp_lt (tgt := 71) hx hb dX6_bearsOn_36 (by decide) (fun c5 => ?_) (fun c5 => ?_)
        · rw [if_pos c5] at h
          refine lv_iconst (v := 0) hx hb dX6_bearsOn_71 (by decide) ?_
          exact end_z X hr hk hP hS (Or.inl rfl) h dX6_bearsOn_72
        · rw [if_neg c5] at h
          refine lv_iload_n hx hb dX6_bearsOn_39 rfl (lv_at hl 2 rfl) ?_
          refine lv_aload_n hx hb dX6_bearsOn_40 rfl (lv_at hl 0 rfl) ?_
          refine gfC_6_8 X hP h0 bw_85 dX6_bearsOn_41 ?_
          refine lv_icmp_gt (tgt := 71) hx hb dX6_bearsOn_44 (by decide) (fun c6 => ?_) (fun c6 => ?_)
          · rw [if_pos c6] at h
            refine lv_iconst (v := 0) hx hb dX6_bearsOn_71 (by decide) ?_
            exact end_z X hr hk hP hS (Or.inl rfl) h dX6_bearsOn_72
          · rw [if_neg c6] at h
            refine lv_aload_n hx hb dX6_bearsOn_47 rfl (lv_at hl 0 rfl) ?_
            refine gfC_6_2 X hP h0 bw_71 dX6_bearsOn_48 ?_
            refine lv_iconst (v := -1) hx hb dX6_bearsOn_51 (by decide) ?_
            refine lv_icmp_eq (tgt := 67) hx hb dX6_bearsOn_52 (by decide) (fun c7 => ?_) (fun c7 => ?_)
            · rw [if_pos c7] at h
              refine lv_iconst (v := 1) hx hb dX6_bearsOn_67 (by decide) ?_
              refine lv_goto (tgt := 72) hx hb dX6_bearsOn_68 (by decide) ?_
              exact end_z X hr hk hP hS (Or.inr rfl) h dX6_bearsOn_72
            · rw [if_neg c7] at h
              refine lv_iload hx hb dX6_bearsOn_55 (lv_at hl 3 rfl) ?_
              refine lv_aload_n hx hb dX6_bearsOn_57 rfl (lv_at hl 0 rfl) ?_
              refine gfC_6_2 X hP h0 bw_71 dX6_bearsOn_58 ?_
              refine lv_ishr hx hb dX6_bearsOn_61 ?_
              refine lv_iconst (v := 1) hx hb dX6_bearsOn_62 (by decide) ?_
              refine lv_iand hx hb dX6_bearsOn_63 ?_
              refine lv_if_eq (tgt := 71) hx hb dX6_bearsOn_64 (by decide) (fun c8 => ?_) (fun c8 => ?_)
              · rw [if_pos c8] at h
                refine lv_iconst (v := 0) hx hb dX6_bearsOn_71 (by decide) ?_
                exact end_z X hr hk hP hS (Or.inl rfl) h dX6_bearsOn_72
              · rw [if_neg c8] at h
                refine lv_iconst (v := 1) hx hb dX6_bearsOn_67 (by decide) ?_
                refine lv_goto (tgt := 72) hx hb dX6_bearsOn_68 (by decide) ?_
                exact end_z X hr hk hP hS (Or.inr rfl) h dX6_bearsOn_72
  refine lv_aload_n hx hb dX6_bearsOn_0 rfl (lv_at hl 0 rfl) ?_
  refine gfC_6_1 X hP h0 bw_68 dX6_bearsOn_1 ?_
  refine lv_if_eq (tgt := 15) hx hb dX6_bearsOn_4 (by decide) (fun c1 => ?_) (fun c1 => ?_)
  · rw [if_pos c1] at h
    exact hJ15  _ _ _ _ h hP hS (lv_sub hl [0, 2, 3, 4] rfl)
  · rw [if_neg c1] at h
    refine lv_aload_n hx hb dX6_bearsOn_7 rfl (lv_at hl 0 rfl) ?_
    refine gfC_6_1 X hP h0 bw_68 dX6_bearsOn_8 ?_
    refine lv_iload_n hx hb dX6_bearsOn_11 rfl (lv_at hl 1 rfl) ?_
    refine lv_icmp_ne (tgt := 71) hx hb dX6_bearsOn_12 (by decide) (fun c2 => ?_) (fun c2 => ?_)
    · rw [if_neg c2] at h
      refine lv_iconst (v := 0) hx hb dX6_bearsOn_71 (by decide) ?_
      exact end_z X hr hk hP hS (Or.inl rfl) h dX6_bearsOn_72
    · rw [if_pos c2] at h
      exact hJ15  _ _ _ _ h hP hS (lv_sub hl [0, 2, 3, 4] rfl)
theorem dX0_ruleFor_0 : decode cX0_ruleFor 0 = .ok (.iconst 0, 1) := by decide +kernel
theorem dX0_ruleFor_1 : decode cX0_ruleFor 1 = .ok (.istore 5, 2) := by decide +kernel
theorem dX0_ruleFor_3 : decode cX0_ruleFor 3 = .ok (.iload 5, 2) := by decide +kernel
theorem dX0_ruleFor_5 : decode cX0_ruleFor 5 = .ok (.aload_n 0, 1) := by decide +kernel
theorem dX0_ruleFor_6 : decode cX0_ruleFor 6 = .ok (.iconst 2, 1) := by decide +kernel
theorem dX0_ruleFor_7 : decode cX0_ruleFor 7 = .ok (.invokevirtual 77, 3) := by decide +kernel
theorem dX0_ruleFor_10 : decode cX0_ruleFor 10 = .ok (.if_icmp .ge 29, 3) := by decide +kernel
theorem dX0_ruleFor_13 : decode cX0_ruleFor 13 = .ok (.aload_n 0, 1) := by decide +kernel
theorem dX0_ruleFor_14 : decode cX0_ruleFor 14 = .ok (.iload 5, 2) := by decide +kernel
theorem dX0_ruleFor_16 : decode cX0_ruleFor 16 = .ok (.invokevirtual 81, 3) := by decide +kernel
theorem dX0_ruleFor_19 : decode cX0_ruleFor 19 = .ok (.iload_n 1, 1) := by decide +kernel
theorem dX0_ruleFor_20 : decode cX0_ruleFor 20 = .ok (.iload_n 2, 1) := by decide +kernel
theorem dX0_ruleFor_21 : decode cX0_ruleFor 21 = .ok (.iload_n 3, 1) := by decide +kernel
theorem dX0_ruleFor_22 : decode cX0_ruleFor 22 = .ok (.iload 4, 2) := by decide +kernel
theorem dX0_ruleFor_24 : decode cX0_ruleFor 24 = .ok (.invokevirtual 140, 3) := by decide +kernel
theorem dX0_ruleFor_27 : decode cX0_ruleFor 27 = .ok (.ifCond .eq 6, 3) := by decide +kernel
theorem dX0_ruleFor_30 : decode cX0_ruleFor 30 = .ok (.iload 5, 2) := by decide +kernel
theorem dX0_ruleFor_32 : decode cX0_ruleFor 32 = .ok (.ireturn, 1) := by decide +kernel
theorem dX0_ruleFor_33 : decode cX0_ruleFor 33 = .ok (.iinc 5 1, 3) := by decide +kernel
theorem dX0_ruleFor_36 : decode cX0_ruleFor 36 = .ok (.goto (-33), 3) := by decide +kernel
theorem dX0_ruleFor_39 : decode cX0_ruleFor 39 = .ok (.iconst (-1), 1) := by decide +kernel
theorem dX0_ruleFor_40 : decode cX0_ruleFor 40 = .ok (.ireturn, 1) := by decide +kernel
set_option maxRecDepth 100000 in
set_option maxHeartbeats 8000000 in
theorem c_X0_ruleFor (l : Launch) (D : va_G) (cA : Nat → ClassId) (q aK aV : Nat → Nat) (hq : injG 167 q) {a0 : Nat} {a1 : Int32} {a2 : Int32} {a3 : Int32} {a4 : Int32} {M M0 : Mem} {r0 : Int32} (h0 : shC a0 = 0) (h : f_X0_ruleFor a0 a1 a2 a3 a4 M = some (r0, M0)) : Met l yX0_ruleFor (.code yX0_ruleFor cX0_ruleFor 6 (some .int) :: BW) ({ frames := 2, cells := 0, slots := 0, locals := 40 } : Room) (va_Pc [.ref (q a0), .int a1, .int a2, .int a3, .int a4] (CB 167 (ceC cA q) D cA q aK aV M)) (Qi 167 (ceC cA q) D q r0 M0) 0 0 (AqG 167 q) := by
  refine gMet RX0 (by decide +kernel) rfl hq (Nat.le_of_ble_eq_true rfl) ?_
  intro p e s m below meth c ls X hr hk hP hS hl
  have hx := X.1
  have hb := X.2.1
  have hl : lv_has ls 6 [(0, .ref (q a0)), (1, .int a1), (2, .int a2), (3, .int a3), (4, .int a4)] := hl
  rw [f_X0_ruleFor] at h
  have hL3 : ∀ (fu : Nat) (b5 : Int32) (M : Mem) (res : (Nat × Int32) × Mem) (H : Heap) (locs : List Loc) (ls : Array Slot), f_X0_ruleFor_L3 a0 a1 a2 a3 a4 fu b5 M = some res → va_P D vwCl (wsG 167 (ceC cA q) q M) H → va_S (AqG 167 q) s.heap H locs → lv_has ls 6 [(0, .ref (q a0)), (1, .int a1), (2, .int a2), (3, .int a3), (4, .int a4), (5, .int b5)] → (res.1.1 = 0 → ∀ (H : Heap) (locs : List Loc) (ls : Array Slot), va_P D vwCl (wsG 167 (ceC cA q) q res.2) H → va_S (AqG 167 q) s.heap H locs → lv_has ls 6 [(5, .int (res.1.2))] → W p l e ({ frames := 2, cells := 0, slots := 0, locals := 40 } : Room) s m [.ref (q a0), .int a1, .int a2, .int a3, .int a4].toArray below meth c H locs 0 0 (MQ below (Qi 167 (ceC cA q) D q r0 M0) [.ref (q a0), .int a1, .int a2, .int a3, .int a4].toArray s 0 0 (AqG 167 q)) (F0 m 30 ls [])) → (res.1.1 = 1 → ∀ (H : Heap) (locs : List Loc) (ls : Array Slot), va_P D vwCl (wsG 167 (ceC cA q) q res.2) H → va_S (AqG 167 q) s.heap H locs → lv_has ls 6 [] → W p l e ({ frames := 2, cells := 0, slots := 0, locals := 40 } : Room) s m [.ref (q a0), .int a1, .int a2, .int a3, .int a4].toArray below meth c H locs 0 0 (MQ below (Qi 167 (ceC cA q) D q r0 M0) [.ref (q a0), .int a1, .int a2, .int a3, .int a4].toArray s 0 0 (AqG 167 q)) (F0 m 39 ls [])) → W p l e ({ frames := 2, cells := 0, slots := 0, locals := 40 } : Room) s m [.ref (q a0), .int a1, .int a2, .int a3, .int a4].toArray below meth c H locs 0 0 (MQ below (Qi 167 (ceC cA q) D q r0 M0) [.ref (q a0), .int a1, .int a2, .int a3, .int a4].toArray s 0 0 (AqG 167 q)) (F0 m 3 ls []) := by
    intro fu
    induction fu with
    | zero => intro b5 M res H locs ls h; exact absurd h (by simp [f_X0_ruleFor_L3])
    | succ fu ih =>
      intro b5 M res H locs ls h hP hS hl K3_0 K3_1
      rw [f_X0_ruleFor_L3] at h
      refine lv_iload hx hb dX0_ruleFor_3 (lv_at hl 5 rfl) ?_
      refine lv_aload_n hx hb dX0_ruleFor_5 rfl (lv_at hl 0 rfl) ?_
      refine lv_iconst (v := 2) hx hb dX0_ruleFor_6 (by decide) ?_
      obtain ⟨r6, M7, hc8, h⟩ := bnd_inv h
      refine gV_i (As := [.int (2 : Int32)]) X hP hS hl.1 (c_X0_countOf l D cA q aK aV hq h0 hc8) sf_X0_countOf bw_645 sv_X0_countOf (rcC_0 h0) rfl ⟨rfl, rfl⟩ ⟨Nat.le_of_ble_eq_true rfl, Nat.le_of_ble_eq_true rfl⟩ rfl rfl (Nat.le_of_ble_eq_true rfl) dX0_ruleFor_7 (fun H locs hP hS => ?_)
      refine lv_icmp_ge (tgt := 39) hx hb dX0_ruleFor_10 (by decide) (fun c9 => ?_) (fun c9 => ?_)
      · rw [if_pos c9] at h
        cases h
        exact K3_1 rfl _ _ _ hP hS (lv_sub hl [] rfl)
      · rw [if_neg c9] at h
        refine lv_aload_n hx hb dX0_ruleFor_13 rfl (lv_at hl 0 rfl) ?_
        refine lv_iload hx hb dX0_ruleFor_14 (lv_at hl 5 rfl) ?_
        obtain ⟨r10, M11, hc12, h⟩ := bnd_inv h
        refine gV_r (As := [.int b5]) X hP hS hl.1 (c_X0_ruleAt l D cA q aK aV hq h0 hc12) sf_X0_ruleAt bw_882 sv_X0_ruleAt (rcC_0 h0) rfl ⟨rfl, rfl⟩ ⟨Nat.le_of_ble_eq_true rfl, Nat.le_of_ble_eq_true rfl⟩ rfl rfl (Nat.le_of_ble_eq_true rfl) dX0_ruleFor_16 (fun H locs hP hS => ?_)
        obtain ⟨g13, h⟩ := gd_inv h
        have g13 := Decidable.not_not.mp g13
        refine lv_iload_n hx hb dX0_ruleFor_19 rfl (lv_at hl 1 rfl) ?_
        refine lv_iload_n hx hb dX0_ruleFor_20 rfl (lv_at hl 2 rfl) ?_
        refine lv_iload_n hx hb dX0_ruleFor_21 rfl (lv_at hl 3 rfl) ?_
        refine lv_iload hx hb dX0_ruleFor_22 (lv_at hl 4 rfl) ?_
        obtain ⟨r14, M15, hc16, h⟩ := bnd_inv h
        refine gV_i (As := [.int a1, .int a2, .int a3, .int a4]) X hP hS hl.1 (c_X6_bearsOn l D cA q aK aV hq g13 hc16) sf_X6_bearsOn bw_883 sv_X6_bearsOn (rcC_6 g13) rfl ⟨rfl, rfl⟩ ⟨Nat.le_of_ble_eq_true rfl, Nat.le_of_ble_eq_true rfl⟩ rfl rfl (Nat.le_of_ble_eq_true rfl) dX0_ruleFor_24 (fun H locs hP hS => ?_)
        refine lv_if_eq (tgt := 33) hx hb dX0_ruleFor_27 (by decide) (fun c17 => ?_) (fun c17 => ?_)
        · rw [if_pos c17] at h
          obtain ⟨y18, ey18, h⟩ := lt_inv h
          refine lv_iinc (v := y18) (lv' := [(5, .int y18), (0, .ref (q a0)), (1, .int a1), (2, .int a2), (3, .int a3), (4, .int a4)]) hx hb dX0_ruleFor_33 hl (k := 5) rfl (by rw [ey18]; rfl) (by decide) rfl (fun ls hl => ?_)
          refine lv_goto (tgt := 3) hx hb dX0_ruleFor_36 (by decide) ?_
          exact ih _ _ res _ _ _ h hP hS (lv_sub hl [1, 2, 3, 4, 5, 0] rfl) K3_0 K3_1
        · rw [if_neg c17] at h
          cases h
          exact K3_0 rfl _ _ _ hP hS (lv_sub hl [5] rfl)
  refine lv_iconst (v := 0) hx hb dX0_ruleFor_0 (by decide) ?_
  refine lv_istore (lv' := [(5, .int (0 : Int32)), (0, .ref (q a0)), (1, .int a1), (2, .int a2), (3, .int a3), (4, .int a4)]) hx hb dX0_ruleFor_1 hl (by decide) rfl (fun ls hl => ?_)
  obtain ⟨s1, M2, hc3, h⟩ := bnd_inv h
  obtain ⟨k4, x5⟩ := s1
  try dsimp only at h
  refine hL3  fz _ _ _ _ _ _ hc3 hP hS (lv_sub hl [1, 2, 3, 4, 5, 0] rfl) (fun hke H locs ls hP hS hl => ?_) (fun hke H locs ls hP hS hl => ?_)
  · have hke : k4 = 0 := hke
    have hl : lv_has ls 6 [(5, .int x5)] := hl
    subst hke
    rw [if_pos rfl] at h
    refine lv_iload hx hb dX0_ruleFor_30 (lv_at hl 0 rfl) ?_
    exact end_i X hr hk hP hS h dX0_ruleFor_32
  · have hke : k4 = 1 := hke
    have hl : lv_has ls 6 [] := hl
    subst hke
    rw [if_neg (by decide)] at h
    refine lv_iconst (v := -1) hx hb dX0_ruleFor_39 (by decide) ?_
    exact end_i X hr hk hP hS h dX0_ruleFor_40
theorem dX0_cueBefore_0 : decode cX0_cueBefore 0 = .ok (.aload_n 0, 1) := by decide +kernel
theorem dX0_cueBefore_1 : decode cX0_cueBefore 1 = .ok (.iload_n 1, 1) := by decide +kernel
theorem dX0_cueBefore_2 : decode cX0_cueBefore 2 = .ok (.invokevirtual 89, 3) := by decide +kernel
theorem dX0_cueBefore_5 : decode cX0_cueBefore 5 = .ok (.astore_n 3, 1) := by decide +kernel
theorem dX0_cueBefore_6 : decode cX0_cueBefore 6 = .ok (.aload_n 0, 1) := by decide +kernel
theorem dX0_cueBefore_7 : decode cX0_cueBefore 7 = .ok (.aload_n 3, 1) := by decide +kernel
theorem dX0_cueBefore_8 : decode cX0_cueBefore 8 = .ok (.getfield 121, 3) := by decide +kernel
theorem dX0_cueBefore_11 : decode cX0_cueBefore 11 = .ok (.aload_n 3, 1) := by decide +kernel
theorem dX0_cueBefore_12 : decode cX0_cueBefore 12 = .ok (.getfield 124, 3) := by decide +kernel
theorem dX0_cueBefore_15 : decode cX0_cueBefore 15 = .ok (.iload_n 2, 1) := by decide +kernel
theorem dX0_cueBefore_16 : decode cX0_cueBefore 16 = .ok (.aload_n 3, 1) := by decide +kernel
theorem dX0_cueBefore_17 : decode cX0_cueBefore 17 = .ok (.getfield 151, 3) := by decide +kernel
theorem dX0_cueBefore_20 : decode cX0_cueBefore 20 = .ok (.invokevirtual 144, 3) := by decide +kernel
theorem dX0_cueBefore_23 : decode cX0_cueBefore 23 = .ok (.istore 4, 2) := by decide +kernel
theorem dX0_cueBefore_25 : decode cX0_cueBefore 25 = .ok (.iload 4, 2) := by decide +kernel
theorem dX0_cueBefore_27 : decode cX0_cueBefore 27 = .ok (.iconst (-1), 1) := by decide +kernel
theorem dX0_cueBefore_28 : decode cX0_cueBefore 28 = .ok (.if_icmp .ne 11, 3) := by decide +kernel
theorem dX0_cueBefore_31 : decode cX0_cueBefore 31 = .ok (.aload_n 0, 1) := by decide +kernel
theorem dX0_cueBefore_32 : decode cX0_cueBefore 32 = .ok (.iconst 1, 1) := by decide +kernel
theorem dX0_cueBefore_33 : decode cX0_cueBefore 33 = .ok (.invokevirtual 77, 3) := by decide +kernel
theorem dX0_cueBefore_36 : decode cX0_cueBefore 36 = .ok (.goto 12, 3) := by decide +kernel
theorem dX0_cueBefore_39 : decode cX0_cueBefore 39 = .ok (.aload_n 0, 1) := by decide +kernel
theorem dX0_cueBefore_40 : decode cX0_cueBefore 40 = .ok (.iload 4, 2) := by decide +kernel
theorem dX0_cueBefore_42 : decode cX0_cueBefore 42 = .ok (.invokevirtual 81, 3) := by decide +kernel
theorem dX0_cueBefore_45 : decode cX0_cueBefore 45 = .ok (.getfield 148, 3) := by decide +kernel
theorem dX0_cueBefore_48 : decode cX0_cueBefore 48 = .ok (.ireturn, 1) := by decide +kernel
set_option maxRecDepth 100000 in
set_option maxHeartbeats 8000000 in
theorem c_X0_cueBefore (l : Launch) (D : va_G) (cA : Nat → ClassId) (q aK aV : Nat → Nat) (hq : injG 167 q) {a0 : Nat} {a1 : Int32} {a2 : Int32} {M M0 : Mem} {r0 : Int32} (h0 : shC a0 = 0) (h : f_X0_cueBefore a0 a1 a2 M = some (r0, M0)) : Met l yX0_cueBefore (.code yX0_cueBefore cX0_cueBefore 5 (some .int) :: BW) ({ frames := 3, cells := 0, slots := 0, locals := 65 } : Room) (va_Pc [.ref (q a0), .int a1, .int a2] (CB 167 (ceC cA q) D cA q aK aV M)) (Qi 167 (ceC cA q) D q r0 M0) 0 0 (AqG 167 q) := by
  refine gMet RX0 (by decide +kernel) rfl hq (Nat.le_of_ble_eq_true rfl) ?_
  intro p e s m below meth c ls X hr hk hP hS hl
  have hx := X.1
  have hb := X.2.1
  have hl : lv_has ls 5 [(0, .ref (q a0)), (1, .int a1), (2, .int a2)] := hl
  rw [f_X0_cueBefore] at h
  refine lv_aload_n hx hb dX0_cueBefore_0 rfl (lv_at hl 0 rfl) ?_
  refine lv_iload_n hx hb dX0_cueBefore_1 rfl (lv_at hl 1 rfl) ?_
  obtain ⟨r1, M2, hc3, h⟩ := bnd_inv h
  refine gV_r (As := [.int a1]) X hP hS hl.1 (c_X0_personAt l D cA q aK aV hq h0 hc3) sf_X0_personAt bw_813 sv_X0_personAt (rcC_0 h0) rfl ⟨rfl, rfl⟩ ⟨Nat.le_of_ble_eq_true rfl, Nat.le_of_ble_eq_true rfl⟩ rfl rfl (Nat.le_of_ble_eq_true rfl) dX0_cueBefore_2 (fun H locs hP hS => ?_)
  obtain ⟨g4, h⟩ := gd_inv h
  have g4 := Decidable.not_not.mp g4
  refine lv_astore_n (lv' := [(3, .ref (q r1)), (0, .ref (q a0)), (1, .int a1), (2, .int a2)]) hx hb dX0_cueBefore_5 rfl hl (by decide) rfl (fun ls hl => ?_)
  refine lv_aload_n hx hb dX0_cueBefore_6 rfl (lv_at hl 1 rfl) ?_
  refine lv_aload_n hx hb dX0_cueBefore_7 rfl (lv_at hl 0 rfl) ?_
  refine gfC_5_0 X hP g4 bw_113 dX0_cueBefore_8 ?_
  refine lv_aload_n hx hb dX0_cueBefore_11 rfl (lv_at hl 0 rfl) ?_
  refine gfC_5_1 X hP g4 bw_118 dX0_cueBefore_12 ?_
  refine lv_iload_n hx hb dX0_cueBefore_15 rfl (lv_at hl 3 rfl) ?_
  refine lv_aload_n hx hb dX0_cueBefore_16 rfl (lv_at hl 0 rfl) ?_
  refine gfC_5_2 X hP g4 bw_124 dX0_cueBefore_17 ?_
  obtain ⟨r5, M6, hc7, h⟩ := bnd_inv h
  refine gV_i (As := [.int (gI M2 r1 0), .int (gI M2 r1 1), .int a2, .int (gI M2 r1 2)]) X hP hS hl.1 (c_X0_ruleFor l D cA q aK aV hq h0 hc7) sf_X0_ruleFor bw_878 sv_X0_ruleFor (rcC_0 h0) rfl ⟨rfl, rfl⟩ ⟨Nat.le_of_ble_eq_true rfl, Nat.le_of_ble_eq_true rfl⟩ rfl rfl (Nat.le_of_ble_eq_true rfl) dX0_cueBefore_20 (fun H locs hP hS => ?_)
  refine lv_istore (lv' := [(4, .int r5), (3, .ref (q r1)), (0, .ref (q a0)), (1, .int a1), (2, .int a2)]) hx hb dX0_cueBefore_23 hl (by decide) rfl (fun ls hl => ?_)
  refine lv_iload hx hb dX0_cueBefore_25 (lv_at hl 0 rfl) ?_
  refine lv_iconst (v := -1) hx hb dX0_cueBefore_27 (by decide) ?_
  refine lv_icmp_ne (tgt := 39) hx hb dX0_cueBefore_28 (by decide) (fun c8 => ?_) (fun c8 => ?_)
  · rw [if_neg c8] at h
    refine lv_aload_n hx hb dX0_cueBefore_39 rfl (lv_at hl 2 rfl) ?_
    refine lv_iload hx hb dX0_cueBefore_40 (lv_at hl 0 rfl) ?_
    obtain ⟨r9, M10, hc11, h⟩ := bnd_inv h
    refine gV_r (As := [.int r5]) X hP hS hl.1 (c_X0_ruleAt l D cA q aK aV hq h0 hc11) sf_X0_ruleAt bw_882 sv_X0_ruleAt (rcC_0 h0) rfl ⟨rfl, rfl⟩ ⟨Nat.le_of_ble_eq_true rfl, Nat.le_of_ble_eq_true rfl⟩ rfl rfl (Nat.le_of_ble_eq_true rfl) dX0_cueBefore_42 (fun H locs hP hS => ?_)
    obtain ⟨g12, h⟩ := gd_inv h
    have g12 := Decidable.not_not.mp g12
    refine gfC_6_0 X hP g12 bw_66 dX0_cueBefore_45 ?_
    exact end_i X hr hk hP hS h dX0_cueBefore_48
  · rw [if_pos c8] at h
    refine lv_aload_n hx hb dX0_cueBefore_31 rfl (lv_at hl 2 rfl) ?_
    refine lv_iconst (v := 1) hx hb dX0_cueBefore_32 (by decide) ?_
    obtain ⟨r13, M14, hc15, h⟩ := bnd_inv h
    refine gV_i (As := [.int (1 : Int32)]) X hP hS hl.1 (c_X0_countOf l D cA q aK aV hq h0 hc15) sf_X0_countOf bw_645 sv_X0_countOf (rcC_0 h0) rfl ⟨rfl, rfl⟩ ⟨Nat.le_of_ble_eq_true rfl, Nat.le_of_ble_eq_true rfl⟩ rfl rfl (Nat.le_of_ble_eq_true rfl) dX0_cueBefore_33 (fun H locs hP hS => ?_)
    refine lv_goto (tgt := 48) hx hb dX0_cueBefore_36 (by decide) ?_
    exact end_i X hr hk hP hS h dX0_cueBefore_48
theorem dX0_sitBefore_0 : decode cX0_sitBefore 0 = .ok (.aload_n 0, 1) := by decide +kernel
theorem dX0_sitBefore_1 : decode cX0_sitBefore 1 = .ok (.iload_n 1, 1) := by decide +kernel
theorem dX0_sitBefore_2 : decode cX0_sitBefore 2 = .ok (.aload_n 0, 1) := by decide +kernel
theorem dX0_sitBefore_3 : decode cX0_sitBefore 3 = .ok (.getfield 63, 3) := by decide +kernel
theorem dX0_sitBefore_6 : decode cX0_sitBefore 6 = .ok (.invokevirtual 154, 3) := by decide +kernel
theorem dX0_sitBefore_9 : decode cX0_sitBefore 9 = .ok (.istore_n 2, 1) := by decide +kernel
theorem dX0_sitBefore_10 : decode cX0_sitBefore 10 = .ok (.aload_n 0, 1) := by decide +kernel
theorem dX0_sitBefore_11 : decode cX0_sitBefore 11 = .ok (.bipush 9, 2) := by decide +kernel
theorem dX0_sitBefore_13 : decode cX0_sitBefore 13 = .ok (.aload_n 0, 1) := by decide +kernel
theorem dX0_sitBefore_14 : decode cX0_sitBefore 14 = .ok (.getfield 63, 3) := by decide +kernel
theorem dX0_sitBefore_17 : decode cX0_sitBefore 17 = .ok (.iconst 1, 1) := by decide +kernel
theorem dX0_sitBefore_18 : decode cX0_sitBefore 18 = .ok (.iadd, 1) := by decide +kernel
theorem dX0_sitBefore_19 : decode cX0_sitBefore 19 = .ok (.invokestatic 173, 3) := by decide +kernel
theorem dX0_sitBefore_22 : decode cX0_sitBefore 22 = .ok (.putfield 63, 3) := by decide +kernel
theorem dX0_sitBefore_25 : decode cX0_sitBefore 25 = .ok (.aload_n 0, 1) := by decide +kernel
theorem dX0_sitBefore_26 : decode cX0_sitBefore 26 = .ok (.dup, 1) := by decide +kernel
theorem dX0_sitBefore_27 : decode cX0_sitBefore 27 = .ok (.getfield 67, 3) := by decide +kernel
theorem dX0_sitBefore_30 : decode cX0_sitBefore 30 = .ok (.iconst 1, 1) := by decide +kernel
theorem dX0_sitBefore_31 : decode cX0_sitBefore 31 = .ok (.iadd, 1) := by decide +kernel
theorem dX0_sitBefore_32 : decode cX0_sitBefore 32 = .ok (.putfield 67, 3) := by decide +kernel
theorem dX0_sitBefore_35 : decode cX0_sitBefore 35 = .ok (.aload_n 0, 1) := by decide +kernel
theorem dX0_sitBefore_36 : decode cX0_sitBefore 36 = .ok (.iload_n 1, 1) := by decide +kernel
theorem dX0_sitBefore_37 : decode cX0_sitBefore 37 = .ok (.invokevirtual 89, 3) := by decide +kernel
theorem dX0_sitBefore_40 : decode cX0_sitBefore 40 = .ok (.dup, 1) := by decide +kernel
theorem dX0_sitBefore_41 : decode cX0_sitBefore 41 = .ok (.getfield 178, 3) := by decide +kernel
theorem dX0_sitBefore_44 : decode cX0_sitBefore 44 = .ok (.iconst 1, 1) := by decide +kernel
theorem dX0_sitBefore_45 : decode cX0_sitBefore 45 = .ok (.iadd, 1) := by decide +kernel
theorem dX0_sitBefore_46 : decode cX0_sitBefore 46 = .ok (.putfield 178, 3) := by decide +kernel
theorem dX0_sitBefore_49 : decode cX0_sitBefore 49 = .ok (.iload_n 2, 1) := by decide +kernel
theorem dX0_sitBefore_50 : decode cX0_sitBefore 50 = .ok (.ireturn, 1) := by decide +kernel
set_option maxRecDepth 100000 in
set_option maxHeartbeats 8000000 in
theorem c_X0_sitBefore (l : Launch) (D : va_G) (cA : Nat → ClassId) (q aK aV : Nat → Nat) (hq : injG 167 q) {a0 : Nat} {a1 : Int32} {M M0 : Mem} {r0 : Int32} (h0 : shC a0 = 0) (h : f_X0_sitBefore a0 a1 M = some (r0, M0)) : Met l yX0_sitBefore (.code yX0_sitBefore cX0_sitBefore 3 (some .int) :: BW) ({ frames := 4, cells := 0, slots := 0, locals := 89 } : Room) (va_Pc [.ref (q a0), .int a1] (CB 167 (ceC cA q) D cA q aK aV M)) (Qi 167 (ceC cA q) D q r0 M0) 0 0 (AqG 167 q) := by
  refine gMet RX0 (by decide +kernel) rfl hq (Nat.le_of_ble_eq_true rfl) ?_
  intro p e s m below meth c ls X hr hk hP hS hl
  have hx := X.1
  have hb := X.2.1
  have hl : lv_has ls 3 [(0, .ref (q a0)), (1, .int a1)] := hl
  rw [f_X0_sitBefore] at h
  refine lv_aload_n hx hb dX0_sitBefore_0 rfl (lv_at hl 0 rfl) ?_
  refine lv_iload_n hx hb dX0_sitBefore_1 rfl (lv_at hl 1 rfl) ?_
  refine lv_aload_n hx hb dX0_sitBefore_2 rfl (lv_at hl 0 rfl) ?_
  refine gfC_0_12 X hP h0 bw_167 dX0_sitBefore_3 ?_
  obtain ⟨r1, M2, hc3, h⟩ := bnd_inv h
  refine gV_i (As := [.int a1, .int (gI M a0 12)]) X hP hS hl.1 (c_X0_cueBefore l D cA q aK aV hq h0 hc3) sf_X0_cueBefore bw_874 sv_X0_cueBefore (rcC_0 h0) rfl ⟨rfl, rfl⟩ ⟨Nat.le_of_ble_eq_true rfl, Nat.le_of_ble_eq_true rfl⟩ rfl rfl (Nat.le_of_ble_eq_true rfl) dX0_sitBefore_6 (fun H locs hP hS => ?_)
  refine lv_istore_n (lv' := [(2, .int r1), (0, .ref (q a0)), (1, .int a1)]) hx hb dX0_sitBefore_9 rfl hl (by decide) rfl (fun ls hl => ?_)
  refine lv_aload_n hx hb dX0_sitBefore_10 rfl (lv_at hl 1 rfl) ?_
  refine lv_bipush (v := 9) hx hb dX0_sitBefore_11 (by decide) ?_
  refine lv_aload_n hx hb dX0_sitBefore_13 rfl (lv_at hl 1 rfl) ?_
  refine gfC_0_12 X hP h0 bw_167 dX0_sitBefore_14 ?_
  refine lv_iconst (v := 1) hx hb dX0_sitBefore_17 (by decide) ?_
  refine lv_iadd hx hb dX0_sitBefore_18 ?_
  obtain ⟨y4, ey4, h⟩ := lt_inv h
  refine va_mmin hx hb (by rw [X.2.2.1]; exact hl.1.symm) X.2.2.2.1 (X.2.2.2.2.1 _ bw_887) (X.2.2.2.2.1 _ bw_888) (X.2.2.2.2.1 _ bw_18) (X.2.2.2.2.1 _ bw_889) (Nat.le_of_ble_eq_true rfl) (Nat.le_of_ble_eq_true rfl) (Nat.zero_le _) (Nat.zero_le _) dX0_sitBefore_19 ?_
  refine topE ey4 ?_
  obtain ⟨M5, eM5, h⟩ := lt_inv h
  refine pfC_0_12 X hP hS h0 bw_167 eM5 dX0_sitBefore_22 (fun H locs hP hS => ?_)
  refine lv_aload_n hx hb dX0_sitBefore_25 rfl (lv_at hl 1 rfl) ?_
  refine lv_dup hx hb dX0_sitBefore_26 rfl ?_
  refine gfC_0_13 X hP h0 bw_172 dX0_sitBefore_27 ?_
  refine lv_iconst (v := 1) hx hb dX0_sitBefore_30 (by decide) ?_
  refine lv_iadd hx hb dX0_sitBefore_31 ?_
  obtain ⟨M6, eM6, h⟩ := lt_inv h
  refine pfC_0_13 X hP hS h0 bw_172 eM6 dX0_sitBefore_32 (fun H locs hP hS => ?_)
  refine lv_aload_n hx hb dX0_sitBefore_35 rfl (lv_at hl 1 rfl) ?_
  refine lv_iload_n hx hb dX0_sitBefore_36 rfl (lv_at hl 2 rfl) ?_
  obtain ⟨r7, M8, hc9, h⟩ := bnd_inv h
  refine gV_r (As := [.int a1]) X hP hS hl.1 (c_X0_personAt l D cA q aK aV hq h0 hc9) sf_X0_personAt bw_813 sv_X0_personAt (rcC_0 h0) rfl ⟨rfl, rfl⟩ ⟨Nat.le_of_ble_eq_true rfl, Nat.le_of_ble_eq_true rfl⟩ rfl rfl (Nat.le_of_ble_eq_true rfl) dX0_sitBefore_37 (fun H locs hP hS => ?_)
  obtain ⟨g10, h⟩ := gd_inv h
  have g10 := Decidable.not_not.mp g10
  refine lv_dup hx hb dX0_sitBefore_40 rfl ?_
  refine gfC_5_4 X hP g10 bw_131 dX0_sitBefore_41 ?_
  refine lv_iconst (v := 1) hx hb dX0_sitBefore_44 (by decide) ?_
  refine lv_iadd hx hb dX0_sitBefore_45 ?_
  obtain ⟨M11, eM11, h⟩ := lt_inv h
  refine pfC_5_4 X hP hS g10 bw_131 eM11 dX0_sitBefore_46 (fun H locs hP hS => ?_)
  refine lv_iload_n hx hb dX0_sitBefore_49 rfl (lv_at hl 0 rfl) ?_
  exact end_i X hr hk hP hS h dX0_sitBefore_50
theorem dX11_sit_0 : decode cX11_sit 0 = .ok (.aload_n 0, 1) := by decide +kernel
theorem dX11_sit_1 : decode cX11_sit 1 = .ok (.getfield 10, 3) := by decide +kernel
theorem dX11_sit_4 : decode cX11_sit 4 = .ok (.iconst 3, 1) := by decide +kernel
theorem dX11_sit_5 : decode cX11_sit 5 = .ok (.iload_n 1, 1) := by decide +kernel
theorem dX11_sit_6 : decode cX11_sit 6 = .ok (.invokevirtual 213, 3) := by decide +kernel
theorem dX11_sit_9 : decode cX11_sit 9 = .ok (.ifCond .ne 9, 3) := by decide +kernel
theorem dX11_sit_12 : decode cX11_sit 12 = .ok (.aload_n 0, 1) := by decide +kernel
theorem dX11_sit_13 : decode cX11_sit 13 = .ok (.iconst 1, 1) := by decide +kernel
theorem dX11_sit_14 : decode cX11_sit 14 = .ok (.invokevirtual 132, 3) := by decide +kernel
theorem dX11_sit_17 : decode cX11_sit 17 = .ok (.ireturn, 1) := by decide +kernel
theorem dX11_sit_18 : decode cX11_sit 18 = .ok (.aload_n 0, 1) := by decide +kernel
theorem dX11_sit_19 : decode cX11_sit 19 = .ok (.getfield 10, 3) := by decide +kernel
theorem dX11_sit_22 : decode cX11_sit 22 = .ok (.iconst 1, 1) := by decide +kernel
theorem dX11_sit_23 : decode cX11_sit 23 = .ok (.invokevirtual 264, 3) := by decide +kernel
theorem dX11_sit_26 : decode cX11_sit 26 = .ok (.ifCond .ne 9, 3) := by decide +kernel
theorem dX11_sit_29 : decode cX11_sit 29 = .ok (.aload_n 0, 1) := by decide +kernel
theorem dX11_sit_30 : decode cX11_sit 30 = .ok (.iconst 4, 1) := by decide +kernel
theorem dX11_sit_31 : decode cX11_sit 31 = .ok (.invokevirtual 132, 3) := by decide +kernel
theorem dX11_sit_34 : decode cX11_sit 34 = .ok (.ireturn, 1) := by decide +kernel
theorem dX11_sit_35 : decode cX11_sit 35 = .ok (.aload_n 0, 1) := by decide +kernel
theorem dX11_sit_36 : decode cX11_sit 36 = .ok (.aload_n 0, 1) := by decide +kernel
theorem dX11_sit_37 : decode cX11_sit 37 = .ok (.getfield 10, 3) := by decide +kernel
theorem dX11_sit_40 : decode cX11_sit 40 = .ok (.iload_n 1, 1) := by decide +kernel
theorem dX11_sit_41 : decode cX11_sit 41 = .ok (.invokevirtual 267, 3) := by decide +kernel
theorem dX11_sit_44 : decode cX11_sit 44 = .ok (.invokevirtual 191, 3) := by decide +kernel
theorem dX11_sit_47 : decode cX11_sit 47 = .ok (.ireturn, 1) := by decide +kernel
set_option maxRecDepth 100000 in
set_option maxHeartbeats 8000000 in
theorem c_X11_sit (l : Launch) (D : va_G) (cA : Nat → ClassId) (q aK aV : Nat → Nat) (hq : injG 167 q) {a1 : Int32} {M M0 : Mem} {r0 : Int32} (h : f_X11_sit a1 M = some (r0, M0)) : Met l yX11_sit (.code yX11_sit cX11_sit 2 (some .int) :: BW) ({ frames := 5, cells := 0, slots := 0, locals := 111 } : Room) (va_Pc [.ref (q 0), .int a1] (CB 167 (ceC cA q) D cA q aK aV M)) (Qi 167 (ceC cA q) D q r0 M0) 0 0 (AqG 167 q) := by
  refine gMet RX11 (by decide +kernel) rfl hq (Nat.le_of_ble_eq_true rfl) ?_
  intro p e s m below meth c ls X hr hk hP hS hl
  have hx := X.1
  have hb := X.2.1
  have hl : lv_has ls 2 [(0, .ref (q 0)), (1, .int a1)] := hl
  rw [f_X11_sit] at h
  refine lv_aload_n hx hb dX11_sit_0 rfl (lv_at hl 0 rfl) ?_
  refine gfC_11_0 X hP sC_0 bw_430 dX11_sit_1 ?_
  obtain ⟨g1, h⟩ := gd_inv h
  have g1 := Decidable.not_not.mp g1
  refine lv_iconst (v := 3) hx hb dX11_sit_4 (by decide) ?_
  refine lv_iload_n hx hb dX11_sit_5 rfl (lv_at hl 1 rfl) ?_
  obtain ⟨r2, M3, hc4, h⟩ := bnd_inv h
  refine gV_i (As := [.int (3 : Int32), .int a1]) X hP hS hl.1 (c_X0_has l D cA q aK aV hq g1 hc4) sf_X0_has bw_830 sv_X0_has (rcC_0 g1) rfl ⟨rfl, rfl⟩ ⟨Nat.le_of_ble_eq_true rfl, Nat.le_of_ble_eq_true rfl⟩ rfl rfl (Nat.le_of_ble_eq_true rfl) dX11_sit_6 (fun H locs hP hS => ?_)
  refine lv_if_ne (tgt := 18) hx hb dX11_sit_9 (by decide) (fun c5 => ?_) (fun c5 => ?_)
  · rw [if_neg c5] at h
    refine lv_aload_n hx hb dX11_sit_18 rfl (lv_at hl 0 rfl) ?_
    refine gfC_11_0 X hP sC_0 bw_430 dX11_sit_19 ?_
    obtain ⟨g6, h⟩ := gd_inv h
    have g6 := Decidable.not_not.mp g6
    refine lv_iconst (v := 1) hx hb dX11_sit_22 (by decide) ?_
    obtain ⟨r7, M8, hc9, h⟩ := bnd_inv h
    refine gV_i (As := [.int (1 : Int32)]) X hP hS hl.1 (c_X0_hasRoomFor l D cA q aK aV hq g6 hc9) sf_X0_hasRoomFor bw_866 sv_X0_hasRoomFor (rcC_0 g6) rfl ⟨rfl, rfl⟩ ⟨Nat.le_of_ble_eq_true rfl, Nat.le_of_ble_eq_true rfl⟩ rfl rfl (Nat.le_of_ble_eq_true rfl) dX11_sit_23 (fun H locs hP hS => ?_)
    refine lv_if_ne (tgt := 35) hx hb dX11_sit_26 (by decide) (fun c10 => ?_) (fun c10 => ?_)
    · rw [if_neg c10] at h
      refine lv_aload_n hx hb dX11_sit_35 rfl (lv_at hl 0 rfl) ?_
      refine lv_aload_n hx hb dX11_sit_36 rfl (lv_at hl 0 rfl) ?_
      refine gfC_11_0 X hP sC_0 bw_430 dX11_sit_37 ?_
      obtain ⟨g11, h⟩ := gd_inv h
      have g11 := Decidable.not_not.mp g11
      refine lv_iload_n hx hb dX11_sit_40 rfl (lv_at hl 1 rfl) ?_
      obtain ⟨r12, M13, hc14, h⟩ := bnd_inv h
      refine gV_i (As := [.int a1]) X hP hS hl.1 (c_X0_sitBefore l D cA q aK aV hq g11 hc14) sf_X0_sitBefore bw_870 sv_X0_sitBefore (rcC_0 g11) rfl ⟨rfl, rfl⟩ ⟨Nat.le_of_ble_eq_true rfl, Nat.le_of_ble_eq_true rfl⟩ rfl rfl (Nat.le_of_ble_eq_true rfl) dX11_sit_41 (fun H locs hP hS => ?_)
      obtain ⟨r15, M16, hc17, h⟩ := bnd_inv h
      refine gV_i (As := [.int r12]) X hP hS hl.1 (c_X11_given l D cA q aK aV hq hc17) sf_X11_given bw_755 sv_X11_given (rcC_11 sC_0) rfl ⟨rfl, rfl⟩ ⟨Nat.le_of_ble_eq_true rfl, Nat.le_of_ble_eq_true rfl⟩ rfl rfl (Nat.le_of_ble_eq_true rfl) dX11_sit_44 (fun H locs hP hS => ?_)
      exact end_i X hr hk hP hS h dX11_sit_47
    · rw [if_pos c10] at h
      refine lv_aload_n hx hb dX11_sit_29 rfl (lv_at hl 0 rfl) ?_
      refine lv_iconst (v := 4) hx hb dX11_sit_30 (by decide) ?_
      obtain ⟨r18, M19, hc20, h⟩ := bnd_inv h
      refine gV_i (As := [.int (4 : Int32)]) X hP hS hl.1 (c_X11_refused l D cA q aK aV hq hc20) sf_X11_refused bw_552 sv_X11_refused (rcC_11 sC_0) rfl ⟨rfl, rfl⟩ ⟨Nat.le_of_ble_eq_true rfl, Nat.le_of_ble_eq_true rfl⟩ rfl rfl (Nat.le_of_ble_eq_true rfl) dX11_sit_31 (fun H locs hP hS => ?_)
      exact end_i X hr hk hP hS h dX11_sit_34
  · rw [if_pos c5] at h
    refine lv_aload_n hx hb dX11_sit_12 rfl (lv_at hl 0 rfl) ?_
    refine lv_iconst (v := 1) hx hb dX11_sit_13 (by decide) ?_
    obtain ⟨r21, M22, hc23, h⟩ := bnd_inv h
    refine gV_i (As := [.int (1 : Int32)]) X hP hS hl.1 (c_X11_refused l D cA q aK aV hq hc23) sf_X11_refused bw_552 sv_X11_refused (rcC_11 sC_0) rfl ⟨rfl, rfl⟩ ⟨Nat.le_of_ble_eq_true rfl, Nat.le_of_ble_eq_true rfl⟩ rfl rfl (Nat.le_of_ble_eq_true rfl) dX11_sit_14 (fun H locs hP hS => ?_)
    exact end_i X hr hk hP hS h dX11_sit_17
theorem dJ6_bitCount_0f7a4_0 : decode cJ6_bitCount_0f7a4 0 = .ok (.iload_n 0, 1) := by decide +kernel
theorem dJ6_bitCount_0f7a4_1 : decode cJ6_bitCount_0f7a4 1 = .ok (.iload_n 0, 1) := by decide +kernel
theorem dJ6_bitCount_0f7a4_2 : decode cJ6_bitCount_0f7a4 2 = .ok (.iconst 1, 1) := by decide +kernel
theorem dJ6_bitCount_0f7a4_3 : decode cJ6_bitCount_0f7a4 3 = .ok (.iushr, 1) := by decide +kernel
theorem dJ6_bitCount_0f7a4_4 : decode cJ6_bitCount_0f7a4 4 = .ok (.ldc_w 265, 3) := by decide +kernel
theorem dJ6_bitCount_0f7a4_7 : decode cJ6_bitCount_0f7a4 7 = .ok (.iand, 1) := by decide +kernel
theorem dJ6_bitCount_0f7a4_8 : decode cJ6_bitCount_0f7a4 8 = .ok (.isub, 1) := by decide +kernel
theorem dJ6_bitCount_0f7a4_9 : decode cJ6_bitCount_0f7a4 9 = .ok (.istore_n 0, 1) := by decide +kernel
theorem dJ6_bitCount_0f7a4_10 : decode cJ6_bitCount_0f7a4 10 = .ok (.iload_n 0, 1) := by decide +kernel
theorem dJ6_bitCount_0f7a4_11 : decode cJ6_bitCount_0f7a4 11 = .ok (.ldc_w 266, 3) := by decide +kernel
theorem dJ6_bitCount_0f7a4_14 : decode cJ6_bitCount_0f7a4 14 = .ok (.iand, 1) := by decide +kernel
theorem dJ6_bitCount_0f7a4_15 : decode cJ6_bitCount_0f7a4 15 = .ok (.iload_n 0, 1) := by decide +kernel
theorem dJ6_bitCount_0f7a4_16 : decode cJ6_bitCount_0f7a4 16 = .ok (.iconst 2, 1) := by decide +kernel
theorem dJ6_bitCount_0f7a4_17 : decode cJ6_bitCount_0f7a4 17 = .ok (.iushr, 1) := by decide +kernel
theorem dJ6_bitCount_0f7a4_18 : decode cJ6_bitCount_0f7a4 18 = .ok (.ldc_w 266, 3) := by decide +kernel
theorem dJ6_bitCount_0f7a4_21 : decode cJ6_bitCount_0f7a4 21 = .ok (.iand, 1) := by decide +kernel
theorem dJ6_bitCount_0f7a4_22 : decode cJ6_bitCount_0f7a4 22 = .ok (.iadd, 1) := by decide +kernel
theorem dJ6_bitCount_0f7a4_23 : decode cJ6_bitCount_0f7a4 23 = .ok (.istore_n 0, 1) := by decide +kernel
theorem dJ6_bitCount_0f7a4_24 : decode cJ6_bitCount_0f7a4 24 = .ok (.iload_n 0, 1) := by decide +kernel
theorem dJ6_bitCount_0f7a4_25 : decode cJ6_bitCount_0f7a4 25 = .ok (.iload_n 0, 1) := by decide +kernel
theorem dJ6_bitCount_0f7a4_26 : decode cJ6_bitCount_0f7a4 26 = .ok (.iconst 4, 1) := by decide +kernel
theorem dJ6_bitCount_0f7a4_27 : decode cJ6_bitCount_0f7a4 27 = .ok (.iushr, 1) := by decide +kernel
theorem dJ6_bitCount_0f7a4_28 : decode cJ6_bitCount_0f7a4 28 = .ok (.iadd, 1) := by decide +kernel
theorem dJ6_bitCount_0f7a4_29 : decode cJ6_bitCount_0f7a4 29 = .ok (.ldc_w 267, 3) := by decide +kernel
theorem dJ6_bitCount_0f7a4_32 : decode cJ6_bitCount_0f7a4 32 = .ok (.iand, 1) := by decide +kernel
theorem dJ6_bitCount_0f7a4_33 : decode cJ6_bitCount_0f7a4 33 = .ok (.istore_n 0, 1) := by decide +kernel
theorem dJ6_bitCount_0f7a4_34 : decode cJ6_bitCount_0f7a4 34 = .ok (.iload_n 0, 1) := by decide +kernel
theorem dJ6_bitCount_0f7a4_35 : decode cJ6_bitCount_0f7a4 35 = .ok (.iload_n 0, 1) := by decide +kernel
theorem dJ6_bitCount_0f7a4_36 : decode cJ6_bitCount_0f7a4 36 = .ok (.bipush 8, 2) := by decide +kernel
theorem dJ6_bitCount_0f7a4_38 : decode cJ6_bitCount_0f7a4 38 = .ok (.iushr, 1) := by decide +kernel
theorem dJ6_bitCount_0f7a4_39 : decode cJ6_bitCount_0f7a4 39 = .ok (.iadd, 1) := by decide +kernel
theorem dJ6_bitCount_0f7a4_40 : decode cJ6_bitCount_0f7a4 40 = .ok (.istore_n 0, 1) := by decide +kernel
theorem dJ6_bitCount_0f7a4_41 : decode cJ6_bitCount_0f7a4 41 = .ok (.iload_n 0, 1) := by decide +kernel
theorem dJ6_bitCount_0f7a4_42 : decode cJ6_bitCount_0f7a4 42 = .ok (.iload_n 0, 1) := by decide +kernel
theorem dJ6_bitCount_0f7a4_43 : decode cJ6_bitCount_0f7a4 43 = .ok (.bipush 16, 2) := by decide +kernel
theorem dJ6_bitCount_0f7a4_45 : decode cJ6_bitCount_0f7a4 45 = .ok (.iushr, 1) := by decide +kernel
theorem dJ6_bitCount_0f7a4_46 : decode cJ6_bitCount_0f7a4 46 = .ok (.iadd, 1) := by decide +kernel
theorem dJ6_bitCount_0f7a4_47 : decode cJ6_bitCount_0f7a4 47 = .ok (.istore_n 0, 1) := by decide +kernel
theorem dJ6_bitCount_0f7a4_48 : decode cJ6_bitCount_0f7a4 48 = .ok (.iload_n 0, 1) := by decide +kernel
theorem dJ6_bitCount_0f7a4_49 : decode cJ6_bitCount_0f7a4 49 = .ok (.bipush 63, 2) := by decide +kernel
theorem dJ6_bitCount_0f7a4_51 : decode cJ6_bitCount_0f7a4 51 = .ok (.iand, 1) := by decide +kernel
theorem dJ6_bitCount_0f7a4_52 : decode cJ6_bitCount_0f7a4 52 = .ok (.ireturn, 1) := by decide +kernel
set_option maxRecDepth 100000 in
set_option maxHeartbeats 8000000 in
theorem c_J6_bitCount_0f7a4_C (l : Launch) (D : va_G) (cA : Nat → ClassId) (q aK aV : Nat → Nat) (hq : injG 167 q) {a0 : Int32} {M M0 : Mem} {r0 : Int32} (h : f_J6_bitCount_0f7a4_C a0 M = some (r0, M0)) : Met l yJ6_bitCount_0f7a4 (.code yJ6_bitCount_0f7a4 cJ6_bitCount_0f7a4 1 (some .int) :: BW) ({ frames := 1, cells := 0, slots := 0, locals := 12 } : Room) (va_Pc [.int a0] (CB 167 (ceC cA q) D cA q aK aV M)) (Qi 167 (ceC cA q) D q r0 M0) 0 0 (AqG 167 q) := by
  refine gMet RJ6 (by decide +kernel) rfl hq (Nat.le_of_ble_eq_true rfl) ?_
  intro p e s m below meth c ls X hr hk hP hS hl
  have hx := X.1
  have hb := X.2.1
  have hl : lv_has ls 1 [(0, .int a0)] := hl
  rw [f_J6_bitCount_0f7a4_C] at h
  refine lv_iload_n hx hb dJ6_bitCount_0f7a4_0 rfl (lv_at hl 0 rfl) ?_
  refine lv_iload_n hx hb dJ6_bitCount_0f7a4_1 rfl (lv_at hl 0 rfl) ?_
  refine lv_iconst (v := 1) hx hb dJ6_bitCount_0f7a4_2 (by decide) ?_
  refine lv_iushr hx hb dJ6_bitCount_0f7a4_3 rfl ?_
  refine lv_ldcw hx hb X.2.2.2.1 (X.2.2.2.2.1 _ bw_897) dJ6_bitCount_0f7a4_4 ?_
  refine lv_iand hx hb dJ6_bitCount_0f7a4_7 ?_
  refine lv_isub hx hb dJ6_bitCount_0f7a4_8 ?_
  obtain ⟨y1, ey1, h⟩ := lt_inv h
  refine topE ey1 ?_
  refine lv_istore_n (lv' := [(0, .int y1)]) hx hb dJ6_bitCount_0f7a4_9 rfl hl (by decide) rfl (fun ls hl => ?_)
  refine lv_iload_n hx hb dJ6_bitCount_0f7a4_10 rfl (lv_at hl 0 rfl) ?_
  refine lv_ldcw hx hb X.2.2.2.1 (X.2.2.2.2.1 _ bw_898) dJ6_bitCount_0f7a4_11 ?_
  refine lv_iand hx hb dJ6_bitCount_0f7a4_14 ?_
  refine lv_iload_n hx hb dJ6_bitCount_0f7a4_15 rfl (lv_at hl 0 rfl) ?_
  refine lv_iconst (v := 2) hx hb dJ6_bitCount_0f7a4_16 (by decide) ?_
  refine lv_iushr hx hb dJ6_bitCount_0f7a4_17 rfl ?_
  refine lv_ldcw hx hb X.2.2.2.1 (X.2.2.2.2.1 _ bw_898) dJ6_bitCount_0f7a4_18 ?_
  refine lv_iand hx hb dJ6_bitCount_0f7a4_21 ?_
  refine lv_iadd hx hb dJ6_bitCount_0f7a4_22 ?_
  obtain ⟨y2, ey2, h⟩ := lt_inv h
  refine topE ey2 ?_
  refine lv_istore_n (lv' := [(0, .int y2)]) hx hb dJ6_bitCount_0f7a4_23 rfl hl (by decide) rfl (fun ls hl => ?_)
  refine lv_iload_n hx hb dJ6_bitCount_0f7a4_24 rfl (lv_at hl 0 rfl) ?_
  refine lv_iload_n hx hb dJ6_bitCount_0f7a4_25 rfl (lv_at hl 0 rfl) ?_
  refine lv_iconst (v := 4) hx hb dJ6_bitCount_0f7a4_26 (by decide) ?_
  refine lv_iushr hx hb dJ6_bitCount_0f7a4_27 rfl ?_
  refine lv_iadd hx hb dJ6_bitCount_0f7a4_28 ?_
  refine lv_ldcw hx hb X.2.2.2.1 (X.2.2.2.2.1 _ bw_899) dJ6_bitCount_0f7a4_29 ?_
  refine lv_iand hx hb dJ6_bitCount_0f7a4_32 ?_
  obtain ⟨y3, ey3, h⟩ := lt_inv h
  refine topE ey3 ?_
  refine lv_istore_n (lv' := [(0, .int y3)]) hx hb dJ6_bitCount_0f7a4_33 rfl hl (by decide) rfl (fun ls hl => ?_)
  refine lv_iload_n hx hb dJ6_bitCount_0f7a4_34 rfl (lv_at hl 0 rfl) ?_
  refine lv_iload_n hx hb dJ6_bitCount_0f7a4_35 rfl (lv_at hl 0 rfl) ?_
  refine lv_bipush (v := 8) hx hb dJ6_bitCount_0f7a4_36 (by decide) ?_
  refine lv_iushr hx hb dJ6_bitCount_0f7a4_38 rfl ?_
  refine lv_iadd hx hb dJ6_bitCount_0f7a4_39 ?_
  obtain ⟨y4, ey4, h⟩ := lt_inv h
  refine topE ey4 ?_
  refine lv_istore_n (lv' := [(0, .int y4)]) hx hb dJ6_bitCount_0f7a4_40 rfl hl (by decide) rfl (fun ls hl => ?_)
  refine lv_iload_n hx hb dJ6_bitCount_0f7a4_41 rfl (lv_at hl 0 rfl) ?_
  refine lv_iload_n hx hb dJ6_bitCount_0f7a4_42 rfl (lv_at hl 0 rfl) ?_
  refine lv_bipush (v := 16) hx hb dJ6_bitCount_0f7a4_43 (by decide) ?_
  refine lv_iushr hx hb dJ6_bitCount_0f7a4_45 rfl ?_
  refine lv_iadd hx hb dJ6_bitCount_0f7a4_46 ?_
  obtain ⟨y5, ey5, h⟩ := lt_inv h
  refine topE ey5 ?_
  refine lv_istore_n (lv' := [(0, .int y5)]) hx hb dJ6_bitCount_0f7a4_47 rfl hl (by decide) rfl (fun ls hl => ?_)
  refine lv_iload_n hx hb dJ6_bitCount_0f7a4_48 rfl (lv_at hl 0 rfl) ?_
  refine lv_bipush (v := 63) hx hb dJ6_bitCount_0f7a4_49 (by decide) ?_
  refine lv_iand hx hb dJ6_bitCount_0f7a4_51 ?_
  exact end_i X hr hk hP hS h dJ6_bitCount_0f7a4_52
set_option maxRecDepth 100000 in
set_option maxHeartbeats 8000000 in
theorem c_J6_bitCount_0f7a4_R (l : Launch) (D : va_G) (cA : Nat → ClassId) (q aK aV : Nat → Nat) (hq : injG 20 q) {a0 : Int32} {M M0 : Mem} {r0 : Int32} (h : f_J6_bitCount_0f7a4_R a0 M = some (r0, M0)) : Met l yJ6_bitCount_0f7a4 (.code yJ6_bitCount_0f7a4 cJ6_bitCount_0f7a4 1 (some .int) :: BW) ({ frames := 1, cells := 0, slots := 0, locals := 12 } : Room) (va_Pc [.int a0] (CB 20 (ceR cA q) D cA q aK aV M)) (Qi 20 (ceR cA q) D q r0 M0) 0 0 (AqG 20 q) := by
  refine gMet RJ6 (by decide +kernel) rfl hq (Nat.le_of_ble_eq_true rfl) ?_
  intro p e s m below meth c ls X hr hk hP hS hl
  have hx := X.1
  have hb := X.2.1
  have hl : lv_has ls 1 [(0, .int a0)] := hl
  rw [f_J6_bitCount_0f7a4_R] at h
  refine lv_iload_n hx hb dJ6_bitCount_0f7a4_0 rfl (lv_at hl 0 rfl) ?_
  refine lv_iload_n hx hb dJ6_bitCount_0f7a4_1 rfl (lv_at hl 0 rfl) ?_
  refine lv_iconst (v := 1) hx hb dJ6_bitCount_0f7a4_2 (by decide) ?_
  refine lv_iushr hx hb dJ6_bitCount_0f7a4_3 rfl ?_
  refine lv_ldcw hx hb X.2.2.2.1 (X.2.2.2.2.1 _ bw_897) dJ6_bitCount_0f7a4_4 ?_
  refine lv_iand hx hb dJ6_bitCount_0f7a4_7 ?_
  refine lv_isub hx hb dJ6_bitCount_0f7a4_8 ?_
  obtain ⟨y1, ey1, h⟩ := lt_inv h
  refine topE ey1 ?_
  refine lv_istore_n (lv' := [(0, .int y1)]) hx hb dJ6_bitCount_0f7a4_9 rfl hl (by decide) rfl (fun ls hl => ?_)
  refine lv_iload_n hx hb dJ6_bitCount_0f7a4_10 rfl (lv_at hl 0 rfl) ?_
  refine lv_ldcw hx hb X.2.2.2.1 (X.2.2.2.2.1 _ bw_898) dJ6_bitCount_0f7a4_11 ?_
  refine lv_iand hx hb dJ6_bitCount_0f7a4_14 ?_
  refine lv_iload_n hx hb dJ6_bitCount_0f7a4_15 rfl (lv_at hl 0 rfl) ?_
  refine lv_iconst (v := 2) hx hb dJ6_bitCount_0f7a4_16 (by decide) ?_
  refine lv_iushr hx hb dJ6_bitCount_0f7a4_17 rfl ?_
  refine lv_ldcw hx hb X.2.2.2.1 (X.2.2.2.2.1 _ bw_898) dJ6_bitCount_0f7a4_18 ?_
  refine lv_iand hx hb dJ6_bitCount_0f7a4_21 ?_
  refine lv_iadd hx hb dJ6_bitCount_0f7a4_22 ?_
  obtain ⟨y2, ey2, h⟩ := lt_inv h
  refine topE ey2 ?_
  refine lv_istore_n (lv' := [(0, .int y2)]) hx hb dJ6_bitCount_0f7a4_23 rfl hl (by decide) rfl (fun ls hl => ?_)
  refine lv_iload_n hx hb dJ6_bitCount_0f7a4_24 rfl (lv_at hl 0 rfl) ?_
  refine lv_iload_n hx hb dJ6_bitCount_0f7a4_25 rfl (lv_at hl 0 rfl) ?_
  refine lv_iconst (v := 4) hx hb dJ6_bitCount_0f7a4_26 (by decide) ?_
  refine lv_iushr hx hb dJ6_bitCount_0f7a4_27 rfl ?_
  refine lv_iadd hx hb dJ6_bitCount_0f7a4_28 ?_
  refine lv_ldcw hx hb X.2.2.2.1 (X.2.2.2.2.1 _ bw_899) dJ6_bitCount_0f7a4_29 ?_
  refine lv_iand hx hb dJ6_bitCount_0f7a4_32 ?_
  obtain ⟨y3, ey3, h⟩ := lt_inv h
  refine topE ey3 ?_
  refine lv_istore_n (lv' := [(0, .int y3)]) hx hb dJ6_bitCount_0f7a4_33 rfl hl (by decide) rfl (fun ls hl => ?_)
  refine lv_iload_n hx hb dJ6_bitCount_0f7a4_34 rfl (lv_at hl 0 rfl) ?_
  refine lv_iload_n hx hb dJ6_bitCount_0f7a4_35 rfl (lv_at hl 0 rfl) ?_
  refine lv_bipush (v := 8) hx hb dJ6_bitCount_0f7a4_36 (by decide) ?_
  refine lv_iushr hx hb dJ6_bitCount_0f7a4_38 rfl ?_
  refine lv_iadd hx hb dJ6_bitCount_0f7a4_39 ?_
  obtain ⟨y4, ey4, h⟩ := lt_inv h
  refine topE ey4 ?_
  refine lv_istore_n (lv' := [(0, .int y4)]) hx hb dJ6_bitCount_0f7a4_40 rfl hl (by decide) rfl (fun ls hl => ?_)
  refine lv_iload_n hx hb dJ6_bitCount_0f7a4_41 rfl (lv_at hl 0 rfl) ?_
  refine lv_iload_n hx hb dJ6_bitCount_0f7a4_42 rfl (lv_at hl 0 rfl) ?_
  refine lv_bipush (v := 16) hx hb dJ6_bitCount_0f7a4_43 (by decide) ?_
  refine lv_iushr hx hb dJ6_bitCount_0f7a4_45 rfl ?_
  refine lv_iadd hx hb dJ6_bitCount_0f7a4_46 ?_
  obtain ⟨y5, ey5, h⟩ := lt_inv h
  refine topE ey5 ?_
  refine lv_istore_n (lv' := [(0, .int y5)]) hx hb dJ6_bitCount_0f7a4_47 rfl hl (by decide) rfl (fun ls hl => ?_)
  refine lv_iload_n hx hb dJ6_bitCount_0f7a4_48 rfl (lv_at hl 0 rfl) ?_
  refine lv_bipush (v := 63) hx hb dJ6_bitCount_0f7a4_49 (by decide) ?_
  refine lv_iand hx hb dJ6_bitCount_0f7a4_51 ?_
  exact end_i X hr hk hP hS h dJ6_bitCount_0f7a4_52
theorem dX0_holdTerm_0 : decode cX0_holdTerm 0 = .ok (.iconst 0, 1) := by decide +kernel
theorem dX0_holdTerm_1 : decode cX0_holdTerm 1 = .ok (.istore_n 1, 1) := by decide +kernel
theorem dX0_holdTerm_2 : decode cX0_holdTerm 2 = .ok (.iconst 0, 1) := by decide +kernel
theorem dX0_holdTerm_3 : decode cX0_holdTerm 3 = .ok (.istore_n 2, 1) := by decide +kernel
theorem dX0_holdTerm_4 : decode cX0_holdTerm 4 = .ok (.iload_n 2, 1) := by decide +kernel
theorem dX0_holdTerm_5 : decode cX0_holdTerm 5 = .ok (.aload_n 0, 1) := by decide +kernel
theorem dX0_holdTerm_6 : decode cX0_holdTerm 6 = .ok (.iconst 3, 1) := by decide +kernel
theorem dX0_holdTerm_7 : decode cX0_holdTerm 7 = .ok (.invokevirtual 77, 3) := by decide +kernel
theorem dX0_holdTerm_10 : decode cX0_holdTerm 10 = .ok (.if_icmp .ge 74, 3) := by decide +kernel
theorem dX0_holdTerm_13 : decode cX0_holdTerm 13 = .ok (.aload_n 0, 1) := by decide +kernel
theorem dX0_holdTerm_14 : decode cX0_holdTerm 14 = .ok (.iload_n 2, 1) := by decide +kernel
theorem dX0_holdTerm_15 : decode cX0_holdTerm 15 = .ok (.invokevirtual 89, 3) := by decide +kernel
theorem dX0_holdTerm_18 : decode cX0_holdTerm 18 = .ok (.astore_n 3, 1) := by decide +kernel
theorem dX0_holdTerm_19 : decode cX0_holdTerm 19 = .ok (.aload_n 3, 1) := by decide +kernel
theorem dX0_holdTerm_20 : decode cX0_holdTerm 20 = .ok (.getfield 118, 3) := by decide +kernel
theorem dX0_holdTerm_23 : decode cX0_holdTerm 23 = .ok (.ifCond .ne 55, 3) := by decide +kernel
theorem dX0_holdTerm_26 : decode cX0_holdTerm 26 = .ok (.aload_n 0, 1) := by decide +kernel
theorem dX0_holdTerm_27 : decode cX0_holdTerm 27 = .ok (.aload_n 0, 1) := by decide +kernel
theorem dX0_holdTerm_28 : decode cX0_holdTerm 28 = .ok (.iload_n 2, 1) := by decide +kernel
theorem dX0_holdTerm_29 : decode cX0_holdTerm 29 = .ok (.invokevirtual 179, 3) := by decide +kernel
theorem dX0_holdTerm_32 : decode cX0_holdTerm 32 = .ok (.invokevirtual 158, 3) := by decide +kernel
theorem dX0_holdTerm_35 : decode cX0_holdTerm 35 = .ok (.istore 4, 2) := by decide +kernel
theorem dX0_holdTerm_37 : decode cX0_holdTerm 37 = .ok (.aload_n 3, 1) := by decide +kernel
theorem dX0_holdTerm_38 : decode cX0_holdTerm 38 = .ok (.iload 4, 2) := by decide +kernel
theorem dX0_holdTerm_40 : decode cX0_holdTerm 40 = .ok (.iconst 2, 1) := by decide +kernel
theorem dX0_holdTerm_41 : decode cX0_holdTerm 41 = .ok (.if_icmp .ne 7, 3) := by decide +kernel
theorem dX0_holdTerm_44 : decode cX0_holdTerm 44 = .ok (.iconst 1, 1) := by decide +kernel
theorem dX0_holdTerm_45 : decode cX0_holdTerm 45 = .ok (.goto 14, 3) := by decide +kernel
theorem dX0_holdTerm_48 : decode cX0_holdTerm 48 = .ok (.iload 4, 2) := by decide +kernel
theorem dX0_holdTerm_50 : decode cX0_holdTerm 50 = .ok (.iconst 1, 1) := by decide +kernel
theorem dX0_holdTerm_51 : decode cX0_holdTerm 51 = .ok (.if_icmp .ne 7, 3) := by decide +kernel
theorem dX0_holdTerm_54 : decode cX0_holdTerm 54 = .ok (.iconst 2, 1) := by decide +kernel
theorem dX0_holdTerm_55 : decode cX0_holdTerm 55 = .ok (.goto 4, 3) := by decide +kernel
theorem dX0_holdTerm_58 : decode cX0_holdTerm 58 = .ok (.iconst 0, 1) := by decide +kernel
theorem dX0_holdTerm_59 : decode cX0_holdTerm 59 = .ok (.putfield 118, 3) := by decide +kernel
theorem dX0_holdTerm_62 : decode cX0_holdTerm 62 = .ok (.iload_n 1, 1) := by decide +kernel
theorem dX0_holdTerm_63 : decode cX0_holdTerm 63 = .ok (.iload 4, 2) := by decide +kernel
theorem dX0_holdTerm_65 : decode cX0_holdTerm 65 = .ok (.iconst 2, 1) := by decide +kernel
theorem dX0_holdTerm_66 : decode cX0_holdTerm 66 = .ok (.if_icmp .ne 9, 3) := by decide +kernel
theorem dX0_holdTerm_69 : decode cX0_holdTerm 69 = .ok (.iconst 1, 1) := by decide +kernel
theorem dX0_holdTerm_70 : decode cX0_holdTerm 70 = .ok (.iload_n 2, 1) := by decide +kernel
theorem dX0_holdTerm_71 : decode cX0_holdTerm 71 = .ok (.ishl, 1) := by decide +kernel
theorem dX0_holdTerm_72 : decode cX0_holdTerm 72 = .ok (.goto 4, 3) := by decide +kernel
theorem dX0_holdTerm_75 : decode cX0_holdTerm 75 = .ok (.iconst 0, 1) := by decide +kernel
theorem dX0_holdTerm_76 : decode cX0_holdTerm 76 = .ok (.ior, 1) := by decide +kernel
theorem dX0_holdTerm_77 : decode cX0_holdTerm 77 = .ok (.istore_n 1, 1) := by decide +kernel
theorem dX0_holdTerm_78 : decode cX0_holdTerm 78 = .ok (.iinc 2 1, 3) := by decide +kernel
theorem dX0_holdTerm_81 : decode cX0_holdTerm 81 = .ok (.goto (-77), 3) := by decide +kernel
theorem dX0_holdTerm_84 : decode cX0_holdTerm 84 = .ok (.iload_n 1, 1) := by decide +kernel
theorem dX0_holdTerm_85 : decode cX0_holdTerm 85 = .ok (.ireturn, 1) := by decide +kernel
set_option maxRecDepth 100000 in
set_option maxHeartbeats 8000000 in
theorem c_X0_holdTerm (l : Launch) (D : va_G) (cA : Nat → ClassId) (q aK aV : Nat → Nat) (hq : injG 167 q) {a0 : Nat} {M M0 : Mem} {r0 : Int32} (h0 : shC a0 = 0) (h : f_X0_holdTerm a0 M = some (r0, M0)) : Met l yX0_holdTerm (.code yX0_holdTerm cX0_holdTerm 5 (some .int) :: BW) ({ frames := 5, cells := 0, slots := 0, locals := 111 } : Room) (va_Pc [.ref (q a0)] (CB 167 (ceC cA q) D cA q aK aV M)) (Qi 167 (ceC cA q) D q r0 M0) 0 0 (AqG 167 q) := by
  refine gMet RX0 (by decide +kernel) rfl hq (Nat.le_of_ble_eq_true rfl) ?_
  intro p e s m below meth c ls X hr hk hP hS hl
  have hx := X.1
  have hb := X.2.1
  have hl : lv_has ls 5 [(0, .ref (q a0))] := hl
  rw [f_X0_holdTerm] at h
  have hL4 : ∀ (fu : Nat) (b1 : Int32) (b2 : Int32) (M : Mem) (res : (Int32) × Mem) (H : Heap) (locs : List Loc) (ls : Array Slot), f_X0_holdTerm_L4 a0 fu b1 b2 M = some res → va_P D vwCl (wsG 167 (ceC cA q) q M) H → va_S (AqG 167 q) s.heap H locs → lv_has ls 5 [(0, .ref (q a0)), (1, .int b1), (2, .int b2)] → (∀ (H : Heap) (locs : List Loc) (ls : Array Slot), va_P D vwCl (wsG 167 (ceC cA q) q res.2) H → va_S (AqG 167 q) s.heap H locs → lv_has ls 5 [(1, .int (res.1))] → W p l e ({ frames := 5, cells := 0, slots := 0, locals := 111 } : Room) s m [.ref (q a0)].toArray below meth c H locs 0 0 (MQ below (Qi 167 (ceC cA q) D q r0 M0) [.ref (q a0)].toArray s 0 0 (AqG 167 q)) (F0 m 84 ls [])) → W p l e ({ frames := 5, cells := 0, slots := 0, locals := 111 } : Room) s m [.ref (q a0)].toArray below meth c H locs 0 0 (MQ below (Qi 167 (ceC cA q) D q r0 M0) [.ref (q a0)].toArray s 0 0 (AqG 167 q)) (F0 m 4 ls []) := by
    intro fu
    induction fu with
    | zero => intro b1 b2 M res H locs ls h; exact absurd h (by simp [f_X0_holdTerm_L4])
    | succ fu ih =>
      intro b1 b2 M res H locs ls h hP hS hl K4_0
      rw [f_X0_holdTerm_L4] at h
      have hJ59 : ∀ (b1 : Int32) (b2 : Int32) (b4 : Int32) (s0 : Nat) (hs0 : shC s0 = 5) (s1 : Int32) (M : Mem) (H : Heap) (locs : List Loc) (ls : Array Slot), f_X0_holdTerm_J59 (f_X0_holdTerm_L4 a0 fu) a0 b1 b2 b4 s0 s1 M = some res → va_P D vwCl (wsG 167 (ceC cA q) q M) H → va_S (AqG 167 q) s.heap H locs → lv_has ls 5 [(0, .ref (q a0)), (1, .int b1), (2, .int b2), (4, .int b4)] → W p l e ({ frames := 5, cells := 0, slots := 0, locals := 111 } : Room) s m [.ref (q a0)].toArray below meth c H locs 0 0 (MQ below (Qi 167 (ceC cA q) D q r0 M0) [.ref (q a0)].toArray s 0 0 (AqG 167 q)) (F0 m 59 ls [.int s1, .ref (q s0)]) := by
        intro b1 b2 b4 s0 hs0 s1 M H locs ls h hP hS hl
        rw [f_X0_holdTerm_J59] at h
        obtain ⟨M23, eM23, h⟩ := lt_inv h
        refine pfC_5_3 X hP hS hs0 bw_127 eM23 dX0_holdTerm_59 (fun H locs hP hS => ?_)
        refine lv_iload_n hx hb dX0_holdTerm_62 rfl (lv_at hl 1 rfl) ?_
        refine lv_iload hx hb dX0_holdTerm_63 (lv_at hl 3 rfl) ?_
        refine lv_iconst (v := 2) hx hb dX0_holdTerm_65 (by decide) ?_
        refine lv_icmp_ne (tgt := 75) hx hb dX0_holdTerm_66 (by decide) (fun c24 => ?_) (fun c24 => ?_)
        · rw [if_neg c24] at h
          refine lv_iconst (v := 0) hx hb dX0_holdTerm_75 (by decide) ?_
          refine lv_ior hx hb dX0_holdTerm_76 ?_
          obtain ⟨y25, ey25, h⟩ := lt_inv h
          refine topE ey25 ?_
          refine lv_istore_n (lv' := [(1, .int y25), (0, .ref (q a0)), (2, .int b2), (4, .int b4)]) hx hb dX0_holdTerm_77 rfl hl (by decide) rfl (fun ls hl => ?_)
          obtain ⟨y26, ey26, h⟩ := lt_inv h
          refine lv_iinc (v := y26) (lv' := [(2, .int y26), (1, .int y25), (0, .ref (q a0)), (4, .int b4)]) hx hb dX0_holdTerm_78 hl (k := 2) rfl (by rw [ey26]; rfl) (by decide) rfl (fun ls hl => ?_)
          refine lv_goto (tgt := 4) hx hb dX0_holdTerm_81 (by decide) ?_
          exact ih _ _ _ res _ _ _ h hP hS (lv_sub hl [2, 1, 0] rfl) K4_0
        · rw [if_pos c24] at h
          refine lv_iconst (v := 1) hx hb dX0_holdTerm_69 (by decide) ?_
          refine lv_iload_n hx hb dX0_holdTerm_70 rfl (lv_at hl 2 rfl) ?_
          refine lv_ishl hx hb dX0_holdTerm_71 ?_
          refine lv_goto (tgt := 76) hx hb dX0_holdTerm_72 (by decide) ?_
          refine lv_ior hx hb dX0_holdTerm_76 ?_
          obtain ⟨y27, ey27, h⟩ := lt_inv h
          refine topE ey27 ?_
          refine lv_istore_n (lv' := [(1, .int y27), (0, .ref (q a0)), (2, .int b2), (4, .int b4)]) hx hb dX0_holdTerm_77 rfl hl (by decide) rfl (fun ls hl => ?_)
          obtain ⟨y28, ey28, h⟩ := lt_inv h
          refine lv_iinc (v := y28) (lv' := [(2, .int y28), (1, .int y27), (0, .ref (q a0)), (4, .int b4)]) hx hb dX0_holdTerm_78 hl (k := 2) rfl (by rw [ey28]; rfl) (by decide) rfl (fun ls hl => ?_)
          refine lv_goto (tgt := 4) hx hb dX0_holdTerm_81 (by decide) ?_
          exact ih _ _ _ res _ _ _ h hP hS (lv_sub hl [2, 1, 0] rfl) K4_0
      refine lv_iload_n hx hb dX0_holdTerm_4 rfl (lv_at hl 2 rfl) ?_
      refine lv_aload_n hx hb dX0_holdTerm_5 rfl (lv_at hl 0 rfl) ?_
      refine lv_iconst (v := 3) hx hb dX0_holdTerm_6 (by decide) ?_
      obtain ⟨r5, M6, hc7, h⟩ := bnd_inv h
      refine gV_i (As := [.int (3 : Int32)]) X hP hS hl.1 (c_X0_countOf l D cA q aK aV hq h0 hc7) sf_X0_countOf bw_645 sv_X0_countOf (rcC_0 h0) rfl ⟨rfl, rfl⟩ ⟨Nat.le_of_ble_eq_true rfl, Nat.le_of_ble_eq_true rfl⟩ rfl rfl (Nat.le_of_ble_eq_true rfl) dX0_holdTerm_7 (fun H locs hP hS => ?_)
      refine lv_icmp_ge (tgt := 84) hx hb dX0_holdTerm_10 (by decide) (fun c8 => ?_) (fun c8 => ?_)
      · rw [if_pos c8] at h
        cases h
        exact K4_0 _ _ _ hP hS (lv_sub hl [1] rfl)
      · rw [if_neg c8] at h
        refine lv_aload_n hx hb dX0_holdTerm_13 rfl (lv_at hl 0 rfl) ?_
        refine lv_iload_n hx hb dX0_holdTerm_14 rfl (lv_at hl 2 rfl) ?_
        obtain ⟨r9, M10, hc11, h⟩ := bnd_inv h
        refine gV_r (As := [.int b2]) X hP hS hl.1 (c_X0_personAt l D cA q aK aV hq h0 hc11) sf_X0_personAt bw_813 sv_X0_personAt (rcC_0 h0) rfl ⟨rfl, rfl⟩ ⟨Nat.le_of_ble_eq_true rfl, Nat.le_of_ble_eq_true rfl⟩ rfl rfl (Nat.le_of_ble_eq_true rfl) dX0_holdTerm_15 (fun H locs hP hS => ?_)
        obtain ⟨g12, h⟩ := gd_inv h
        have g12 := Decidable.not_not.mp g12
        refine lv_astore_n (lv' := [(3, .ref (q r9)), (0, .ref (q a0)), (1, .int b1), (2, .int b2)]) hx hb dX0_holdTerm_18 rfl hl (by decide) rfl (fun ls hl => ?_)
        refine lv_aload_n hx hb dX0_holdTerm_19 rfl (lv_at hl 0 rfl) ?_
        refine gfC_5_3 X hP g12 bw_127 dX0_holdTerm_20 ?_
        refine lv_if_ne (tgt := 78) hx hb dX0_holdTerm_23 (by decide) (fun c13 => ?_) (fun c13 => ?_)
        · rw [if_neg c13] at h
          obtain ⟨y14, ey14, h⟩ := lt_inv h
          refine lv_iinc (v := y14) (lv' := [(2, .int y14), (3, .ref (q r9)), (0, .ref (q a0)), (1, .int b1)]) hx hb dX0_holdTerm_78 hl (k := 3) rfl (by rw [ey14]; rfl) (by decide) rfl (fun ls hl => ?_)
          refine lv_goto (tgt := 4) hx hb dX0_holdTerm_81 (by decide) ?_
          exact ih _ _ _ res _ _ _ h hP hS (lv_sub hl [2, 3, 0] rfl) K4_0
        · rw [if_pos c13] at h
          refine lv_aload_n hx hb dX0_holdTerm_26 rfl (lv_at hl 1 rfl) ?_
          refine lv_aload_n hx hb dX0_holdTerm_27 rfl (lv_at hl 1 rfl) ?_
          refine lv_iload_n hx hb dX0_holdTerm_28 rfl (lv_at hl 3 rfl) ?_
          obtain ⟨r15, M16, hc17, h⟩ := bnd_inv h
          refine gV_i (As := [.int b2]) X hP hS hl.1 (c_X0_sitBefore l D cA q aK aV hq h0 hc17) sf_X0_sitBefore bw_904 sv_X0_sitBefore (rcC_0 h0) rfl ⟨rfl, rfl⟩ ⟨Nat.le_of_ble_eq_true rfl, Nat.le_of_ble_eq_true rfl⟩ rfl rfl (Nat.le_of_ble_eq_true rfl) dX0_holdTerm_29 (fun H locs hP hS => ?_)
          obtain ⟨r18, M19, hc20, h⟩ := bnd_inv h
          refine gV_i (As := [.int r15]) X hP hS hl.1 (c_X0_senseOf l D cA q aK aV hq h0 hc20) sf_X0_senseOf bw_905 sv_X0_senseOf (rcC_0 h0) rfl ⟨rfl, rfl⟩ ⟨Nat.le_of_ble_eq_true rfl, Nat.le_of_ble_eq_true rfl⟩ rfl rfl (Nat.le_of_ble_eq_true rfl) dX0_holdTerm_32 (fun H locs hP hS => ?_)
          refine lv_istore (lv' := [(4, .int r18), (3, .ref (q r9)), (0, .ref (q a0)), (1, .int b1), (2, .int b2)]) hx hb dX0_holdTerm_35 hl (by decide) rfl (fun ls hl => ?_)
          refine lv_aload_n hx hb dX0_holdTerm_37 rfl (lv_at hl 1 rfl) ?_
          refine lv_iload hx hb dX0_holdTerm_38 (lv_at hl 0 rfl) ?_
          refine lv_iconst (v := 2) hx hb dX0_holdTerm_40 (by decide) ?_
          refine lv_icmp_ne (tgt := 48) hx hb dX0_holdTerm_41 (by decide) (fun c21 => ?_) (fun c21 => ?_)
          · rw [if_neg c21] at h
            refine lv_iload hx hb dX0_holdTerm_48 (lv_at hl 0 rfl) ?_
            refine lv_iconst (v := 1) hx hb dX0_holdTerm_50 (by decide) ?_
            refine lv_icmp_ne (tgt := 58) hx hb dX0_holdTerm_51 (by decide) (fun c22 => ?_) (fun c22 => ?_)
            · rw [if_neg c22] at h
              refine lv_iconst (v := 0) hx hb dX0_holdTerm_58 (by decide) ?_
              exact hJ59 _ _ _ _ g12 _ _ _ _ _ h hP hS (lv_sub hl [2, 3, 4, 0] rfl)
            · rw [if_pos c22] at h
              refine lv_iconst (v := 2) hx hb dX0_holdTerm_54 (by decide) ?_
              refine lv_goto (tgt := 59) hx hb dX0_holdTerm_55 (by decide) ?_
              exact hJ59 _ _ _ _ g12 _ _ _ _ _ h hP hS (lv_sub hl [2, 3, 4, 0] rfl)
          · rw [if_pos c21] at h
            refine lv_iconst (v := 1) hx hb dX0_holdTerm_44 (by decide) ?_
            refine lv_goto (tgt := 59) hx hb dX0_holdTerm_45 (by decide) ?_
            exact hJ59 _ _ _ _ g12 _ _ _ _ _ h hP hS (lv_sub hl [2, 3, 4, 0] rfl)
  refine lv_iconst (v := 0) hx hb dX0_holdTerm_0 (by decide) ?_
  refine lv_istore_n (lv' := [(1, .int (0 : Int32)), (0, .ref (q a0))]) hx hb dX0_holdTerm_1 rfl hl (by decide) rfl (fun ls hl => ?_)
  refine lv_iconst (v := 0) hx hb dX0_holdTerm_2 (by decide) ?_
  refine lv_istore_n (lv' := [(2, .int (0 : Int32)), (1, .int (0 : Int32)), (0, .ref (q a0))]) hx hb dX0_holdTerm_3 rfl hl (by decide) rfl (fun ls hl => ?_)
  obtain ⟨s1, M2, hc3, h⟩ := bnd_inv h
  obtain ⟨x4, rfl⟩ : ∃ z, z = s1 := ⟨_, rfl⟩
  try dsimp only at h
  refine hL4  fz _ _ _ _ _ _ _ hc3 hP hS (lv_sub hl [2, 1, 0] rfl) (fun H locs ls hP hS hl => ?_)
  have hl : lv_has ls 5 [(1, .int x4)] := hl
  refine lv_iload_n hx hb dX0_holdTerm_84 rfl (lv_at hl 0 rfl) ?_
  exact end_i X hr hk hP hS h dX0_holdTerm_85
theorem dX11_term_0 : decode cX11_term 0 = .ok (.aload_n 0, 1) := by decide +kernel
theorem dX11_term_1 : decode cX11_term 1 = .ok (.getfield 10, 3) := by decide +kernel
theorem dX11_term_4 : decode cX11_term 4 = .ok (.iconst 0, 1) := by decide +kernel
theorem dX11_term_5 : decode cX11_term 5 = .ok (.invokevirtual 200, 3) := by decide +kernel
theorem dX11_term_8 : decode cX11_term 8 = .ok (.invokestatic 270, 3) := by decide +kernel
theorem dX11_term_11 : decode cX11_term 11 = .ok (.istore_n 1, 1) := by decide +kernel
theorem dX11_term_12 : decode cX11_term 12 = .ok (.aload_n 0, 1) := by decide +kernel
theorem dX11_term_13 : decode cX11_term 13 = .ok (.getfield 10, 3) := by decide +kernel
theorem dX11_term_16 : decode cX11_term 16 = .ok (.iload_n 1, 1) := by decide +kernel
theorem dX11_term_17 : decode cX11_term 17 = .ok (.invokevirtual 264, 3) := by decide +kernel
theorem dX11_term_20 : decode cX11_term 20 = .ok (.ifCond .ne 9, 3) := by decide +kernel
theorem dX11_term_23 : decode cX11_term 23 = .ok (.aload_n 0, 1) := by decide +kernel
theorem dX11_term_24 : decode cX11_term 24 = .ok (.iconst 4, 1) := by decide +kernel
theorem dX11_term_25 : decode cX11_term 25 = .ok (.invokevirtual 132, 3) := by decide +kernel
theorem dX11_term_28 : decode cX11_term 28 = .ok (.ireturn, 1) := by decide +kernel
theorem dX11_term_29 : decode cX11_term 29 = .ok (.iload_n 1, 1) := by decide +kernel
theorem dX11_term_30 : decode cX11_term 30 = .ok (.ifCond .ne 10, 3) := by decide +kernel
theorem dX11_term_33 : decode cX11_term 33 = .ok (.aload_n 0, 1) := by decide +kernel
theorem dX11_term_34 : decode cX11_term 34 = .ok (.bipush 7, 2) := by decide +kernel
theorem dX11_term_36 : decode cX11_term 36 = .ok (.invokevirtual 132, 3) := by decide +kernel
theorem dX11_term_39 : decode cX11_term 39 = .ok (.ireturn, 1) := by decide +kernel
theorem dX11_term_40 : decode cX11_term 40 = .ok (.aload_n 0, 1) := by decide +kernel
theorem dX11_term_41 : decode cX11_term 41 = .ok (.aload_n 0, 1) := by decide +kernel
theorem dX11_term_42 : decode cX11_term 42 = .ok (.getfield 10, 3) := by decide +kernel
theorem dX11_term_45 : decode cX11_term 45 = .ok (.invokevirtual 275, 3) := by decide +kernel
theorem dX11_term_48 : decode cX11_term 48 = .ok (.invokevirtual 191, 3) := by decide +kernel
theorem dX11_term_51 : decode cX11_term 51 = .ok (.ireturn, 1) := by decide +kernel
set_option maxRecDepth 100000 in
set_option maxHeartbeats 8000000 in
theorem c_X11_term (l : Launch) (D : va_G) (cA : Nat → ClassId) (q aK aV : Nat → Nat) (hq : injG 167 q) {M M0 : Mem} {r0 : Int32} (h : f_X11_term M = some (r0, M0)) : Met l yX11_term (.code yX11_term cX11_term 2 (some .int) :: BW) ({ frames := 6, cells := 0, slots := 0, locals := 135 } : Room) (va_Pc [.ref (q 0)] (CB 167 (ceC cA q) D cA q aK aV M)) (Qi 167 (ceC cA q) D q r0 M0) 0 0 (AqG 167 q) := by
  refine gMet RX11 (by decide +kernel) rfl hq (Nat.le_of_ble_eq_true rfl) ?_
  intro p e s m below meth c ls X hr hk hP hS hl
  have hx := X.1
  have hb := X.2.1
  have hl : lv_has ls 2 [(0, .ref (q 0))] := hl
  rw [f_X11_term] at h
  refine lv_aload_n hx hb dX11_term_0 rfl (lv_at hl 0 rfl) ?_
  refine gfC_11_0 X hP sC_0 bw_430 dX11_term_1 ?_
  obtain ⟨g1, h⟩ := gd_inv h
  have g1 := Decidable.not_not.mp g1
  refine lv_iconst (v := 0) hx hb dX11_term_4 (by decide) ?_
  obtain ⟨r2, M3, hc4, h⟩ := bnd_inv h
  refine gV_i (As := [.int (0 : Int32)]) X hP hS hl.1 (c_X0_setOfFate l D cA q aK aV hq g1 hc4) sf_X0_setOfFate bw_809 sv_X0_setOfFate (rcC_0 g1) rfl ⟨rfl, rfl⟩ ⟨Nat.le_of_ble_eq_true rfl, Nat.le_of_ble_eq_true rfl⟩ rfl rfl (Nat.le_of_ble_eq_true rfl) dX11_term_5 (fun H locs hP hS => ?_)
  obtain ⟨r5, M6, hc7, h⟩ := bnd_inv h
  refine gS_i (As := [.int r2]) X hP hS hl.1 (c_J6_bitCount_0f7a4_C l D cA q aK aV hq hc7) sf_J6_bitCount_0f7a4 bw_894 ss_J6_bitCount_0f7a4 ⟨rfl, rfl⟩ ⟨Nat.le_of_ble_eq_true rfl, Nat.le_of_ble_eq_true rfl⟩ rfl rfl (Nat.le_of_ble_eq_true rfl) dX11_term_8 (fun H locs hP hS => ?_)
  refine lv_istore_n (lv' := [(1, .int r5), (0, .ref (q 0))]) hx hb dX11_term_11 rfl hl (by decide) rfl (fun ls hl => ?_)
  refine lv_aload_n hx hb dX11_term_12 rfl (lv_at hl 1 rfl) ?_
  refine gfC_11_0 X hP sC_0 bw_430 dX11_term_13 ?_
  obtain ⟨g8, h⟩ := gd_inv h
  have g8 := Decidable.not_not.mp g8
  refine lv_iload_n hx hb dX11_term_16 rfl (lv_at hl 0 rfl) ?_
  obtain ⟨r9, M10, hc11, h⟩ := bnd_inv h
  refine gV_i (As := [.int r5]) X hP hS hl.1 (c_X0_hasRoomFor l D cA q aK aV hq g8 hc11) sf_X0_hasRoomFor bw_866 sv_X0_hasRoomFor (rcC_0 g8) rfl ⟨rfl, rfl⟩ ⟨Nat.le_of_ble_eq_true rfl, Nat.le_of_ble_eq_true rfl⟩ rfl rfl (Nat.le_of_ble_eq_true rfl) dX11_term_17 (fun H locs hP hS => ?_)
  refine lv_if_ne (tgt := 29) hx hb dX11_term_20 (by decide) (fun c12 => ?_) (fun c12 => ?_)
  · rw [if_neg c12] at h
    refine lv_iload_n hx hb dX11_term_29 rfl (lv_at hl 0 rfl) ?_
    refine lv_if_ne (tgt := 40) hx hb dX11_term_30 (by decide) (fun c13 => ?_) (fun c13 => ?_)
    · rw [if_neg c13] at h
      refine lv_aload_n hx hb dX11_term_40 rfl (lv_at hl 1 rfl) ?_
      refine lv_aload_n hx hb dX11_term_41 rfl (lv_at hl 1 rfl) ?_
      refine gfC_11_0 X hP sC_0 bw_430 dX11_term_42 ?_
      obtain ⟨g14, h⟩ := gd_inv h
      have g14 := Decidable.not_not.mp g14
      obtain ⟨r15, M16, hc17, h⟩ := bnd_inv h
      refine gV_i (As := []) X hP hS hl.1 (c_X0_holdTerm l D cA q aK aV hq g14 hc17) sf_X0_holdTerm bw_900 sv_X0_holdTerm (rcC_0 g14) rfl ⟨rfl, rfl⟩ ⟨Nat.le_of_ble_eq_true rfl, Nat.le_of_ble_eq_true rfl⟩ rfl rfl (Nat.le_of_ble_eq_true rfl) dX11_term_45 (fun H locs hP hS => ?_)
      obtain ⟨r18, M19, hc20, h⟩ := bnd_inv h
      refine gV_i (As := [.int r15]) X hP hS hl.1 (c_X11_given l D cA q aK aV hq hc20) sf_X11_given bw_755 sv_X11_given (rcC_11 sC_0) rfl ⟨rfl, rfl⟩ ⟨Nat.le_of_ble_eq_true rfl, Nat.le_of_ble_eq_true rfl⟩ rfl rfl (Nat.le_of_ble_eq_true rfl) dX11_term_48 (fun H locs hP hS => ?_)
      exact end_i X hr hk hP hS h dX11_term_51
    · rw [if_pos c13] at h
      refine lv_aload_n hx hb dX11_term_33 rfl (lv_at hl 1 rfl) ?_
      refine lv_bipush (v := 7) hx hb dX11_term_34 (by decide) ?_
      obtain ⟨r21, M22, hc23, h⟩ := bnd_inv h
      refine gV_i (As := [.int (7 : Int32)]) X hP hS hl.1 (c_X11_refused l D cA q aK aV hq hc23) sf_X11_refused bw_552 sv_X11_refused (rcC_11 sC_0) rfl ⟨rfl, rfl⟩ ⟨Nat.le_of_ble_eq_true rfl, Nat.le_of_ble_eq_true rfl⟩ rfl rfl (Nat.le_of_ble_eq_true rfl) dX11_term_36 (fun H locs hP hS => ?_)
      exact end_i X hr hk hP hS h dX11_term_39
  · rw [if_pos c12] at h
    refine lv_aload_n hx hb dX11_term_23 rfl (lv_at hl 1 rfl) ?_
    refine lv_iconst (v := 4) hx hb dX11_term_24 (by decide) ?_
    obtain ⟨r24, M25, hc26, h⟩ := bnd_inv h
    refine gV_i (As := [.int (4 : Int32)]) X hP hS hl.1 (c_X11_refused l D cA q aK aV hq hc26) sf_X11_refused bw_552 sv_X11_refused (rcC_11 sC_0) rfl ⟨rfl, rfl⟩ ⟨Nat.le_of_ble_eq_true rfl, Nat.le_of_ble_eq_true rfl⟩ rfl rfl (Nat.le_of_ble_eq_true rfl) dX11_term_25 (fun H locs hP hS => ?_)
    exact end_i X hr hk hP hS h dX11_term_28
theorem dX0_feedPerson_0 : decode cX0_feedPerson 0 = .ok (.aload_n 0, 1) := by decide +kernel
theorem dX0_feedPerson_1 : decode cX0_feedPerson 1 = .ok (.iload_n 1, 1) := by decide +kernel
theorem dX0_feedPerson_2 : decode cX0_feedPerson 2 = .ok (.invokevirtual 89, 3) := by decide +kernel
theorem dX0_feedPerson_5 : decode cX0_feedPerson 5 = .ok (.astore_n 3, 1) := by decide +kernel
theorem dX0_feedPerson_6 : decode cX0_feedPerson 6 = .ok (.aload_n 3, 1) := by decide +kernel
theorem dX0_feedPerson_7 : decode cX0_feedPerson 7 = .ok (.getfield 124, 3) := by decide +kernel
theorem dX0_feedPerson_10 : decode cX0_feedPerson 10 = .ok (.bipush 99, 2) := by decide +kernel
theorem dX0_feedPerson_12 : decode cX0_feedPerson 12 = .ok (.if_icmp .lt 5, 3) := by decide +kernel
theorem dX0_feedPerson_15 : decode cX0_feedPerson 15 = .ok (.iconst 0, 1) := by decide +kernel
theorem dX0_feedPerson_16 : decode cX0_feedPerson 16 = .ok (.ireturn, 1) := by decide +kernel
theorem dX0_feedPerson_17 : decode cX0_feedPerson 17 = .ok (.aload_n 3, 1) := by decide +kernel
theorem dX0_feedPerson_18 : decode cX0_feedPerson 18 = .ok (.bipush 99, 2) := by decide +kernel
theorem dX0_feedPerson_20 : decode cX0_feedPerson 20 = .ok (.aload_n 3, 1) := by decide +kernel
theorem dX0_feedPerson_21 : decode cX0_feedPerson 21 = .ok (.getfield 124, 3) := by decide +kernel
theorem dX0_feedPerson_24 : decode cX0_feedPerson 24 = .ok (.iload_n 2, 1) := by decide +kernel
theorem dX0_feedPerson_25 : decode cX0_feedPerson 25 = .ok (.iadd, 1) := by decide +kernel
theorem dX0_feedPerson_26 : decode cX0_feedPerson 26 = .ok (.invokestatic 173, 3) := by decide +kernel
theorem dX0_feedPerson_29 : decode cX0_feedPerson 29 = .ok (.putfield 124, 3) := by decide +kernel
theorem dX0_feedPerson_32 : decode cX0_feedPerson 32 = .ok (.iconst 1, 1) := by decide +kernel
theorem dX0_feedPerson_33 : decode cX0_feedPerson 33 = .ok (.ireturn, 1) := by decide +kernel
set_option maxRecDepth 100000 in
set_option maxHeartbeats 8000000 in
theorem c_X0_feedPerson (l : Launch) (D : va_G) (cA : Nat → ClassId) (q aK aV : Nat → Nat) (hq : injG 167 q) {a0 : Nat} {a1 : Int32} {a2 : Int32} {M M0 : Mem} {r0 : Int32} (h0 : shC a0 = 0) (h : f_X0_feedPerson a0 a1 a2 M = some (r0, M0)) : Met l yX0_feedPerson (.code yX0_feedPerson cX0_feedPerson 4 (some .boolean) :: BW) ({ frames := 2, cells := 0, slots := 0, locals := 40 } : Room) (va_Pc [.ref (q a0), .int a1, .int a2] (CB 167 (ceC cA q) D cA q aK aV M)) (Qi 167 (ceC cA q) D q r0 M0) 0 0 (AqG 167 q) := by
  refine gMet RX0 (by decide +kernel) rfl hq (Nat.le_of_ble_eq_true rfl) ?_
  intro p e s m below meth c ls X hr hk hP hS hl
  have hx := X.1
  have hb := X.2.1
  have hl : lv_has ls 4 [(0, .ref (q a0)), (1, .int a1), (2, .int a2)] := hl
  rw [f_X0_feedPerson] at h
  refine lv_aload_n hx hb dX0_feedPerson_0 rfl (lv_at hl 0 rfl) ?_
  refine lv_iload_n hx hb dX0_feedPerson_1 rfl (lv_at hl 1 rfl) ?_
  obtain ⟨r1, M2, hc3, h⟩ := bnd_inv h
  refine gV_r (As := [.int a1]) X hP hS hl.1 (c_X0_personAt l D cA q aK aV hq h0 hc3) sf_X0_personAt bw_813 sv_X0_personAt (rcC_0 h0) rfl ⟨rfl, rfl⟩ ⟨Nat.le_of_ble_eq_true rfl, Nat.le_of_ble_eq_true rfl⟩ rfl rfl (Nat.le_of_ble_eq_true rfl) dX0_feedPerson_2 (fun H locs hP hS => ?_)
  obtain ⟨g4, h⟩ := gd_inv h
  have g4 := Decidable.not_not.mp g4
  refine lv_astore_n (lv' := [(3, .ref (q r1)), (0, .ref (q a0)), (1, .int a1), (2, .int a2)]) hx hb dX0_feedPerson_5 rfl hl (by decide) rfl (fun ls hl => ?_)
  refine lv_aload_n hx hb dX0_feedPerson_6 rfl (lv_at hl 0 rfl) ?_
  refine gfC_5_1 X hP g4 bw_118 dX0_feedPerson_7 ?_
  refine lv_bipush (v := 99) hx hb dX0_feedPerson_10 (by decide) ?_
  refine lv_icmp_lt (tgt := 17) hx hb dX0_feedPerson_12 (by decide) (fun c5 => ?_) (fun c5 => ?_)
  · rw [if_pos c5] at h
    refine lv_aload_n hx hb dX0_feedPerson_17 rfl (lv_at hl 0 rfl) ?_
    refine lv_bipush (v := 99) hx hb dX0_feedPerson_18 (by decide) ?_
    refine lv_aload_n hx hb dX0_feedPerson_20 rfl (lv_at hl 0 rfl) ?_
    refine gfC_5_1 X hP g4 bw_118 dX0_feedPerson_21 ?_
    refine lv_iload_n hx hb dX0_feedPerson_24 rfl (lv_at hl 3 rfl) ?_
    refine lv_iadd hx hb dX0_feedPerson_25 ?_
    obtain ⟨y6, ey6, h⟩ := lt_inv h
    refine va_mmin hx hb (by rw [X.2.2.1]; exact hl.1.symm) X.2.2.2.1 (X.2.2.2.2.1 _ bw_887) (X.2.2.2.2.1 _ bw_888) (X.2.2.2.2.1 _ bw_18) (X.2.2.2.2.1 _ bw_889) (Nat.le_of_ble_eq_true rfl) (Nat.le_of_ble_eq_true rfl) (Nat.zero_le _) (Nat.zero_le _) dX0_feedPerson_26 ?_
    refine topE ey6 ?_
    obtain ⟨M7, eM7, h⟩ := lt_inv h
    refine pfC_5_1 X hP hS g4 bw_118 eM7 dX0_feedPerson_29 (fun H locs hP hS => ?_)
    refine lv_iconst (v := 1) hx hb dX0_feedPerson_32 (by decide) ?_
    exact end_z X hr hk hP hS (Or.inr rfl) h dX0_feedPerson_33
  · rw [if_neg c5] at h
    refine lv_iconst (v := 0) hx hb dX0_feedPerson_15 (by decide) ?_
    exact end_z X hr hk hP hS (Or.inl rfl) h dX0_feedPerson_16
theorem dX11_meal_0 : decode cX11_meal 0 = .ok (.aload_n 0, 1) := by decide +kernel
theorem dX11_meal_1 : decode cX11_meal 1 = .ok (.getfield 10, 3) := by decide +kernel
theorem dX11_meal_4 : decode cX11_meal 4 = .ok (.iconst 3, 1) := by decide +kernel
theorem dX11_meal_5 : decode cX11_meal 5 = .ok (.iload_n 1, 1) := by decide +kernel
theorem dX11_meal_6 : decode cX11_meal 6 = .ok (.invokevirtual 213, 3) := by decide +kernel
theorem dX11_meal_9 : decode cX11_meal 9 = .ok (.ifCond .eq 14, 3) := by decide +kernel
theorem dX11_meal_12 : decode cX11_meal 12 = .ok (.iload_n 2, 1) := by decide +kernel
theorem dX11_meal_13 : decode cX11_meal 13 = .ok (.iconst 1, 1) := by decide +kernel
theorem dX11_meal_14 : decode cX11_meal 14 = .ok (.if_icmp .lt 9, 3) := by decide +kernel
theorem dX11_meal_17 : decode cX11_meal 17 = .ok (.iload_n 2, 1) := by decide +kernel
theorem dX11_meal_18 : decode cX11_meal 18 = .ok (.bipush 99, 2) := by decide +kernel
theorem dX11_meal_20 : decode cX11_meal 20 = .ok (.if_icmp .le 9, 3) := by decide +kernel
theorem dX11_meal_23 : decode cX11_meal 23 = .ok (.aload_n 0, 1) := by decide +kernel
theorem dX11_meal_24 : decode cX11_meal 24 = .ok (.iconst 1, 1) := by decide +kernel
theorem dX11_meal_25 : decode cX11_meal 25 = .ok (.invokevirtual 132, 3) := by decide +kernel
theorem dX11_meal_28 : decode cX11_meal 28 = .ok (.ireturn, 1) := by decide +kernel
theorem dX11_meal_29 : decode cX11_meal 29 = .ok (.aload_n 0, 1) := by decide +kernel
theorem dX11_meal_30 : decode cX11_meal 30 = .ok (.getfield 10, 3) := by decide +kernel
theorem dX11_meal_33 : decode cX11_meal 33 = .ok (.iload_n 1, 1) := by decide +kernel
theorem dX11_meal_34 : decode cX11_meal 34 = .ok (.iload_n 2, 1) := by decide +kernel
theorem dX11_meal_35 : decode cX11_meal 35 = .ok (.invokevirtual 278, 3) := by decide +kernel
theorem dX11_meal_38 : decode cX11_meal 38 = .ok (.ifCond .ne 10, 3) := by decide +kernel
theorem dX11_meal_41 : decode cX11_meal 41 = .ok (.aload_n 0, 1) := by decide +kernel
theorem dX11_meal_42 : decode cX11_meal 42 = .ok (.bipush 7, 2) := by decide +kernel
theorem dX11_meal_44 : decode cX11_meal 44 = .ok (.invokevirtual 132, 3) := by decide +kernel
theorem dX11_meal_47 : decode cX11_meal 47 = .ok (.ireturn, 1) := by decide +kernel
theorem dX11_meal_48 : decode cX11_meal 48 = .ok (.aload_n 0, 1) := by decide +kernel
theorem dX11_meal_49 : decode cX11_meal 49 = .ok (.aload_n 0, 1) := by decide +kernel
theorem dX11_meal_50 : decode cX11_meal 50 = .ok (.getfield 10, 3) := by decide +kernel
theorem dX11_meal_53 : decode cX11_meal 53 = .ok (.iload_n 1, 1) := by decide +kernel
theorem dX11_meal_54 : decode cX11_meal 54 = .ok (.invokevirtual 228, 3) := by decide +kernel
theorem dX11_meal_57 : decode cX11_meal 57 = .ok (.getfield 232, 3) := by decide +kernel
theorem dX11_meal_60 : decode cX11_meal 60 = .ok (.invokevirtual 191, 3) := by decide +kernel
theorem dX11_meal_63 : decode cX11_meal 63 = .ok (.ireturn, 1) := by decide +kernel
set_option maxRecDepth 100000 in
set_option maxHeartbeats 8000000 in
theorem c_X11_meal (l : Launch) (D : va_G) (cA : Nat → ClassId) (q aK aV : Nat → Nat) (hq : injG 167 q) {a1 : Int32} {a2 : Int32} {M M0 : Mem} {r0 : Int32} (h : f_X11_meal a1 a2 M = some (r0, M0)) : Met l yX11_meal (.code yX11_meal cX11_meal 3 (some .int) :: BW) ({ frames := 3, cells := 0, slots := 0, locals := 63 } : Room) (va_Pc [.ref (q 0), .int a1, .int a2] (CB 167 (ceC cA q) D cA q aK aV M)) (Qi 167 (ceC cA q) D q r0 M0) 0 0 (AqG 167 q) := by
  refine gMet RX11 (by decide +kernel) rfl hq (Nat.le_of_ble_eq_true rfl) ?_
  intro p e s m below meth c ls X hr hk hP hS hl
  have hx := X.1
  have hb := X.2.1
  have hl : lv_has ls 3 [(0, .ref (q 0)), (1, .int a1), (2, .int a2)] := hl
  rw [f_X11_meal] at h
  refine lv_aload_n hx hb dX11_meal_0 rfl (lv_at hl 0 rfl) ?_
  refine gfC_11_0 X hP sC_0 bw_430 dX11_meal_1 ?_
  obtain ⟨g1, h⟩ := gd_inv h
  have g1 := Decidable.not_not.mp g1
  refine lv_iconst (v := 3) hx hb dX11_meal_4 (by decide) ?_
  refine lv_iload_n hx hb dX11_meal_5 rfl (lv_at hl 1 rfl) ?_
  obtain ⟨r2, M3, hc4, h⟩ := bnd_inv h
  refine gV_i (As := [.int (3 : Int32), .int a1]) X hP hS hl.1 (c_X0_has l D cA q aK aV hq g1 hc4) sf_X0_has bw_830 sv_X0_has (rcC_0 g1) rfl ⟨rfl, rfl⟩ ⟨Nat.le_of_ble_eq_true rfl, Nat.le_of_ble_eq_true rfl⟩ rfl rfl (Nat.le_of_ble_eq_true rfl) dX11_meal_6 (fun H locs hP hS => ?_)
  refine lv_if_eq (tgt := 23) hx hb dX11_meal_9 (by decide) (fun c5 => ?_) (fun c5 => ?_)
  · rw [if_pos c5] at h
    refine lv_aload_n hx hb dX11_meal_23 rfl (lv_at hl 0 rfl) ?_
    refine lv_iconst (v := 1) hx hb dX11_meal_24 (by decide) ?_
    obtain ⟨r6, M7, hc8, h⟩ := bnd_inv h
    refine gV_i (As := [.int (1 : Int32)]) X hP hS hl.1 (c_X11_refused l D cA q aK aV hq hc8) sf_X11_refused bw_552 sv_X11_refused (rcC_11 sC_0) rfl ⟨rfl, rfl⟩ ⟨Nat.le_of_ble_eq_true rfl, Nat.le_of_ble_eq_true rfl⟩ rfl rfl (Nat.le_of_ble_eq_true rfl) dX11_meal_25 (fun H locs hP hS => ?_)
    exact end_i X hr hk hP hS h dX11_meal_28
  · rw [if_neg c5] at h
    refine lv_iload_n hx hb dX11_meal_12 rfl (lv_at hl 2 rfl) ?_
    refine lv_iconst (v := 1) hx hb dX11_meal_13 (by decide) ?_
    refine lv_icmp_lt (tgt := 23) hx hb dX11_meal_14 (by decide) (fun c9 => ?_) (fun c9 => ?_)
    · rw [if_pos c9] at h
      refine lv_aload_n hx hb dX11_meal_23 rfl (lv_at hl 0 rfl) ?_
      refine lv_iconst (v := 1) hx hb dX11_meal_24 (by decide) ?_
      obtain ⟨r10, M11, hc12, h⟩ := bnd_inv h
      refine gV_i (As := [.int (1 : Int32)]) X hP hS hl.1 (c_X11_refused l D cA q aK aV hq hc12) sf_X11_refused bw_552 sv_X11_refused (rcC_11 sC_0) rfl ⟨rfl, rfl⟩ ⟨Nat.le_of_ble_eq_true rfl, Nat.le_of_ble_eq_true rfl⟩ rfl rfl (Nat.le_of_ble_eq_true rfl) dX11_meal_25 (fun H locs hP hS => ?_)
      exact end_i X hr hk hP hS h dX11_meal_28
    · rw [if_neg c9] at h
      refine lv_iload_n hx hb dX11_meal_17 rfl (lv_at hl 2 rfl) ?_
      refine lv_bipush (v := 99) hx hb dX11_meal_18 (by decide) ?_
      refine lv_icmp_le (tgt := 29) hx hb dX11_meal_20 (by decide) (fun c13 => ?_) (fun c13 => ?_)
      · rw [if_pos c13] at h
        refine lv_aload_n hx hb dX11_meal_29 rfl (lv_at hl 0 rfl) ?_
        refine gfC_11_0 X hP sC_0 bw_430 dX11_meal_30 ?_
        obtain ⟨g14, h⟩ := gd_inv h
        have g14 := Decidable.not_not.mp g14
        refine lv_iload_n hx hb dX11_meal_33 rfl (lv_at hl 1 rfl) ?_
        refine lv_iload_n hx hb dX11_meal_34 rfl (lv_at hl 2 rfl) ?_
        obtain ⟨r15, M16, hc17, h⟩ := bnd_inv h
        refine gV_i (As := [.int a1, .int a2]) X hP hS hl.1 (c_X0_feedPerson l D cA q aK aV hq g14 hc17) sf_X0_feedPerson bw_910 sv_X0_feedPerson (rcC_0 g14) rfl ⟨rfl, rfl⟩ ⟨Nat.le_of_ble_eq_true rfl, Nat.le_of_ble_eq_true rfl⟩ rfl rfl (Nat.le_of_ble_eq_true rfl) dX11_meal_35 (fun H locs hP hS => ?_)
        refine lv_if_ne (tgt := 48) hx hb dX11_meal_38 (by decide) (fun c18 => ?_) (fun c18 => ?_)
        · rw [if_neg c18] at h
          refine lv_aload_n hx hb dX11_meal_48 rfl (lv_at hl 0 rfl) ?_
          refine lv_aload_n hx hb dX11_meal_49 rfl (lv_at hl 0 rfl) ?_
          refine gfC_11_0 X hP sC_0 bw_430 dX11_meal_50 ?_
          obtain ⟨g19, h⟩ := gd_inv h
          have g19 := Decidable.not_not.mp g19
          refine lv_iload_n hx hb dX11_meal_53 rfl (lv_at hl 1 rfl) ?_
          obtain ⟨r20, M21, hc22, h⟩ := bnd_inv h
          refine gV_r (As := [.int a1]) X hP hS hl.1 (c_X0_personAt l D cA q aK aV hq g19 hc22) sf_X0_personAt bw_852 sv_X0_personAt (rcC_0 g19) rfl ⟨rfl, rfl⟩ ⟨Nat.le_of_ble_eq_true rfl, Nat.le_of_ble_eq_true rfl⟩ rfl rfl (Nat.le_of_ble_eq_true rfl) dX11_meal_54 (fun H locs hP hS => ?_)
          obtain ⟨g23, h⟩ := gd_inv h
          have g23 := Decidable.not_not.mp g23
          refine gfC_5_1 X hP g23 bw_119 dX11_meal_57 ?_
          obtain ⟨r24, M25, hc26, h⟩ := bnd_inv h
          refine gV_i (As := [.int (gI M21 r20 1)]) X hP hS hl.1 (c_X11_given l D cA q aK aV hq hc26) sf_X11_given bw_755 sv_X11_given (rcC_11 sC_0) rfl ⟨rfl, rfl⟩ ⟨Nat.le_of_ble_eq_true rfl, Nat.le_of_ble_eq_true rfl⟩ rfl rfl (Nat.le_of_ble_eq_true rfl) dX11_meal_60 (fun H locs hP hS => ?_)
          exact end_i X hr hk hP hS h dX11_meal_63
        · rw [if_pos c18] at h
          refine lv_aload_n hx hb dX11_meal_41 rfl (lv_at hl 0 rfl) ?_
          refine lv_bipush (v := 7) hx hb dX11_meal_42 (by decide) ?_
          obtain ⟨r27, M28, hc29, h⟩ := bnd_inv h
          refine gV_i (As := [.int (7 : Int32)]) X hP hS hl.1 (c_X11_refused l D cA q aK aV hq hc29) sf_X11_refused bw_552 sv_X11_refused (rcC_11 sC_0) rfl ⟨rfl, rfl⟩ ⟨Nat.le_of_ble_eq_true rfl, Nat.le_of_ble_eq_true rfl⟩ rfl rfl (Nat.le_of_ble_eq_true rfl) dX11_meal_44 (fun H locs hP hS => ?_)
          exact end_i X hr hk hP hS h dX11_meal_47
      · rw [if_neg c13] at h
        refine lv_aload_n hx hb dX11_meal_23 rfl (lv_at hl 0 rfl) ?_
        refine lv_iconst (v := 1) hx hb dX11_meal_24 (by decide) ?_
        obtain ⟨r30, M31, hc32, h⟩ := bnd_inv h
        refine gV_i (As := [.int (1 : Int32)]) X hP hS hl.1 (c_X11_refused l D cA q aK aV hq hc32) sf_X11_refused bw_552 sv_X11_refused (rcC_11 sC_0) rfl ⟨rfl, rfl⟩ ⟨Nat.le_of_ble_eq_true rfl, Nat.le_of_ble_eq_true rfl⟩ rfl rfl (Nat.le_of_ble_eq_true rfl) dX11_meal_25 (fun H locs hP hS => ?_)
        exact end_i X hr hk hP hS h dX11_meal_28
theorem dX0_setSmell_0 : decode cX0_setSmell 0 = .ok (.aload_n 0, 1) := by decide +kernel
theorem dX0_setSmell_1 : decode cX0_setSmell 1 = .ok (.iload_n 1, 1) := by decide +kernel
theorem dX0_setSmell_2 : decode cX0_setSmell 2 = .ok (.invokevirtual 89, 3) := by decide +kernel
theorem dX0_setSmell_5 : decode cX0_setSmell 5 = .ok (.astore 4, 2) := by decide +kernel
theorem dX0_setSmell_7 : decode cX0_setSmell 7 = .ok (.aload 4, 2) := by decide +kernel
theorem dX0_setSmell_9 : decode cX0_setSmell 9 = .ok (.getfield 151, 3) := by decide +kernel
theorem dX0_setSmell_12 : decode cX0_setSmell 12 = .ok (.iload_n 2, 1) := by decide +kernel
theorem dX0_setSmell_13 : decode cX0_setSmell 13 = .ok (.invokestatic 127, 3) := by decide +kernel
theorem dX0_setSmell_16 : decode cX0_setSmell 16 = .ok (.iload_n 3, 1) := by decide +kernel
theorem dX0_setSmell_17 : decode cX0_setSmell 17 = .ok (.if_icmp .ne 5, 3) := by decide +kernel
theorem dX0_setSmell_20 : decode cX0_setSmell 20 = .ok (.iconst 0, 1) := by decide +kernel
theorem dX0_setSmell_21 : decode cX0_setSmell 21 = .ok (.ireturn, 1) := by decide +kernel
theorem dX0_setSmell_22 : decode cX0_setSmell 22 = .ok (.aload 4, 2) := by decide +kernel
theorem dX0_setSmell_24 : decode cX0_setSmell 24 = .ok (.dup, 1) := by decide +kernel
theorem dX0_setSmell_25 : decode cX0_setSmell 25 = .ok (.getfield 151, 3) := by decide +kernel
theorem dX0_setSmell_28 : decode cX0_setSmell 28 = .ok (.iconst 1, 1) := by decide +kernel
theorem dX0_setSmell_29 : decode cX0_setSmell 29 = .ok (.iload_n 2, 1) := by decide +kernel
theorem dX0_setSmell_30 : decode cX0_setSmell 30 = .ok (.ishl, 1) := by decide +kernel
theorem dX0_setSmell_31 : decode cX0_setSmell 31 = .ok (.ixor, 1) := by decide +kernel
theorem dX0_setSmell_32 : decode cX0_setSmell 32 = .ok (.putfield 151, 3) := by decide +kernel
theorem dX0_setSmell_35 : decode cX0_setSmell 35 = .ok (.iconst 1, 1) := by decide +kernel
theorem dX0_setSmell_36 : decode cX0_setSmell 36 = .ok (.ireturn, 1) := by decide +kernel
set_option maxRecDepth 100000 in
set_option maxHeartbeats 8000000 in
theorem c_X0_setSmell (l : Launch) (D : va_G) (cA : Nat → ClassId) (q aK aV : Nat → Nat) (hq : injG 167 q) {a0 : Nat} {a1 : Int32} {a2 : Int32} {a3 : Int32} {M M0 : Mem} {r0 : Int32} (h0 : shC a0 = 0) (h : f_X0_setSmell a0 a1 a2 a3 M = some (r0, M0)) : Met l yX0_setSmell (.code yX0_setSmell cX0_setSmell 5 (some .boolean) :: BW) ({ frames := 2, cells := 0, slots := 0, locals := 36 } : Room) (va_Pc [.ref (q a0), .int a1, .int a2, .int a3] (CB 167 (ceC cA q) D cA q aK aV M)) (Qi 167 (ceC cA q) D q r0 M0) 0 0 (AqG 167 q) := by
  refine gMet RX0 (by decide +kernel) rfl hq (Nat.le_of_ble_eq_true rfl) ?_
  intro p e s m below meth c ls X hr hk hP hS hl
  have hx := X.1
  have hb := X.2.1
  have hl : lv_has ls 5 [(0, .ref (q a0)), (1, .int a1), (2, .int a2), (3, .int a3)] := hl
  rw [f_X0_setSmell] at h
  refine lv_aload_n hx hb dX0_setSmell_0 rfl (lv_at hl 0 rfl) ?_
  refine lv_iload_n hx hb dX0_setSmell_1 rfl (lv_at hl 1 rfl) ?_
  obtain ⟨r1, M2, hc3, h⟩ := bnd_inv h
  refine gV_r (As := [.int a1]) X hP hS hl.1 (c_X0_personAt l D cA q aK aV hq h0 hc3) sf_X0_personAt bw_813 sv_X0_personAt (rcC_0 h0) rfl ⟨rfl, rfl⟩ ⟨Nat.le_of_ble_eq_true rfl, Nat.le_of_ble_eq_true rfl⟩ rfl rfl (Nat.le_of_ble_eq_true rfl) dX0_setSmell_2 (fun H locs hP hS => ?_)
  obtain ⟨g4, h⟩ := gd_inv h
  have g4 := Decidable.not_not.mp g4
  refine lv_astore (lv' := [(4, .ref (q r1)), (0, .ref (q a0)), (1, .int a1), (2, .int a2), (3, .int a3)]) hx hb dX0_setSmell_5 hl (by decide) rfl (fun ls hl => ?_)
  refine lv_aload hx hb dX0_setSmell_7 (lv_at hl 0 rfl) ?_
  refine gfC_5_2 X hP g4 bw_124 dX0_setSmell_9 ?_
  refine lv_iload_n hx hb dX0_setSmell_12 rfl (lv_at hl 3 rfl) ?_
  obtain ⟨r5, M6, hc7, h⟩ := bnd_inv h
  refine gSN_i (As := [.int (gI M2 r1 2), .int a2]) X hP hS hl.1 (c_X11_isIn l D cA q aK aV hq hc7) sf_X11_isIn nw_19 ss_X11_isIn ⟨rfl, rfl⟩ ⟨Nat.le_of_ble_eq_true rfl, Nat.le_of_ble_eq_true rfl⟩ rfl rfl (Nat.le_of_ble_eq_true rfl) dX0_setSmell_13 (fun H locs hP hS => ?_)
  refine lv_iload_n hx hb dX0_setSmell_16 rfl (lv_at hl 4 rfl) ?_
  refine lv_icmp_ne (tgt := 22) hx hb dX0_setSmell_17 (by decide) (fun c8 => ?_) (fun c8 => ?_)
  · rw [if_neg c8] at h
    refine lv_aload hx hb dX0_setSmell_22 (lv_at hl 0 rfl) ?_
    refine lv_dup hx hb dX0_setSmell_24 rfl ?_
    refine gfC_5_2 X hP g4 bw_124 dX0_setSmell_25 ?_
    refine lv_iconst (v := 1) hx hb dX0_setSmell_28 (by decide) ?_
    refine lv_iload_n hx hb dX0_setSmell_29 rfl (lv_at hl 3 rfl) ?_
    refine lv_ishl hx hb dX0_setSmell_30 ?_
    refine lv_ixor hx hb dX0_setSmell_31 ?_
    obtain ⟨M9, eM9, h⟩ := lt_inv h
    refine pfC_5_2 X hP hS g4 bw_124 eM9 dX0_setSmell_32 (fun H locs hP hS => ?_)
    refine lv_iconst (v := 1) hx hb dX0_setSmell_35 (by decide) ?_
    exact end_z X hr hk hP hS (Or.inr rfl) h dX0_setSmell_36
  · rw [if_pos c8] at h
    refine lv_iconst (v := 0) hx hb dX0_setSmell_20 (by decide) ?_
    exact end_z X hr hk hP hS (Or.inl rfl) h dX0_setSmell_21
theorem dX11_scent_0 : decode cX11_scent 0 = .ok (.aload_n 0, 1) := by decide +kernel
theorem dX11_scent_1 : decode cX11_scent 1 = .ok (.getfield 10, 3) := by decide +kernel
theorem dX11_scent_4 : decode cX11_scent 4 = .ok (.iconst 3, 1) := by decide +kernel
theorem dX11_scent_5 : decode cX11_scent 5 = .ok (.iload_n 1, 1) := by decide +kernel
theorem dX11_scent_6 : decode cX11_scent 6 = .ok (.invokevirtual 213, 3) := by decide +kernel
theorem dX11_scent_9 : decode cX11_scent 9 = .ok (.ifCond .eq 15, 3) := by decide +kernel
theorem dX11_scent_12 : decode cX11_scent 12 = .ok (.aload_n 0, 1) := by decide +kernel
theorem dX11_scent_13 : decode cX11_scent 13 = .ok (.getfield 10, 3) := by decide +kernel
theorem dX11_scent_16 : decode cX11_scent 16 = .ok (.iconst 0, 1) := by decide +kernel
theorem dX11_scent_17 : decode cX11_scent 17 = .ok (.iload_n 2, 1) := by decide +kernel
theorem dX11_scent_18 : decode cX11_scent 18 = .ok (.invokevirtual 213, 3) := by decide +kernel
theorem dX11_scent_21 : decode cX11_scent 21 = .ok (.ifCond .ne 9, 3) := by decide +kernel
theorem dX11_scent_24 : decode cX11_scent 24 = .ok (.aload_n 0, 1) := by decide +kernel
theorem dX11_scent_25 : decode cX11_scent 25 = .ok (.iconst 1, 1) := by decide +kernel
theorem dX11_scent_26 : decode cX11_scent 26 = .ok (.invokevirtual 108, 3) := by decide +kernel
theorem dX11_scent_29 : decode cX11_scent 29 = .ok (.ireturn, 1) := by decide +kernel
theorem dX11_scent_30 : decode cX11_scent 30 = .ok (.aload_n 0, 1) := by decide +kernel
theorem dX11_scent_31 : decode cX11_scent 31 = .ok (.getfield 10, 3) := by decide +kernel
theorem dX11_scent_34 : decode cX11_scent 34 = .ok (.iload_n 1, 1) := by decide +kernel
theorem dX11_scent_35 : decode cX11_scent 35 = .ok (.iload_n 2, 1) := by decide +kernel
theorem dX11_scent_36 : decode cX11_scent 36 = .ok (.iload_n 3, 1) := by decide +kernel
theorem dX11_scent_37 : decode cX11_scent 37 = .ok (.invokevirtual 281, 3) := by decide +kernel
theorem dX11_scent_40 : decode cX11_scent 40 = .ok (.ifCond .eq 10, 3) := by decide +kernel
theorem dX11_scent_43 : decode cX11_scent 43 = .ok (.aload_n 0, 1) := by decide +kernel
theorem dX11_scent_44 : decode cX11_scent 44 = .ok (.invokevirtual 120, 3) := by decide +kernel
theorem dX11_scent_47 : decode cX11_scent 47 = .ok (.goto 9, 3) := by decide +kernel
theorem dX11_scent_50 : decode cX11_scent 50 = .ok (.aload_n 0, 1) := by decide +kernel
theorem dX11_scent_51 : decode cX11_scent 51 = .ok (.bipush 7, 2) := by decide +kernel
theorem dX11_scent_53 : decode cX11_scent 53 = .ok (.invokevirtual 108, 3) := by decide +kernel
theorem dX11_scent_56 : decode cX11_scent 56 = .ok (.ireturn, 1) := by decide +kernel
set_option maxRecDepth 100000 in
set_option maxHeartbeats 8000000 in
theorem c_X11_scent (l : Launch) (D : va_G) (cA : Nat → ClassId) (q aK aV : Nat → Nat) (hq : injG 167 q) {a1 : Int32} {a2 : Int32} {a3 : Int32} {M M0 : Mem} {r0 : Int32} (h : f_X11_scent a1 a2 a3 M = some (r0, M0)) : Met l yX11_scent (.code yX11_scent cX11_scent 4 (some .boolean) :: BW) ({ frames := 3, cells := 0, slots := 0, locals := 60 } : Room) (va_Pc [.ref (q 0), .int a1, .int a2, .int a3] (CB 167 (ceC cA q) D cA q aK aV M)) (Qi 167 (ceC cA q) D q r0 M0) 0 0 (AqG 167 q) := by
  refine gMet RX11 (by decide +kernel) rfl hq (Nat.le_of_ble_eq_true rfl) ?_
  intro p e s m below meth c ls X hr hk hP hS hl
  have hx := X.1
  have hb := X.2.1
  have hl : lv_has ls 4 [(0, .ref (q 0)), (1, .int a1), (2, .int a2), (3, .int a3)] := hl
  rw [f_X11_scent] at h
  refine lv_aload_n hx hb dX11_scent_0 rfl (lv_at hl 0 rfl) ?_
  refine gfC_11_0 X hP sC_0 bw_430 dX11_scent_1 ?_
  obtain ⟨g1, h⟩ := gd_inv h
  have g1 := Decidable.not_not.mp g1
  refine lv_iconst (v := 3) hx hb dX11_scent_4 (by decide) ?_
  refine lv_iload_n hx hb dX11_scent_5 rfl (lv_at hl 1 rfl) ?_
  obtain ⟨r2, M3, hc4, h⟩ := bnd_inv h
  refine gV_i (As := [.int (3 : Int32), .int a1]) X hP hS hl.1 (c_X0_has l D cA q aK aV hq g1 hc4) sf_X0_has bw_830 sv_X0_has (rcC_0 g1) rfl ⟨rfl, rfl⟩ ⟨Nat.le_of_ble_eq_true rfl, Nat.le_of_ble_eq_true rfl⟩ rfl rfl (Nat.le_of_ble_eq_true rfl) dX11_scent_6 (fun H locs hP hS => ?_)
  refine lv_if_eq (tgt := 24) hx hb dX11_scent_9 (by decide) (fun c5 => ?_) (fun c5 => ?_)
  · rw [if_pos c5] at h
    refine lv_aload_n hx hb dX11_scent_24 rfl (lv_at hl 0 rfl) ?_
    refine lv_iconst (v := 1) hx hb dX11_scent_25 (by decide) ?_
    obtain ⟨r6, M7, hc8, h⟩ := bnd_inv h
    refine gV_i (As := [.int (1 : Int32)]) X hP hS hl.1 (c_X11_denied l D cA q aK aV hq hc8) sf_X11_denied bw_507 sv_X11_denied (rcC_11 sC_0) rfl ⟨rfl, rfl⟩ ⟨Nat.le_of_ble_eq_true rfl, Nat.le_of_ble_eq_true rfl⟩ rfl rfl (Nat.le_of_ble_eq_true rfl) dX11_scent_26 (fun H locs hP hS => ?_)
    obtain ⟨g9, h⟩ := gd_inv h
    exact end_z X hr hk hP hS (Decidable.not_not.mp g9) h dX11_scent_29
  · rw [if_neg c5] at h
    refine lv_aload_n hx hb dX11_scent_12 rfl (lv_at hl 0 rfl) ?_
    refine gfC_11_0 X hP sC_0 bw_430 dX11_scent_13 ?_
    obtain ⟨g10, h⟩ := gd_inv h
    have g10 := Decidable.not_not.mp g10
    refine lv_iconst (v := 0) hx hb dX11_scent_16 (by decide) ?_
    refine lv_iload_n hx hb dX11_scent_17 rfl (lv_at hl 2 rfl) ?_
    obtain ⟨r11, M12, hc13, h⟩ := bnd_inv h
    refine gV_i (As := [.int (0 : Int32), .int a2]) X hP hS hl.1 (c_X0_has l D cA q aK aV hq g10 hc13) sf_X0_has bw_830 sv_X0_has (rcC_0 g10) rfl ⟨rfl, rfl⟩ ⟨Nat.le_of_ble_eq_true rfl, Nat.le_of_ble_eq_true rfl⟩ rfl rfl (Nat.le_of_ble_eq_true rfl) dX11_scent_18 (fun H locs hP hS => ?_)
    refine lv_if_ne (tgt := 30) hx hb dX11_scent_21 (by decide) (fun c14 => ?_) (fun c14 => ?_)
    · rw [if_neg c14] at h
      refine lv_aload_n hx hb dX11_scent_30 rfl (lv_at hl 0 rfl) ?_
      refine gfC_11_0 X hP sC_0 bw_430 dX11_scent_31 ?_
      obtain ⟨g15, h⟩ := gd_inv h
      have g15 := Decidable.not_not.mp g15
      refine lv_iload_n hx hb dX11_scent_34 rfl (lv_at hl 1 rfl) ?_
      refine lv_iload_n hx hb dX11_scent_35 rfl (lv_at hl 2 rfl) ?_
      refine lv_iload_n hx hb dX11_scent_36 rfl (lv_at hl 3 rfl) ?_
      obtain ⟨r16, M17, hc18, h⟩ := bnd_inv h
      refine gV_i (As := [.int a1, .int a2, .int a3]) X hP hS hl.1 (c_X0_setSmell l D cA q aK aV hq g15 hc18) sf_X0_setSmell bw_918 sv_X0_setSmell (rcC_0 g15) rfl ⟨rfl, rfl⟩ ⟨Nat.le_of_ble_eq_true rfl, Nat.le_of_ble_eq_true rfl⟩ rfl rfl (Nat.le_of_ble_eq_true rfl) dX11_scent_37 (fun H locs hP hS => ?_)
      refine lv_if_eq (tgt := 50) hx hb dX11_scent_40 (by decide) (fun c19 => ?_) (fun c19 => ?_)
      · rw [if_pos c19] at h
        refine lv_aload_n hx hb dX11_scent_50 rfl (lv_at hl 0 rfl) ?_
        refine lv_bipush (v := 7) hx hb dX11_scent_51 (by decide) ?_
        obtain ⟨r20, M21, hc22, h⟩ := bnd_inv h
        refine gV_i (As := [.int (7 : Int32)]) X hP hS hl.1 (c_X11_denied l D cA q aK aV hq hc22) sf_X11_denied bw_507 sv_X11_denied (rcC_11 sC_0) rfl ⟨rfl, rfl⟩ ⟨Nat.le_of_ble_eq_true rfl, Nat.le_of_ble_eq_true rfl⟩ rfl rfl (Nat.le_of_ble_eq_true rfl) dX11_scent_53 (fun H locs hP hS => ?_)
        obtain ⟨g23, h⟩ := gd_inv h
        exact end_z X hr hk hP hS (Decidable.not_not.mp g23) h dX11_scent_56
      · rw [if_neg c19] at h
        refine lv_aload_n hx hb dX11_scent_43 rfl (lv_at hl 0 rfl) ?_
        obtain ⟨r24, M25, hc26, h⟩ := bnd_inv h
        refine gV_i (As := []) X hP hS hl.1 (c_X11_done l D cA q aK aV hq hc26) sf_X11_done bw_519 sv_X11_done (rcC_11 sC_0) rfl ⟨rfl, rfl⟩ ⟨Nat.le_of_ble_eq_true rfl, Nat.le_of_ble_eq_true rfl⟩ rfl rfl (Nat.le_of_ble_eq_true rfl) dX11_scent_44 (fun H locs hP hS => ?_)
        refine lv_goto (tgt := 56) hx hb dX11_scent_47 (by decide) ?_
        obtain ⟨g27, h⟩ := gd_inv h
        exact end_z X hr hk hP hS (Decidable.not_not.mp g27) h dX11_scent_56
    · rw [if_pos c14] at h
      refine lv_aload_n hx hb dX11_scent_24 rfl (lv_at hl 0 rfl) ?_
      refine lv_iconst (v := 1) hx hb dX11_scent_25 (by decide) ?_
      obtain ⟨r28, M29, hc30, h⟩ := bnd_inv h
      refine gV_i (As := [.int (1 : Int32)]) X hP hS hl.1 (c_X11_denied l D cA q aK aV hq hc30) sf_X11_denied bw_507 sv_X11_denied (rcC_11 sC_0) rfl ⟨rfl, rfl⟩ ⟨Nat.le_of_ble_eq_true rfl, Nat.le_of_ble_eq_true rfl⟩ rfl rfl (Nat.le_of_ble_eq_true rfl) dX11_scent_26 (fun H locs hP hS => ?_)
      obtain ⟨g31, h⟩ := gd_inv h
      exact end_z X hr hk hP hS (Decidable.not_not.mp g31) h dX11_scent_29
