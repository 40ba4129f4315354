theorem dX12_weeks_0 : decode cX12_weeks 0 = .ok (.aload_n 0, 1) := by decide +kernel
theorem dX12_weeks_1 : decode cX12_weeks 1 = .ok (.iload_n 1, 1) := by decide +kernel
theorem dX12_weeks_2 : decode cX12_weeks 2 = .ok (.sipush 300, 3) := by decide +kernel
theorem dX12_weeks_5 : decode cX12_weeks 5 = .ok (.invokevirtual 251, 3) := by decide +kernel
theorem dX12_weeks_8 : decode cX12_weeks 8 = .ok (.ifCond .ne 9, 3) := by decide +kernel
theorem dX12_weeks_11 : decode cX12_weeks 11 = .ok (.aload_n 0, 1) := by decide +kernel
theorem dX12_weeks_12 : decode cX12_weeks 12 = .ok (.iconst 1, 1) := by decide +kernel
theorem dX12_weeks_13 : decode cX12_weeks 13 = .ok (.invokevirtual 91, 3) := by decide +kernel
theorem dX12_weeks_16 : decode cX12_weeks 16 = .ok (.ireturn, 1) := by decide +kernel
theorem dX12_weeks_17 : decode cX12_weeks 17 = .ok (.aload_n 0, 1) := by decide +kernel
theorem dX12_weeks_18 : decode cX12_weeks 18 = .ok (.getfield 7, 3) := by decide +kernel
theorem dX12_weeks_21 : decode cX12_weeks 21 = .ok (.sipush 2016, 3) := by decide +kernel
theorem dX12_weeks_24 : decode cX12_weeks 24 = .ok (.iconst 0, 1) := by decide +kernel
theorem dX12_weeks_25 : decode cX12_weeks 25 = .ok (.iastore, 1) := by decide +kernel
theorem dX12_weeks_26 : decode cX12_weeks 26 = .ok (.aload_n 0, 1) := by decide +kernel
theorem dX12_weeks_27 : decode cX12_weeks 27 = .ok (.iconst 0, 1) := by decide +kernel
theorem dX12_weeks_28 : decode cX12_weeks 28 = .ok (.putfield 269, 3) := by decide +kernel
theorem dX12_weeks_31 : decode cX12_weeks 31 = .ok (.aload_n 0, 1) := by decide +kernel
theorem dX12_weeks_32 : decode cX12_weeks 32 = .ok (.iconst 0, 1) := by decide +kernel
theorem dX12_weeks_33 : decode cX12_weeks 33 = .ok (.putfield 272, 3) := by decide +kernel
theorem dX12_weeks_36 : decode cX12_weeks 36 = .ok (.iconst 1, 1) := by decide +kernel
theorem dX12_weeks_37 : decode cX12_weeks 37 = .ok (.istore_n 2, 1) := by decide +kernel
theorem dX12_weeks_38 : decode cX12_weeks 38 = .ok (.iload_n 2, 1) := by decide +kernel
theorem dX12_weeks_39 : decode cX12_weeks 39 = .ok (.ifCond .eq 18, 3) := by decide +kernel
theorem dX12_weeks_42 : decode cX12_weeks 42 = .ok (.aload_n 0, 1) := by decide +kernel
theorem dX12_weeks_43 : decode cX12_weeks 43 = .ok (.getfield 136, 3) := by decide +kernel
theorem dX12_weeks_46 : decode cX12_weeks 46 = .ok (.ifCond .eq 11, 3) := by decide +kernel
theorem dX12_weeks_49 : decode cX12_weeks 49 = .ok (.aload_n 0, 1) := by decide +kernel
theorem dX12_weeks_50 : decode cX12_weeks 50 = .ok (.invokevirtual 278, 3) := by decide +kernel
theorem dX12_weeks_53 : decode cX12_weeks 53 = .ok (.istore_n 2, 1) := by decide +kernel
theorem dX12_weeks_54 : decode cX12_weeks 54 = .ok (.goto (-16), 3) := by decide +kernel
theorem dX12_weeks_57 : decode cX12_weeks 57 = .ok (.aload_n 0, 1) := by decide +kernel
theorem dX12_weeks_58 : decode cX12_weeks 58 = .ok (.getfield 161, 3) := by decide +kernel
theorem dX12_weeks_61 : decode cX12_weeks 61 = .ok (.ifCond .ne 16, 3) := by decide +kernel
theorem dX12_weeks_64 : decode cX12_weeks 64 = .ok (.aload_n 0, 1) := by decide +kernel
theorem dX12_weeks_65 : decode cX12_weeks 65 = .ok (.getfield 269, 3) := by decide +kernel
theorem dX12_weeks_68 : decode cX12_weeks 68 = .ok (.ifCond .le 9, 3) := by decide +kernel
theorem dX12_weeks_71 : decode cX12_weeks 71 = .ok (.aload_n 0, 1) := by decide +kernel
theorem dX12_weeks_72 : decode cX12_weeks 72 = .ok (.iconst 2, 1) := by decide +kernel
theorem dX12_weeks_73 : decode cX12_weeks 73 = .ok (.invokevirtual 173, 3) := by decide +kernel
theorem dX12_weeks_76 : decode cX12_weeks 76 = .ok (.pop, 1) := by decide +kernel
theorem dX12_weeks_77 : decode cX12_weeks 77 = .ok (.aload_n 0, 1) := by decide +kernel
theorem dX12_weeks_78 : decode cX12_weeks 78 = .ok (.getfield 161, 3) := by decide +kernel
theorem dX12_weeks_81 : decode cX12_weeks 81 = .ok (.ifCond .ne 51, 3) := by decide +kernel
theorem dX12_weeks_84 : decode cX12_weeks 84 = .ok (.aload_n 0, 1) := by decide +kernel
theorem dX12_weeks_85 : decode cX12_weeks 85 = .ok (.getfield 7, 3) := by decide +kernel
theorem dX12_weeks_88 : decode cX12_weeks 88 = .ok (.bipush 8, 2) := by decide +kernel
theorem dX12_weeks_90 : decode cX12_weeks 90 = .ok (.aload_n 0, 1) := by decide +kernel
theorem dX12_weeks_91 : decode cX12_weeks 91 = .ok (.getfield 7, 3) := by decide +kernel
theorem dX12_weeks_94 : decode cX12_weeks 94 = .ok (.sipush 2016, 3) := by decide +kernel
theorem dX12_weeks_97 : decode cX12_weeks 97 = .ok (.iaload, 1) := by decide +kernel
theorem dX12_weeks_98 : decode cX12_weeks 98 = .ok (.iastore, 1) := by decide +kernel
theorem dX12_weeks_99 : decode cX12_weeks 99 = .ok (.sipush 134, 3) := by decide +kernel
theorem dX12_weeks_102 : decode cX12_weeks 102 = .ok (.istore_n 3, 1) := by decide +kernel
theorem dX12_weeks_103 : decode cX12_weeks 103 = .ok (.iload_n 3, 1) := by decide +kernel
theorem dX12_weeks_104 : decode cX12_weeks 104 = .ok (.sipush 494, 3) := by decide +kernel
theorem dX12_weeks_107 : decode cX12_weeks 107 = .ok (.if_icmp .ge 25, 3) := by decide +kernel
theorem dX12_weeks_110 : decode cX12_weeks 110 = .ok (.aload_n 0, 1) := by decide +kernel
theorem dX12_weeks_111 : decode cX12_weeks 111 = .ok (.getfield 7, 3) := by decide +kernel
theorem dX12_weeks_114 : decode cX12_weeks 114 = .ok (.iload_n 3, 1) := by decide +kernel
theorem dX12_weeks_115 : decode cX12_weeks 115 = .ok (.aload_n 0, 1) := by decide +kernel
theorem dX12_weeks_116 : decode cX12_weeks 116 = .ok (.getfield 7, 3) := by decide +kernel
theorem dX12_weeks_119 : decode cX12_weeks 119 = .ok (.sipush 2008, 3) := by decide +kernel
theorem dX12_weeks_122 : decode cX12_weeks 122 = .ok (.iload_n 3, 1) := by decide +kernel
theorem dX12_weeks_123 : decode cX12_weeks 123 = .ok (.iadd, 1) := by decide +kernel
theorem dX12_weeks_124 : decode cX12_weeks 124 = .ok (.iaload, 1) := by decide +kernel
theorem dX12_weeks_125 : decode cX12_weeks 125 = .ok (.iastore, 1) := by decide +kernel
theorem dX12_weeks_126 : decode cX12_weeks 126 = .ok (.iinc 3 1, 3) := by decide +kernel
theorem dX12_weeks_129 : decode cX12_weeks 129 = .ok (.goto (-26), 3) := by decide +kernel
theorem dX12_weeks_132 : decode cX12_weeks 132 = .ok (.aload_n 0, 1) := by decide +kernel
theorem dX12_weeks_133 : decode cX12_weeks 133 = .ok (.aload_n 0, 1) := by decide +kernel
theorem dX12_weeks_134 : decode cX12_weeks 134 = .ok (.getfield 272, 3) := by decide +kernel
theorem dX12_weeks_137 : decode cX12_weeks 137 = .ok (.invokevirtual 257, 3) := by decide +kernel
theorem dX12_weeks_140 : decode cX12_weeks 140 = .ok (.ireturn, 1) := by decide +kernel
set_option maxRecDepth 100000 in
set_option maxHeartbeats 8000000 in
theorem c_X12_weeks (l : Launch) (D : va_G) (cA : Nat → ClassId) (q aK aV : Nat → Nat) (hq : injG 20 q) {a1 : Int32} {M M0 : Mem} {r0 : Int32} (h : f_X12_weeks a1 M = some (r0, M0)) : Met l yX12_weeks (.code yX12_weeks cX12_weeks 4 (some .int) :: BW) ({ frames := 14, cells := 0, slots := 0, locals := 341 } : Room) (va_Pc [.ref (q 0), .int a1] (CB 20 (ceR cA q) D cA q aK aV M)) (Qi 20 (ceR cA q) D q r0 M0) 0 0 (AqG 20 q) := by
  refine gMet RX12 (by decide +kernel) rfl hq (Nat.le_of_ble_eq_true rfl) ?_
  intro p e s m below meth c ls X hr hk hP hS hl
  have hx := X.1
  have hb := X.2.1
  have hl : lv_has ls 4 [(0, .ref (q 0)), (1, .int a1)] := hl
  rw [f_X12_weeks] at h
  have hL103 : ∀ (fu : Nat) (b3 : Int32) (M : Mem) (res : (Unit) × Mem) (H : Heap) (locs : List Loc) (ls : Array Slot), f_X12_weeks_L103 fu b3 M = some res → va_P D vwCl (wsG 20 (ceR cA q) q M) H → va_S (AqG 20 q) s.heap H locs → lv_has ls 4 [(0, .ref (q 0)), (3, .int b3)] → (∀ (H : Heap) (locs : List Loc) (ls : Array Slot), va_P D vwCl (wsG 20 (ceR cA q) q res.2) H → va_S (AqG 20 q) s.heap H locs → lv_has ls 4 [(0, .ref (q 0))] → W p l e ({ frames := 14, cells := 0, slots := 0, locals := 341 } : Room) s m [.ref (q 0), .int a1].toArray below meth c H locs 0 0 (MQ below (Qi 20 (ceR cA q) D q r0 M0) [.ref (q 0), .int a1].toArray s 0 0 (AqG 20 q)) (F0 m 132 ls [])) → W p l e ({ frames := 14, cells := 0, slots := 0, locals := 341 } : Room) s m [.ref (q 0), .int a1].toArray below meth c H locs 0 0 (MQ below (Qi 20 (ceR cA q) D q r0 M0) [.ref (q 0), .int a1].toArray s 0 0 (AqG 20 q)) (F0 m 103 ls []) := by
    intro fu
    induction fu with
    | zero => intro b3 M res H locs ls h; exact absurd h (by simp [f_X12_weeks_L103])
    | succ fu ih =>
      intro b3 M res H locs ls h hP hS hl K103_0
      rw [f_X12_weeks_L103] at h
      refine lv_iload_n hx hb dX12_weeks_103 rfl (lv_at hl 1 rfl) ?_
      refine lv_sipush (v := 494) hx hb dX12_weeks_104 (by decide) ?_
      refine lv_icmp_ge (tgt := 132) hx hb dX12_weeks_107 (by decide) (fun c35 => ?_) (fun c35 => ?_)
      · rw [if_pos c35] at h
        cases h
        exact K103_0 _ _ _ hP hS (lv_sub hl [0] rfl)
      · rw [if_neg c35] at h
        refine lv_aload_n hx hb dX12_weeks_110 rfl (lv_at hl 0 rfl) ?_
        refine gfR_12_0 X hP sR_0 bw_1323 dX12_weeks_111 ?_
        refine lv_iload_n hx hb dX12_weeks_114 rfl (lv_at hl 1 rfl) ?_
        refine lv_aload_n hx hb dX12_weeks_115 rfl (lv_at hl 0 rfl) ?_
        refine gfR_12_0 X hP sR_0 bw_1323 dX12_weeks_116 ?_
        refine lv_sipush (v := 2008) hx hb dX12_weeks_119 (by decide) ?_
        refine lv_iload_n hx hb dX12_weeks_122 rfl (lv_at hl 1 rfl) ?_
        refine lv_iadd hx hb dX12_weeks_123 ?_
        obtain ⟨g36, h⟩ := gd_inv h
        refine ldR_ia X hP sR_1 zR_1 g36 dX12_weeks_124 ?_
        obtain ⟨g37, h⟩ := gd_inv h
        obtain ⟨M38, eM38, h⟩ := lt_inv h
        refine stR_ia X hP hS sR_1 zR_1 g37 eM38 dX12_weeks_125 (fun H locs hP hS => ?_)
        obtain ⟨y39, ey39, h⟩ := lt_inv h
        refine lv_iinc (v := y39) (lv' := [(3, .int y39), (0, .ref (q 0))]) hx hb dX12_weeks_126 hl (k := 1) rfl (by rw [ey39]; rfl) (by decide) rfl (fun ls hl => ?_)
        refine lv_goto (tgt := 103) hx hb dX12_weeks_129 (by decide) ?_
        exact ih _ _ res _ _ _ h hP hS (lv_sub hl [1, 0] rfl) K103_0
  have hJ77 : ∀ (M : Mem) (H : Heap) (locs : List Loc) (ls : Array Slot), f_X12_weeks_J77 M = some (r0, M0) → va_P D vwCl (wsG 20 (ceR cA q) q M) H → va_S (AqG 20 q) s.heap H locs → lv_has ls 4 [(0, .ref (q 0))] → W p l e ({ frames := 14, cells := 0, slots := 0, locals := 341 } : Room) s m [.ref (q 0), .int a1].toArray below meth c H locs 0 0 (MQ below (Qi 20 (ceR cA q) D q r0 M0) [.ref (q 0), .int a1].toArray s 0 0 (AqG 20 q)) (F0 m 77 ls []) := by
    intro M H locs ls h hP hS hl
    rw [f_X12_weeks_J77] at h
    refine lv_aload_n hx hb dX12_weeks_77 rfl (lv_at hl 0 rfl) ?_
    refine gfR_12_18 X hP sR_0 bw_1341 dX12_weeks_78 ?_
    refine lv_if_ne (tgt := 132) hx hb dX12_weeks_81 (by decide) (fun c24 => ?_) (fun c24 => ?_)
    · rw [if_neg c24] at h
      refine lv_aload_n hx hb dX12_weeks_132 rfl (lv_at hl 0 rfl) ?_
      refine lv_aload_n hx hb dX12_weeks_133 rfl (lv_at hl 0 rfl) ?_
      refine gfR_12_22 X hP sR_0 bw_1345 dX12_weeks_134 ?_
      obtain ⟨r25, M26, hc27, h⟩ := bnd_inv h
      refine gV_i (As := [.int (gI M 0 22)]) X hP hS hl.1 (c_X12_taken l D cA q aK aV hq hc27) sf_X12_taken bw_1635 sv_X12_taken (rcR_12 sR_0) rfl ⟨rfl, rfl⟩ ⟨Nat.le_of_ble_eq_true rfl, Nat.le_of_ble_eq_true rfl⟩ rfl rfl (Nat.le_of_ble_eq_true rfl) dX12_weeks_137 (fun H locs hP hS => ?_)
      exact end_i X hr hk hP hS h dX12_weeks_140
    · rw [if_pos c24] at h
      refine lv_aload_n hx hb dX12_weeks_84 rfl (lv_at hl 0 rfl) ?_
      refine gfR_12_0 X hP sR_0 bw_1323 dX12_weeks_85 ?_
      refine lv_bipush (v := 8) hx hb dX12_weeks_88 (by decide) ?_
      refine lv_aload_n hx hb dX12_weeks_90 rfl (lv_at hl 0 rfl) ?_
      refine gfR_12_0 X hP sR_0 bw_1323 dX12_weeks_91 ?_
      refine lv_sipush (v := 2016) hx hb dX12_weeks_94 (by decide) ?_
      refine ldR_ia X hP sR_1 zR_1 (by decide) dX12_weeks_97 ?_
      refine topE (y := (gI M 1 2016)) rfl ?_
      obtain ⟨M28, eM28, h⟩ := lt_inv h
      refine stR_ia X hP hS sR_1 zR_1 (by decide) eM28 dX12_weeks_98 (fun H locs hP hS => ?_)
      refine lv_sipush (v := 134) hx hb dX12_weeks_99 (by decide) ?_
      refine lv_istore_n (lv' := [(3, .int (134 : Int32)), (0, .ref (q 0))]) hx hb dX12_weeks_102 rfl hl (by decide) rfl (fun ls hl => ?_)
      obtain ⟨s29, M30, hc31, h⟩ := bnd_inv h
      try dsimp only at h
      refine hL103  fz _ _ _ _ _ _ hc31 hP hS (lv_sub hl [1, 0] rfl) (fun H locs ls hP hS hl => ?_)
      have hl : lv_has ls 4 [(0, .ref (q 0))] := hl
      refine lv_aload_n hx hb dX12_weeks_132 rfl (lv_at hl 0 rfl) ?_
      refine lv_aload_n hx hb dX12_weeks_133 rfl (lv_at hl 0 rfl) ?_
      refine gfR_12_22 X hP sR_0 bw_1345 dX12_weeks_134 ?_
      obtain ⟨r32, M33, hc34, h⟩ := bnd_inv h
      refine gV_i (As := [.int (gI M30 0 22)]) X hP hS hl.1 (c_X12_taken l D cA q aK aV hq hc34) sf_X12_taken bw_1635 sv_X12_taken (rcR_12 sR_0) rfl ⟨rfl, rfl⟩ ⟨Nat.le_of_ble_eq_true rfl, Nat.le_of_ble_eq_true rfl⟩ rfl rfl (Nat.le_of_ble_eq_true rfl) dX12_weeks_137 (fun H locs hP hS => ?_)
      exact end_i X hr hk hP hS h dX12_weeks_140
  have hL38 : ∀ (fu : Nat) (b2 : Int32) (M : Mem) (res : (Unit) × Mem) (H : Heap) (locs : List Loc) (ls : Array Slot), f_X12_weeks_L38 fu b2 M = some res → va_P D vwCl (wsG 20 (ceR cA q) q M) H → va_S (AqG 20 q) s.heap H locs → lv_has ls 4 [(0, .ref (q 0)), (2, .int b2)] → (∀ (H : Heap) (locs : List Loc) (ls : Array Slot), va_P D vwCl (wsG 20 (ceR cA q) q res.2) H → va_S (AqG 20 q) s.heap H locs → lv_has ls 4 [(0, .ref (q 0))] → W p l e ({ frames := 14, cells := 0, slots := 0, locals := 341 } : Room) s m [.ref (q 0), .int a1].toArray below meth c H locs 0 0 (MQ below (Qi 20 (ceR cA q) D q r0 M0) [.ref (q 0), .int a1].toArray s 0 0 (AqG 20 q)) (F0 m 57 ls [])) → W p l e ({ frames := 14, cells := 0, slots := 0, locals := 341 } : Room) s m [.ref (q 0), .int a1].toArray below meth c H locs 0 0 (MQ below (Qi 20 (ceR cA q) D q r0 M0) [.ref (q 0), .int a1].toArray s 0 0 (AqG 20 q)) (F0 m 38 ls []) := by
    intro fu
    induction fu with
    | zero => intro b2 M res H locs ls h; exact absurd h (by simp [f_X12_weeks_L38])
    | succ fu ih =>
      intro b2 M res H locs ls h hP hS hl K38_0
      rw [f_X12_weeks_L38] at h
      refine lv_iload_n hx hb dX12_weeks_38 rfl (lv_at hl 1 rfl) ?_
      refine lv_if_eq (tgt := 57) hx hb dX12_weeks_39 (by decide) (fun c19 => ?_) (fun c19 => ?_)
      · rw [if_pos c19] at h
        cases h
        exact K38_0 _ _ _ hP hS (lv_sub hl [0] rfl)
      · rw [if_neg c19] at h
        refine lv_aload_n hx hb dX12_weeks_42 rfl (lv_at hl 0 rfl) ?_
        refine gfR_12_12 X hP sR_0 bw_1335 dX12_weeks_43 ?_
        refine lv_if_eq (tgt := 57) hx hb dX12_weeks_46 (by decide) (fun c20 => ?_) (fun c20 => ?_)
        · rw [if_pos c20] at h
          cases h
          exact K38_0 _ _ _ hP hS (lv_sub hl [0] rfl)
        · rw [if_neg c20] at h
          refine lv_aload_n hx hb dX12_weeks_49 rfl (lv_at hl 0 rfl) ?_
          obtain ⟨r21, M22, hc23, h⟩ := bnd_inv h
          refine gV_i (As := []) X hP hS hl.1 (c_X12_weekStep l D cA q aK aV hq hc23) sf_X12_weekStep bw_1647 sv_X12_weekStep (rcR_12 sR_0) rfl ⟨rfl, rfl⟩ ⟨Nat.le_of_ble_eq_true rfl, Nat.le_of_ble_eq_true rfl⟩ rfl rfl (Nat.le_of_ble_eq_true rfl) dX12_weeks_50 (fun H locs hP hS => ?_)
          refine lv_istore_n (lv' := [(2, .int r21), (0, .ref (q 0))]) hx hb dX12_weeks_53 rfl hl (by decide) rfl (fun ls hl => ?_)
          refine lv_goto (tgt := 38) hx hb dX12_weeks_54 (by decide) ?_
          exact ih _ _ res _ _ _ h hP hS (lv_sub hl [1, 0] rfl) K38_0
  refine lv_aload_n hx hb dX12_weeks_0 rfl (lv_at hl 0 rfl) ?_
  refine lv_iload_n hx hb dX12_weeks_1 rfl (lv_at hl 1 rfl) ?_
  refine lv_sipush (v := 300) hx hb dX12_weeks_2 (by decide) ?_
  obtain ⟨r1, M2, hc3, h⟩ := bnd_inv h
  refine gV_i (As := [.int a1, .int (300 : Int32)]) X hP hS hl.1 (c_X12_begins l D cA q aK aV hq hc3) sf_X12_begins bw_1510 sv_X12_begins (rcR_12 sR_0) rfl ⟨rfl, rfl⟩ ⟨Nat.le_of_ble_eq_true rfl, Nat.le_of_ble_eq_true rfl⟩ rfl rfl (Nat.le_of_ble_eq_true rfl) dX12_weeks_5 (fun H locs hP hS => ?_)
  refine lv_if_ne (tgt := 17) hx hb dX12_weeks_8 (by decide) (fun c4 => ?_) (fun c4 => ?_)
  · rw [if_neg c4] at h
    refine lv_aload_n hx hb dX12_weeks_17 rfl (lv_at hl 0 rfl) ?_
    refine gfR_12_0 X hP sR_0 bw_1323 dX12_weeks_18 ?_
    refine lv_sipush (v := 2016) hx hb dX12_weeks_21 (by decide) ?_
    refine lv_iconst (v := 0) hx hb dX12_weeks_24 (by decide) ?_
    obtain ⟨M5, eM5, h⟩ := lt_inv h
    refine stR_ia X hP hS sR_1 zR_1 (by decide) eM5 dX12_weeks_25 (fun H locs hP hS => ?_)
    refine lv_aload_n hx hb dX12_weeks_26 rfl (lv_at hl 0 rfl) ?_
    refine lv_iconst (v := 0) hx hb dX12_weeks_27 (by decide) ?_
    obtain ⟨M6, eM6, h⟩ := lt_inv h
    refine pfR_12_21 X hP hS sR_0 bw_1344 eM6 dX12_weeks_28 (fun H locs hP hS => ?_)
    refine lv_aload_n hx hb dX12_weeks_31 rfl (lv_at hl 0 rfl) ?_
    refine lv_iconst (v := 0) hx hb dX12_weeks_32 (by decide) ?_
    obtain ⟨M7, eM7, h⟩ := lt_inv h
    refine pfR_12_22 X hP hS sR_0 bw_1345 eM7 dX12_weeks_33 (fun H locs hP hS => ?_)
    refine lv_iconst (v := 1) hx hb dX12_weeks_36 (by decide) ?_
    refine lv_istore_n (lv' := [(2, .int (1 : Int32)), (0, .ref (q 0)), (1, .int a1)]) hx hb dX12_weeks_37 rfl hl (by decide) rfl (fun ls hl => ?_)
    obtain ⟨s8, M9, hc10, h⟩ := bnd_inv h
    try dsimp only at h
    refine hL38  fz _ _ _ _ _ _ hc10 hP hS (lv_sub hl [1, 0] rfl) (fun H locs ls hP hS hl => ?_)
    have hl : lv_has ls 4 [(0, .ref (q 0))] := hl
    refine lv_aload_n hx hb dX12_weeks_57 rfl (lv_at hl 0 rfl) ?_
    refine gfR_12_18 X hP sR_0 bw_1341 dX12_weeks_58 ?_
    refine lv_if_ne (tgt := 77) hx hb dX12_weeks_61 (by decide) (fun c11 => ?_) (fun c11 => ?_)
    · rw [if_neg c11] at h
      exact hJ77  _ _ _ _ h hP hS (lv_sub hl [0] rfl)
    · rw [if_pos c11] at h
      refine lv_aload_n hx hb dX12_weeks_64 rfl (lv_at hl 0 rfl) ?_
      refine gfR_12_21 X hP sR_0 bw_1344 dX12_weeks_65 ?_
      refine lv_if_le (tgt := 77) hx hb dX12_weeks_68 (by decide) (fun c12 => ?_) (fun c12 => ?_)
      · rw [if_pos c12] at h
        exact hJ77  _ _ _ _ h hP hS (lv_sub hl [0] rfl)
      · rw [if_neg c12] at h
        refine lv_aload_n hx hb dX12_weeks_71 rfl (lv_at hl 0 rfl) ?_
        refine lv_iconst (v := 2) hx hb dX12_weeks_72 (by decide) ?_
        obtain ⟨r13, M14, hc15, h⟩ := bnd_inv h
        refine gV_i (As := [.int (2 : Int32)]) X hP hS hl.1 (c_X12_fails l D cA q aK aV hq hc15) sf_X12_fails bw_1545 sv_X12_fails (rcR_12 sR_0) rfl ⟨rfl, rfl⟩ ⟨Nat.le_of_ble_eq_true rfl, Nat.le_of_ble_eq_true rfl⟩ rfl rfl (Nat.le_of_ble_eq_true rfl) dX12_weeks_73 (fun H locs hP hS => ?_)
        refine lv_pop hx hb dX12_weeks_76 rfl ?_
        exact hJ77  _ _ _ _ h hP hS (lv_sub hl [0] rfl)
  · rw [if_pos c4] at h
    refine lv_aload_n hx hb dX12_weeks_11 rfl (lv_at hl 0 rfl) ?_
    refine lv_iconst (v := 1) hx hb dX12_weeks_12 (by decide) ?_
    obtain ⟨r16, M17, hc18, h⟩ := bnd_inv h
    refine gV_i (As := [.int (1 : Int32)]) X hP hS hl.1 (c_X12_refuse l D cA q aK aV hq hc18) sf_X12_refuse bw_1530 sv_X12_refuse (rcR_12 sR_0) rfl ⟨rfl, rfl⟩ ⟨Nat.le_of_ble_eq_true rfl, Nat.le_of_ble_eq_true rfl⟩ rfl rfl (Nat.le_of_ble_eq_true rfl) dX12_weeks_13 (fun H locs hP hS => ?_)
    exact end_i X hr hk hP hS h dX12_weeks_16
theorem dX12_isSmell_0 : decode cX12_isSmell 0 = .ok (.iload_n 1, 1) := by decide +kernel
theorem dX12_isSmell_1 : decode cX12_isSmell 1 = .ok (.ifCond .lt 17, 3) := by decide +kernel
theorem dX12_isSmell_4 : decode cX12_isSmell 4 = .ok (.iload_n 1, 1) := by decide +kernel
theorem dX12_isSmell_5 : decode cX12_isSmell 5 = .ok (.aload_n 0, 1) := by decide +kernel
theorem dX12_isSmell_6 : decode cX12_isSmell 6 = .ok (.getfield 7, 3) := by decide +kernel
theorem dX12_isSmell_9 : decode cX12_isSmell 9 = .ok (.iconst 0, 1) := by decide +kernel
theorem dX12_isSmell_10 : decode cX12_isSmell 10 = .ok (.iaload, 1) := by decide +kernel
theorem dX12_isSmell_11 : decode cX12_isSmell 11 = .ok (.if_icmp .ge 7, 3) := by decide +kernel
theorem dX12_isSmell_14 : decode cX12_isSmell 14 = .ok (.iconst 1, 1) := by decide +kernel
theorem dX12_isSmell_15 : decode cX12_isSmell 15 = .ok (.goto 4, 3) := by decide +kernel
theorem dX12_isSmell_18 : decode cX12_isSmell 18 = .ok (.iconst 0, 1) := by decide +kernel
theorem dX12_isSmell_19 : decode cX12_isSmell 19 = .ok (.ireturn, 1) := by decide +kernel
set_option maxRecDepth 100000 in
set_option maxHeartbeats 8000000 in
theorem c_X12_isSmell (l : Launch) (D : va_G) (cA : Nat → ClassId) (q aK aV : Nat → Nat) (hq : injG 20 q) {a1 : Int32} {M M0 : Mem} {r0 : Int32} (h : f_X12_isSmell a1 M = some (r0, M0)) : Met l yX12_isSmell (.code yX12_isSmell cX12_isSmell 2 (some .boolean) :: BW) ({ frames := 1, cells := 0, slots := 0, locals := 13 } : Room) (va_Pc [.ref (q 0), .int a1] (CB 20 (ceR cA q) D cA q aK aV M)) (Qi 20 (ceR cA q) D q r0 M0) 0 0 (AqG 20 q) := by
  refine gMet RX12 (by decide +kernel) rfl hq (Nat.le_of_ble_eq_true rfl) ?_
  intro p e s m below meth c ls X hr hk hP hS hl
  have hx := X.1
  have hb := X.2.1
  have hl : lv_has ls 2 [(0, .ref (q 0)), (1, .int a1)] := hl
  rw [f_X12_isSmell] at h
  refine lv_iload_n hx hb dX12_isSmell_0 rfl (lv_at hl 1 rfl) ?_
  refine lv_if_lt (tgt := 18) hx hb dX12_isSmell_1 (by decide) (fun c1 => ?_) (fun c1 => ?_)
  · rw [if_pos c1] at h
    refine lv_iconst (v := 0) hx hb dX12_isSmell_18 (by decide) ?_
    exact end_z X hr hk hP hS (Or.inl rfl) h dX12_isSmell_19
  · rw [if_neg c1] at h
    refine lv_iload_n hx hb dX12_isSmell_4 rfl (lv_at hl 1 rfl) ?_
    refine lv_aload_n hx hb dX12_isSmell_5 rfl (lv_at hl 0 rfl) ?_
    refine gfR_12_0 X hP sR_0 bw_1323 dX12_isSmell_6 ?_
    refine lv_iconst (v := 0) hx hb dX12_isSmell_9 (by decide) ?_
    refine ldR_ia X hP sR_1 zR_1 (by decide) dX12_isSmell_10 ?_
    refine topE (y := (gI M 1 0)) rfl ?_
    refine lv_icmp_ge (tgt := 18) hx hb dX12_isSmell_11 (by decide) (fun c2 => ?_) (fun c2 => ?_)
    · rw [if_pos c2] at h
      refine lv_iconst (v := 0) hx hb dX12_isSmell_18 (by decide) ?_
      exact end_z X hr hk hP hS (Or.inl rfl) h dX12_isSmell_19
    · rw [if_neg c2] at h
      refine lv_iconst (v := 1) hx hb dX12_isSmell_14 (by decide) ?_
      refine lv_goto (tgt := 19) hx hb dX12_isSmell_15 (by decide) ?_
      exact end_z X hr hk hP hS (Or.inr rfl) h dX12_isSmell_19
theorem dX12_isCue_0 : decode cX12_isCue 0 = .ok (.iload_n 1, 1) := by decide +kernel
theorem dX12_isCue_1 : decode cX12_isCue 1 = .ok (.ifCond .lt 17, 3) := by decide +kernel
theorem dX12_isCue_4 : decode cX12_isCue 4 = .ok (.iload_n 1, 1) := by decide +kernel
theorem dX12_isCue_5 : decode cX12_isCue 5 = .ok (.aload_n 0, 1) := by decide +kernel
theorem dX12_isCue_6 : decode cX12_isCue 6 = .ok (.getfield 7, 3) := by decide +kernel
theorem dX12_isCue_9 : decode cX12_isCue 9 = .ok (.iconst 1, 1) := by decide +kernel
theorem dX12_isCue_10 : decode cX12_isCue 10 = .ok (.iaload, 1) := by decide +kernel
theorem dX12_isCue_11 : decode cX12_isCue 11 = .ok (.if_icmp .ge 7, 3) := by decide +kernel
theorem dX12_isCue_14 : decode cX12_isCue 14 = .ok (.iconst 1, 1) := by decide +kernel
theorem dX12_isCue_15 : decode cX12_isCue 15 = .ok (.goto 4, 3) := by decide +kernel
theorem dX12_isCue_18 : decode cX12_isCue 18 = .ok (.iconst 0, 1) := by decide +kernel
theorem dX12_isCue_19 : decode cX12_isCue 19 = .ok (.ireturn, 1) := by decide +kernel
set_option maxRecDepth 100000 in
set_option maxHeartbeats 8000000 in
theorem c_X12_isCue (l : Launch) (D : va_G) (cA : Nat → ClassId) (q aK aV : Nat → Nat) (hq : injG 20 q) {a1 : Int32} {M M0 : Mem} {r0 : Int32} (h : f_X12_isCue a1 M = some (r0, M0)) : Met l yX12_isCue (.code yX12_isCue cX12_isCue 2 (some .boolean) :: BW) ({ frames := 1, cells := 0, slots := 0, locals := 13 } : Room) (va_Pc [.ref (q 0), .int a1] (CB 20 (ceR cA q) D cA q aK aV M)) (Qi 20 (ceR cA q) D q r0 M0) 0 0 (AqG 20 q) := by
  refine gMet RX12 (by decide +kernel) rfl hq (Nat.le_of_ble_eq_true rfl) ?_
  intro p e s m below meth c ls X hr hk hP hS hl
  have hx := X.1
  have hb := X.2.1
  have hl : lv_has ls 2 [(0, .ref (q 0)), (1, .int a1)] := hl
  rw [f_X12_isCue] at h
  refine lv_iload_n hx hb dX12_isCue_0 rfl (lv_at hl 1 rfl) ?_
  refine lv_if_lt (tgt := 18) hx hb dX12_isCue_1 (by decide) (fun c1 => ?_) (fun c1 => ?_)
  · rw [if_pos c1] at h
    refine lv_iconst (v := 0) hx hb dX12_isCue_18 (by decide) ?_
    exact end_z X hr hk hP hS (Or.inl rfl) h dX12_isCue_19
  · rw [if_neg c1] at h
    refine lv_iload_n hx hb dX12_isCue_4 rfl (lv_at hl 1 rfl) ?_
    refine lv_aload_n hx hb dX12_isCue_5 rfl (lv_at hl 0 rfl) ?_
    refine gfR_12_0 X hP sR_0 bw_1323 dX12_isCue_6 ?_
    refine lv_iconst (v := 1) hx hb dX12_isCue_9 (by decide) ?_
    refine ldR_ia X hP sR_1 zR_1 (by decide) dX12_isCue_10 ?_
    refine topE (y := (gI M 1 1)) rfl ?_
    refine lv_icmp_ge (tgt := 18) hx hb dX12_isCue_11 (by decide) (fun c2 => ?_) (fun c2 => ?_)
    · rw [if_pos c2] at h
      refine lv_iconst (v := 0) hx hb dX12_isCue_18 (by decide) ?_
      exact end_z X hr hk hP hS (Or.inl rfl) h dX12_isCue_19
    · rw [if_neg c2] at h
      refine lv_iconst (v := 1) hx hb dX12_isCue_14 (by decide) ?_
      refine lv_goto (tgt := 19) hx hb dX12_isCue_15 (by decide) ?_
      exact end_z X hr hk hP hS (Or.inr rfl) h dX12_isCue_19
theorem dX12_isRule_0 : decode cX12_isRule 0 = .ok (.iload_n 1, 1) := by decide +kernel
theorem dX12_isRule_1 : decode cX12_isRule 1 = .ok (.ifCond .lt 17, 3) := by decide +kernel
theorem dX12_isRule_4 : decode cX12_isRule 4 = .ok (.iload_n 1, 1) := by decide +kernel
theorem dX12_isRule_5 : decode cX12_isRule 5 = .ok (.aload_n 0, 1) := by decide +kernel
theorem dX12_isRule_6 : decode cX12_isRule 6 = .ok (.getfield 7, 3) := by decide +kernel
theorem dX12_isRule_9 : decode cX12_isRule 9 = .ok (.iconst 2, 1) := by decide +kernel
theorem dX12_isRule_10 : decode cX12_isRule 10 = .ok (.iaload, 1) := by decide +kernel
theorem dX12_isRule_11 : decode cX12_isRule 11 = .ok (.if_icmp .ge 7, 3) := by decide +kernel
theorem dX12_isRule_14 : decode cX12_isRule 14 = .ok (.iconst 1, 1) := by decide +kernel
theorem dX12_isRule_15 : decode cX12_isRule 15 = .ok (.goto 4, 3) := by decide +kernel
theorem dX12_isRule_18 : decode cX12_isRule 18 = .ok (.iconst 0, 1) := by decide +kernel
theorem dX12_isRule_19 : decode cX12_isRule 19 = .ok (.ireturn, 1) := by decide +kernel
set_option maxRecDepth 100000 in
set_option maxHeartbeats 8000000 in
theorem c_X12_isRule (l : Launch) (D : va_G) (cA : Nat → ClassId) (q aK aV : Nat → Nat) (hq : injG 20 q) {a1 : Int32} {M M0 : Mem} {r0 : Int32} (h : f_X12_isRule a1 M = some (r0, M0)) : Met l yX12_isRule (.code yX12_isRule cX12_isRule 2 (some .boolean) :: BW) ({ frames := 1, cells := 0, slots := 0, locals := 13 } : Room) (va_Pc [.ref (q 0), .int a1] (CB 20 (ceR cA q) D cA q aK aV M)) (Qi 20 (ceR cA q) D q r0 M0) 0 0 (AqG 20 q) := by
  refine gMet RX12 (by decide +kernel) rfl hq (Nat.le_of_ble_eq_true rfl) ?_
  intro p e s m below meth c ls X hr hk hP hS hl
  have hx := X.1
  have hb := X.2.1
  have hl : lv_has ls 2 [(0, .ref (q 0)), (1, .int a1)] := hl
  rw [f_X12_isRule] at h
  refine lv_iload_n hx hb dX12_isRule_0 rfl (lv_at hl 1 rfl) ?_
  refine lv_if_lt (tgt := 18) hx hb dX12_isRule_1 (by decide) (fun c1 => ?_) (fun c1 => ?_)
  · rw [if_pos c1] at h
    refine lv_iconst (v := 0) hx hb dX12_isRule_18 (by decide) ?_
    exact end_z X hr hk hP hS (Or.inl rfl) h dX12_isRule_19
  · rw [if_neg c1] at h
    refine lv_iload_n hx hb dX12_isRule_4 rfl (lv_at hl 1 rfl) ?_
    refine lv_aload_n hx hb dX12_isRule_5 rfl (lv_at hl 0 rfl) ?_
    refine gfR_12_0 X hP sR_0 bw_1323 dX12_isRule_6 ?_
    refine lv_iconst (v := 2) hx hb dX12_isRule_9 (by decide) ?_
    refine ldR_ia X hP sR_1 zR_1 (by decide) dX12_isRule_10 ?_
    refine topE (y := (gI M 1 2)) rfl ?_
    refine lv_icmp_ge (tgt := 18) hx hb dX12_isRule_11 (by decide) (fun c2 => ?_) (fun c2 => ?_)
    · rw [if_pos c2] at h
      refine lv_iconst (v := 0) hx hb dX12_isRule_18 (by decide) ?_
      exact end_z X hr hk hP hS (Or.inl rfl) h dX12_isRule_19
    · rw [if_neg c2] at h
      refine lv_iconst (v := 1) hx hb dX12_isRule_14 (by decide) ?_
      refine lv_goto (tgt := 19) hx hb dX12_isRule_15 (by decide) ?_
      exact end_z X hr hk hP hS (Or.inr rfl) h dX12_isRule_19
theorem dX12_isPerson_0 : decode cX12_isPerson 0 = .ok (.lload_n 1, 1) := by decide +kernel
theorem dX12_isPerson_1 : decode cX12_isPerson 1 = .ok (.lconst 0, 1) := by decide +kernel
theorem dX12_isPerson_2 : decode cX12_isPerson 2 = .ok (.lcmp, 1) := by decide +kernel
theorem dX12_isPerson_3 : decode cX12_isPerson 3 = .ok (.ifCond .lt 19, 3) := by decide +kernel
theorem dX12_isPerson_6 : decode cX12_isPerson 6 = .ok (.lload_n 1, 1) := by decide +kernel
theorem dX12_isPerson_7 : decode cX12_isPerson 7 = .ok (.aload_n 0, 1) := by decide +kernel
theorem dX12_isPerson_8 : decode cX12_isPerson 8 = .ok (.getfield 7, 3) := by decide +kernel
theorem dX12_isPerson_11 : decode cX12_isPerson 11 = .ok (.iconst 3, 1) := by decide +kernel
theorem dX12_isPerson_12 : decode cX12_isPerson 12 = .ok (.iaload, 1) := by decide +kernel
theorem dX12_isPerson_13 : decode cX12_isPerson 13 = .ok (.i2l, 1) := by decide +kernel
theorem dX12_isPerson_14 : decode cX12_isPerson 14 = .ok (.lcmp, 1) := by decide +kernel
theorem dX12_isPerson_15 : decode cX12_isPerson 15 = .ok (.ifCond .ge 7, 3) := by decide +kernel
theorem dX12_isPerson_18 : decode cX12_isPerson 18 = .ok (.iconst 1, 1) := by decide +kernel
theorem dX12_isPerson_19 : decode cX12_isPerson 19 = .ok (.goto 4, 3) := by decide +kernel
theorem dX12_isPerson_22 : decode cX12_isPerson 22 = .ok (.iconst 0, 1) := by decide +kernel
theorem dX12_isPerson_23 : decode cX12_isPerson 23 = .ok (.ireturn, 1) := by decide +kernel
set_option maxRecDepth 100000 in
set_option maxHeartbeats 8000000 in
theorem c_X12_isPerson (l : Launch) (D : va_G) (cA : Nat → ClassId) (q aK aV : Nat → Nat) (hq : injG 20 q) {a1 : Int64} {M M0 : Mem} {r0 : Int32} (h : f_X12_isPerson a1 M = some (r0, M0)) : Met l yX12_isPerson (.code yX12_isPerson cX12_isPerson 3 (some .boolean) :: BW) ({ frames := 1, cells := 0, slots := 0, locals := 14 } : Room) (va_Pc [.ref (q 0), .long a1] (CB 20 (ceR cA q) D cA q aK aV M)) (Qi 20 (ceR cA q) D q r0 M0) 0 0 (AqG 20 q) := by
  refine gMet RX12 (by decide +kernel) rfl hq (Nat.le_of_ble_eq_true rfl) ?_
  intro p e s m below meth c ls X hr hk hP hS hl
  have hx := X.1
  have hb := X.2.1
  have hl : lv_has ls 3 [(0, .ref (q 0)), (1, .long a1)] := hl
  rw [f_X12_isPerson] at h
  refine lv_lload_n hx hb dX12_isPerson_0 rfl (lv_at hl 1 rfl) ?_
  refine lv_lconst (v := 0) hx hb dX12_isPerson_1 (by decide) ?_
  refine W.lcmp hx hb dX12_isPerson_2 ?_
  refine lv_if_lt (tgt := 22) hx hb dX12_isPerson_3 (by decide) (fun c1 => ?_) (fun c1 => ?_)
  · rw [if_pos c1] at h
    refine lv_iconst (v := 0) hx hb dX12_isPerson_22 (by decide) ?_
    exact end_z X hr hk hP hS (Or.inl rfl) h dX12_isPerson_23
  · rw [if_neg c1] at h
    refine lv_lload_n hx hb dX12_isPerson_6 rfl (lv_at hl 1 rfl) ?_
    refine lv_aload_n hx hb dX12_isPerson_7 rfl (lv_at hl 0 rfl) ?_
    refine gfR_12_0 X hP sR_0 bw_1323 dX12_isPerson_8 ?_
    refine lv_iconst (v := 3) hx hb dX12_isPerson_11 (by decide) ?_
    refine ldR_ia X hP sR_1 zR_1 (by decide) dX12_isPerson_12 ?_
    refine topE (y := (gI M 1 3)) rfl ?_
    refine lv_i2l hx hb dX12_isPerson_13 rfl ?_
    refine W.lcmp hx hb dX12_isPerson_14 ?_
    refine lv_if_ge (tgt := 22) hx hb dX12_isPerson_15 (by decide) (fun c2 => ?_) (fun c2 => ?_)
    · rw [if_pos c2] at h
      refine lv_iconst (v := 0) hx hb dX12_isPerson_22 (by decide) ?_
      exact end_z X hr hk hP hS (Or.inl rfl) h dX12_isPerson_23
    · rw [if_neg c2] at h
      refine lv_iconst (v := 1) hx hb dX12_isPerson_18 (by decide) ?_
      refine lv_goto (tgt := 23) hx hb dX12_isPerson_19 (by decide) ?_
      exact end_z X hr hk hP hS (Or.inr rfl) h dX12_isPerson_23
theorem dX12_isReader_0 : decode cX12_isReader 0 = .ok (.iload_n 1, 1) := by decide +kernel
theorem dX12_isReader_1 : decode cX12_isReader 1 = .ok (.ifCond .lt 17, 3) := by decide +kernel
theorem dX12_isReader_4 : decode cX12_isReader 4 = .ok (.iload_n 1, 1) := by decide +kernel
theorem dX12_isReader_5 : decode cX12_isReader 5 = .ok (.aload_n 0, 1) := by decide +kernel
theorem dX12_isReader_6 : decode cX12_isReader 6 = .ok (.getfield 7, 3) := by decide +kernel
theorem dX12_isReader_9 : decode cX12_isReader 9 = .ok (.iconst 4, 1) := by decide +kernel
theorem dX12_isReader_10 : decode cX12_isReader 10 = .ok (.iaload, 1) := by decide +kernel
theorem dX12_isReader_11 : decode cX12_isReader 11 = .ok (.if_icmp .ge 7, 3) := by decide +kernel
theorem dX12_isReader_14 : decode cX12_isReader 14 = .ok (.iconst 1, 1) := by decide +kernel
theorem dX12_isReader_15 : decode cX12_isReader 15 = .ok (.goto 4, 3) := by decide +kernel
theorem dX12_isReader_18 : decode cX12_isReader 18 = .ok (.iconst 0, 1) := by decide +kernel
theorem dX12_isReader_19 : decode cX12_isReader 19 = .ok (.ireturn, 1) := by decide +kernel
set_option maxRecDepth 100000 in
set_option maxHeartbeats 8000000 in
theorem c_X12_isReader (l : Launch) (D : va_G) (cA : Nat → ClassId) (q aK aV : Nat → Nat) (hq : injG 20 q) {a1 : Int32} {M M0 : Mem} {r0 : Int32} (h : f_X12_isReader a1 M = some (r0, M0)) : Met l yX12_isReader (.code yX12_isReader cX12_isReader 2 (some .boolean) :: BW) ({ frames := 1, cells := 0, slots := 0, locals := 13 } : Room) (va_Pc [.ref (q 0), .int a1] (CB 20 (ceR cA q) D cA q aK aV M)) (Qi 20 (ceR cA q) D q r0 M0) 0 0 (AqG 20 q) := by
  refine gMet RX12 (by decide +kernel) rfl hq (Nat.le_of_ble_eq_true rfl) ?_
  intro p e s m below meth c ls X hr hk hP hS hl
  have hx := X.1
  have hb := X.2.1
  have hl : lv_has ls 2 [(0, .ref (q 0)), (1, .int a1)] := hl
  rw [f_X12_isReader] at h
  refine lv_iload_n hx hb dX12_isReader_0 rfl (lv_at hl 1 rfl) ?_
  refine lv_if_lt (tgt := 18) hx hb dX12_isReader_1 (by decide) (fun c1 => ?_) (fun c1 => ?_)
  · rw [if_pos c1] at h
    refine lv_iconst (v := 0) hx hb dX12_isReader_18 (by decide) ?_
    exact end_z X hr hk hP hS (Or.inl rfl) h dX12_isReader_19
  · rw [if_neg c1] at h
    refine lv_iload_n hx hb dX12_isReader_4 rfl (lv_at hl 1 rfl) ?_
    refine lv_aload_n hx hb dX12_isReader_5 rfl (lv_at hl 0 rfl) ?_
    refine gfR_12_0 X hP sR_0 bw_1323 dX12_isReader_6 ?_
    refine lv_iconst (v := 4) hx hb dX12_isReader_9 (by decide) ?_
    refine ldR_ia X hP sR_1 zR_1 (by decide) dX12_isReader_10 ?_
    refine topE (y := (gI M 1 4)) rfl ?_
    refine lv_icmp_ge (tgt := 18) hx hb dX12_isReader_11 (by decide) (fun c2 => ?_) (fun c2 => ?_)
    · rw [if_pos c2] at h
      refine lv_iconst (v := 0) hx hb dX12_isReader_18 (by decide) ?_
      exact end_z X hr hk hP hS (Or.inl rfl) h dX12_isReader_19
    · rw [if_neg c2] at h
      refine lv_iconst (v := 1) hx hb dX12_isReader_14 (by decide) ?_
      refine lv_goto (tgt := 19) hx hb dX12_isReader_15 (by decide) ?_
      exact end_z X hr hk hP hS (Or.inr rfl) h dX12_isReader_19
theorem dX12_isIn_0 : decode cX12_isIn 0 = .ok (.iload_n 1, 1) := by decide +kernel
theorem dX12_isIn_1 : decode cX12_isIn 1 = .ok (.iload_n 2, 1) := by decide +kernel
theorem dX12_isIn_2 : decode cX12_isIn 2 = .ok (.ishr, 1) := by decide +kernel
theorem dX12_isIn_3 : decode cX12_isIn 3 = .ok (.iconst 1, 1) := by decide +kernel
theorem dX12_isIn_4 : decode cX12_isIn 4 = .ok (.iand, 1) := by decide +kernel
theorem dX12_isIn_5 : decode cX12_isIn 5 = .ok (.iconst 1, 1) := by decide +kernel
theorem dX12_isIn_6 : decode cX12_isIn 6 = .ok (.if_icmp .ne 7, 3) := by decide +kernel
theorem dX12_isIn_9 : decode cX12_isIn 9 = .ok (.iconst 1, 1) := by decide +kernel
theorem dX12_isIn_10 : decode cX12_isIn 10 = .ok (.goto 4, 3) := by decide +kernel
theorem dX12_isIn_13 : decode cX12_isIn 13 = .ok (.iconst 0, 1) := by decide +kernel
theorem dX12_isIn_14 : decode cX12_isIn 14 = .ok (.ireturn, 1) := by decide +kernel
set_option maxRecDepth 100000 in
set_option maxHeartbeats 8000000 in
theorem c_X12_isIn (l : Launch) (D : va_G) (cA : Nat → ClassId) (q aK aV : Nat → Nat) (hq : injG 20 q) {a1 : Int32} {a2 : Int32} {M M0 : Mem} {r0 : Int32} (h : f_X12_isIn a1 a2 M = some (r0, M0)) : Met l yX12_isIn (.code yX12_isIn cX12_isIn 3 (some .boolean) :: BW) ({ frames := 1, cells := 0, slots := 0, locals := 14 } : Room) (va_Pc [.ref (q 0), .int a1, .int a2] (CB 20 (ceR cA q) D cA q aK aV M)) (Qi 20 (ceR cA q) D q r0 M0) 0 0 (AqG 20 q) := by
  refine gMet RX12 (by decide +kernel) rfl hq (Nat.le_of_ble_eq_true rfl) ?_
  intro p e s m below meth c ls X hr hk hP hS hl
  have hx := X.1
  have hb := X.2.1
  have hl : lv_has ls 3 [(0, .ref (q 0)), (1, .int a1), (2, .int a2)] := hl
  rw [f_X12_isIn] at h
  refine lv_iload_n hx hb dX12_isIn_0 rfl (lv_at hl 1 rfl) ?_
  refine lv_iload_n hx hb dX12_isIn_1 rfl (lv_at hl 2 rfl) ?_
  refine lv_ishr hx hb dX12_isIn_2 ?_
  refine lv_iconst (v := 1) hx hb dX12_isIn_3 (by decide) ?_
  refine lv_iand hx hb dX12_isIn_4 ?_
  refine lv_iconst (v := 1) hx hb dX12_isIn_5 (by decide) ?_
  refine lv_icmp_ne (tgt := 13) hx hb dX12_isIn_6 (by decide) (fun c1 => ?_) (fun c1 => ?_)
  · rw [if_neg c1] at h
    refine lv_iconst (v := 0) hx hb dX12_isIn_13 (by decide) ?_
    exact end_z X hr hk hP hS (Or.inl rfl) h dX12_isIn_14
  · rw [if_pos c1] at h
    refine lv_iconst (v := 1) hx hb dX12_isIn_9 (by decide) ?_
    refine lv_goto (tgt := 14) hx hb dX12_isIn_10 (by decide) ?_
    exact end_z X hr hk hP hS (Or.inr rfl) h dX12_isIn_14
theorem dX12_bits_0 : decode cX12_bits 0 = .ok (.iconst 0, 1) := by decide +kernel
theorem dX12_bits_1 : decode cX12_bits 1 = .ok (.istore_n 1, 1) := by decide +kernel
theorem dX12_bits_2 : decode cX12_bits 2 = .ok (.iload_n 0, 1) := by decide +kernel
theorem dX12_bits_3 : decode cX12_bits 3 = .ok (.istore_n 2, 1) := by decide +kernel
theorem dX12_bits_4 : decode cX12_bits 4 = .ok (.iload_n 2, 1) := by decide +kernel
theorem dX12_bits_5 : decode cX12_bits 5 = .ok (.ifCond .eq 15, 3) := by decide +kernel
theorem dX12_bits_8 : decode cX12_bits 8 = .ok (.iinc 1 1, 3) := by decide +kernel
theorem dX12_bits_11 : decode cX12_bits 11 = .ok (.iload_n 2, 1) := by decide +kernel
theorem dX12_bits_12 : decode cX12_bits 12 = .ok (.iload_n 2, 1) := by decide +kernel
theorem dX12_bits_13 : decode cX12_bits 13 = .ok (.iconst 1, 1) := by decide +kernel
theorem dX12_bits_14 : decode cX12_bits 14 = .ok (.isub, 1) := by decide +kernel
theorem dX12_bits_15 : decode cX12_bits 15 = .ok (.iand, 1) := by decide +kernel
theorem dX12_bits_16 : decode cX12_bits 16 = .ok (.istore_n 2, 1) := by decide +kernel
theorem dX12_bits_17 : decode cX12_bits 17 = .ok (.goto (-13), 3) := by decide +kernel
theorem dX12_bits_20 : decode cX12_bits 20 = .ok (.iload_n 1, 1) := by decide +kernel
theorem dX12_bits_21 : decode cX12_bits 21 = .ok (.ireturn, 1) := by decide +kernel
set_option maxRecDepth 100000 in
set_option maxHeartbeats 8000000 in
theorem c_X12_bits (l : Launch) (D : va_G) (cA : Nat → ClassId) (q aK aV : Nat → Nat) (hq : injG 20 q) {a0 : Int32} {M M0 : Mem} {r0 : Int32} (h : f_X12_bits a0 M = some (r0, M0)) : Met l yX12_bits (.code yX12_bits cX12_bits 3 (some .int) :: BW) ({ frames := 1, cells := 0, slots := 0, locals := 14 } : Room) (va_Pc [.int a0] (CB 20 (ceR cA q) D cA q aK aV M)) (Qi 20 (ceR cA q) D q r0 M0) 0 0 (AqG 20 q) := by
  refine gMet RX12 (by decide +kernel) rfl hq (Nat.le_of_ble_eq_true rfl) ?_
  intro p e s m below meth c ls X hr hk hP hS hl
  have hx := X.1
  have hb := X.2.1
  have hl : lv_has ls 3 [(0, .int a0)] := hl
  rw [f_X12_bits] at h
  have hL4 : ∀ (fu : Nat) (b1 : Int32) (b2 : Int32) (M : Mem) (res : (Int32) × Mem) (H : Heap) (locs : List Loc) (ls : Array Slot), f_X12_bits_L4 fu b1 b2 M = some res → va_P D vwCl (wsG 20 (ceR cA q) q M) H → va_S (AqG 20 q) s.heap H locs → lv_has ls 3 [(1, .int b1), (2, .int b2)] → (∀ (H : Heap) (locs : List Loc) (ls : Array Slot), va_P D vwCl (wsG 20 (ceR cA q) q res.2) H → va_S (AqG 20 q) s.heap H locs → lv_has ls 3 [(1, .int (res.1))] → W p l e ({ frames := 1, cells := 0, slots := 0, locals := 14 } : Room) s m [.int a0].toArray below meth c H locs 0 0 (MQ below (Qi 20 (ceR cA q) D q r0 M0) [.int a0].toArray s 0 0 (AqG 20 q)) (F0 m 20 ls [])) → W p l e ({ frames := 1, cells := 0, slots := 0, locals := 14 } : Room) s m [.int a0].toArray below meth c H locs 0 0 (MQ below (Qi 20 (ceR cA q) D q r0 M0) [.int a0].toArray s 0 0 (AqG 20 q)) (F0 m 4 ls []) := by
    intro fu
    induction fu with
    | zero => intro b1 b2 M res H locs ls h; exact absurd h (by simp [f_X12_bits_L4])
    | succ fu ih =>
      intro b1 b2 M res H locs ls h hP hS hl K4_0
      rw [f_X12_bits_L4] at h
      refine lv_iload_n hx hb dX12_bits_4 rfl (lv_at hl 1 rfl) ?_
      refine lv_if_eq (tgt := 20) hx hb dX12_bits_5 (by decide) (fun c5 => ?_) (fun c5 => ?_)
      · rw [if_pos c5] at h
        cases h
        exact K4_0 _ _ _ hP hS (lv_sub hl [0] rfl)
      · rw [if_neg c5] at h
        obtain ⟨y6, ey6, h⟩ := lt_inv h
        refine lv_iinc (v := y6) (lv' := [(1, .int y6), (2, .int b2)]) hx hb dX12_bits_8 hl (k := 0) rfl (by rw [ey6]; rfl) (by decide) rfl (fun ls hl => ?_)
        refine lv_iload_n hx hb dX12_bits_11 rfl (lv_at hl 1 rfl) ?_
        refine lv_iload_n hx hb dX12_bits_12 rfl (lv_at hl 1 rfl) ?_
        refine lv_iconst (v := 1) hx hb dX12_bits_13 (by decide) ?_
        refine lv_isub hx hb dX12_bits_14 ?_
        refine lv_iand hx hb dX12_bits_15 ?_
        obtain ⟨y7, ey7, h⟩ := lt_inv h
        refine topE ey7 ?_
        refine lv_istore_n (lv' := [(2, .int y7), (1, .int y6)]) hx hb dX12_bits_16 rfl hl (by decide) rfl (fun ls hl => ?_)
        refine lv_goto (tgt := 4) hx hb dX12_bits_17 (by decide) ?_
        exact ih _ _ _ res _ _ _ h hP hS (lv_sub hl [1, 0] rfl) K4_0
  refine lv_iconst (v := 0) hx hb dX12_bits_0 (by decide) ?_
  refine lv_istore_n (lv' := [(1, .int (0 : Int32)), (0, .int a0)]) hx hb dX12_bits_1 rfl hl (by decide) rfl (fun ls hl => ?_)
  refine lv_iload_n hx hb dX12_bits_2 rfl (lv_at hl 1 rfl) ?_
  refine lv_istore_n (lv' := [(2, .int a0), (1, .int (0 : Int32)), (0, .int a0)]) hx hb dX12_bits_3 rfl hl (by decide) rfl (fun ls hl => ?_)
  obtain ⟨s1, M2, hc3, h⟩ := bnd_inv h
  obtain ⟨x4, rfl⟩ : ∃ z, z = s1 := ⟨_, rfl⟩
  try dsimp only at h
  refine hL4  fz _ _ _ _ _ _ _ hc3 hP hS (lv_sub hl [1, 0] rfl) (fun H locs ls hP hS hl => ?_)
  have hl : lv_has ls 3 [(1, .int x4)] := hl
  refine lv_iload_n hx hb dX12_bits_20 rfl (lv_at hl 0 rfl) ?_
  exact end_i X hr hk hP hS h dX12_bits_21
theorem dX12_personOf_0 : decode cX12_personOf 0 = .ok (.aload_n 0, 1) := by decide +kernel
theorem dX12_personOf_1 : decode cX12_personOf 1 = .ok (.getfield 7, 3) := by decide +kernel
theorem dX12_personOf_4 : decode cX12_personOf 4 = .ok (.iload_n 1, 1) := by decide +kernel
theorem dX12_personOf_5 : decode cX12_personOf 5 = .ok (.invokestatic 224, 3) := by decide +kernel
theorem dX12_personOf_8 : decode cX12_personOf 8 = .ok (.iload_n 2, 1) := by decide +kernel
theorem dX12_personOf_9 : decode cX12_personOf 9 = .ok (.iadd, 1) := by decide +kernel
theorem dX12_personOf_10 : decode cX12_personOf 10 = .ok (.iaload, 1) := by decide +kernel
theorem dX12_personOf_11 : decode cX12_personOf 11 = .ok (.ireturn, 1) := by decide +kernel
set_option maxRecDepth 100000 in
set_option maxHeartbeats 8000000 in
theorem c_X12_personOf (l : Launch) (D : va_G) (cA : Nat → ClassId) (q aK aV : Nat → Nat) (hq : injG 20 q) {a1 : Int32} {a2 : Int32} {M M0 : Mem} {r0 : Int32} (h : f_X12_personOf a1 a2 M = some (r0, M0)) : Met l yX12_personOf (.code yX12_personOf cX12_personOf 3 (some .int) :: BW) ({ frames := 2, cells := 0, slots := 0, locals := 32 } : Room) (va_Pc [.ref (q 0), .int a1, .int a2] (CB 20 (ceR cA q) D cA q aK aV M)) (Qi 20 (ceR cA q) D q r0 M0) 0 0 (AqG 20 q) := by
  refine gMet RX12 (by decide +kernel) rfl hq (Nat.le_of_ble_eq_true rfl) ?_
  intro p e s m below meth c ls X hr hk hP hS hl
  have hx := X.1
  have hb := X.2.1
  have hl : lv_has ls 3 [(0, .ref (q 0)), (1, .int a1), (2, .int a2)] := hl
  rw [f_X12_personOf] at h
  refine lv_aload_n hx hb dX12_personOf_0 rfl (lv_at hl 0 rfl) ?_
  refine gfR_12_0 X hP sR_0 bw_1323 dX12_personOf_1 ?_
  refine lv_iload_n hx hb dX12_personOf_4 rfl (lv_at hl 1 rfl) ?_
  obtain ⟨r1, M2, hc3, h⟩ := bnd_inv h
  refine gS_i (As := [.int a1]) X hP hS hl.1 (c_X12_personRow l D cA q aK aV hq hc3) sf_X12_personRow bw_1616 ss_X12_personRow ⟨rfl, rfl⟩ ⟨Nat.le_of_ble_eq_true rfl, Nat.le_of_ble_eq_true rfl⟩ rfl rfl (Nat.le_of_ble_eq_true rfl) dX12_personOf_5 (fun H locs hP hS => ?_)
  refine lv_iload_n hx hb dX12_personOf_8 rfl (lv_at hl 2 rfl) ?_
  refine lv_iadd hx hb dX12_personOf_9 ?_
  obtain ⟨g4, h⟩ := gd_inv h
  refine ldR_ia X hP sR_1 zR_1 g4 dX12_personOf_10 ?_
  exact end_i X hr hk hP hS h dX12_personOf_11
theorem dX12_ruleOf_0 : decode cX12_ruleOf 0 = .ok (.aload_n 0, 1) := by decide +kernel
theorem dX12_ruleOf_1 : decode cX12_ruleOf 1 = .ok (.getfield 7, 3) := by decide +kernel
theorem dX12_ruleOf_4 : decode cX12_ruleOf 4 = .ok (.iload_n 1, 1) := by decide +kernel
theorem dX12_ruleOf_5 : decode cX12_ruleOf 5 = .ok (.invokestatic 215, 3) := by decide +kernel
theorem dX12_ruleOf_8 : decode cX12_ruleOf 8 = .ok (.iload_n 2, 1) := by decide +kernel
theorem dX12_ruleOf_9 : decode cX12_ruleOf 9 = .ok (.iadd, 1) := by decide +kernel
theorem dX12_ruleOf_10 : decode cX12_ruleOf 10 = .ok (.iaload, 1) := by decide +kernel
theorem dX12_ruleOf_11 : decode cX12_ruleOf 11 = .ok (.ireturn, 1) := by decide +kernel
set_option maxRecDepth 100000 in
set_option maxHeartbeats 8000000 in
theorem c_X12_ruleOf (l : Launch) (D : va_G) (cA : Nat → ClassId) (q aK aV : Nat → Nat) (hq : injG 20 q) {a1 : Int32} {a2 : Int32} {M M0 : Mem} {r0 : Int32} (h : f_X12_ruleOf a1 a2 M = some (r0, M0)) : Met l yX12_ruleOf (.code yX12_ruleOf cX12_ruleOf 3 (some .int) :: BW) ({ frames := 2, cells := 0, slots := 0, locals := 32 } : Room) (va_Pc [.ref (q 0), .int a1, .int a2] (CB 20 (ceR cA q) D cA q aK aV M)) (Qi 20 (ceR cA q) D q r0 M0) 0 0 (AqG 20 q) := by
  refine gMet RX12 (by decide +kernel) rfl hq (Nat.le_of_ble_eq_true rfl) ?_
  intro p e s m below meth c ls X hr hk hP hS hl
  have hx := X.1
  have hb := X.2.1
  have hl : lv_has ls 3 [(0, .ref (q 0)), (1, .int a1), (2, .int a2)] := hl
  rw [f_X12_ruleOf] at h
  refine lv_aload_n hx hb dX12_ruleOf_0 rfl (lv_at hl 0 rfl) ?_
  refine gfR_12_0 X hP sR_0 bw_1323 dX12_ruleOf_1 ?_
  refine lv_iload_n hx hb dX12_ruleOf_4 rfl (lv_at hl 1 rfl) ?_
  obtain ⟨r1, M2, hc3, h⟩ := bnd_inv h
  refine gS_i (As := [.int a1]) X hP hS hl.1 (c_X12_ruleRow l D cA q aK aV hq hc3) sf_X12_ruleRow bw_1589 ss_X12_ruleRow ⟨rfl, rfl⟩ ⟨Nat.le_of_ble_eq_true rfl, Nat.le_of_ble_eq_true rfl⟩ rfl rfl (Nat.le_of_ble_eq_true rfl) dX12_ruleOf_5 (fun H locs hP hS => ?_)
  refine lv_iload_n hx hb dX12_ruleOf_8 rfl (lv_at hl 2 rfl) ?_
  refine lv_iadd hx hb dX12_ruleOf_9 ?_
  obtain ⟨g4, h⟩ := gd_inv h
  refine ldR_ia X hP sR_1 zR_1 g4 dX12_ruleOf_10 ?_
  exact end_i X hr hk hP hS h dX12_ruleOf_11
theorem dX12_votesOf_0 : decode cX12_votesOf 0 = .ok (.aload_n 0, 1) := by decide +kernel
theorem dX12_votesOf_1 : decode cX12_votesOf 1 = .ok (.getfield 7, 3) := by decide +kernel
theorem dX12_votesOf_4 : decode cX12_votesOf 4 = .ok (.bipush 102, 2) := by decide +kernel
theorem dX12_votesOf_6 : decode cX12_votesOf 6 = .ok (.iconst 2, 1) := by decide +kernel
theorem dX12_votesOf_7 : decode cX12_votesOf 7 = .ok (.iload_n 1, 1) := by decide +kernel
theorem dX12_votesOf_8 : decode cX12_votesOf 8 = .ok (.imul, 1) := by decide +kernel
theorem dX12_votesOf_9 : decode cX12_votesOf 9 = .ok (.iadd, 1) := by decide +kernel
theorem dX12_votesOf_10 : decode cX12_votesOf 10 = .ok (.iconst 1, 1) := by decide +kernel
theorem dX12_votesOf_11 : decode cX12_votesOf 11 = .ok (.iadd, 1) := by decide +kernel
theorem dX12_votesOf_12 : decode cX12_votesOf 12 = .ok (.iaload, 1) := by decide +kernel
theorem dX12_votesOf_13 : decode cX12_votesOf 13 = .ok (.ireturn, 1) := by decide +kernel
set_option maxRecDepth 100000 in
set_option maxHeartbeats 8000000 in
theorem c_X12_votesOf (l : Launch) (D : va_G) (cA : Nat → ClassId) (q aK aV : Nat → Nat) (hq : injG 20 q) {a1 : Int32} {M M0 : Mem} {r0 : Int32} (h : f_X12_votesOf a1 M = some (r0, M0)) : Met l yX12_votesOf (.code yX12_votesOf cX12_votesOf 2 (some .int) :: BW) ({ frames := 1, cells := 0, slots := 0, locals := 13 } : Room) (va_Pc [.ref (q 0), .int a1] (CB 20 (ceR cA q) D cA q aK aV M)) (Qi 20 (ceR cA q) D q r0 M0) 0 0 (AqG 20 q) := by
  refine gMet RX12 (by decide +kernel) rfl hq (Nat.le_of_ble_eq_true rfl) ?_
  intro p e s m below meth c ls X hr hk hP hS hl
  have hx := X.1
  have hb := X.2.1
  have hl : lv_has ls 2 [(0, .ref (q 0)), (1, .int a1)] := hl
  rw [f_X12_votesOf] at h
  refine lv_aload_n hx hb dX12_votesOf_0 rfl (lv_at hl 0 rfl) ?_
  refine gfR_12_0 X hP sR_0 bw_1323 dX12_votesOf_1 ?_
  refine lv_bipush (v := 102) hx hb dX12_votesOf_4 (by decide) ?_
  refine lv_iconst (v := 2) hx hb dX12_votesOf_6 (by decide) ?_
  refine lv_iload_n hx hb dX12_votesOf_7 rfl (lv_at hl 1 rfl) ?_
  refine lv_imul hx hb dX12_votesOf_8 ?_
  refine lv_iadd hx hb dX12_votesOf_9 ?_
  refine lv_iconst (v := 1) hx hb dX12_votesOf_10 (by decide) ?_
  refine lv_iadd hx hb dX12_votesOf_11 ?_
  obtain ⟨g1, h⟩ := gd_inv h
  refine ldR_ia X hP sR_1 zR_1 g1 dX12_votesOf_12 ?_
  exact end_i X hr hk hP hS h dX12_votesOf_13
theorem dX12_slipOf_0 : decode cX12_slipOf 0 = .ok (.aload_n 0, 1) := by decide +kernel
theorem dX12_slipOf_1 : decode cX12_slipOf 1 = .ok (.getfield 7, 3) := by decide +kernel
theorem dX12_slipOf_4 : decode cX12_slipOf 4 = .ok (.bipush 102, 2) := by decide +kernel
theorem dX12_slipOf_6 : decode cX12_slipOf 6 = .ok (.iconst 2, 1) := by decide +kernel
theorem dX12_slipOf_7 : decode cX12_slipOf 7 = .ok (.iload_n 1, 1) := by decide +kernel
theorem dX12_slipOf_8 : decode cX12_slipOf 8 = .ok (.imul, 1) := by decide +kernel
theorem dX12_slipOf_9 : decode cX12_slipOf 9 = .ok (.iadd, 1) := by decide +kernel
theorem dX12_slipOf_10 : decode cX12_slipOf 10 = .ok (.iaload, 1) := by decide +kernel
theorem dX12_slipOf_11 : decode cX12_slipOf 11 = .ok (.ireturn, 1) := by decide +kernel
set_option maxRecDepth 100000 in
set_option maxHeartbeats 8000000 in
theorem c_X12_slipOf (l : Launch) (D : va_G) (cA : Nat → ClassId) (q aK aV : Nat → Nat) (hq : injG 20 q) {a1 : Int32} {M M0 : Mem} {r0 : Int32} (h : f_X12_slipOf a1 M = some (r0, M0)) : Met l yX12_slipOf (.code yX12_slipOf cX12_slipOf 2 (some .int) :: BW) ({ frames := 1, cells := 0, slots := 0, locals := 13 } : Room) (va_Pc [.ref (q 0), .int a1] (CB 20 (ceR cA q) D cA q aK aV M)) (Qi 20 (ceR cA q) D q r0 M0) 0 0 (AqG 20 q) := by
  refine gMet RX12 (by decide +kernel) rfl hq (Nat.le_of_ble_eq_true rfl) ?_
  intro p e s m below meth c ls X hr hk hP hS hl
  have hx := X.1
  have hb := X.2.1
  have hl : lv_has ls 2 [(0, .ref (q 0)), (1, .int a1)] := hl
  rw [f_X12_slipOf] at h
  refine lv_aload_n hx hb dX12_slipOf_0 rfl (lv_at hl 0 rfl) ?_
  refine gfR_12_0 X hP sR_0 bw_1323 dX12_slipOf_1 ?_
  refine lv_bipush (v := 102) hx hb dX12_slipOf_4 (by decide) ?_
  refine lv_iconst (v := 2) hx hb dX12_slipOf_6 (by decide) ?_
  refine lv_iload_n hx hb dX12_slipOf_7 rfl (lv_at hl 1 rfl) ?_
  refine lv_imul hx hb dX12_slipOf_8 ?_
  refine lv_iadd hx hb dX12_slipOf_9 ?_
  obtain ⟨g1, h⟩ := gd_inv h
  refine ldR_ia X hP sR_1 zR_1 g1 dX12_slipOf_10 ?_
  exact end_i X hr hk hP hS h dX12_slipOf_11
theorem dX12_peopleThat_0 : decode cX12_peopleThat 0 = .ok (.iconst 0, 1) := by decide +kernel
theorem dX12_peopleThat_1 : decode cX12_peopleThat 1 = .ok (.istore_n 2, 1) := by decide +kernel
theorem dX12_peopleThat_2 : decode cX12_peopleThat 2 = .ok (.iconst 0, 1) := by decide +kernel
theorem dX12_peopleThat_3 : decode cX12_peopleThat 3 = .ok (.istore_n 3, 1) := by decide +kernel
theorem dX12_peopleThat_4 : decode cX12_peopleThat 4 = .ok (.iload_n 3, 1) := by decide +kernel
theorem dX12_peopleThat_5 : decode cX12_peopleThat 5 = .ok (.aload_n 0, 1) := by decide +kernel
theorem dX12_peopleThat_6 : decode cX12_peopleThat 6 = .ok (.getfield 7, 3) := by decide +kernel
theorem dX12_peopleThat_9 : decode cX12_peopleThat 9 = .ok (.iconst 3, 1) := by decide +kernel
theorem dX12_peopleThat_10 : decode cX12_peopleThat 10 = .ok (.iaload, 1) := by decide +kernel
theorem dX12_peopleThat_11 : decode cX12_peopleThat 11 = .ok (.if_icmp .ge 64, 3) := by decide +kernel
theorem dX12_peopleThat_14 : decode cX12_peopleThat 14 = .ok (.iload_n 1, 1) := by decide +kernel
theorem dX12_peopleThat_15 : decode cX12_peopleThat 15 = .ok (.iconst 3, 1) := by decide +kernel
theorem dX12_peopleThat_16 : decode cX12_peopleThat 16 = .ok (.if_icmp .ne 21, 3) := by decide +kernel
theorem dX12_peopleThat_19 : decode cX12_peopleThat 19 = .ok (.aload_n 0, 1) := by decide +kernel
theorem dX12_peopleThat_20 : decode cX12_peopleThat 20 = .ok (.iload_n 3, 1) := by decide +kernel
theorem dX12_peopleThat_21 : decode cX12_peopleThat 21 = .ok (.iconst 3, 1) := by decide +kernel
theorem dX12_peopleThat_22 : decode cX12_peopleThat 22 = .ok (.invokevirtual 281, 3) := by decide +kernel
theorem dX12_peopleThat_25 : decode cX12_peopleThat 25 = .ok (.iconst 1, 1) := by decide +kernel
theorem dX12_peopleThat_26 : decode cX12_peopleThat 26 = .ok (.if_icmp .ne 7, 3) := by decide +kernel
theorem dX12_peopleThat_29 : decode cX12_peopleThat 29 = .ok (.iconst 1, 1) := by decide +kernel
theorem dX12_peopleThat_30 : decode cX12_peopleThat 30 = .ok (.goto 22, 3) := by decide +kernel
theorem dX12_peopleThat_33 : decode cX12_peopleThat 33 = .ok (.iconst 0, 1) := by decide +kernel
theorem dX12_peopleThat_34 : decode cX12_peopleThat 34 = .ok (.goto 18, 3) := by decide +kernel
theorem dX12_peopleThat_37 : decode cX12_peopleThat 37 = .ok (.aload_n 0, 1) := by decide +kernel
theorem dX12_peopleThat_38 : decode cX12_peopleThat 38 = .ok (.iload_n 3, 1) := by decide +kernel
theorem dX12_peopleThat_39 : decode cX12_peopleThat 39 = .ok (.iconst 2, 1) := by decide +kernel
theorem dX12_peopleThat_40 : decode cX12_peopleThat 40 = .ok (.invokevirtual 281, 3) := by decide +kernel
theorem dX12_peopleThat_43 : decode cX12_peopleThat 43 = .ok (.iload_n 1, 1) := by decide +kernel
theorem dX12_peopleThat_44 : decode cX12_peopleThat 44 = .ok (.if_icmp .ne 7, 3) := by decide +kernel
theorem dX12_peopleThat_47 : decode cX12_peopleThat 47 = .ok (.iconst 1, 1) := by decide +kernel
theorem dX12_peopleThat_48 : decode cX12_peopleThat 48 = .ok (.goto 4, 3) := by decide +kernel
theorem dX12_peopleThat_51 : decode cX12_peopleThat 51 = .ok (.iconst 0, 1) := by decide +kernel
theorem dX12_peopleThat_52 : decode cX12_peopleThat 52 = .ok (.istore 4, 2) := by decide +kernel
theorem dX12_peopleThat_54 : decode cX12_peopleThat 54 = .ok (.iload_n 2, 1) := by decide +kernel
theorem dX12_peopleThat_55 : decode cX12_peopleThat 55 = .ok (.iload 4, 2) := by decide +kernel
theorem dX12_peopleThat_57 : decode cX12_peopleThat 57 = .ok (.ifCond .eq 9, 3) := by decide +kernel
theorem dX12_peopleThat_60 : decode cX12_peopleThat 60 = .ok (.iconst 1, 1) := by decide +kernel
theorem dX12_peopleThat_61 : decode cX12_peopleThat 61 = .ok (.iload_n 3, 1) := by decide +kernel
theorem dX12_peopleThat_62 : decode cX12_peopleThat 62 = .ok (.ishl, 1) := by decide +kernel
theorem dX12_peopleThat_63 : decode cX12_peopleThat 63 = .ok (.goto 4, 3) := by decide +kernel
theorem dX12_peopleThat_66 : decode cX12_peopleThat 66 = .ok (.iconst 0, 1) := by decide +kernel
theorem dX12_peopleThat_67 : decode cX12_peopleThat 67 = .ok (.ior, 1) := by decide +kernel
theorem dX12_peopleThat_68 : decode cX12_peopleThat 68 = .ok (.istore_n 2, 1) := by decide +kernel
theorem dX12_peopleThat_69 : decode cX12_peopleThat 69 = .ok (.iinc 3 1, 3) := by decide +kernel
theorem dX12_peopleThat_72 : decode cX12_peopleThat 72 = .ok (.goto (-68), 3) := by decide +kernel
theorem dX12_peopleThat_75 : decode cX12_peopleThat 75 = .ok (.iload_n 2, 1) := by decide +kernel
theorem dX12_peopleThat_76 : decode cX12_peopleThat 76 = .ok (.ireturn, 1) := by decide +kernel
set_option maxRecDepth 100000 in
set_option maxHeartbeats 8000000 in
theorem c_X12_peopleThat (l : Launch) (D : va_G) (cA : Nat → ClassId) (q aK aV : Nat → Nat) (hq : injG 20 q) {a1 : Int32} {M M0 : Mem} {r0 : Int32} (h : f_X12_peopleThat a1 M = some (r0, M0)) : Met l yX12_peopleThat (.code yX12_peopleThat cX12_peopleThat 5 (some .int) :: BW) ({ frames := 3, cells := 0, slots := 0, locals := 54 } : Room) (va_Pc [.ref (q 0), .int a1] (CB 20 (ceR cA q) D cA q aK aV M)) (Qi 20 (ceR cA q) D q r0 M0) 0 0 (AqG 20 q) := by
  refine gMet RX12 (by decide +kernel) rfl hq (Nat.le_of_ble_eq_true rfl) ?_
  intro p e s m below meth c ls X hr hk hP hS hl
  have hx := X.1
  have hb := X.2.1
  have hl : lv_has ls 5 [(0, .ref (q 0)), (1, .int a1)] := hl
  rw [f_X12_peopleThat] at h
  have hL4 : ∀ (fu : Nat) (b2 : Int32) (b3 : Int32) (M : Mem) (res : (Int32) × Mem) (H : Heap) (locs : List Loc) (ls : Array Slot), f_X12_peopleThat_L4 a1 fu b2 b3 M = some res → va_P D vwCl (wsG 20 (ceR cA q) q M) H → va_S (AqG 20 q) s.heap H locs → lv_has ls 5 [(0, .ref (q 0)), (1, .int a1), (2, .int b2), (3, .int b3)] → (∀ (H : Heap) (locs : List Loc) (ls : Array Slot), va_P D vwCl (wsG 20 (ceR cA q) q res.2) H → va_S (AqG 20 q) s.heap H locs → lv_has ls 5 [(2, .int (res.1))] → W p l e ({ frames := 3, cells := 0, slots := 0, locals := 54 } : Room) s m [.ref (q 0), .int a1].toArray below meth c H locs 0 0 (MQ below (Qi 20 (ceR cA q) D q r0 M0) [.ref (q 0), .int a1].toArray s 0 0 (AqG 20 q)) (F0 m 75 ls [])) → W p l e ({ frames := 3, cells := 0, slots := 0, locals := 54 } : Room) s m [.ref (q 0), .int a1].toArray below meth c H locs 0 0 (MQ below (Qi 20 (ceR cA q) D q r0 M0) [.ref (q 0), .int a1].toArray s 0 0 (AqG 20 q)) (F0 m 4 ls []) := by
    intro fu
    induction fu with
    | zero => intro b2 b3 M res H locs ls h; exact absurd h (by simp [f_X12_peopleThat_L4])
    | succ fu ih =>
      intro b2 b3 M res H locs ls h hP hS hl K4_0
      rw [f_X12_peopleThat_L4] at h
      have hJ52 : ∀ (b2 : Int32) (b3 : Int32) (s0 : Int32) (M : Mem) (H : Heap) (locs : List Loc) (ls : Array Slot), f_X12_peopleThat_J52 (f_X12_peopleThat_L4 a1 fu) a1 b2 b3 s0 M = some res → va_P D vwCl (wsG 20 (ceR cA q) q M) H → va_S (AqG 20 q) s.heap H locs → lv_has ls 5 [(0, .ref (q 0)), (1, .int a1), (2, .int b2), (3, .int b3)] → W p l e ({ frames := 3, cells := 0, slots := 0, locals := 54 } : Room) s m [.ref (q 0), .int a1].toArray below meth c H locs 0 0 (MQ below (Qi 20 (ceR cA q) D q r0 M0) [.ref (q 0), .int a1].toArray s 0 0 (AqG 20 q)) (F0 m 52 ls [.int s0]) := by
        intro b2 b3 s0 M H locs ls h hP hS hl
        rw [f_X12_peopleThat_J52] at h
        refine lv_istore (lv' := [(4, .int s0), (0, .ref (q 0)), (1, .int a1), (2, .int b2), (3, .int b3)]) hx hb dX12_peopleThat_52 hl (by decide) rfl (fun ls hl => ?_)
        refine lv_iload_n hx hb dX12_peopleThat_54 rfl (lv_at hl 3 rfl) ?_
        refine lv_iload hx hb dX12_peopleThat_55 (lv_at hl 0 rfl) ?_
        refine lv_if_eq (tgt := 66) hx hb dX12_peopleThat_57 (by decide) (fun c15 => ?_) (fun c15 => ?_)
        · rw [if_pos c15] at h
          refine lv_iconst (v := 0) hx hb dX12_peopleThat_66 (by decide) ?_
          refine lv_ior hx hb dX12_peopleThat_67 ?_
          obtain ⟨y16, ey16, h⟩ := lt_inv h
          refine topE ey16 ?_
          refine lv_istore_n (lv' := [(2, .int y16), (4, .int s0), (0, .ref (q 0)), (1, .int a1), (3, .int b3)]) hx hb dX12_peopleThat_68 rfl hl (by decide) rfl (fun ls hl => ?_)
          obtain ⟨y17, ey17, h⟩ := lt_inv h
          refine lv_iinc (v := y17) (lv' := [(3, .int y17), (2, .int y16), (4, .int s0), (0, .ref (q 0)), (1, .int a1)]) hx hb dX12_peopleThat_69 hl (k := 4) rfl (by rw [ey17]; rfl) (by decide) rfl (fun ls hl => ?_)
          refine lv_goto (tgt := 4) hx hb dX12_peopleThat_72 (by decide) ?_
          exact ih _ _ _ res _ _ _ h hP hS (lv_sub hl [3, 4, 1, 0] rfl) K4_0
        · rw [if_neg c15] at h
          refine lv_iconst (v := 1) hx hb dX12_peopleThat_60 (by decide) ?_
          refine lv_iload_n hx hb dX12_peopleThat_61 rfl (lv_at hl 4 rfl) ?_
          refine lv_ishl hx hb dX12_peopleThat_62 ?_
          refine lv_goto (tgt := 67) hx hb dX12_peopleThat_63 (by decide) ?_
          refine lv_ior hx hb dX12_peopleThat_67 ?_
          obtain ⟨y18, ey18, h⟩ := lt_inv h
          refine topE ey18 ?_
          refine lv_istore_n (lv' := [(2, .int y18), (4, .int s0), (0, .ref (q 0)), (1, .int a1), (3, .int b3)]) hx hb dX12_peopleThat_68 rfl hl (by decide) rfl (fun ls hl => ?_)
          obtain ⟨y19, ey19, h⟩ := lt_inv h
          refine lv_iinc (v := y19) (lv' := [(3, .int y19), (2, .int y18), (4, .int s0), (0, .ref (q 0)), (1, .int a1)]) hx hb dX12_peopleThat_69 hl (k := 4) rfl (by rw [ey19]; rfl) (by decide) rfl (fun ls hl => ?_)
          refine lv_goto (tgt := 4) hx hb dX12_peopleThat_72 (by decide) ?_
          exact ih _ _ _ res _ _ _ h hP hS (lv_sub hl [3, 4, 1, 0] rfl) K4_0
      refine lv_iload_n hx hb dX12_peopleThat_4 rfl (lv_at hl 3 rfl) ?_
      refine lv_aload_n hx hb dX12_peopleThat_5 rfl (lv_at hl 0 rfl) ?_
      refine gfR_12_0 X hP sR_0 bw_1323 dX12_peopleThat_6 ?_
      refine lv_iconst (v := 3) hx hb dX12_peopleThat_9 (by decide) ?_
      refine ldR_ia X hP sR_1 zR_1 (by decide) dX12_peopleThat_10 ?_
      refine topE (y := (gI M 1 3)) rfl ?_
      refine lv_icmp_ge (tgt := 75) hx hb dX12_peopleThat_11 (by decide) (fun c5 => ?_) (fun c5 => ?_)
      · rw [if_pos c5] at h
        cases h
        exact K4_0 _ _ _ hP hS (lv_sub hl [2] rfl)
      · rw [if_neg c5] at h
        refine lv_iload_n hx hb dX12_peopleThat_14 rfl (lv_at hl 1 rfl) ?_
        refine lv_iconst (v := 3) hx hb dX12_peopleThat_15 (by decide) ?_
        refine lv_icmp_ne (tgt := 37) hx hb dX12_peopleThat_16 (by decide) (fun c6 => ?_) (fun c6 => ?_)
        · rw [if_neg c6] at h
          refine lv_aload_n hx hb dX12_peopleThat_37 rfl (lv_at hl 0 rfl) ?_
          refine lv_iload_n hx hb dX12_peopleThat_38 rfl (lv_at hl 3 rfl) ?_
          refine lv_iconst (v := 2) hx hb dX12_peopleThat_39 (by decide) ?_
          obtain ⟨r7, M8, hc9, h⟩ := bnd_inv h
          refine gV_i (As := [.int b3, .int (2 : Int32)]) X hP hS hl.1 (c_X12_personOf l D cA q aK aV hq hc9) sf_X12_personOf bw_1683 sv_X12_personOf (rcR_12 sR_0) rfl ⟨rfl, rfl⟩ ⟨Nat.le_of_ble_eq_true rfl, Nat.le_of_ble_eq_true rfl⟩ rfl rfl (Nat.le_of_ble_eq_true rfl) dX12_peopleThat_40 (fun H locs hP hS => ?_)
          refine lv_iload_n hx hb dX12_peopleThat_43 rfl (lv_at hl 1 rfl) ?_
          refine lv_icmp_ne (tgt := 51) hx hb dX12_peopleThat_44 (by decide) (fun c10 => ?_) (fun c10 => ?_)
          · rw [if_neg c10] at h
            refine lv_iconst (v := 0) hx hb dX12_peopleThat_51 (by decide) ?_
            exact hJ52 _ _ _ _ _ _ _ h hP hS (lv_sub hl [0, 1, 2, 3] rfl)
          · rw [if_pos c10] at h
            refine lv_iconst (v := 1) hx hb dX12_peopleThat_47 (by decide) ?_
            refine lv_goto (tgt := 52) hx hb dX12_peopleThat_48 (by decide) ?_
            exact hJ52 _ _ _ _ _ _ _ h hP hS (lv_sub hl [0, 1, 2, 3] rfl)
        · rw [if_pos c6] at h
          refine lv_aload_n hx hb dX12_peopleThat_19 rfl (lv_at hl 0 rfl) ?_
          refine lv_iload_n hx hb dX12_peopleThat_20 rfl (lv_at hl 3 rfl) ?_
          refine lv_iconst (v := 3) hx hb dX12_peopleThat_21 (by decide) ?_
          obtain ⟨r11, M12, hc13, h⟩ := bnd_inv h
          refine gV_i (As := [.int b3, .int (3 : Int32)]) X hP hS hl.1 (c_X12_personOf l D cA q aK aV hq hc13) sf_X12_personOf bw_1683 sv_X12_personOf (rcR_12 sR_0) rfl ⟨rfl, rfl⟩ ⟨Nat.le_of_ble_eq_true rfl, Nat.le_of_ble_eq_true rfl⟩ rfl rfl (Nat.le_of_ble_eq_true rfl) dX12_peopleThat_22 (fun H locs hP hS => ?_)
          refine lv_iconst (v := 1) hx hb dX12_peopleThat_25 (by decide) ?_
          refine lv_icmp_ne (tgt := 33) hx hb dX12_peopleThat_26 (by decide) (fun c14 => ?_) (fun c14 => ?_)
          · rw [if_neg c14] at h
            refine lv_iconst (v := 0) hx hb dX12_peopleThat_33 (by decide) ?_
            refine lv_goto (tgt := 52) hx hb dX12_peopleThat_34 (by decide) ?_
            exact hJ52 _ _ _ _ _ _ _ h hP hS (lv_sub hl [0, 1, 2, 3] rfl)
          · rw [if_pos c14] at h
            refine lv_iconst (v := 1) hx hb dX12_peopleThat_29 (by decide) ?_
            refine lv_goto (tgt := 52) hx hb dX12_peopleThat_30 (by decide) ?_
            exact hJ52 _ _ _ _ _ _ _ h hP hS (lv_sub hl [0, 1, 2, 3] rfl)
  refine lv_iconst (v := 0) hx hb dX12_peopleThat_0 (by decide) ?_
  refine lv_istore_n (lv' := [(2, .int (0 : Int32)), (0, .ref (q 0)), (1, .int a1)]) hx hb dX12_peopleThat_1 rfl hl (by decide) rfl (fun ls hl => ?_)
  refine lv_iconst (v := 0) hx hb dX12_peopleThat_2 (by decide) ?_
  refine lv_istore_n (lv' := [(3, .int (0 : Int32)), (2, .int (0 : Int32)), (0, .ref (q 0)), (1, .int a1)]) hx hb dX12_peopleThat_3 rfl hl (by decide) rfl (fun ls hl => ?_)
  obtain ⟨s1, M2, hc3, h⟩ := bnd_inv h
  obtain ⟨x4, rfl⟩ : ∃ z, z = s1 := ⟨_, rfl⟩
  try dsimp only at h
  refine hL4  fz _ _ _ _ _ _ _ hc3 hP hS (lv_sub hl [2, 3, 1, 0] rfl) (fun H locs ls hP hS hl => ?_)
  have hl : lv_has ls 5 [(2, .int x4)] := hl
  refine lv_iload_n hx hb dX12_peopleThat_75 rfl (lv_at hl 0 rfl) ?_
  exact end_i X hr hk hP hS h dX12_peopleThat_76
theorem dX12_allVotes_0 : decode cX12_allVotes 0 = .ok (.iconst 0, 1) := by decide +kernel
theorem dX12_allVotes_1 : decode cX12_allVotes 1 = .ok (.istore_n 1, 1) := by decide +kernel
theorem dX12_allVotes_2 : decode cX12_allVotes 2 = .ok (.iconst 0, 1) := by decide +kernel
theorem dX12_allVotes_3 : decode cX12_allVotes 3 = .ok (.istore_n 2, 1) := by decide +kernel
theorem dX12_allVotes_4 : decode cX12_allVotes 4 = .ok (.iload_n 2, 1) := by decide +kernel
theorem dX12_allVotes_5 : decode cX12_allVotes 5 = .ok (.aload_n 0, 1) := by decide +kernel
theorem dX12_allVotes_6 : decode cX12_allVotes 6 = .ok (.getfield 7, 3) := by decide +kernel
theorem dX12_allVotes_9 : decode cX12_allVotes 9 = .ok (.iconst 4, 1) := by decide +kernel
theorem dX12_allVotes_10 : decode cX12_allVotes 10 = .ok (.iaload, 1) := by decide +kernel
theorem dX12_allVotes_11 : decode cX12_allVotes 11 = .ok (.if_icmp .ge 17, 3) := by decide +kernel
theorem dX12_allVotes_14 : decode cX12_allVotes 14 = .ok (.iload_n 1, 1) := by decide +kernel
theorem dX12_allVotes_15 : decode cX12_allVotes 15 = .ok (.aload_n 0, 1) := by decide +kernel
theorem dX12_allVotes_16 : decode cX12_allVotes 16 = .ok (.iload_n 2, 1) := by decide +kernel
theorem dX12_allVotes_17 : decode cX12_allVotes 17 = .ok (.invokevirtual 284, 3) := by decide +kernel
theorem dX12_allVotes_20 : decode cX12_allVotes 20 = .ok (.iadd, 1) := by decide +kernel
theorem dX12_allVotes_21 : decode cX12_allVotes 21 = .ok (.istore_n 1, 1) := by decide +kernel
theorem dX12_allVotes_22 : decode cX12_allVotes 22 = .ok (.iinc 2 1, 3) := by decide +kernel
theorem dX12_allVotes_25 : decode cX12_allVotes 25 = .ok (.goto (-21), 3) := by decide +kernel
theorem dX12_allVotes_28 : decode cX12_allVotes 28 = .ok (.iload_n 1, 1) := by decide +kernel
theorem dX12_allVotes_29 : decode cX12_allVotes 29 = .ok (.ireturn, 1) := by decide +kernel
set_option maxRecDepth 100000 in
set_option maxHeartbeats 8000000 in
theorem c_X12_allVotes (l : Launch) (D : va_G) (cA : Nat → ClassId) (q aK aV : Nat → Nat) (hq : injG 20 q) {M M0 : Mem} {r0 : Int32} (h : f_X12_allVotes M = some (r0, M0)) : Met l yX12_allVotes (.code yX12_allVotes cX12_allVotes 3 (some .int) :: BW) ({ frames := 2, cells := 0, slots := 0, locals := 34 } : Room) (va_Pc [.ref (q 0)] (CB 20 (ceR cA q) D cA q aK aV M)) (Qi 20 (ceR cA q) D q r0 M0) 0 0 (AqG 20 q) := by
  refine gMet RX12 (by decide +kernel) rfl hq (Nat.le_of_ble_eq_true rfl) ?_
  intro p e s m below meth c ls X hr hk hP hS hl
  have hx := X.1
  have hb := X.2.1
  have hl : lv_has ls 3 [(0, .ref (q 0))] := hl
  rw [f_X12_allVotes] at h
  have hL4 : ∀ (fu : Nat) (b1 : Int32) (b2 : Int32) (M : Mem) (res : (Int32) × Mem) (H : Heap) (locs : List Loc) (ls : Array Slot), f_X12_allVotes_L4 fu b1 b2 M = some res → va_P D vwCl (wsG 20 (ceR cA q) q M) H → va_S (AqG 20 q) s.heap H locs → lv_has ls 3 [(0, .ref (q 0)), (1, .int b1), (2, .int b2)] → (∀ (H : Heap) (locs : List Loc) (ls : Array Slot), va_P D vwCl (wsG 20 (ceR cA q) q res.2) H → va_S (AqG 20 q) s.heap H locs → lv_has ls 3 [(1, .int (res.1))] → W p l e ({ frames := 2, cells := 0, slots := 0, locals := 34 } : Room) s m [.ref (q 0)].toArray below meth c H locs 0 0 (MQ below (Qi 20 (ceR cA q) D q r0 M0) [.ref (q 0)].toArray s 0 0 (AqG 20 q)) (F0 m 28 ls [])) → W p l e ({ frames := 2, cells := 0, slots := 0, locals := 34 } : Room) s m [.ref (q 0)].toArray below meth c H locs 0 0 (MQ below (Qi 20 (ceR cA q) D q r0 M0) [.ref (q 0)].toArray s 0 0 (AqG 20 q)) (F0 m 4 ls []) := by
    intro fu
    induction fu with
    | zero => intro b1 b2 M res H locs ls h; exact absurd h (by simp [f_X12_allVotes_L4])
    | succ fu ih =>
      intro b1 b2 M res H locs ls h hP hS hl K4_0
      rw [f_X12_allVotes_L4] at h
      refine lv_iload_n hx hb dX12_allVotes_4 rfl (lv_at hl 2 rfl) ?_
      refine lv_aload_n hx hb dX12_allVotes_5 rfl (lv_at hl 0 rfl) ?_
      refine gfR_12_0 X hP sR_0 bw_1323 dX12_allVotes_6 ?_
      refine lv_iconst (v := 4) hx hb dX12_allVotes_9 (by decide) ?_
      refine ldR_ia X hP sR_1 zR_1 (by decide) dX12_allVotes_10 ?_
      refine topE (y := (gI M 1 4)) rfl ?_
      refine lv_icmp_ge (tgt := 28) hx hb dX12_allVotes_11 (by decide) (fun c5 => ?_) (fun c5 => ?_)
      · rw [if_pos c5] at h
        cases h
        exact K4_0 _ _ _ hP hS (lv_sub hl [1] rfl)
      · rw [if_neg c5] at h
        refine lv_iload_n hx hb dX12_allVotes_14 rfl (lv_at hl 1 rfl) ?_
        refine lv_aload_n hx hb dX12_allVotes_15 rfl (lv_at hl 0 rfl) ?_
        refine lv_iload_n hx hb dX12_allVotes_16 rfl (lv_at hl 2 rfl) ?_
        obtain ⟨r6, M7, hc8, h⟩ := bnd_inv h
        refine gV_i (As := [.int b2]) X hP hS hl.1 (c_X12_votesOf l D cA q aK aV hq hc8) sf_X12_votesOf bw_1675 sv_X12_votesOf (rcR_12 sR_0) rfl ⟨rfl, rfl⟩ ⟨Nat.le_of_ble_eq_true rfl, Nat.le_of_ble_eq_true rfl⟩ rfl rfl (Nat.le_of_ble_eq_true rfl) dX12_allVotes_17 (fun H locs hP hS => ?_)
        refine lv_iadd hx hb dX12_allVotes_20 ?_
        obtain ⟨y9, ey9, h⟩ := lt_inv h
        refine topE ey9 ?_
        refine lv_istore_n (lv' := [(1, .int y9), (0, .ref (q 0)), (2, .int b2)]) hx hb dX12_allVotes_21 rfl hl (by decide) rfl (fun ls hl => ?_)
        obtain ⟨y10, ey10, h⟩ := lt_inv h
        refine lv_iinc (v := y10) (lv' := [(2, .int y10), (1, .int y9), (0, .ref (q 0))]) hx hb dX12_allVotes_22 hl (k := 2) rfl (by rw [ey10]; rfl) (by decide) rfl (fun ls hl => ?_)
        refine lv_goto (tgt := 4) hx hb dX12_allVotes_25 (by decide) ?_
        exact ih _ _ _ res _ _ _ h hP hS (lv_sub hl [2, 1, 0] rfl) K4_0
  refine lv_iconst (v := 0) hx hb dX12_allVotes_0 (by decide) ?_
  refine lv_istore_n (lv' := [(1, .int (0 : Int32)), (0, .ref (q 0))]) hx hb dX12_allVotes_1 rfl hl (by decide) rfl (fun ls hl => ?_)
  refine lv_iconst (v := 0) hx hb dX12_allVotes_2 (by decide) ?_
  refine lv_istore_n (lv' := [(2, .int (0 : Int32)), (1, .int (0 : Int32)), (0, .ref (q 0))]) hx hb dX12_allVotes_3 rfl hl (by decide) rfl (fun ls hl => ?_)
  obtain ⟨s1, M2, hc3, h⟩ := bnd_inv h
  obtain ⟨x4, rfl⟩ : ∃ z, z = s1 := ⟨_, rfl⟩
  try dsimp only at h
  refine hL4  fz _ _ _ _ _ _ _ hc3 hP hS (lv_sub hl [2, 1, 0] rfl) (fun H locs ls hP hS hl => ?_)
  have hl : lv_has ls 3 [(1, .int x4)] := hl
  refine lv_iload_n hx hb dX12_allVotes_28 rfl (lv_at hl 0 rfl) ?_
  exact end_i X hr hk hP hS h dX12_allVotes_29
theorem dX12_told_0 : decode cX12_told 0 = .ok (.iload_n 1, 1) := by decide +kernel
theorem dX12_told_1 : decode cX12_told 1 = .ok (.ifCond .lt 9, 3) := by decide +kernel
theorem dX12_told_4 : decode cX12_told 4 = .ok (.iload_n 1, 1) := by decide +kernel
theorem dX12_told_5 : decode cX12_told 5 = .ok (.bipush 12, 2) := by decide +kernel
theorem dX12_told_7 : decode cX12_told 7 = .ok (.if_icmp .le 9, 3) := by decide +kernel
theorem dX12_told_10 : decode cX12_told 10 = .ok (.aload_n 0, 1) := by decide +kernel
theorem dX12_told_11 : decode cX12_told 11 = .ok (.iconst 1, 1) := by decide +kernel
theorem dX12_told_12 : decode cX12_told 12 = .ok (.invokevirtual 91, 3) := by decide +kernel
theorem dX12_told_15 : decode cX12_told 15 = .ok (.ireturn, 1) := by decide +kernel
theorem dX12_told_16 : decode cX12_told 16 = .ok (.iload_n 1, 1) := by decide +kernel
theorem dX12_told_17 : decode cX12_told 17 = .ok (.bipush 8, 2) := by decide +kernel
theorem dX12_told_19 : decode cX12_told 19 = .ok (.if_icmp .ge 14, 3) := by decide +kernel
theorem dX12_told_22 : decode cX12_told 22 = .ok (.aload_n 0, 1) := by decide +kernel
theorem dX12_told_23 : decode cX12_told 23 = .ok (.aload_n 0, 1) := by decide +kernel
theorem dX12_told_24 : decode cX12_told 24 = .ok (.getfield 7, 3) := by decide +kernel
theorem dX12_told_27 : decode cX12_told 27 = .ok (.iload_n 1, 1) := by decide +kernel
theorem dX12_told_28 : decode cX12_told 28 = .ok (.iaload, 1) := by decide +kernel
theorem dX12_told_29 : decode cX12_told 29 = .ok (.invokevirtual 95, 3) := by decide +kernel
theorem dX12_told_32 : decode cX12_told 32 = .ok (.ireturn, 1) := by decide +kernel
theorem dX12_told_33 : decode cX12_told 33 = .ok (.aload_n 0, 1) := by decide +kernel
theorem dX12_told_34 : decode cX12_told 34 = .ok (.iload_n 1, 1) := by decide +kernel
theorem dX12_told_35 : decode cX12_told 35 = .ok (.bipush 12, 2) := by decide +kernel
theorem dX12_told_37 : decode cX12_told 37 = .ok (.if_icmp .ne 10, 3) := by decide +kernel
theorem dX12_told_40 : decode cX12_told 40 = .ok (.aload_n 0, 1) := by decide +kernel
theorem dX12_told_41 : decode cX12_told 41 = .ok (.invokevirtual 287, 3) := by decide +kernel
theorem dX12_told_44 : decode cX12_told 44 = .ok (.goto 11, 3) := by decide +kernel
theorem dX12_told_47 : decode cX12_told 47 = .ok (.aload_n 0, 1) := by decide +kernel
theorem dX12_told_48 : decode cX12_told 48 = .ok (.iload_n 1, 1) := by decide +kernel
theorem dX12_told_49 : decode cX12_told 49 = .ok (.bipush 8, 2) := by decide +kernel
theorem dX12_told_51 : decode cX12_told 51 = .ok (.isub, 1) := by decide +kernel
theorem dX12_told_52 : decode cX12_told 52 = .ok (.invokevirtual 290, 3) := by decide +kernel
theorem dX12_told_55 : decode cX12_told 55 = .ok (.invokevirtual 95, 3) := by decide +kernel
theorem dX12_told_58 : decode cX12_told 58 = .ok (.ireturn, 1) := by decide +kernel
set_option maxRecDepth 100000 in
set_option maxHeartbeats 8000000 in
theorem c_X12_told (l : Launch) (D : va_G) (cA : Nat → ClassId) (q aK aV : Nat → Nat) (hq : injG 20 q) {a1 : Int32} {M M0 : Mem} {r0 : Int32} (h : f_X12_told a1 M = some (r0, M0)) : Met l yX12_told (.code yX12_told cX12_told 2 (some .int) :: BW) ({ frames := 4, cells := 0, slots := 0, locals := 78 } : Room) (va_Pc [.ref (q 0), .int a1] (CB 20 (ceR cA q) D cA q aK aV M)) (Qi 20 (ceR cA q) D q r0 M0) 0 0 (AqG 20 q) := by
  refine gMet RX12 (by decide +kernel) rfl hq (Nat.le_of_ble_eq_true rfl) ?_
  intro p e s m below meth c ls X hr hk hP hS hl
  have hx := X.1
  have hb := X.2.1
  have hl : lv_has ls 2 [(0, .ref (q 0)), (1, .int a1)] := hl
  rw [f_X12_told] at h
  refine lv_iload_n hx hb dX12_told_0 rfl (lv_at hl 1 rfl) ?_
  refine lv_if_lt (tgt := 10) hx hb dX12_told_1 (by decide) (fun c1 => ?_) (fun c1 => ?_)
  · rw [if_pos c1] at h
    refine lv_aload_n hx hb dX12_told_10 rfl (lv_at hl 0 rfl) ?_
    refine lv_iconst (v := 1) hx hb dX12_told_11 (by decide) ?_
    obtain ⟨r2, M3, hc4, h⟩ := bnd_inv h
    refine gV_i (As := [.int (1 : Int32)]) X hP hS hl.1 (c_X12_refuse l D cA q aK aV hq hc4) sf_X12_refuse bw_1530 sv_X12_refuse (rcR_12 sR_0) rfl ⟨rfl, rfl⟩ ⟨Nat.le_of_ble_eq_true rfl, Nat.le_of_ble_eq_true rfl⟩ rfl rfl (Nat.le_of_ble_eq_true rfl) dX12_told_12 (fun H locs hP hS => ?_)
    exact end_i X hr hk hP hS h dX12_told_15
  · rw [if_neg c1] at h
    refine lv_iload_n hx hb dX12_told_4 rfl (lv_at hl 1 rfl) ?_
    refine lv_bipush (v := 12) hx hb dX12_told_5 (by decide) ?_
    refine lv_icmp_le (tgt := 16) hx hb dX12_told_7 (by decide) (fun c5 => ?_) (fun c5 => ?_)
    · rw [if_pos c5] at h
      refine lv_iload_n hx hb dX12_told_16 rfl (lv_at hl 1 rfl) ?_
      refine lv_bipush (v := 8) hx hb dX12_told_17 (by decide) ?_
      refine lv_icmp_ge (tgt := 33) hx hb dX12_told_19 (by decide) (fun c6 => ?_) (fun c6 => ?_)
      · rw [if_pos c6] at h
        refine lv_aload_n hx hb dX12_told_33 rfl (lv_at hl 0 rfl) ?_
        refine lv_iload_n hx hb dX12_told_34 rfl (lv_at hl 1 rfl) ?_
        refine lv_bipush (v := 12) hx hb dX12_told_35 (by decide) ?_
        refine lv_icmp_ne (tgt := 47) hx hb dX12_told_37 (by decide) (fun c7 => ?_) (fun c7 => ?_)
        · rw [if_neg c7] at h
          refine lv_aload_n hx hb dX12_told_47 rfl (lv_at hl 0 rfl) ?_
          refine lv_iload_n hx hb dX12_told_48 rfl (lv_at hl 1 rfl) ?_
          refine lv_bipush (v := 8) hx hb dX12_told_49 (by decide) ?_
          refine lv_isub hx hb dX12_told_51 ?_
          obtain ⟨r8, M9, hc10, h⟩ := bnd_inv h
          refine gV_i (As := [.int (a1 - (8 : Int32))]) X hP hS hl.1 (c_X12_peopleThat l D cA q aK aV hq hc10) sf_X12_peopleThat bw_1679 sv_X12_peopleThat (rcR_12 sR_0) rfl ⟨rfl, rfl⟩ ⟨Nat.le_of_ble_eq_true rfl, Nat.le_of_ble_eq_true rfl⟩ rfl rfl (Nat.le_of_ble_eq_true rfl) dX12_told_52 (fun H locs hP hS => ?_)
          obtain ⟨r11, M12, hc13, h⟩ := bnd_inv h
          refine gV_i (As := [.int r8]) X hP hS hl.1 (c_X12_gives l D cA q aK aV hq hc13) sf_X12_gives bw_1639 sv_X12_gives (rcR_12 sR_0) rfl ⟨rfl, rfl⟩ ⟨Nat.le_of_ble_eq_true rfl, Nat.le_of_ble_eq_true rfl⟩ rfl rfl (Nat.le_of_ble_eq_true rfl) dX12_told_55 (fun H locs hP hS => ?_)
          exact end_i X hr hk hP hS h dX12_told_58
        · rw [if_pos c7] at h
          refine lv_aload_n hx hb dX12_told_40 rfl (lv_at hl 0 rfl) ?_
          obtain ⟨r14, M15, hc16, h⟩ := bnd_inv h
          refine gV_i (As := []) X hP hS hl.1 (c_X12_allVotes l D cA q aK aV hq hc16) sf_X12_allVotes bw_1671 sv_X12_allVotes (rcR_12 sR_0) rfl ⟨rfl, rfl⟩ ⟨Nat.le_of_ble_eq_true rfl, Nat.le_of_ble_eq_true rfl⟩ rfl rfl (Nat.le_of_ble_eq_true rfl) dX12_told_41 (fun H locs hP hS => ?_)
          refine lv_goto (tgt := 55) hx hb dX12_told_44 (by decide) ?_
          obtain ⟨r17, M18, hc19, h⟩ := bnd_inv h
          refine gV_i (As := [.int r14]) X hP hS hl.1 (c_X12_gives l D cA q aK aV hq hc19) sf_X12_gives bw_1639 sv_X12_gives (rcR_12 sR_0) rfl ⟨rfl, rfl⟩ ⟨Nat.le_of_ble_eq_true rfl, Nat.le_of_ble_eq_true rfl⟩ rfl rfl (Nat.le_of_ble_eq_true rfl) dX12_told_55 (fun H locs hP hS => ?_)
          exact end_i X hr hk hP hS h dX12_told_58
      · rw [if_neg c6] at h
        refine lv_aload_n hx hb dX12_told_22 rfl (lv_at hl 0 rfl) ?_
        refine lv_aload_n hx hb dX12_told_23 rfl (lv_at hl 0 rfl) ?_
        refine gfR_12_0 X hP sR_0 bw_1323 dX12_told_24 ?_
        refine lv_iload_n hx hb dX12_told_27 rfl (lv_at hl 1 rfl) ?_
        obtain ⟨g20, h⟩ := gd_inv h
        refine ldR_ia X hP sR_1 zR_1 g20 dX12_told_28 ?_
        obtain ⟨r21, M22, hc23, h⟩ := bnd_inv h
        refine gV_i (As := [.int (gI M 1 a1.toNatClampNeg)]) X hP hS hl.1 (c_X12_gives l D cA q aK aV hq hc23) sf_X12_gives bw_1639 sv_X12_gives (rcR_12 sR_0) rfl ⟨rfl, rfl⟩ ⟨Nat.le_of_ble_eq_true rfl, Nat.le_of_ble_eq_true rfl⟩ rfl rfl (Nat.le_of_ble_eq_true rfl) dX12_told_29 (fun H locs hP hS => ?_)
        exact end_i X hr hk hP hS h dX12_told_32
    · rw [if_neg c5] at h
      refine lv_aload_n hx hb dX12_told_10 rfl (lv_at hl 0 rfl) ?_
      refine lv_iconst (v := 1) hx hb dX12_told_11 (by decide) ?_
      obtain ⟨r24, M25, hc26, h⟩ := bnd_inv h
      refine gV_i (As := [.int (1 : Int32)]) X hP hS hl.1 (c_X12_refuse l D cA q aK aV hq hc26) sf_X12_refuse bw_1530 sv_X12_refuse (rcR_12 sR_0) rfl ⟨rfl, rfl⟩ ⟨Nat.le_of_ble_eq_true rfl, Nat.le_of_ble_eq_true rfl⟩ rfl rfl (Nat.le_of_ble_eq_true rfl) dX12_told_12 (fun H locs hP hS => ?_)
      exact end_i X hr hk hP hS h dX12_told_15
theorem dX12_sense_0 : decode cX12_sense 0 = .ok (.aload_n 0, 1) := by decide +kernel
theorem dX12_sense_1 : decode cX12_sense 1 = .ok (.iload_n 1, 1) := by decide +kernel
theorem dX12_sense_2 : decode cX12_sense 2 = .ok (.invokevirtual 293, 3) := by decide +kernel
theorem dX12_sense_5 : decode cX12_sense 5 = .ok (.ifCond .eq 19, 3) := by decide +kernel
theorem dX12_sense_8 : decode cX12_sense 8 = .ok (.aload_n 0, 1) := by decide +kernel
theorem dX12_sense_9 : decode cX12_sense 9 = .ok (.aload_n 0, 1) := by decide +kernel
theorem dX12_sense_10 : decode cX12_sense 10 = .ok (.getfield 7, 3) := by decide +kernel
theorem dX12_sense_13 : decode cX12_sense 13 = .ok (.bipush 10, 2) := by decide +kernel
theorem dX12_sense_15 : decode cX12_sense 15 = .ok (.iload_n 1, 1) := by decide +kernel
theorem dX12_sense_16 : decode cX12_sense 16 = .ok (.iadd, 1) := by decide +kernel
theorem dX12_sense_17 : decode cX12_sense 17 = .ok (.iaload, 1) := by decide +kernel
theorem dX12_sense_18 : decode cX12_sense 18 = .ok (.invokevirtual 95, 3) := by decide +kernel
theorem dX12_sense_21 : decode cX12_sense 21 = .ok (.goto 8, 3) := by decide +kernel
theorem dX12_sense_24 : decode cX12_sense 24 = .ok (.aload_n 0, 1) := by decide +kernel
theorem dX12_sense_25 : decode cX12_sense 25 = .ok (.iconst 1, 1) := by decide +kernel
theorem dX12_sense_26 : decode cX12_sense 26 = .ok (.invokevirtual 91, 3) := by decide +kernel
theorem dX12_sense_29 : decode cX12_sense 29 = .ok (.ireturn, 1) := by decide +kernel
set_option maxRecDepth 100000 in
set_option maxHeartbeats 8000000 in
theorem c_X12_sense (l : Launch) (D : va_G) (cA : Nat → ClassId) (q aK aV : Nat → Nat) (hq : injG 20 q) {a1 : Int32} {M M0 : Mem} {r0 : Int32} (h : f_X12_sense a1 M = some (r0, M0)) : Met l yX12_sense (.code yX12_sense cX12_sense 2 (some .int) :: BW) ({ frames := 2, cells := 0, slots := 0, locals := 34 } : Room) (va_Pc [.ref (q 0), .int a1] (CB 20 (ceR cA q) D cA q aK aV M)) (Qi 20 (ceR cA q) D q r0 M0) 0 0 (AqG 20 q) := by
  refine gMet RX12 (by decide +kernel) rfl hq (Nat.le_of_ble_eq_true rfl) ?_
  intro p e s m below meth c ls X hr hk hP hS hl
  have hx := X.1
  have hb := X.2.1
  have hl : lv_has ls 2 [(0, .ref (q 0)), (1, .int a1)] := hl
  rw [f_X12_sense] at h
  refine lv_aload_n hx hb dX12_sense_0 rfl (lv_at hl 0 rfl) ?_
  refine lv_iload_n hx hb dX12_sense_1 rfl (lv_at hl 1 rfl) ?_
  obtain ⟨r1, M2, hc3, h⟩ := bnd_inv h
  refine gV_i (As := [.int a1]) X hP hS hl.1 (c_X12_isCue l D cA q aK aV hq hc3) sf_X12_isCue bw_1691 sv_X12_isCue (rcR_12 sR_0) rfl ⟨rfl, rfl⟩ ⟨Nat.le_of_ble_eq_true rfl, Nat.le_of_ble_eq_true rfl⟩ rfl rfl (Nat.le_of_ble_eq_true rfl) dX12_sense_2 (fun H locs hP hS => ?_)
  refine lv_if_eq (tgt := 24) hx hb dX12_sense_5 (by decide) (fun c4 => ?_) (fun c4 => ?_)
  · rw [if_pos c4] at h
    refine lv_aload_n hx hb dX12_sense_24 rfl (lv_at hl 0 rfl) ?_
    refine lv_iconst (v := 1) hx hb dX12_sense_25 (by decide) ?_
    obtain ⟨r5, M6, hc7, h⟩ := bnd_inv h
    refine gV_i (As := [.int (1 : Int32)]) X hP hS hl.1 (c_X12_refuse l D cA q aK aV hq hc7) sf_X12_refuse bw_1530 sv_X12_refuse (rcR_12 sR_0) rfl ⟨rfl, rfl⟩ ⟨Nat.le_of_ble_eq_true rfl, Nat.le_of_ble_eq_true rfl⟩ rfl rfl (Nat.le_of_ble_eq_true rfl) dX12_sense_26 (fun H locs hP hS => ?_)
    exact end_i X hr hk hP hS h dX12_sense_29
  · rw [if_neg c4] at h
    refine lv_aload_n hx hb dX12_sense_8 rfl (lv_at hl 0 rfl) ?_
    refine lv_aload_n hx hb dX12_sense_9 rfl (lv_at hl 0 rfl) ?_
    refine gfR_12_0 X hP sR_0 bw_1323 dX12_sense_10 ?_
    refine lv_bipush (v := 10) hx hb dX12_sense_13 (by decide) ?_
    refine lv_iload_n hx hb dX12_sense_15 rfl (lv_at hl 1 rfl) ?_
    refine lv_iadd hx hb dX12_sense_16 ?_
    obtain ⟨g8, h⟩ := gd_inv h
    refine ldR_ia X hP sR_1 zR_1 g8 dX12_sense_17 ?_
    obtain ⟨r9, M10, hc11, h⟩ := bnd_inv h
    refine gV_i (As := [.int (gI M2 1 (((10 : Int32) + a1)).toNatClampNeg)]) X hP hS hl.1 (c_X12_gives l D cA q aK aV hq hc11) sf_X12_gives bw_1639 sv_X12_gives (rcR_12 sR_0) rfl ⟨rfl, rfl⟩ ⟨Nat.le_of_ble_eq_true rfl, Nat.le_of_ble_eq_true rfl⟩ rfl rfl (Nat.le_of_ble_eq_true rfl) dX12_sense_18 (fun H locs hP hS => ?_)
    refine lv_goto (tgt := 29) hx hb dX12_sense_21 (by decide) ?_
    exact end_i X hr hk hP hS h dX12_sense_29
theorem dX12_rule_0 : decode cX12_rule 0 = .ok (.aload_n 0, 1) := by decide +kernel
theorem dX12_rule_1 : decode cX12_rule 1 = .ok (.iload_n 1, 1) := by decide +kernel
theorem dX12_rule_2 : decode cX12_rule 2 = .ok (.invokevirtual 296, 3) := by decide +kernel
theorem dX12_rule_5 : decode cX12_rule 5 = .ok (.ifCond .eq 12, 3) := by decide +kernel
theorem dX12_rule_8 : decode cX12_rule 8 = .ok (.iload_n 2, 1) := by decide +kernel
theorem dX12_rule_9 : decode cX12_rule 9 = .ok (.ifCond .lt 8, 3) := by decide +kernel
theorem dX12_rule_12 : decode cX12_rule 12 = .ok (.iload_n 2, 1) := by decide +kernel
theorem dX12_rule_13 : decode cX12_rule 13 = .ok (.iconst 4, 1) := by decide +kernel
theorem dX12_rule_14 : decode cX12_rule 14 = .ok (.if_icmp .le 9, 3) := by decide +kernel
theorem dX12_rule_17 : decode cX12_rule 17 = .ok (.aload_n 0, 1) := by decide +kernel
theorem dX12_rule_18 : decode cX12_rule 18 = .ok (.iconst 1, 1) := by decide +kernel
theorem dX12_rule_19 : decode cX12_rule 19 = .ok (.invokevirtual 91, 3) := by decide +kernel
theorem dX12_rule_22 : decode cX12_rule 22 = .ok (.ireturn, 1) := by decide +kernel
theorem dX12_rule_23 : decode cX12_rule 23 = .ok (.iload_n 2, 1) := by decide +kernel
theorem dX12_rule_24 : decode cX12_rule 24 = .ok (.tableswitch 101 0 3 #[32, 32, 43, 72], 32) := by decide +kernel
theorem dX12_rule_56 : decode cX12_rule 56 = .ok (.aload_n 0, 1) := by decide +kernel
theorem dX12_rule_57 : decode cX12_rule 57 = .ok (.aload_n 0, 1) := by decide +kernel
theorem dX12_rule_58 : decode cX12_rule 58 = .ok (.iload_n 1, 1) := by decide +kernel
theorem dX12_rule_59 : decode cX12_rule 59 = .ok (.iload_n 2, 1) := by decide +kernel
theorem dX12_rule_60 : decode cX12_rule 60 = .ok (.invokevirtual 299, 3) := by decide +kernel
theorem dX12_rule_63 : decode cX12_rule 63 = .ok (.invokevirtual 95, 3) := by decide +kernel
theorem dX12_rule_66 : decode cX12_rule 66 = .ok (.ireturn, 1) := by decide +kernel
theorem dX12_rule_67 : decode cX12_rule 67 = .ok (.aload_n 0, 1) := by decide +kernel
theorem dX12_rule_68 : decode cX12_rule 68 = .ok (.iload_n 1, 1) := by decide +kernel
theorem dX12_rule_69 : decode cX12_rule 69 = .ok (.iconst 2, 1) := by decide +kernel
theorem dX12_rule_70 : decode cX12_rule 70 = .ok (.invokevirtual 299, 3) := by decide +kernel
theorem dX12_rule_73 : decode cX12_rule 73 = .ok (.ifCond .ne 12, 3) := by decide +kernel
theorem dX12_rule_76 : decode cX12_rule 76 = .ok (.aload_n 0, 1) := by decide +kernel
theorem dX12_rule_77 : decode cX12_rule 77 = .ok (.bipush 6, 2) := by decide +kernel
theorem dX12_rule_79 : decode cX12_rule 79 = .ok (.invokevirtual 91, 3) := by decide +kernel
theorem dX12_rule_82 : decode cX12_rule 82 = .ok (.goto 13, 3) := by decide +kernel
theorem dX12_rule_85 : decode cX12_rule 85 = .ok (.aload_n 0, 1) := by decide +kernel
theorem dX12_rule_86 : decode cX12_rule 86 = .ok (.aload_n 0, 1) := by decide +kernel
theorem dX12_rule_87 : decode cX12_rule 87 = .ok (.iload_n 1, 1) := by decide +kernel
theorem dX12_rule_88 : decode cX12_rule 88 = .ok (.iconst 3, 1) := by decide +kernel
theorem dX12_rule_89 : decode cX12_rule 89 = .ok (.invokevirtual 299, 3) := by decide +kernel
theorem dX12_rule_92 : decode cX12_rule 92 = .ok (.invokevirtual 95, 3) := by decide +kernel
theorem dX12_rule_95 : decode cX12_rule 95 = .ok (.ireturn, 1) := by decide +kernel
theorem dX12_rule_96 : decode cX12_rule 96 = .ok (.aload_n 0, 1) := by decide +kernel
theorem dX12_rule_97 : decode cX12_rule 97 = .ok (.iload_n 1, 1) := by decide +kernel
theorem dX12_rule_98 : decode cX12_rule 98 = .ok (.iconst 4, 1) := by decide +kernel
theorem dX12_rule_99 : decode cX12_rule 99 = .ok (.invokevirtual 299, 3) := by decide +kernel
theorem dX12_rule_102 : decode cX12_rule 102 = .ok (.ifCond .ne 12, 3) := by decide +kernel
theorem dX12_rule_105 : decode cX12_rule 105 = .ok (.aload_n 0, 1) := by decide +kernel
theorem dX12_rule_106 : decode cX12_rule 106 = .ok (.bipush 6, 2) := by decide +kernel
theorem dX12_rule_108 : decode cX12_rule 108 = .ok (.invokevirtual 91, 3) := by decide +kernel
theorem dX12_rule_111 : decode cX12_rule 111 = .ok (.goto 13, 3) := by decide +kernel
theorem dX12_rule_114 : decode cX12_rule 114 = .ok (.aload_n 0, 1) := by decide +kernel
theorem dX12_rule_115 : decode cX12_rule 115 = .ok (.aload_n 0, 1) := by decide +kernel
theorem dX12_rule_116 : decode cX12_rule 116 = .ok (.iload_n 1, 1) := by decide +kernel
theorem dX12_rule_117 : decode cX12_rule 117 = .ok (.iconst 5, 1) := by decide +kernel
theorem dX12_rule_118 : decode cX12_rule 118 = .ok (.invokevirtual 299, 3) := by decide +kernel
theorem dX12_rule_121 : decode cX12_rule 121 = .ok (.invokevirtual 95, 3) := by decide +kernel
theorem dX12_rule_124 : decode cX12_rule 124 = .ok (.ireturn, 1) := by decide +kernel
theorem dX12_rule_125 : decode cX12_rule 125 = .ok (.aload_n 0, 1) := by decide +kernel
theorem dX12_rule_126 : decode cX12_rule 126 = .ok (.aload_n 0, 1) := by decide +kernel
theorem dX12_rule_127 : decode cX12_rule 127 = .ok (.iload_n 1, 1) := by decide +kernel
theorem dX12_rule_128 : decode cX12_rule 128 = .ok (.bipush 6, 2) := by decide +kernel
theorem dX12_rule_130 : decode cX12_rule 130 = .ok (.invokevirtual 299, 3) := by decide +kernel
theorem dX12_rule_133 : decode cX12_rule 133 = .ok (.invokevirtual 302, 3) := by decide +kernel
theorem dX12_rule_136 : decode cX12_rule 136 = .ok (.ireturn, 1) := by decide +kernel
set_option maxRecDepth 100000 in
set_option maxHeartbeats 8000000 in
theorem c_X12_rule (l : Launch) (D : va_G) (cA : Nat → ClassId) (q aK aV : Nat → Nat) (hq : injG 20 q) {a1 : Int32} {a2 : Int32} {M M0 : Mem} {r0 : Int32} (h : f_X12_rule a1 a2 M = some (r0, M0)) : Met l yX12_rule (.code yX12_rule cX12_rule 3 (some .int) :: BW) ({ frames := 3, cells := 0, slots := 0, locals := 55 } : Room) (va_Pc [.ref (q 0), .int a1, .int a2] (CB 20 (ceR cA q) D cA q aK aV M)) (Qi 20 (ceR cA q) D q r0 M0) 0 0 (AqG 20 q) := by
  refine gMet RX12 (by decide +kernel) rfl hq (Nat.le_of_ble_eq_true rfl) ?_
  intro p e s m below meth c ls X hr hk hP hS hl
  have hx := X.1
  have hb := X.2.1
  have hl : lv_has ls 3 [(0, .ref (q 0)), (1, .int a1), (2, .int a2)] := hl
  rw [f_X12_rule] at h
  refine lv_aload_n hx hb dX12_rule_0 rfl (lv_at hl 0 rfl) ?_
  refine lv_iload_n hx hb dX12_rule_1 rfl (lv_at hl 1 rfl) ?_
  obtain ⟨r1, M2, hc3, h⟩ := bnd_inv h
  refine gV_i (As := [.int a1]) X hP hS hl.1 (c_X12_isRule l D cA q aK aV hq hc3) sf_X12_isRule bw_1699 sv_X12_isRule (rcR_12 sR_0) rfl ⟨rfl, rfl⟩ ⟨Nat.le_of_ble_eq_true rfl, Nat.le_of_ble_eq_true rfl⟩ rfl rfl (Nat.le_of_ble_eq_true rfl) dX12_rule_2 (fun H locs hP hS => ?_)
  refine lv_if_eq (tgt := 17) hx hb dX12_rule_5 (by decide) (fun c4 => ?_) (fun c4 => ?_)
  · rw [if_pos c4] at h
    refine lv_aload_n hx hb dX12_rule_17 rfl (lv_at hl 0 rfl) ?_
    refine lv_iconst (v := 1) hx hb dX12_rule_18 (by decide) ?_
    obtain ⟨r5, M6, hc7, h⟩ := bnd_inv h
    refine gV_i (As := [.int (1 : Int32)]) X hP hS hl.1 (c_X12_refuse l D cA q aK aV hq hc7) sf_X12_refuse bw_1530 sv_X12_refuse (rcR_12 sR_0) rfl ⟨rfl, rfl⟩ ⟨Nat.le_of_ble_eq_true rfl, Nat.le_of_ble_eq_true rfl⟩ rfl rfl (Nat.le_of_ble_eq_true rfl) dX12_rule_19 (fun H locs hP hS => ?_)
    exact end_i X hr hk hP hS h dX12_rule_22
  · rw [if_neg c4] at h
    refine lv_iload_n hx hb dX12_rule_8 rfl (lv_at hl 2 rfl) ?_
    refine lv_if_lt (tgt := 17) hx hb dX12_rule_9 (by decide) (fun c8 => ?_) (fun c8 => ?_)
    · rw [if_pos c8] at h
      refine lv_aload_n hx hb dX12_rule_17 rfl (lv_at hl 0 rfl) ?_
      refine lv_iconst (v := 1) hx hb dX12_rule_18 (by decide) ?_
      obtain ⟨r9, M10, hc11, h⟩ := bnd_inv h
      refine gV_i (As := [.int (1 : Int32)]) X hP hS hl.1 (c_X12_refuse l D cA q aK aV hq hc11) sf_X12_refuse bw_1530 sv_X12_refuse (rcR_12 sR_0) rfl ⟨rfl, rfl⟩ ⟨Nat.le_of_ble_eq_true rfl, Nat.le_of_ble_eq_true rfl⟩ rfl rfl (Nat.le_of_ble_eq_true rfl) dX12_rule_19 (fun H locs hP hS => ?_)
      exact end_i X hr hk hP hS h dX12_rule_22
    · rw [if_neg c8] at h
      refine lv_iload_n hx hb dX12_rule_12 rfl (lv_at hl 2 rfl) ?_
      refine lv_iconst (v := 4) hx hb dX12_rule_13 (by decide) ?_
      refine lv_icmp_le (tgt := 23) hx hb dX12_rule_14 (by decide) (fun c12 => ?_) (fun c12 => ?_)
      · rw [if_pos c12] at h
        refine lv_iload_n hx hb dX12_rule_23 rfl (lv_at hl 2 rfl) ?_
        by_cases c19 : a2 = 0
        · rw [if_pos c19] at h
          refine lv_tableIn (tgt := 56) hx hb dX12_rule_24 (by rw [c19]; decide) (by rw [c19]; decide) (by rw [c19]; rfl) (by decide) ?_
          refine lv_aload_n hx hb dX12_rule_56 rfl (lv_at hl 0 rfl) ?_
          refine lv_aload_n hx hb dX12_rule_57 rfl (lv_at hl 0 rfl) ?_
          refine lv_iload_n hx hb dX12_rule_58 rfl (lv_at hl 1 rfl) ?_
          refine lv_iload_n hx hb dX12_rule_59 rfl (lv_at hl 2 rfl) ?_
          obtain ⟨r13, M14, hc15, h⟩ := bnd_inv h
          refine gV_i (As := [.int a1, .int a2]) X hP hS hl.1 (c_X12_ruleOf l D cA q aK aV hq hc15) sf_X12_ruleOf bw_1703 sv_X12_ruleOf (rcR_12 sR_0) rfl ⟨rfl, rfl⟩ ⟨Nat.le_of_ble_eq_true rfl, Nat.le_of_ble_eq_true rfl⟩ rfl rfl (Nat.le_of_ble_eq_true rfl) dX12_rule_60 (fun H locs hP hS => ?_)
          obtain ⟨r16, M17, hc18, h⟩ := bnd_inv h
          refine gV_i (As := [.int r13]) X hP hS hl.1 (c_X12_gives l D cA q aK aV hq hc18) sf_X12_gives bw_1639 sv_X12_gives (rcR_12 sR_0) rfl ⟨rfl, rfl⟩ ⟨Nat.le_of_ble_eq_true rfl, Nat.le_of_ble_eq_true rfl⟩ rfl rfl (Nat.le_of_ble_eq_true rfl) dX12_rule_63 (fun H locs hP hS => ?_)
          exact end_i X hr hk hP hS h dX12_rule_66
        rw [if_neg c19] at h
        by_cases c26 : a2 = 1
        · rw [if_pos c26] at h
          refine lv_tableIn (tgt := 56) hx hb dX12_rule_24 (by rw [c26]; decide) (by rw [c26]; decide) (by rw [c26]; rfl) (by decide) ?_
          refine lv_aload_n hx hb dX12_rule_56 rfl (lv_at hl 0 rfl) ?_
          refine lv_aload_n hx hb dX12_rule_57 rfl (lv_at hl 0 rfl) ?_
          refine lv_iload_n hx hb dX12_rule_58 rfl (lv_at hl 1 rfl) ?_
          refine lv_iload_n hx hb dX12_rule_59 rfl (lv_at hl 2 rfl) ?_
          obtain ⟨r20, M21, hc22, h⟩ := bnd_inv h
          refine gV_i (As := [.int a1, .int a2]) X hP hS hl.1 (c_X12_ruleOf l D cA q aK aV hq hc22) sf_X12_ruleOf bw_1703 sv_X12_ruleOf (rcR_12 sR_0) rfl ⟨rfl, rfl⟩ ⟨Nat.le_of_ble_eq_true rfl, Nat.le_of_ble_eq_true rfl⟩ rfl rfl (Nat.le_of_ble_eq_true rfl) dX12_rule_60 (fun H locs hP hS => ?_)
          obtain ⟨r23, M24, hc25, h⟩ := bnd_inv h
          refine gV_i (As := [.int r20]) X hP hS hl.1 (c_X12_gives l D cA q aK aV hq hc25) sf_X12_gives bw_1639 sv_X12_gives (rcR_12 sR_0) rfl ⟨rfl, rfl⟩ ⟨Nat.le_of_ble_eq_true rfl, Nat.le_of_ble_eq_true rfl⟩ rfl rfl (Nat.le_of_ble_eq_true rfl) dX12_rule_63 (fun H locs hP hS => ?_)
          exact end_i X hr hk hP hS h dX12_rule_66
        rw [if_neg c26] at h
        by_cases c40 : a2 = 2
        · rw [if_pos c40] at h
          refine lv_tableIn (tgt := 67) hx hb dX12_rule_24 (by rw [c40]; decide) (by rw [c40]; decide) (by rw [c40]; rfl) (by decide) ?_
          refine lv_aload_n hx hb dX12_rule_67 rfl (lv_at hl 0 rfl) ?_
          refine lv_iload_n hx hb dX12_rule_68 rfl (lv_at hl 1 rfl) ?_
          refine lv_iconst (v := 2) hx hb dX12_rule_69 (by decide) ?_
          obtain ⟨r27, M28, hc29, h⟩ := bnd_inv h
          refine gV_i (As := [.int a1, .int (2 : Int32)]) X hP hS hl.1 (c_X12_ruleOf l D cA q aK aV hq hc29) sf_X12_ruleOf bw_1703 sv_X12_ruleOf (rcR_12 sR_0) rfl ⟨rfl, rfl⟩ ⟨Nat.le_of_ble_eq_true rfl, Nat.le_of_ble_eq_true rfl⟩ rfl rfl (Nat.le_of_ble_eq_true rfl) dX12_rule_70 (fun H locs hP hS => ?_)
          refine lv_if_ne (tgt := 85) hx hb dX12_rule_73 (by decide) (fun c30 => ?_) (fun c30 => ?_)
          · rw [if_neg c30] at h
            refine lv_aload_n hx hb dX12_rule_85 rfl (lv_at hl 0 rfl) ?_
            refine lv_aload_n hx hb dX12_rule_86 rfl (lv_at hl 0 rfl) ?_
            refine lv_iload_n hx hb dX12_rule_87 rfl (lv_at hl 1 rfl) ?_
            refine lv_iconst (v := 3) hx hb dX12_rule_88 (by decide) ?_
            obtain ⟨r31, M32, hc33, h⟩ := bnd_inv h
            refine gV_i (As := [.int a1, .int (3 : Int32)]) X hP hS hl.1 (c_X12_ruleOf l D cA q aK aV hq hc33) sf_X12_ruleOf bw_1703 sv_X12_ruleOf (rcR_12 sR_0) rfl ⟨rfl, rfl⟩ ⟨Nat.le_of_ble_eq_true rfl, Nat.le_of_ble_eq_true rfl⟩ rfl rfl (Nat.le_of_ble_eq_true rfl) dX12_rule_89 (fun H locs hP hS => ?_)
            obtain ⟨r34, M35, hc36, h⟩ := bnd_inv h
            refine gV_i (As := [.int r31]) X hP hS hl.1 (c_X12_gives l D cA q aK aV hq hc36) sf_X12_gives bw_1639 sv_X12_gives (rcR_12 sR_0) rfl ⟨rfl, rfl⟩ ⟨Nat.le_of_ble_eq_true rfl, Nat.le_of_ble_eq_true rfl⟩ rfl rfl (Nat.le_of_ble_eq_true rfl) dX12_rule_92 (fun H locs hP hS => ?_)
            exact end_i X hr hk hP hS h dX12_rule_95
          · rw [if_pos c30] at h
            refine lv_aload_n hx hb dX12_rule_76 rfl (lv_at hl 0 rfl) ?_
            refine lv_bipush (v := 6) hx hb dX12_rule_77 (by decide) ?_
            obtain ⟨r37, M38, hc39, h⟩ := bnd_inv h
            refine gV_i (As := [.int (6 : Int32)]) X hP hS hl.1 (c_X12_refuse l D cA q aK aV hq hc39) sf_X12_refuse bw_1530 sv_X12_refuse (rcR_12 sR_0) rfl ⟨rfl, rfl⟩ ⟨Nat.le_of_ble_eq_true rfl, Nat.le_of_ble_eq_true rfl⟩ rfl rfl (Nat.le_of_ble_eq_true rfl) dX12_rule_79 (fun H locs hP hS => ?_)
            refine lv_goto (tgt := 95) hx hb dX12_rule_82 (by decide) ?_
            exact end_i X hr hk hP hS h dX12_rule_95
        rw [if_neg c40] at h
        by_cases c54 : a2 = 3
        · rw [if_pos c54] at h
          refine lv_tableIn (tgt := 96) hx hb dX12_rule_24 (by rw [c54]; decide) (by rw [c54]; decide) (by rw [c54]; rfl) (by decide) ?_
          refine lv_aload_n hx hb dX12_rule_96 rfl (lv_at hl 0 rfl) ?_
          refine lv_iload_n hx hb dX12_rule_97 rfl (lv_at hl 1 rfl) ?_
          refine lv_iconst (v := 4) hx hb dX12_rule_98 (by decide) ?_
          obtain ⟨r41, M42, hc43, h⟩ := bnd_inv h
          refine gV_i (As := [.int a1, .int (4 : Int32)]) X hP hS hl.1 (c_X12_ruleOf l D cA q aK aV hq hc43) sf_X12_ruleOf bw_1703 sv_X12_ruleOf (rcR_12 sR_0) rfl ⟨rfl, rfl⟩ ⟨Nat.le_of_ble_eq_true rfl, Nat.le_of_ble_eq_true rfl⟩ rfl rfl (Nat.le_of_ble_eq_true rfl) dX12_rule_99 (fun H locs hP hS => ?_)
          refine lv_if_ne (tgt := 114) hx hb dX12_rule_102 (by decide) (fun c44 => ?_) (fun c44 => ?_)
          · rw [if_neg c44] at h
            refine lv_aload_n hx hb dX12_rule_114 rfl (lv_at hl 0 rfl) ?_
            refine lv_aload_n hx hb dX12_rule_115 rfl (lv_at hl 0 rfl) ?_
            refine lv_iload_n hx hb dX12_rule_116 rfl (lv_at hl 1 rfl) ?_
            refine lv_iconst (v := 5) hx hb dX12_rule_117 (by decide) ?_
            obtain ⟨r45, M46, hc47, h⟩ := bnd_inv h
            refine gV_i (As := [.int a1, .int (5 : Int32)]) X hP hS hl.1 (c_X12_ruleOf l D cA q aK aV hq hc47) sf_X12_ruleOf bw_1703 sv_X12_ruleOf (rcR_12 sR_0) rfl ⟨rfl, rfl⟩ ⟨Nat.le_of_ble_eq_true rfl, Nat.le_of_ble_eq_true rfl⟩ rfl rfl (Nat.le_of_ble_eq_true rfl) dX12_rule_118 (fun H locs hP hS => ?_)
            obtain ⟨r48, M49, hc50, h⟩ := bnd_inv h
            refine gV_i (As := [.int r45]) X hP hS hl.1 (c_X12_gives l D cA q aK aV hq hc50) sf_X12_gives bw_1639 sv_X12_gives (rcR_12 sR_0) rfl ⟨rfl, rfl⟩ ⟨Nat.le_of_ble_eq_true rfl, Nat.le_of_ble_eq_true rfl⟩ rfl rfl (Nat.le_of_ble_eq_true rfl) dX12_rule_121 (fun H locs hP hS => ?_)
            exact end_i X hr hk hP hS h dX12_rule_124
          · rw [if_pos c44] at h
            refine lv_aload_n hx hb dX12_rule_105 rfl (lv_at hl 0 rfl) ?_
            refine lv_bipush (v := 6) hx hb dX12_rule_106 (by decide) ?_
            obtain ⟨r51, M52, hc53, h⟩ := bnd_inv h
            refine gV_i (As := [.int (6 : Int32)]) X hP hS hl.1 (c_X12_refuse l D cA q aK aV hq hc53) sf_X12_refuse bw_1530 sv_X12_refuse (rcR_12 sR_0) rfl ⟨rfl, rfl⟩ ⟨Nat.le_of_ble_eq_true rfl, Nat.le_of_ble_eq_true rfl⟩ rfl rfl (Nat.le_of_ble_eq_true rfl) dX12_rule_108 (fun H locs hP hS => ?_)
            refine lv_goto (tgt := 124) hx hb dX12_rule_111 (by decide) ?_
            exact end_i X hr hk hP hS h dX12_rule_124
        rw [if_neg c54] at h
        refine lv_tableOut (tgt := 125) hx hb dX12_rule_24 (by have nc19 := lv_neT (a := 0) c19 (by decide); have nc26 := lv_neT (a := 1) c26 (by decide); have nc40 := lv_neT (a := 2) c40 (by decide); have nc54 := lv_neT (a := 3) c54 (by decide); omega) (by decide) ?_
        refine lv_aload_n hx hb dX12_rule_125 rfl (lv_at hl 0 rfl) ?_
        refine lv_aload_n hx hb dX12_rule_126 rfl (lv_at hl 0 rfl) ?_
        refine lv_iload_n hx hb dX12_rule_127 rfl (lv_at hl 1 rfl) ?_
        refine lv_bipush (v := 6) hx hb dX12_rule_128 (by decide) ?_
        obtain ⟨r55, M56, hc57, h⟩ := bnd_inv h
        refine gV_i (As := [.int a1, .int (6 : Int32)]) X hP hS hl.1 (c_X12_ruleOf l D cA q aK aV hq hc57) sf_X12_ruleOf bw_1703 sv_X12_ruleOf (rcR_12 sR_0) rfl ⟨rfl, rfl⟩ ⟨Nat.le_of_ble_eq_true rfl, Nat.le_of_ble_eq_true rfl⟩ rfl rfl (Nat.le_of_ble_eq_true rfl) dX12_rule_130 (fun H locs hP hS => ?_)
        obtain ⟨r58, M59, hc60, h⟩ := bnd_inv h
        refine gV_i (As := [.int r55]) X hP hS hl.1 (c_X12_orNone l D cA q aK aV hq hc60) sf_X12_orNone bw_1707 sv_X12_orNone (rcR_12 sR_0) rfl ⟨rfl, rfl⟩ ⟨Nat.le_of_ble_eq_true rfl, Nat.le_of_ble_eq_true rfl⟩ rfl rfl (Nat.le_of_ble_eq_true rfl) dX12_rule_133 (fun H locs hP hS => ?_)
        exact end_i X hr hk hP hS h dX12_rule_136
      · rw [if_neg c12] at h
        refine lv_aload_n hx hb dX12_rule_17 rfl (lv_at hl 0 rfl) ?_
        refine lv_iconst (v := 1) hx hb dX12_rule_18 (by decide) ?_
        obtain ⟨r61, M62, hc63, h⟩ := bnd_inv h
        refine gV_i (As := [.int (1 : Int32)]) X hP hS hl.1 (c_X12_refuse l D cA q aK aV hq hc63) sf_X12_refuse bw_1530 sv_X12_refuse (rcR_12 sR_0) rfl ⟨rfl, rfl⟩ ⟨Nat.le_of_ble_eq_true rfl, Nat.le_of_ble_eq_true rfl⟩ rfl rfl (Nat.le_of_ble_eq_true rfl) dX12_rule_19 (fun H locs hP hS => ?_)
        exact end_i X hr hk hP hS h dX12_rule_22
theorem dX12_person_0 : decode cX12_person 0 = .ok (.aload_n 0, 1) := by decide +kernel
theorem dX12_person_1 : decode cX12_person 1 = .ok (.iload_n 1, 1) := by decide +kernel
theorem dX12_person_2 : decode cX12_person 2 = .ok (.i2l, 1) := by decide +kernel
theorem dX12_person_3 : decode cX12_person 3 = .ok (.invokevirtual 305, 3) := by decide +kernel
theorem dX12_person_6 : decode cX12_person 6 = .ok (.ifCond .eq 12, 3) := by decide +kernel
theorem dX12_person_9 : decode cX12_person 9 = .ok (.iload_n 2, 1) := by decide +kernel
theorem dX12_person_10 : decode cX12_person 10 = .ok (.ifCond .lt 8, 3) := by decide +kernel
theorem dX12_person_13 : decode cX12_person 13 = .ok (.iload_n 2, 1) := by decide +kernel
theorem dX12_person_14 : decode cX12_person 14 = .ok (.iconst 4, 1) := by decide +kernel
theorem dX12_person_15 : decode cX12_person 15 = .ok (.if_icmp .le 9, 3) := by decide +kernel
theorem dX12_person_18 : decode cX12_person 18 = .ok (.aload_n 0, 1) := by decide +kernel
theorem dX12_person_19 : decode cX12_person 19 = .ok (.iconst 1, 1) := by decide +kernel
theorem dX12_person_20 : decode cX12_person 20 = .ok (.invokevirtual 91, 3) := by decide +kernel
theorem dX12_person_23 : decode cX12_person 23 = .ok (.ireturn, 1) := by decide +kernel
theorem dX12_person_24 : decode cX12_person 24 = .ok (.aload_n 0, 1) := by decide +kernel
theorem dX12_person_25 : decode cX12_person 25 = .ok (.aload_n 0, 1) := by decide +kernel
theorem dX12_person_26 : decode cX12_person 26 = .ok (.iload_n 1, 1) := by decide +kernel
theorem dX12_person_27 : decode cX12_person 27 = .ok (.iload_n 2, 1) := by decide +kernel
theorem dX12_person_28 : decode cX12_person 28 = .ok (.invokevirtual 281, 3) := by decide +kernel
theorem dX12_person_31 : decode cX12_person 31 = .ok (.invokevirtual 95, 3) := by decide +kernel
theorem dX12_person_34 : decode cX12_person 34 = .ok (.ireturn, 1) := by decide +kernel
set_option maxRecDepth 100000 in
set_option maxHeartbeats 8000000 in
theorem c_X12_person (l : Launch) (D : va_G) (cA : Nat → ClassId) (q aK aV : Nat → Nat) (hq : injG 20 q) {a1 : Int32} {a2 : Int32} {M M0 : Mem} {r0 : Int32} (h : f_X12_person a1 a2 M = some (r0, M0)) : Met l yX12_person (.code yX12_person cX12_person 3 (some .int) :: BW) ({ frames := 3, cells := 0, slots := 0, locals := 54 } : Room) (va_Pc [.ref (q 0), .int a1, .int a2] (CB 20 (ceR cA q) D cA q aK aV M)) (Qi 20 (ceR cA q) D q r0 M0) 0 0 (AqG 20 q) := by
  refine gMet RX12 (by decide +kernel) rfl hq (Nat.le_of_ble_eq_true rfl) ?_
  intro p e s m below meth c ls X hr hk hP hS hl
  have hx := X.1
  have hb := X.2.1
  have hl : lv_has ls 3 [(0, .ref (q 0)), (1, .int a1), (2, .int a2)] := hl
  rw [f_X12_person] at h
  refine lv_aload_n hx hb dX12_person_0 rfl (lv_at hl 0 rfl) ?_
  refine lv_iload_n hx hb dX12_person_1 rfl (lv_at hl 1 rfl) ?_
  refine lv_i2l hx hb dX12_person_2 rfl ?_
  obtain ⟨r1, M2, hc3, h⟩ := bnd_inv h
  refine gV_i (As := [.long (a1.toInt64)]) X hP hS hl.1 (c_X12_isPerson l D cA q aK aV hq hc3) sf_X12_isPerson bw_1715 sv_X12_isPerson (rcR_12 sR_0) rfl ⟨rfl, rfl⟩ ⟨Nat.le_of_ble_eq_true rfl, Nat.le_of_ble_eq_true rfl⟩ rfl rfl (Nat.le_of_ble_eq_true rfl) dX12_person_3 (fun H locs hP hS => ?_)
  refine lv_if_eq (tgt := 18) hx hb dX12_person_6 (by decide) (fun c4 => ?_) (fun c4 => ?_)
  · rw [if_pos c4] at h
    refine lv_aload_n hx hb dX12_person_18 rfl (lv_at hl 0 rfl) ?_
    refine lv_iconst (v := 1) hx hb dX12_person_19 (by decide) ?_
    obtain ⟨r5, M6, hc7, h⟩ := bnd_inv h
    refine gV_i (As := [.int (1 : Int32)]) X hP hS hl.1 (c_X12_refuse l D cA q aK aV hq hc7) sf_X12_refuse bw_1530 sv_X12_refuse (rcR_12 sR_0) rfl ⟨rfl, rfl⟩ ⟨Nat.le_of_ble_eq_true rfl, Nat.le_of_ble_eq_true rfl⟩ rfl rfl (Nat.le_of_ble_eq_true rfl) dX12_person_20 (fun H locs hP hS => ?_)
    exact end_i X hr hk hP hS h dX12_person_23
  · rw [if_neg c4] at h
    refine lv_iload_n hx hb dX12_person_9 rfl (lv_at hl 2 rfl) ?_
    refine lv_if_lt (tgt := 18) hx hb dX12_person_10 (by decide) (fun c8 => ?_) (fun c8 => ?_)
    · rw [if_pos c8] at h
      refine lv_aload_n hx hb dX12_person_18 rfl (lv_at hl 0 rfl) ?_
      refine lv_iconst (v := 1) hx hb dX12_person_19 (by decide) ?_
      obtain ⟨r9, M10, hc11, h⟩ := bnd_inv h
      refine gV_i (As := [.int (1 : Int32)]) X hP hS hl.1 (c_X12_refuse l D cA q aK aV hq hc11) sf_X12_refuse bw_1530 sv_X12_refuse (rcR_12 sR_0) rfl ⟨rfl, rfl⟩ ⟨Nat.le_of_ble_eq_true rfl, Nat.le_of_ble_eq_true rfl⟩ rfl rfl (Nat.le_of_ble_eq_true rfl) dX12_person_20 (fun H locs hP hS => ?_)
      exact end_i X hr hk hP hS h dX12_person_23
    · rw [if_neg c8] at h
      refine lv_iload_n hx hb dX12_person_13 rfl (lv_at hl 2 rfl) ?_
      refine lv_iconst (v := 4) hx hb dX12_person_14 (by decide) ?_
      refine lv_icmp_le (tgt := 24) hx hb dX12_person_15 (by decide) (fun c12 => ?_) (fun c12 => ?_)
      · rw [if_pos c12] at h
        refine lv_aload_n hx hb dX12_person_24 rfl (lv_at hl 0 rfl) ?_
        refine lv_aload_n hx hb dX12_person_25 rfl (lv_at hl 0 rfl) ?_
        refine lv_iload_n hx hb dX12_person_26 rfl (lv_at hl 1 rfl) ?_
        refine lv_iload_n hx hb dX12_person_27 rfl (lv_at hl 2 rfl) ?_
        obtain ⟨r13, M14, hc15, h⟩ := bnd_inv h
        refine gV_i (As := [.int a1, .int a2]) X hP hS hl.1 (c_X12_personOf l D cA q aK aV hq hc15) sf_X12_personOf bw_1683 sv_X12_personOf (rcR_12 sR_0) rfl ⟨rfl, rfl⟩ ⟨Nat.le_of_ble_eq_true rfl, Nat.le_of_ble_eq_true rfl⟩ rfl rfl (Nat.le_of_ble_eq_true rfl) dX12_person_28 (fun H locs hP hS => ?_)
        obtain ⟨r16, M17, hc18, h⟩ := bnd_inv h
        refine gV_i (As := [.int r13]) X hP hS hl.1 (c_X12_gives l D cA q aK aV hq hc18) sf_X12_gives bw_1639 sv_X12_gives (rcR_12 sR_0) rfl ⟨rfl, rfl⟩ ⟨Nat.le_of_ble_eq_true rfl, Nat.le_of_ble_eq_true rfl⟩ rfl rfl (Nat.le_of_ble_eq_true rfl) dX12_person_31 (fun H locs hP hS => ?_)
        exact end_i X hr hk hP hS h dX12_person_34
      · rw [if_neg c12] at h
        refine lv_aload_n hx hb dX12_person_18 rfl (lv_at hl 0 rfl) ?_
        refine lv_iconst (v := 1) hx hb dX12_person_19 (by decide) ?_
        obtain ⟨r19, M20, hc21, h⟩ := bnd_inv h
        refine gV_i (As := [.int (1 : Int32)]) X hP hS hl.1 (c_X12_refuse l D cA q aK aV hq hc21) sf_X12_refuse bw_1530 sv_X12_refuse (rcR_12 sR_0) rfl ⟨rfl, rfl⟩ ⟨Nat.le_of_ble_eq_true rfl, Nat.le_of_ble_eq_true rfl⟩ rfl rfl (Nat.le_of_ble_eq_true rfl) dX12_person_20 (fun H locs hP hS => ?_)
        exact end_i X hr hk hP hS h dX12_person_23
theorem dX12_reader_0 : decode cX12_reader 0 = .ok (.aload_n 0, 1) := by decide +kernel
theorem dX12_reader_1 : decode cX12_reader 1 = .ok (.iload_n 1, 1) := by decide +kernel
theorem dX12_reader_2 : decode cX12_reader 2 = .ok (.invokevirtual 309, 3) := by decide +kernel
theorem dX12_reader_5 : decode cX12_reader 5 = .ok (.ifCond .eq 12, 3) := by decide +kernel
theorem dX12_reader_8 : decode cX12_reader 8 = .ok (.iload_n 2, 1) := by decide +kernel
theorem dX12_reader_9 : decode cX12_reader 9 = .ok (.ifCond .lt 8, 3) := by decide +kernel
theorem dX12_reader_12 : decode cX12_reader 12 = .ok (.iload_n 2, 1) := by decide +kernel
theorem dX12_reader_13 : decode cX12_reader 13 = .ok (.iconst 1, 1) := by decide +kernel
theorem dX12_reader_14 : decode cX12_reader 14 = .ok (.if_icmp .le 9, 3) := by decide +kernel
theorem dX12_reader_17 : decode cX12_reader 17 = .ok (.aload_n 0, 1) := by decide +kernel
theorem dX12_reader_18 : decode cX12_reader 18 = .ok (.iconst 1, 1) := by decide +kernel
theorem dX12_reader_19 : decode cX12_reader 19 = .ok (.invokevirtual 91, 3) := by decide +kernel
theorem dX12_reader_22 : decode cX12_reader 22 = .ok (.ireturn, 1) := by decide +kernel
theorem dX12_reader_23 : decode cX12_reader 23 = .ok (.aload_n 0, 1) := by decide +kernel
theorem dX12_reader_24 : decode cX12_reader 24 = .ok (.iload_n 2, 1) := by decide +kernel
theorem dX12_reader_25 : decode cX12_reader 25 = .ok (.ifCond .ne 11, 3) := by decide +kernel
theorem dX12_reader_28 : decode cX12_reader 28 = .ok (.aload_n 0, 1) := by decide +kernel
theorem dX12_reader_29 : decode cX12_reader 29 = .ok (.iload_n 1, 1) := by decide +kernel
theorem dX12_reader_30 : decode cX12_reader 30 = .ok (.invokevirtual 312, 3) := by decide +kernel
theorem dX12_reader_33 : decode cX12_reader 33 = .ok (.goto 8, 3) := by decide +kernel
theorem dX12_reader_36 : decode cX12_reader 36 = .ok (.aload_n 0, 1) := by decide +kernel
theorem dX12_reader_37 : decode cX12_reader 37 = .ok (.iload_n 1, 1) := by decide +kernel
theorem dX12_reader_38 : decode cX12_reader 38 = .ok (.invokevirtual 284, 3) := by decide +kernel
theorem dX12_reader_41 : decode cX12_reader 41 = .ok (.invokevirtual 95, 3) := by decide +kernel
theorem dX12_reader_44 : decode cX12_reader 44 = .ok (.ireturn, 1) := by decide +kernel
set_option maxRecDepth 100000 in
set_option maxHeartbeats 8000000 in
theorem c_X12_reader (l : Launch) (D : va_G) (cA : Nat → ClassId) (q aK aV : Nat → Nat) (hq : injG 20 q) {a1 : Int32} {a2 : Int32} {M M0 : Mem} {r0 : Int32} (h : f_X12_reader a1 a2 M = some (r0, M0)) : Met l yX12_reader (.code yX12_reader cX12_reader 3 (some .int) :: BW) ({ frames := 2, cells := 0, slots := 0, locals := 34 } : Room) (va_Pc [.ref (q 0), .int a1, .int a2] (CB 20 (ceR cA q) D cA q aK aV M)) (Qi 20 (ceR cA q) D q r0 M0) 0 0 (AqG 20 q) := by
  refine gMet RX12 (by decide +kernel) rfl hq (Nat.le_of_ble_eq_true rfl) ?_
  intro p e s m below meth c ls X hr hk hP hS hl
  have hx := X.1
  have hb := X.2.1
  have hl : lv_has ls 3 [(0, .ref (q 0)), (1, .int a1), (2, .int a2)] := hl
  rw [f_X12_reader] at h
  refine lv_aload_n hx hb dX12_reader_0 rfl (lv_at hl 0 rfl) ?_
  refine lv_iload_n hx hb dX12_reader_1 rfl (lv_at hl 1 rfl) ?_
  obtain ⟨r1, M2, hc3, h⟩ := bnd_inv h
  refine gV_i (As := [.int a1]) X hP hS hl.1 (c_X12_isReader l D cA q aK aV hq hc3) sf_X12_isReader bw_1723 sv_X12_isReader (rcR_12 sR_0) rfl ⟨rfl, rfl⟩ ⟨Nat.le_of_ble_eq_true rfl, Nat.le_of_ble_eq_true rfl⟩ rfl rfl (Nat.le_of_ble_eq_true rfl) dX12_reader_2 (fun H locs hP hS => ?_)
  refine lv_if_eq (tgt := 17) hx hb dX12_reader_5 (by decide) (fun c4 => ?_) (fun c4 => ?_)
  · rw [if_pos c4] at h
    refine lv_aload_n hx hb dX12_reader_17 rfl (lv_at hl 0 rfl) ?_
    refine lv_iconst (v := 1) hx hb dX12_reader_18 (by decide) ?_
    obtain ⟨r5, M6, hc7, h⟩ := bnd_inv h
    refine gV_i (As := [.int (1 : Int32)]) X hP hS hl.1 (c_X12_refuse l D cA q aK aV hq hc7) sf_X12_refuse bw_1530 sv_X12_refuse (rcR_12 sR_0) rfl ⟨rfl, rfl⟩ ⟨Nat.le_of_ble_eq_true rfl, Nat.le_of_ble_eq_true rfl⟩ rfl rfl (Nat.le_of_ble_eq_true rfl) dX12_reader_19 (fun H locs hP hS => ?_)
    exact end_i X hr hk hP hS h dX12_reader_22
  · rw [if_neg c4] at h
    refine lv_iload_n hx hb dX12_reader_8 rfl (lv_at hl 2 rfl) ?_
    refine lv_if_lt (tgt := 17) hx hb dX12_reader_9 (by decide) (fun c8 => ?_) (fun c8 => ?_)
    · rw [if_pos c8] at h
      refine lv_aload_n hx hb dX12_reader_17 rfl (lv_at hl 0 rfl) ?_
      refine lv_iconst (v := 1) hx hb dX12_reader_18 (by decide) ?_
      obtain ⟨r9, M10, hc11, h⟩ := bnd_inv h
      refine gV_i (As := [.int (1 : Int32)]) X hP hS hl.1 (c_X12_refuse l D cA q aK aV hq hc11) sf_X12_refuse bw_1530 sv_X12_refuse (rcR_12 sR_0) rfl ⟨rfl, rfl⟩ ⟨Nat.le_of_ble_eq_true rfl, Nat.le_of_ble_eq_true rfl⟩ rfl rfl (Nat.le_of_ble_eq_true rfl) dX12_reader_19 (fun H locs hP hS => ?_)
      exact end_i X hr hk hP hS h dX12_reader_22
    · rw [if_neg c8] at h
      refine lv_iload_n hx hb dX12_reader_12 rfl (lv_at hl 2 rfl) ?_
      refine lv_iconst (v := 1) hx hb dX12_reader_13 (by decide) ?_
      refine lv_icmp_le (tgt := 23) hx hb dX12_reader_14 (by decide) (fun c12 => ?_) (fun c12 => ?_)
      · rw [if_pos c12] at h
        refine lv_aload_n hx hb dX12_reader_23 rfl (lv_at hl 0 rfl) ?_
        refine lv_iload_n hx hb dX12_reader_24 rfl (lv_at hl 2 rfl) ?_
        refine lv_if_ne (tgt := 36) hx hb dX12_reader_25 (by decide) (fun c13 => ?_) (fun c13 => ?_)
        · rw [if_neg c13] at h
          refine lv_aload_n hx hb dX12_reader_36 rfl (lv_at hl 0 rfl) ?_
          refine lv_iload_n hx hb dX12_reader_37 rfl (lv_at hl 1 rfl) ?_
          obtain ⟨r14, M15, hc16, h⟩ := bnd_inv h
          refine gV_i (As := [.int a1]) X hP hS hl.1 (c_X12_votesOf l D cA q aK aV hq hc16) sf_X12_votesOf bw_1675 sv_X12_votesOf (rcR_12 sR_0) rfl ⟨rfl, rfl⟩ ⟨Nat.le_of_ble_eq_true rfl, Nat.le_of_ble_eq_true rfl⟩ rfl rfl (Nat.le_of_ble_eq_true rfl) dX12_reader_38 (fun H locs hP hS => ?_)
          obtain ⟨r17, M18, hc19, h⟩ := bnd_inv h
          refine gV_i (As := [.int r14]) X hP hS hl.1 (c_X12_gives l D cA q aK aV hq hc19) sf_X12_gives bw_1639 sv_X12_gives (rcR_12 sR_0) rfl ⟨rfl, rfl⟩ ⟨Nat.le_of_ble_eq_true rfl, Nat.le_of_ble_eq_true rfl⟩ rfl rfl (Nat.le_of_ble_eq_true rfl) dX12_reader_41 (fun H locs hP hS => ?_)
          exact end_i X hr hk hP hS h dX12_reader_44
        · rw [if_pos c13] at h
          refine lv_aload_n hx hb dX12_reader_28 rfl (lv_at hl 0 rfl) ?_
          refine lv_iload_n hx hb dX12_reader_29 rfl (lv_at hl 1 rfl) ?_
          obtain ⟨r20, M21, hc22, h⟩ := bnd_inv h
          refine gV_i (As := [.int a1]) X hP hS hl.1 (c_X12_slipOf l D cA q aK aV hq hc22) sf_X12_slipOf bw_1727 sv_X12_slipOf (rcR_12 sR_0) rfl ⟨rfl, rfl⟩ ⟨Nat.le_of_ble_eq_true rfl, Nat.le_of_ble_eq_true rfl⟩ rfl rfl (Nat.le_of_ble_eq_true rfl) dX12_reader_30 (fun H locs hP hS => ?_)
          refine lv_goto (tgt := 41) hx hb dX12_reader_33 (by decide) ?_
          obtain ⟨r23, M24, hc25, h⟩ := bnd_inv h
          refine gV_i (As := [.int r20]) X hP hS hl.1 (c_X12_gives l D cA q aK aV hq hc25) sf_X12_gives bw_1639 sv_X12_gives (rcR_12 sR_0) rfl ⟨rfl, rfl⟩ ⟨Nat.le_of_ble_eq_true rfl, Nat.le_of_ble_eq_true rfl⟩ rfl rfl (Nat.le_of_ble_eq_true rfl) dX12_reader_41 (fun H locs hP hS => ?_)
          exact end_i X hr hk hP hS h dX12_reader_44
      · rw [if_neg c12] at h
        refine lv_aload_n hx hb dX12_reader_17 rfl (lv_at hl 0 rfl) ?_
        refine lv_iconst (v := 1) hx hb dX12_reader_18 (by decide) ?_
        obtain ⟨r26, M27, hc28, h⟩ := bnd_inv h
        refine gV_i (As := [.int (1 : Int32)]) X hP hS hl.1 (c_X12_refuse l D cA q aK aV hq hc28) sf_X12_refuse bw_1530 sv_X12_refuse (rcR_12 sR_0) rfl ⟨rfl, rfl⟩ ⟨Nat.le_of_ble_eq_true rfl, Nat.le_of_ble_eq_true rfl⟩ rfl rfl (Nat.le_of_ble_eq_true rfl) dX12_reader_19 (fun H locs hP hS => ?_)
        exact end_i X hr hk hP hS h dX12_reader_22
theorem dX12_word_0 : decode cX12_word 0 = .ok (.iload_n 1, 1) := by decide +kernel
theorem dX12_word_1 : decode cX12_word 1 = .ok (.ifCond .lt 22, 3) := by decide +kernel
theorem dX12_word_4 : decode cX12_word 4 = .ok (.iload_n 1, 1) := by decide +kernel
theorem dX12_word_5 : decode cX12_word 5 = .ok (.aload_n 0, 1) := by decide +kernel
theorem dX12_word_6 : decode cX12_word 6 = .ok (.getfield 7, 3) := by decide +kernel
theorem dX12_word_9 : decode cX12_word 9 = .ok (.iconst 5, 1) := by decide +kernel
theorem dX12_word_10 : decode cX12_word 10 = .ok (.iaload, 1) := by decide +kernel
theorem dX12_word_11 : decode cX12_word 11 = .ok (.if_icmp .ge 12, 3) := by decide +kernel
theorem dX12_word_14 : decode cX12_word 14 = .ok (.iload_n 2, 1) := by decide +kernel
theorem dX12_word_15 : decode cX12_word 15 = .ok (.ifCond .lt 8, 3) := by decide +kernel
theorem dX12_word_18 : decode cX12_word 18 = .ok (.iload_n 2, 1) := by decide +kernel
theorem dX12_word_19 : decode cX12_word 19 = .ok (.iconst 1, 1) := by decide +kernel
theorem dX12_word_20 : decode cX12_word 20 = .ok (.if_icmp .le 9, 3) := by decide +kernel
theorem dX12_word_23 : decode cX12_word 23 = .ok (.aload_n 0, 1) := by decide +kernel
theorem dX12_word_24 : decode cX12_word 24 = .ok (.iconst 1, 1) := by decide +kernel
theorem dX12_word_25 : decode cX12_word 25 = .ok (.invokevirtual 91, 3) := by decide +kernel
theorem dX12_word_28 : decode cX12_word 28 = .ok (.ireturn, 1) := by decide +kernel
theorem dX12_word_29 : decode cX12_word 29 = .ok (.aload_n 0, 1) := by decide +kernel
theorem dX12_word_30 : decode cX12_word 30 = .ok (.aload_n 0, 1) := by decide +kernel
theorem dX12_word_31 : decode cX12_word 31 = .ok (.getfield 7, 3) := by decide +kernel
theorem dX12_word_34 : decode cX12_word 34 = .ok (.bipush 114, 2) := by decide +kernel
theorem dX12_word_36 : decode cX12_word 36 = .ok (.iconst 2, 1) := by decide +kernel
theorem dX12_word_37 : decode cX12_word 37 = .ok (.iload_n 1, 1) := by decide +kernel
theorem dX12_word_38 : decode cX12_word 38 = .ok (.imul, 1) := by decide +kernel
theorem dX12_word_39 : decode cX12_word 39 = .ok (.iadd, 1) := by decide +kernel
theorem dX12_word_40 : decode cX12_word 40 = .ok (.iload_n 2, 1) := by decide +kernel
theorem dX12_word_41 : decode cX12_word 41 = .ok (.iadd, 1) := by decide +kernel
theorem dX12_word_42 : decode cX12_word 42 = .ok (.iaload, 1) := by decide +kernel
theorem dX12_word_43 : decode cX12_word 43 = .ok (.invokevirtual 95, 3) := by decide +kernel
theorem dX12_word_46 : decode cX12_word 46 = .ok (.ireturn, 1) := by decide +kernel
set_option maxRecDepth 100000 in
set_option maxHeartbeats 8000000 in
theorem c_X12_word (l : Launch) (D : va_G) (cA : Nat → ClassId) (q aK aV : Nat → Nat) (hq : injG 20 q) {a1 : Int32} {a2 : Int32} {M M0 : Mem} {r0 : Int32} (h : f_X12_word a1 a2 M = some (r0, M0)) : Met l yX12_word (.code yX12_word cX12_word 3 (some .int) :: BW) ({ frames := 2, cells := 0, slots := 0, locals := 34 } : Room) (va_Pc [.ref (q 0), .int a1, .int a2] (CB 20 (ceR cA q) D cA q aK aV M)) (Qi 20 (ceR cA q) D q r0 M0) 0 0 (AqG 20 q) := by
  refine gMet RX12 (by decide +kernel) rfl hq (Nat.le_of_ble_eq_true rfl) ?_
  intro p e s m below meth c ls X hr hk hP hS hl
  have hx := X.1
  have hb := X.2.1
  have hl : lv_has ls 3 [(0, .ref (q 0)), (1, .int a1), (2, .int a2)] := hl
  rw [f_X12_word] at h
  refine lv_iload_n hx hb dX12_word_0 rfl (lv_at hl 1 rfl) ?_
  refine lv_if_lt (tgt := 23) hx hb dX12_word_1 (by decide) (fun c1 => ?_) (fun c1 => ?_)
  · rw [if_pos c1] at h
    refine lv_aload_n hx hb dX12_word_23 rfl (lv_at hl 0 rfl) ?_
    refine lv_iconst (v := 1) hx hb dX12_word_24 (by decide) ?_
    obtain ⟨r2, M3, hc4, h⟩ := bnd_inv h
    refine gV_i (As := [.int (1 : Int32)]) X hP hS hl.1 (c_X12_refuse l D cA q aK aV hq hc4) sf_X12_refuse bw_1530 sv_X12_refuse (rcR_12 sR_0) rfl ⟨rfl, rfl⟩ ⟨Nat.le_of_ble_eq_true rfl, Nat.le_of_ble_eq_true rfl⟩ rfl rfl (Nat.le_of_ble_eq_true rfl) dX12_word_25 (fun H locs hP hS => ?_)
    exact end_i X hr hk hP hS h dX12_word_28
  · rw [if_neg c1] at h
    refine lv_iload_n hx hb dX12_word_4 rfl (lv_at hl 1 rfl) ?_
    refine lv_aload_n hx hb dX12_word_5 rfl (lv_at hl 0 rfl) ?_
    refine gfR_12_0 X hP sR_0 bw_1323 dX12_word_6 ?_
    refine lv_iconst (v := 5) hx hb dX12_word_9 (by decide) ?_
    refine ldR_ia X hP sR_1 zR_1 (by decide) dX12_word_10 ?_
    refine topE (y := (gI M 1 5)) rfl ?_
    refine lv_icmp_ge (tgt := 23) hx hb dX12_word_11 (by decide) (fun c5 => ?_) (fun c5 => ?_)
    · rw [if_pos c5] at h
      refine lv_aload_n hx hb dX12_word_23 rfl (lv_at hl 0 rfl) ?_
      refine lv_iconst (v := 1) hx hb dX12_word_24 (by decide) ?_
      obtain ⟨r6, M7, hc8, h⟩ := bnd_inv h
      refine gV_i (As := [.int (1 : Int32)]) X hP hS hl.1 (c_X12_refuse l D cA q aK aV hq hc8) sf_X12_refuse bw_1530 sv_X12_refuse (rcR_12 sR_0) rfl ⟨rfl, rfl⟩ ⟨Nat.le_of_ble_eq_true rfl, Nat.le_of_ble_eq_true rfl⟩ rfl rfl (Nat.le_of_ble_eq_true rfl) dX12_word_25 (fun H locs hP hS => ?_)
      exact end_i X hr hk hP hS h dX12_word_28
    · rw [if_neg c5] at h
      refine lv_iload_n hx hb dX12_word_14 rfl (lv_at hl 2 rfl) ?_
      refine lv_if_lt (tgt := 23) hx hb dX12_word_15 (by decide) (fun c9 => ?_) (fun c9 => ?_)
      · rw [if_pos c9] at h
        refine lv_aload_n hx hb dX12_word_23 rfl (lv_at hl 0 rfl) ?_
        refine lv_iconst (v := 1) hx hb dX12_word_24 (by decide) ?_
        obtain ⟨r10, M11, hc12, h⟩ := bnd_inv h
        refine gV_i (As := [.int (1 : Int32)]) X hP hS hl.1 (c_X12_refuse l D cA q aK aV hq hc12) sf_X12_refuse bw_1530 sv_X12_refuse (rcR_12 sR_0) rfl ⟨rfl, rfl⟩ ⟨Nat.le_of_ble_eq_true rfl, Nat.le_of_ble_eq_true rfl⟩ rfl rfl (Nat.le_of_ble_eq_true rfl) dX12_word_25 (fun H locs hP hS => ?_)
        exact end_i X hr hk hP hS h dX12_word_28
      · rw [if_neg c9] at h
        refine lv_iload_n hx hb dX12_word_18 rfl (lv_at hl 2 rfl) ?_
        refine lv_iconst (v := 1) hx hb dX12_word_19 (by decide) ?_
        refine lv_icmp_le (tgt := 29) hx hb dX12_word_20 (by decide) (fun c13 => ?_) (fun c13 => ?_)
        · rw [if_pos c13] at h
          refine lv_aload_n hx hb dX12_word_29 rfl (lv_at hl 0 rfl) ?_
          refine lv_aload_n hx hb dX12_word_30 rfl (lv_at hl 0 rfl) ?_
          refine gfR_12_0 X hP sR_0 bw_1323 dX12_word_31 ?_
          refine lv_bipush (v := 114) hx hb dX12_word_34 (by decide) ?_
          refine lv_iconst (v := 2) hx hb dX12_word_36 (by decide) ?_
          refine lv_iload_n hx hb dX12_word_37 rfl (lv_at hl 1 rfl) ?_
          refine lv_imul hx hb dX12_word_38 ?_
          refine lv_iadd hx hb dX12_word_39 ?_
          refine lv_iload_n hx hb dX12_word_40 rfl (lv_at hl 2 rfl) ?_
          refine lv_iadd hx hb dX12_word_41 ?_
          obtain ⟨g14, h⟩ := gd_inv h
          refine ldR_ia X hP sR_1 zR_1 g14 dX12_word_42 ?_
          obtain ⟨r15, M16, hc17, h⟩ := bnd_inv h
          refine gV_i (As := [.int (gI M 1 ((((114 : Int32) + ((2 : Int32) * a1)) + a2)).toNatClampNeg)]) X hP hS hl.1 (c_X12_gives l D cA q aK aV hq hc17) sf_X12_gives bw_1639 sv_X12_gives (rcR_12 sR_0) rfl ⟨rfl, rfl⟩ ⟨Nat.le_of_ble_eq_true rfl, Nat.le_of_ble_eq_true rfl⟩ rfl rfl (Nat.le_of_ble_eq_true rfl) dX12_word_43 (fun H locs hP hS => ?_)
          exact end_i X hr hk hP hS h dX12_word_46
        · rw [if_neg c13] at h
          refine lv_aload_n hx hb dX12_word_23 rfl (lv_at hl 0 rfl) ?_
          refine lv_iconst (v := 1) hx hb dX12_word_24 (by decide) ?_
          obtain ⟨r18, M19, hc20, h⟩ := bnd_inv h
          refine gV_i (As := [.int (1 : Int32)]) X hP hS hl.1 (c_X12_refuse l D cA q aK aV hq hc20) sf_X12_refuse bw_1530 sv_X12_refuse (rcR_12 sR_0) rfl ⟨rfl, rfl⟩ ⟨Nat.le_of_ble_eq_true rfl, Nat.le_of_ble_eq_true rfl⟩ rfl rfl (Nat.le_of_ble_eq_true rfl) dX12_word_25 (fun H locs hP hS => ?_)
          exact end_i X hr hk hP hS h dX12_word_28
theorem dX12_isSo_0 : decode cX12_isSo 0 = .ok (.iload_n 0, 1) := by decide +kernel
theorem dX12_isSo_1 : decode cX12_isSo 1 = .ok (.ifCond .eq 36, 3) := by decide +kernel
theorem dX12_isSo_4 : decode cX12_isSo 4 = .ok (.iload_n 0, 1) := by decide +kernel
theorem dX12_isSo_5 : decode cX12_isSo 5 = .ok (.bipush 60, 2) := by decide +kernel
theorem dX12_isSo_7 : decode cX12_isSo 7 = .ok (.if_icmp .ne 11, 3) := by decide +kernel
theorem dX12_isSo_10 : decode cX12_isSo 10 = .ok (.iload_n 1, 1) := by decide +kernel
theorem dX12_isSo_11 : decode cX12_isSo 11 = .ok (.iload_n 2, 1) := by decide +kernel
theorem dX12_isSo_12 : decode cX12_isSo 12 = .ok (.if_icmp .ge 29, 3) := by decide +kernel
theorem dX12_isSo_15 : decode cX12_isSo 15 = .ok (.goto 22, 3) := by decide +kernel
theorem dX12_isSo_18 : decode cX12_isSo 18 = .ok (.iload_n 0, 1) := by decide +kernel
theorem dX12_isSo_19 : decode cX12_isSo 19 = .ok (.bipush 62, 2) := by decide +kernel
theorem dX12_isSo_21 : decode cX12_isSo 21 = .ok (.if_icmp .ne 11, 3) := by decide +kernel
theorem dX12_isSo_24 : decode cX12_isSo 24 = .ok (.iload_n 1, 1) := by decide +kernel
theorem dX12_isSo_25 : decode cX12_isSo 25 = .ok (.iload_n 2, 1) := by decide +kernel
theorem dX12_isSo_26 : decode cX12_isSo 26 = .ok (.if_icmp .le 15, 3) := by decide +kernel
theorem dX12_isSo_29 : decode cX12_isSo 29 = .ok (.goto 8, 3) := by decide +kernel
theorem dX12_isSo_32 : decode cX12_isSo 32 = .ok (.iload_n 1, 1) := by decide +kernel
theorem dX12_isSo_33 : decode cX12_isSo 33 = .ok (.iload_n 2, 1) := by decide +kernel
theorem dX12_isSo_34 : decode cX12_isSo 34 = .ok (.if_icmp .ne 7, 3) := by decide +kernel
theorem dX12_isSo_37 : decode cX12_isSo 37 = .ok (.iconst 1, 1) := by decide +kernel
theorem dX12_isSo_38 : decode cX12_isSo 38 = .ok (.goto 4, 3) := by decide +kernel
theorem dX12_isSo_41 : decode cX12_isSo 41 = .ok (.iconst 0, 1) := by decide +kernel
theorem dX12_isSo_42 : decode cX12_isSo 42 = .ok (.ireturn, 1) := by decide +kernel
set_option maxRecDepth 100000 in
set_option maxHeartbeats 8000000 in
theorem c_X12_isSo (l : Launch) (D : va_G) (cA : Nat → ClassId) (q aK aV : Nat → Nat) (hq : injG 20 q) {a0 : Int32} {a1 : Int32} {a2 : Int32} {M M0 : Mem} {r0 : Int32} (h : f_X12_isSo a0 a1 a2 M = some (r0, M0)) : Met l yX12_isSo (.code yX12_isSo cX12_isSo 3 (some .boolean) :: BW) ({ frames := 1, cells := 0, slots := 0, locals := 14 } : Room) (va_Pc [.int a0, .int a1, .int a2] (CB 20 (ceR cA q) D cA q aK aV M)) (Qi 20 (ceR cA q) D q r0 M0) 0 0 (AqG 20 q) := by
  refine gMet RX12 (by decide +kernel) rfl hq (Nat.le_of_ble_eq_true rfl) ?_
  intro p e s m below meth c ls X hr hk hP hS hl
  have hx := X.1
  have hb := X.2.1
  have hl : lv_has ls 3 [(0, .int a0), (1, .int a1), (2, .int a2)] := hl
  rw [f_X12_isSo] at h
  refine lv_iload_n hx hb dX12_isSo_0 rfl (lv_at hl 0 rfl) ?_
  refine lv_if_eq (tgt := 37) hx hb dX12_isSo_1 (by decide) (fun c1 => ?_) (fun c1 => ?_)
  · rw [if_pos c1] at h
    refine lv_iconst (v := 1) hx hb dX12_isSo_37 (by decide) ?_
    refine lv_goto (tgt := 42) hx hb dX12_isSo_38 (by decide) ?_
    exact end_z X hr hk hP hS (Or.inr rfl) h dX12_isSo_42
  · rw [if_neg c1] at h
    refine lv_iload_n hx hb dX12_isSo_4 rfl (lv_at hl 0 rfl) ?_
    refine lv_bipush (v := 60) hx hb dX12_isSo_5 (by decide) ?_
    refine lv_icmp_ne (tgt := 18) hx hb dX12_isSo_7 (by decide) (fun c2 => ?_) (fun c2 => ?_)
    · rw [if_neg c2] at h
      refine lv_iload_n hx hb dX12_isSo_18 rfl (lv_at hl 0 rfl) ?_
      refine lv_bipush (v := 62) hx hb dX12_isSo_19 (by decide) ?_
      refine lv_icmp_ne (tgt := 32) hx hb dX12_isSo_21 (by decide) (fun c3 => ?_) (fun c3 => ?_)
      · rw [if_neg c3] at h
        refine lv_iload_n hx hb dX12_isSo_32 rfl (lv_at hl 1 rfl) ?_
        refine lv_iload_n hx hb dX12_isSo_33 rfl (lv_at hl 2 rfl) ?_
        refine lv_icmp_ne (tgt := 41) hx hb dX12_isSo_34 (by decide) (fun c4 => ?_) (fun c4 => ?_)
        · rw [if_neg c4] at h
          refine lv_iconst (v := 0) hx hb dX12_isSo_41 (by decide) ?_
          exact end_z X hr hk hP hS (Or.inl rfl) h dX12_isSo_42
        · rw [if_pos c4] at h
          refine lv_iconst (v := 1) hx hb dX12_isSo_37 (by decide) ?_
          refine lv_goto (tgt := 42) hx hb dX12_isSo_38 (by decide) ?_
          exact end_z X hr hk hP hS (Or.inr rfl) h dX12_isSo_42
      · rw [if_pos c3] at h
        refine lv_iload_n hx hb dX12_isSo_24 rfl (lv_at hl 1 rfl) ?_
        refine lv_iload_n hx hb dX12_isSo_25 rfl (lv_at hl 2 rfl) ?_
        refine lv_icmp_le (tgt := 41) hx hb dX12_isSo_26 (by decide) (fun c5 => ?_) (fun c5 => ?_)
        · rw [if_pos c5] at h
          refine lv_iconst (v := 0) hx hb dX12_isSo_41 (by decide) ?_
          exact end_z X hr hk hP hS (Or.inl rfl) h dX12_isSo_42
        · rw [if_neg c5] at h
          refine lv_goto (tgt := 37) hx hb dX12_isSo_29 (by decide) ?_
          refine lv_iconst (v := 1) hx hb dX12_isSo_37 (by decide) ?_
          refine lv_goto (tgt := 42) hx hb dX12_isSo_38 (by decide) ?_
          exact end_z X hr hk hP hS (Or.inr rfl) h dX12_isSo_42
    · rw [if_pos c2] at h
      refine lv_iload_n hx hb dX12_isSo_10 rfl (lv_at hl 1 rfl) ?_
      refine lv_iload_n hx hb dX12_isSo_11 rfl (lv_at hl 2 rfl) ?_
      refine lv_icmp_ge (tgt := 41) hx hb dX12_isSo_12 (by decide) (fun c6 => ?_) (fun c6 => ?_)
      · rw [if_pos c6] at h
        refine lv_iconst (v := 0) hx hb dX12_isSo_41 (by decide) ?_
        exact end_z X hr hk hP hS (Or.inl rfl) h dX12_isSo_42
      · rw [if_neg c6] at h
        refine lv_goto (tgt := 37) hx hb dX12_isSo_15 (by decide) ?_
        refine lv_iconst (v := 1) hx hb dX12_isSo_37 (by decide) ?_
        refine lv_goto (tgt := 42) hx hb dX12_isSo_38 (by decide) ?_
        exact end_z X hr hk hP hS (Or.inr rfl) h dX12_isSo_42
theorem dX12_doesBear_0 : decode cX12_doesBear 0 = .ok (.aload_n 0, 1) := by decide +kernel
theorem dX12_doesBear_1 : decode cX12_doesBear 1 = .ok (.iload_n 1, 1) := by decide +kernel
theorem dX12_doesBear_2 : decode cX12_doesBear 2 = .ok (.iconst 1, 1) := by decide +kernel
theorem dX12_doesBear_3 : decode cX12_doesBear 3 = .ok (.invokevirtual 299, 3) := by decide +kernel
theorem dX12_doesBear_6 : decode cX12_doesBear 6 = .ok (.istore 6, 2) := by decide +kernel
theorem dX12_doesBear_8 : decode cX12_doesBear 8 = .ok (.aload_n 0, 1) := by decide +kernel
theorem dX12_doesBear_9 : decode cX12_doesBear 9 = .ok (.iload_n 1, 1) := by decide +kernel
theorem dX12_doesBear_10 : decode cX12_doesBear 10 = .ok (.bipush 6, 2) := by decide +kernel
theorem dX12_doesBear_12 : decode cX12_doesBear 12 = .ok (.invokevirtual 299, 3) := by decide +kernel
theorem dX12_doesBear_15 : decode cX12_doesBear 15 = .ok (.istore 7, 2) := by decide +kernel
theorem dX12_doesBear_17 : decode cX12_doesBear 17 = .ok (.iload 6, 2) := by decide +kernel
theorem dX12_doesBear_19 : decode cX12_doesBear 19 = .ok (.ifCond .eq 13, 3) := by decide +kernel
theorem dX12_doesBear_22 : decode cX12_doesBear 22 = .ok (.iload 6, 2) := by decide +kernel
theorem dX12_doesBear_24 : decode cX12_doesBear 24 = .ok (.iconst 2, 1) := by decide +kernel
theorem dX12_doesBear_25 : decode cX12_doesBear 25 = .ok (.iload_n 2, 1) := by decide +kernel
theorem dX12_doesBear_26 : decode cX12_doesBear 26 = .ok (.isub, 1) := by decide +kernel
theorem dX12_doesBear_27 : decode cX12_doesBear 27 = .ok (.if_icmp .eq 5, 3) := by decide +kernel
theorem dX12_doesBear_30 : decode cX12_doesBear 30 = .ok (.iconst 0, 1) := by decide +kernel
theorem dX12_doesBear_31 : decode cX12_doesBear 31 = .ok (.ireturn, 1) := by decide +kernel
theorem dX12_doesBear_32 : decode cX12_doesBear 32 = .ok (.iload 7, 2) := by decide +kernel
theorem dX12_doesBear_34 : decode cX12_doesBear 34 = .ok (.iconst (-1), 1) := by decide +kernel
theorem dX12_doesBear_35 : decode cX12_doesBear 35 = .ok (.if_icmp .eq 16, 3) := by decide +kernel
theorem dX12_doesBear_38 : decode cX12_doesBear 38 = .ok (.aload_n 0, 1) := by decide +kernel
theorem dX12_doesBear_39 : decode cX12_doesBear 39 = .ok (.iload 5, 2) := by decide +kernel
theorem dX12_doesBear_41 : decode cX12_doesBear 41 = .ok (.iload 7, 2) := by decide +kernel
theorem dX12_doesBear_43 : decode cX12_doesBear 43 = .ok (.invokevirtual 315, 3) := by decide +kernel
theorem dX12_doesBear_46 : decode cX12_doesBear 46 = .ok (.ifCond .ne 5, 3) := by decide +kernel
theorem dX12_doesBear_49 : decode cX12_doesBear 49 = .ok (.iconst 0, 1) := by decide +kernel
theorem dX12_doesBear_50 : decode cX12_doesBear 50 = .ok (.ireturn, 1) := by decide +kernel
theorem dX12_doesBear_51 : decode cX12_doesBear 51 = .ok (.aload_n 0, 1) := by decide +kernel
theorem dX12_doesBear_52 : decode cX12_doesBear 52 = .ok (.iload_n 1, 1) := by decide +kernel
theorem dX12_doesBear_53 : decode cX12_doesBear 53 = .ok (.iconst 2, 1) := by decide +kernel
theorem dX12_doesBear_54 : decode cX12_doesBear 54 = .ok (.invokevirtual 299, 3) := by decide +kernel
theorem dX12_doesBear_57 : decode cX12_doesBear 57 = .ok (.iload_n 3, 1) := by decide +kernel
theorem dX12_doesBear_58 : decode cX12_doesBear 58 = .ok (.aload_n 0, 1) := by decide +kernel
theorem dX12_doesBear_59 : decode cX12_doesBear 59 = .ok (.iload_n 1, 1) := by decide +kernel
theorem dX12_doesBear_60 : decode cX12_doesBear 60 = .ok (.iconst 3, 1) := by decide +kernel
theorem dX12_doesBear_61 : decode cX12_doesBear 61 = .ok (.invokevirtual 299, 3) := by decide +kernel
theorem dX12_doesBear_64 : decode cX12_doesBear 64 = .ok (.invokestatic 318, 3) := by decide +kernel
theorem dX12_doesBear_67 : decode cX12_doesBear 67 = .ok (.ifCond .eq 27, 3) := by decide +kernel
theorem dX12_doesBear_70 : decode cX12_doesBear 70 = .ok (.aload_n 0, 1) := by decide +kernel
theorem dX12_doesBear_71 : decode cX12_doesBear 71 = .ok (.iload_n 1, 1) := by decide +kernel
theorem dX12_doesBear_72 : decode cX12_doesBear 72 = .ok (.iconst 4, 1) := by decide +kernel
theorem dX12_doesBear_73 : decode cX12_doesBear 73 = .ok (.invokevirtual 299, 3) := by decide +kernel
theorem dX12_doesBear_76 : decode cX12_doesBear 76 = .ok (.iload 4, 2) := by decide +kernel
theorem dX12_doesBear_78 : decode cX12_doesBear 78 = .ok (.aload_n 0, 1) := by decide +kernel
theorem dX12_doesBear_79 : decode cX12_doesBear 79 = .ok (.iload_n 1, 1) := by decide +kernel
theorem dX12_doesBear_80 : decode cX12_doesBear 80 = .ok (.iconst 5, 1) := by decide +kernel
theorem dX12_doesBear_81 : decode cX12_doesBear 81 = .ok (.invokevirtual 299, 3) := by decide +kernel
theorem dX12_doesBear_84 : decode cX12_doesBear 84 = .ok (.invokestatic 318, 3) := by decide +kernel
theorem dX12_doesBear_87 : decode cX12_doesBear 87 = .ok (.ifCond .eq 7, 3) := by decide +kernel
theorem dX12_doesBear_90 : decode cX12_doesBear 90 = .ok (.iconst 1, 1) := by decide +kernel
theorem dX12_doesBear_91 : decode cX12_doesBear 91 = .ok (.goto 4, 3) := by decide +kernel
theorem dX12_doesBear_94 : decode cX12_doesBear 94 = .ok (.iconst 0, 1) := by decide +kernel
theorem dX12_doesBear_95 : decode cX12_doesBear 95 = .ok (.ireturn, 1) := by decide +kernel
set_option maxRecDepth 100000 in
set_option maxHeartbeats 8000000 in
theorem c_X12_doesBear (l : Launch) (D : va_G) (cA : Nat → ClassId) (q aK aV : Nat → Nat) (hq : injG 20 q) {a1 : Int32} {a2 : Int32} {a3 : Int32} {a4 : Int32} {a5 : Int32} {M M0 : Mem} {r0 : Int32} (h : f_X12_doesBear a1 a2 a3 a4 a5 M = some (r0, M0)) : Met l yX12_doesBear (.code yX12_doesBear cX12_doesBear 8 (some .boolean) :: BW) ({ frames := 3, cells := 0, slots := 0, locals := 54 } : Room) (va_Pc [.ref (q 0), .int a1, .int a2, .int a3, .int a4, .int a5] (CB 20 (ceR cA q) D cA q aK aV M)) (Qi 20 (ceR cA q) D q r0 M0) 0 0 (AqG 20 q) := by
  refine gMet RX12 (by decide +kernel) rfl hq (Nat.le_of_ble_eq_true rfl) ?_
  intro p e s m below meth c ls X hr hk hP hS hl
  have hx := X.1
  have hb := X.2.1
  have hl : lv_has ls 8 [(0, .ref (q 0)), (1, .int a1), (2, .int a2), (3, .int a3), (4, .int a4), (5, .int a5)] := hl
  rw [f_X12_doesBear] at h
  have hJ51 : ∀ (M : Mem) (H : Heap) (locs : List Loc) (ls : Array Slot), f_X12_doesBear_J51 a1 a3 a4 M = some (r0, M0) → va_P D vwCl (wsG 20 (ceR cA q) q M) H → va_S (AqG 20 q) s.heap H locs → lv_has ls 8 [(0, .ref (q 0)), (1, .int a1), (3, .int a3), (4, .int a4)] → W p l e ({ frames := 3, cells := 0, slots := 0, locals := 54 } : Room) s m [.ref (q 0), .int a1, .int a2, .int a3, .int a4, .int a5].toArray below meth c H locs 0 0 (MQ below (Qi 20 (ceR cA q) D q r0 M0) [.ref (q 0), .int a1, .int a2, .int a3, .int a4, .int a5].toArray s 0 0 (AqG 20 q)) (F0 m 51 ls []) := by
    intro M H locs ls h hP hS hl
    rw [f_X12_doesBear_J51] at h
    refine lv_aload_n hx hb dX12_doesBear_51 rfl (lv_at hl 0 rfl) ?_
    refine lv_iload_n hx hb dX12_doesBear_52 rfl (lv_at hl 1 rfl) ?_
    refine lv_iconst (v := 2) hx hb dX12_doesBear_53 (by decide) ?_
    obtain ⟨r14, M15, hc16, h⟩ := bnd_inv h
    refine gV_i (As := [.int a1, .int (2 : Int32)]) X hP hS hl.1 (c_X12_ruleOf l D cA q aK aV hq hc16) sf_X12_ruleOf bw_1703 sv_X12_ruleOf (rcR_12 sR_0) rfl ⟨rfl, rfl⟩ ⟨Nat.le_of_ble_eq_true rfl, Nat.le_of_ble_eq_true rfl⟩ rfl rfl (Nat.le_of_ble_eq_true rfl) dX12_doesBear_54 (fun H locs hP hS => ?_)
    refine lv_iload_n hx hb dX12_doesBear_57 rfl (lv_at hl 2 rfl) ?_
    refine lv_aload_n hx hb dX12_doesBear_58 rfl (lv_at hl 0 rfl) ?_
    refine lv_iload_n hx hb dX12_doesBear_59 rfl (lv_at hl 1 rfl) ?_
    refine lv_iconst (v := 3) hx hb dX12_doesBear_60 (by decide) ?_
    obtain ⟨r17, M18, hc19, h⟩ := bnd_inv h
    refine gV_i (As := [.int a1, .int (3 : Int32)]) X hP hS hl.1 (c_X12_ruleOf l D cA q aK aV hq hc19) sf_X12_ruleOf bw_1703 sv_X12_ruleOf (rcR_12 sR_0) rfl ⟨rfl, rfl⟩ ⟨Nat.le_of_ble_eq_true rfl, Nat.le_of_ble_eq_true rfl⟩ rfl rfl (Nat.le_of_ble_eq_true rfl) dX12_doesBear_61 (fun H locs hP hS => ?_)
    obtain ⟨r20, M21, hc22, h⟩ := bnd_inv h
    refine gS_i (As := [.int r14, .int a3, .int r17]) X hP hS hl.1 (c_X12_isSo l D cA q aK aV hq hc22) sf_X12_isSo bw_1759 ss_X12_isSo ⟨rfl, rfl⟩ ⟨Nat.le_of_ble_eq_true rfl, Nat.le_of_ble_eq_true rfl⟩ rfl rfl (Nat.le_of_ble_eq_true rfl) dX12_doesBear_64 (fun H locs hP hS => ?_)
    refine lv_if_eq (tgt := 94) hx hb dX12_doesBear_67 (by decide) (fun c23 => ?_) (fun c23 => ?_)
    · rw [if_pos c23] at h
      refine lv_iconst (v := 0) hx hb dX12_doesBear_94 (by decide) ?_
      exact end_z X hr hk hP hS (Or.inl rfl) h dX12_doesBear_95
    · rw [if_neg c23] at h
      refine lv_aload_n hx hb dX12_doesBear_70 rfl (lv_at hl 0 rfl) ?_
      refine lv_iload_n hx hb dX12_doesBear_71 rfl (lv_at hl 1 rfl) ?_
      refine lv_iconst (v := 4) hx hb dX12_doesBear_72 (by decide) ?_
      obtain ⟨r24, M25, hc26, h⟩ := bnd_inv h
      refine gV_i (As := [.int a1, .int (4 : Int32)]) X hP hS hl.1 (c_X12_ruleOf l D cA q aK aV hq hc26) sf_X12_ruleOf bw_1703 sv_X12_ruleOf (rcR_12 sR_0) rfl ⟨rfl, rfl⟩ ⟨Nat.le_of_ble_eq_true rfl, Nat.le_of_ble_eq_true rfl⟩ rfl rfl (Nat.le_of_ble_eq_true rfl) dX12_doesBear_73 (fun H locs hP hS => ?_)
      refine lv_iload hx hb dX12_doesBear_76 (lv_at hl 3 rfl) ?_
      refine lv_aload_n hx hb dX12_doesBear_78 rfl (lv_at hl 0 rfl) ?_
      refine lv_iload_n hx hb dX12_doesBear_79 rfl (lv_at hl 1 rfl) ?_
      refine lv_iconst (v := 5) hx hb dX12_doesBear_80 (by decide) ?_
      obtain ⟨r27, M28, hc29, h⟩ := bnd_inv h
      refine gV_i (As := [.int a1, .int (5 : Int32)]) X hP hS hl.1 (c_X12_ruleOf l D cA q aK aV hq hc29) sf_X12_ruleOf bw_1703 sv_X12_ruleOf (rcR_12 sR_0) rfl ⟨rfl, rfl⟩ ⟨Nat.le_of_ble_eq_true rfl, Nat.le_of_ble_eq_true rfl⟩ rfl rfl (Nat.le_of_ble_eq_true rfl) dX12_doesBear_81 (fun H locs hP hS => ?_)
      obtain ⟨r30, M31, hc32, h⟩ := bnd_inv h
      refine gS_i (As := [.int r24, .int a4, .int r27]) X hP hS hl.1 (c_X12_isSo l D cA q aK aV hq hc32) sf_X12_isSo bw_1759 ss_X12_isSo ⟨rfl, rfl⟩ ⟨Nat.le_of_ble_eq_true rfl, Nat.le_of_ble_eq_true rfl⟩ rfl rfl (Nat.le_of_ble_eq_true rfl) dX12_doesBear_84 (fun H locs hP hS => ?_)
      refine lv_if_eq (tgt := 94) hx hb dX12_doesBear_87 (by decide) (fun c33 => ?_) (fun c33 => ?_)
      · rw [if_pos c33] at h
        refine lv_iconst (v := 0) hx hb dX12_doesBear_94 (by decide) ?_
        exact end_z X hr hk hP hS (Or.inl rfl) h dX12_doesBear_95
      · rw [if_neg c33] at h
        refine lv_iconst (v := 1) hx hb dX12_doesBear_90 (by decide) ?_
        refine lv_goto (tgt := 95) hx hb dX12_doesBear_91 (by decide) ?_
        exact end_z X hr hk hP hS (Or.inr rfl) h dX12_doesBear_95
  have hJ32 : ∀ (b7 : Int32) (M : Mem) (H : Heap) (locs : List Loc) (ls : Array Slot), f_X12_doesBear_J32 a1 a3 a4 a5 b7 M = some (r0, M0) → va_P D vwCl (wsG 20 (ceR cA q) q M) H → va_S (AqG 20 q) s.heap H locs → lv_has ls 8 [(0, .ref (q 0)), (1, .int a1), (3, .int a3), (4, .int a4), (5, .int a5), (7, .int b7)] → W p l e ({ frames := 3, cells := 0, slots := 0, locals := 54 } : Room) s m [.ref (q 0), .int a1, .int a2, .int a3, .int a4, .int a5].toArray below meth c H locs 0 0 (MQ below (Qi 20 (ceR cA q) D q r0 M0) [.ref (q 0), .int a1, .int a2, .int a3, .int a4, .int a5].toArray s 0 0 (AqG 20 q)) (F0 m 32 ls []) := by
    intro b7 M H locs ls h hP hS hl
    rw [f_X12_doesBear_J32] at h
    refine lv_iload hx hb dX12_doesBear_32 (lv_at hl 5 rfl) ?_
    refine lv_iconst (v := -1) hx hb dX12_doesBear_34 (by decide) ?_
    refine lv_icmp_eq (tgt := 51) hx hb dX12_doesBear_35 (by decide) (fun c9 => ?_) (fun c9 => ?_)
    · rw [if_pos c9] at h
      exact hJ51  _ _ _ _ h hP hS (lv_sub hl [0, 1, 2, 3] rfl)
    · rw [if_neg c9] at h
      refine lv_aload_n hx hb dX12_doesBear_38 rfl (lv_at hl 0 rfl) ?_
      refine lv_iload hx hb dX12_doesBear_39 (lv_at hl 4 rfl) ?_
      refine lv_iload hx hb dX12_doesBear_41 (lv_at hl 5 rfl) ?_
      obtain ⟨r10, M11, hc12, h⟩ := bnd_inv h
      refine gV_i (As := [.int a5, .int b7]) X hP hS hl.1 (c_X12_isIn l D cA q aK aV hq hc12) sf_X12_isIn bw_1755 sv_X12_isIn (rcR_12 sR_0) rfl ⟨rfl, rfl⟩ ⟨Nat.le_of_ble_eq_true rfl, Nat.le_of_ble_eq_true rfl⟩ rfl rfl (Nat.le_of_ble_eq_true rfl) dX12_doesBear_43 (fun H locs hP hS => ?_)
      refine lv_if_ne (tgt := 51) hx hb dX12_doesBear_46 (by decide) (fun c13 => ?_) (fun c13 => ?_)
      · rw [if_neg c13] at h
        exact hJ51  _ _ _ _ h hP hS (lv_sub hl [0, 1, 2, 3] rfl)
      · rw [if_pos c13] at h
        refine lv_iconst (v := 0) hx hb dX12_doesBear_49 (by decide) ?_
        exact end_z X hr hk hP hS (Or.inl rfl) h dX12_doesBear_50
  refine lv_aload_n hx hb dX12_doesBear_0 rfl (lv_at hl 0 rfl) ?_
  refine lv_iload_n hx hb dX12_doesBear_1 rfl (lv_at hl 1 rfl) ?_
  refine lv_iconst (v := 1) hx hb dX12_doesBear_2 (by decide) ?_
  obtain ⟨r1, M2, hc3, h⟩ := bnd_inv h
  refine gV_i (As := [.int a1, .int (1 : Int32)]) X hP hS hl.1 (c_X12_ruleOf l D cA q aK aV hq hc3) sf_X12_ruleOf bw_1703 sv_X12_ruleOf (rcR_12 sR_0) rfl ⟨rfl, rfl⟩ ⟨Nat.le_of_ble_eq_true rfl, Nat.le_of_ble_eq_true rfl⟩ rfl rfl (Nat.le_of_ble_eq_true rfl) dX12_doesBear_3 (fun H locs hP hS => ?_)
  refine lv_istore (lv' := [(6, .int r1), (0, .ref (q 0)), (1, .int a1), (2, .int a2), (3, .int a3), (4, .int a4), (5, .int a5)]) hx hb dX12_doesBear_6 hl (by decide) rfl (fun ls hl => ?_)
  refine lv_aload_n hx hb dX12_doesBear_8 rfl (lv_at hl 1 rfl) ?_
  refine lv_iload_n hx hb dX12_doesBear_9 rfl (lv_at hl 2 rfl) ?_
  refine lv_bipush (v := 6) hx hb dX12_doesBear_10 (by decide) ?_
  obtain ⟨r4, M5, hc6, h⟩ := bnd_inv h
  refine gV_i (As := [.int a1, .int (6 : Int32)]) X hP hS hl.1 (c_X12_ruleOf l D cA q aK aV hq hc6) sf_X12_ruleOf bw_1703 sv_X12_ruleOf (rcR_12 sR_0) rfl ⟨rfl, rfl⟩ ⟨Nat.le_of_ble_eq_true rfl, Nat.le_of_ble_eq_true rfl⟩ rfl rfl (Nat.le_of_ble_eq_true rfl) dX12_doesBear_12 (fun H locs hP hS => ?_)
  refine lv_istore (lv' := [(7, .int r4), (6, .int r1), (0, .ref (q 0)), (1, .int a1), (2, .int a2), (3, .int a3), (4, .int a4), (5, .int a5)]) hx hb dX12_doesBear_15 hl (by decide) rfl (fun ls hl => ?_)
  refine lv_iload hx hb dX12_doesBear_17 (lv_at hl 1 rfl) ?_
  refine lv_if_eq (tgt := 32) hx hb dX12_doesBear_19 (by decide) (fun c7 => ?_) (fun c7 => ?_)
  · rw [if_pos c7] at h
    exact hJ32 _ _ _ _ _ h hP hS (lv_sub hl [2, 3, 5, 6, 7, 0] rfl)
  · rw [if_neg c7] at h
    refine lv_iload hx hb dX12_doesBear_22 (lv_at hl 1 rfl) ?_
    refine lv_iconst (v := 2) hx hb dX12_doesBear_24 (by decide) ?_
    refine lv_iload_n hx hb dX12_doesBear_25 rfl (lv_at hl 4 rfl) ?_
    refine lv_isub hx hb dX12_doesBear_26 ?_
    refine lv_icmp_eq (tgt := 32) hx hb dX12_doesBear_27 (by decide) (fun c8 => ?_) (fun c8 => ?_)
    · rw [if_pos c8] at h
      exact hJ32 _ _ _ _ _ h hP hS (lv_sub hl [2, 3, 5, 6, 7, 0] rfl)
    · rw [if_neg c8] at h
      refine lv_iconst (v := 0) hx hb dX12_doesBear_30 (by decide) ?_
      exact end_z X hr hk hP hS (Or.inl rfl) h dX12_doesBear_31
theorem dX12_firstOf_0 : decode cX12_firstOf 0 = .ok (.iconst 0, 1) := by decide +kernel
theorem dX12_firstOf_1 : decode cX12_firstOf 1 = .ok (.istore 5, 2) := by decide +kernel
theorem dX12_firstOf_3 : decode cX12_firstOf 3 = .ok (.iload 5, 2) := by decide +kernel
theorem dX12_firstOf_5 : decode cX12_firstOf 5 = .ok (.aload_n 0, 1) := by decide +kernel
theorem dX12_firstOf_6 : decode cX12_firstOf 6 = .ok (.getfield 7, 3) := by decide +kernel
theorem dX12_firstOf_9 : decode cX12_firstOf 9 = .ok (.iconst 2, 1) := by decide +kernel
theorem dX12_firstOf_10 : decode cX12_firstOf 10 = .ok (.iaload, 1) := by decide +kernel
theorem dX12_firstOf_11 : decode cX12_firstOf 11 = .ok (.if_icmp .ge 26, 3) := by decide +kernel
theorem dX12_firstOf_14 : decode cX12_firstOf 14 = .ok (.aload_n 0, 1) := by decide +kernel
theorem dX12_firstOf_15 : decode cX12_firstOf 15 = .ok (.iload 5, 2) := by decide +kernel
theorem dX12_firstOf_17 : decode cX12_firstOf 17 = .ok (.iload_n 1, 1) := by decide +kernel
theorem dX12_firstOf_18 : decode cX12_firstOf 18 = .ok (.iload_n 2, 1) := by decide +kernel
theorem dX12_firstOf_19 : decode cX12_firstOf 19 = .ok (.iload_n 3, 1) := by decide +kernel
theorem dX12_firstOf_20 : decode cX12_firstOf 20 = .ok (.iload 4, 2) := by decide +kernel
theorem dX12_firstOf_22 : decode cX12_firstOf 22 = .ok (.invokevirtual 321, 3) := by decide +kernel
theorem dX12_firstOf_25 : decode cX12_firstOf 25 = .ok (.ifCond .eq 6, 3) := by decide +kernel
theorem dX12_firstOf_28 : decode cX12_firstOf 28 = .ok (.iload 5, 2) := by decide +kernel
theorem dX12_firstOf_30 : decode cX12_firstOf 30 = .ok (.ireturn, 1) := by decide +kernel
theorem dX12_firstOf_31 : decode cX12_firstOf 31 = .ok (.iinc 5 1, 3) := by decide +kernel
theorem dX12_firstOf_34 : decode cX12_firstOf 34 = .ok (.goto (-31), 3) := by decide +kernel
theorem dX12_firstOf_37 : decode cX12_firstOf 37 = .ok (.iconst (-1), 1) := by decide +kernel
theorem dX12_firstOf_38 : decode cX12_firstOf 38 = .ok (.ireturn, 1) := by decide +kernel
set_option maxRecDepth 100000 in
set_option maxHeartbeats 8000000 in
theorem c_X12_firstOf (l : Launch) (D : va_G) (cA : Nat → ClassId) (q aK aV : Nat → Nat) (hq : injG 20 q) {a1 : Int32} {a2 : Int32} {a3 : Int32} {a4 : Int32} {M M0 : Mem} {r0 : Int32} (h : f_X12_firstOf a1 a2 a3 a4 M = some (r0, M0)) : Met l yX12_firstOf (.code yX12_firstOf cX12_firstOf 6 (some .int) :: BW) ({ frames := 4, cells := 0, slots := 0, locals := 81 } : Room) (va_Pc [.ref (q 0), .int a1, .int a2, .int a3, .int a4] (CB 20 (ceR cA q) D cA q aK aV M)) (Qi 20 (ceR cA q) D q r0 M0) 0 0 (AqG 20 q) := by
  refine gMet RX12 (by decide +kernel) rfl hq (Nat.le_of_ble_eq_true rfl) ?_
  intro p e s m below meth c ls X hr hk hP hS hl
  have hx := X.1
  have hb := X.2.1
  have hl : lv_has ls 6 [(0, .ref (q 0)), (1, .int a1), (2, .int a2), (3, .int a3), (4, .int a4)] := hl
  rw [f_X12_firstOf] at h
  have hL3 : ∀ (fu : Nat) (b5 : Int32) (M : Mem) (res : (Nat × Int32) × Mem) (H : Heap) (locs : List Loc) (ls : Array Slot), f_X12_firstOf_L3 a1 a2 a3 a4 fu b5 M = some res → va_P D vwCl (wsG 20 (ceR cA q) q M) H → va_S (AqG 20 q) s.heap H locs → lv_has ls 6 [(0, .ref (q 0)), (1, .int a1), (2, .int a2), (3, .int a3), (4, .int a4), (5, .int b5)] → (res.1.1 = 0 → ∀ (H : Heap) (locs : List Loc) (ls : Array Slot), va_P D vwCl (wsG 20 (ceR cA q) q res.2) H → va_S (AqG 20 q) s.heap H locs → lv_has ls 6 [(5, .int (res.1.2))] → W p l e ({ frames := 4, cells := 0, slots := 0, locals := 81 } : Room) s m [.ref (q 0), .int a1, .int a2, .int a3, .int a4].toArray below meth c H locs 0 0 (MQ below (Qi 20 (ceR cA q) D q r0 M0) [.ref (q 0), .int a1, .int a2, .int a3, .int a4].toArray s 0 0 (AqG 20 q)) (F0 m 28 ls [])) → (res.1.1 = 1 → ∀ (H : Heap) (locs : List Loc) (ls : Array Slot), va_P D vwCl (wsG 20 (ceR cA q) q res.2) H → va_S (AqG 20 q) s.heap H locs → lv_has ls 6 [] → W p l e ({ frames := 4, cells := 0, slots := 0, locals := 81 } : Room) s m [.ref (q 0), .int a1, .int a2, .int a3, .int a4].toArray below meth c H locs 0 0 (MQ below (Qi 20 (ceR cA q) D q r0 M0) [.ref (q 0), .int a1, .int a2, .int a3, .int a4].toArray s 0 0 (AqG 20 q)) (F0 m 37 ls [])) → W p l e ({ frames := 4, cells := 0, slots := 0, locals := 81 } : Room) s m [.ref (q 0), .int a1, .int a2, .int a3, .int a4].toArray below meth c H locs 0 0 (MQ below (Qi 20 (ceR cA q) D q r0 M0) [.ref (q 0), .int a1, .int a2, .int a3, .int a4].toArray s 0 0 (AqG 20 q)) (F0 m 3 ls []) := by
    intro fu
    induction fu with
    | zero => intro b5 M res H locs ls h; exact absurd h (by simp [f_X12_firstOf_L3])
    | succ fu ih =>
      intro b5 M res H locs ls h hP hS hl K3_0 K3_1
      rw [f_X12_firstOf_L3] at h
      refine lv_iload hx hb dX12_firstOf_3 (lv_at hl 5 rfl) ?_
      refine lv_aload_n hx hb dX12_firstOf_5 rfl (lv_at hl 0 rfl) ?_
      refine gfR_12_0 X hP sR_0 bw_1323 dX12_firstOf_6 ?_
      refine lv_iconst (v := 2) hx hb dX12_firstOf_9 (by decide) ?_
      refine ldR_ia X hP sR_1 zR_1 (by decide) dX12_firstOf_10 ?_
      refine topE (y := (gI M 1 2)) rfl ?_
      refine lv_icmp_ge (tgt := 37) hx hb dX12_firstOf_11 (by decide) (fun c6 => ?_) (fun c6 => ?_)
      · rw [if_pos c6] at h
        cases h
        exact K3_1 rfl _ _ _ hP hS (lv_sub hl [] rfl)
      · rw [if_neg c6] at h
        refine lv_aload_n hx hb dX12_firstOf_14 rfl (lv_at hl 0 rfl) ?_
        refine lv_iload hx hb dX12_firstOf_15 (lv_at hl 5 rfl) ?_
        refine lv_iload_n hx hb dX12_firstOf_17 rfl (lv_at hl 1 rfl) ?_
        refine lv_iload_n hx hb dX12_firstOf_18 rfl (lv_at hl 2 rfl) ?_
        refine lv_iload_n hx hb dX12_firstOf_19 rfl (lv_at hl 3 rfl) ?_
        refine lv_iload hx hb dX12_firstOf_20 (lv_at hl 4 rfl) ?_
        obtain ⟨r7, M8, hc9, h⟩ := bnd_inv h
        refine gV_i (As := [.int b5, .int a1, .int a2, .int a3, .int a4]) X hP hS hl.1 (c_X12_doesBear l D cA q aK aV hq hc9) sf_X12_doesBear bw_1751 sv_X12_doesBear (rcR_12 sR_0) rfl ⟨rfl, rfl⟩ ⟨Nat.le_of_ble_eq_true rfl, Nat.le_of_ble_eq_true rfl⟩ rfl rfl (Nat.le_of_ble_eq_true rfl) dX12_firstOf_22 (fun H locs hP hS => ?_)
        refine lv_if_eq (tgt := 31) hx hb dX12_firstOf_25 (by decide) (fun c10 => ?_) (fun c10 => ?_)
        · rw [if_pos c10] at h
          obtain ⟨y11, ey11, h⟩ := lt_inv h
          refine lv_iinc (v := y11) (lv' := [(5, .int y11), (0, .ref (q 0)), (1, .int a1), (2, .int a2), (3, .int a3), (4, .int a4)]) hx hb dX12_firstOf_31 hl (k := 5) rfl (by rw [ey11]; rfl) (by decide) rfl (fun ls hl => ?_)
          refine lv_goto (tgt := 3) hx hb dX12_firstOf_34 (by decide) ?_
          exact ih _ _ res _ _ _ h hP hS (lv_sub hl [1, 2, 3, 4, 5, 0] rfl) K3_0 K3_1
        · rw [if_neg c10] at h
          cases h
          exact K3_0 rfl _ _ _ hP hS (lv_sub hl [5] rfl)
  refine lv_iconst (v := 0) hx hb dX12_firstOf_0 (by decide) ?_
  refine lv_istore (lv' := [(5, .int (0 : Int32)), (0, .ref (q 0)), (1, .int a1), (2, .int a2), (3, .int a3), (4, .int a4)]) hx hb dX12_firstOf_1 hl (by decide) rfl (fun ls hl => ?_)
  obtain ⟨s1, M2, hc3, h⟩ := bnd_inv h
  obtain ⟨k4, x5⟩ := s1
  try dsimp only at h
  refine hL3  fz _ _ _ _ _ _ hc3 hP hS (lv_sub hl [1, 2, 3, 4, 5, 0] rfl) (fun hke H locs ls hP hS hl => ?_) (fun hke H locs ls hP hS hl => ?_)
  · have hke : k4 = 0 := hke
    have hl : lv_has ls 6 [(5, .int x5)] := hl
    subst hke
    rw [if_pos rfl] at h
    refine lv_iload hx hb dX12_firstOf_28 (lv_at hl 0 rfl) ?_
    exact end_i X hr hk hP hS h dX12_firstOf_30
  · have hke : k4 = 1 := hke
    have hl : lv_has ls 6 [] := hl
    subst hke
    rw [if_neg (by decide)] at h
    refine lv_iconst (v := -1) hx hb dX12_firstOf_37 (by decide) ?_
    exact end_i X hr hk hP hS h dX12_firstOf_38
theorem dX12_cueOf_0 : decode cX12_cueOf 0 = .ok (.aload_n 0, 1) := by decide +kernel
theorem dX12_cueOf_1 : decode cX12_cueOf 1 = .ok (.iload_n 1, 1) := by decide +kernel
theorem dX12_cueOf_2 : decode cX12_cueOf 2 = .ok (.iload_n 2, 1) := by decide +kernel
theorem dX12_cueOf_3 : decode cX12_cueOf 3 = .ok (.iload_n 3, 1) := by decide +kernel
theorem dX12_cueOf_4 : decode cX12_cueOf 4 = .ok (.iload 4, 2) := by decide +kernel
theorem dX12_cueOf_6 : decode cX12_cueOf 6 = .ok (.invokevirtual 325, 3) := by decide +kernel
theorem dX12_cueOf_9 : decode cX12_cueOf 9 = .ok (.istore 5, 2) := by decide +kernel
theorem dX12_cueOf_11 : decode cX12_cueOf 11 = .ok (.iload 5, 2) := by decide +kernel
theorem dX12_cueOf_13 : decode cX12_cueOf 13 = .ok (.iconst (-1), 1) := by decide +kernel
theorem dX12_cueOf_14 : decode cX12_cueOf 14 = .ok (.if_icmp .ne 7, 3) := by decide +kernel
theorem dX12_cueOf_17 : decode cX12_cueOf 17 = .ok (.iconst (-1), 1) := by decide +kernel
theorem dX12_cueOf_18 : decode cX12_cueOf 18 = .ok (.goto 10, 3) := by decide +kernel
theorem dX12_cueOf_21 : decode cX12_cueOf 21 = .ok (.aload_n 0, 1) := by decide +kernel
theorem dX12_cueOf_22 : decode cX12_cueOf 22 = .ok (.iload 5, 2) := by decide +kernel
theorem dX12_cueOf_24 : decode cX12_cueOf 24 = .ok (.iconst 0, 1) := by decide +kernel
theorem dX12_cueOf_25 : decode cX12_cueOf 25 = .ok (.invokevirtual 299, 3) := by decide +kernel
theorem dX12_cueOf_28 : decode cX12_cueOf 28 = .ok (.ireturn, 1) := by decide +kernel
set_option maxRecDepth 100000 in
set_option maxHeartbeats 8000000 in
theorem c_X12_cueOf (l : Launch) (D : va_G) (cA : Nat → ClassId) (q aK aV : Nat → Nat) (hq : injG 20 q) {a1 : Int32} {a2 : Int32} {a3 : Int32} {a4 : Int32} {M M0 : Mem} {r0 : Int32} (h : f_X12_cueOf a1 a2 a3 a4 M = some (r0, M0)) : Met l yX12_cueOf (.code yX12_cueOf cX12_cueOf 6 (some .int) :: BW) ({ frames := 5, cells := 0, slots := 0, locals := 106 } : Room) (va_Pc [.ref (q 0), .int a1, .int a2, .int a3, .int a4] (CB 20 (ceR cA q) D cA q aK aV M)) (Qi 20 (ceR cA q) D q r0 M0) 0 0 (AqG 20 q) := by
  refine gMet RX12 (by decide +kernel) rfl hq (Nat.le_of_ble_eq_true rfl) ?_
  intro p e s m below meth c ls X hr hk hP hS hl
  have hx := X.1
  have hb := X.2.1
  have hl : lv_has ls 6 [(0, .ref (q 0)), (1, .int a1), (2, .int a2), (3, .int a3), (4, .int a4)] := hl
  rw [f_X12_cueOf] at h
  refine lv_aload_n hx hb dX12_cueOf_0 rfl (lv_at hl 0 rfl) ?_
  refine lv_iload_n hx hb dX12_cueOf_1 rfl (lv_at hl 1 rfl) ?_
  refine lv_iload_n hx hb dX12_cueOf_2 rfl (lv_at hl 2 rfl) ?_
  refine lv_iload_n hx hb dX12_cueOf_3 rfl (lv_at hl 3 rfl) ?_
  refine lv_iload hx hb dX12_cueOf_4 (lv_at hl 4 rfl) ?_
  obtain ⟨r1, M2, hc3, h⟩ := bnd_inv h
  refine gV_i (As := [.int a1, .int a2, .int a3, .int a4]) X hP hS hl.1 (c_X12_firstOf l D cA q aK aV hq hc3) sf_X12_firstOf bw_1747 sv_X12_firstOf (rcR_12 sR_0) rfl ⟨rfl, rfl⟩ ⟨Nat.le_of_ble_eq_true rfl, Nat.le_of_ble_eq_true rfl⟩ rfl rfl (Nat.le_of_ble_eq_true rfl) dX12_cueOf_6 (fun H locs hP hS => ?_)
  refine lv_istore (lv' := [(5, .int r1), (0, .ref (q 0)), (1, .int a1), (2, .int a2), (3, .int a3), (4, .int a4)]) hx hb dX12_cueOf_9 hl (by decide) rfl (fun ls hl => ?_)
  refine lv_iload hx hb dX12_cueOf_11 (lv_at hl 0 rfl) ?_
  refine lv_iconst (v := -1) hx hb dX12_cueOf_13 (by decide) ?_
  refine lv_icmp_ne (tgt := 21) hx hb dX12_cueOf_14 (by decide) (fun c4 => ?_) (fun c4 => ?_)
  · rw [if_neg c4] at h
    refine lv_aload_n hx hb dX12_cueOf_21 rfl (lv_at hl 1 rfl) ?_
    refine lv_iload hx hb dX12_cueOf_22 (lv_at hl 0 rfl) ?_
    refine lv_iconst (v := 0) hx hb dX12_cueOf_24 (by decide) ?_
    obtain ⟨r5, M6, hc7, h⟩ := bnd_inv h
    refine gV_i (As := [.int r1, .int (0 : Int32)]) X hP hS hl.1 (c_X12_ruleOf l D cA q aK aV hq hc7) sf_X12_ruleOf bw_1703 sv_X12_ruleOf (rcR_12 sR_0) rfl ⟨rfl, rfl⟩ ⟨Nat.le_of_ble_eq_true rfl, Nat.le_of_ble_eq_true rfl⟩ rfl rfl (Nat.le_of_ble_eq_true rfl) dX12_cueOf_25 (fun H locs hP hS => ?_)
    exact end_i X hr hk hP hS h dX12_cueOf_28
  · rw [if_pos c4] at h
    refine lv_iconst (v := -1) hx hb dX12_cueOf_17 (by decide) ?_
    refine lv_goto (tgt := 28) hx hb dX12_cueOf_18 (by decide) ?_
    exact end_i X hr hk hP hS h dX12_cueOf_28
theorem dX12_ruleFor_0 : decode cX12_ruleFor 0 = .ok (.aload_n 0, 1) := by decide +kernel
theorem dX12_ruleFor_1 : decode cX12_ruleFor 1 = .ok (.aload_n 0, 1) := by decide +kernel
theorem dX12_ruleFor_2 : decode cX12_ruleFor 2 = .ok (.iload_n 1, 1) := by decide +kernel
theorem dX12_ruleFor_3 : decode cX12_ruleFor 3 = .ok (.iconst 3, 1) := by decide +kernel
theorem dX12_ruleFor_4 : decode cX12_ruleFor 4 = .ok (.invokevirtual 281, 3) := by decide +kernel
theorem dX12_ruleFor_7 : decode cX12_ruleFor 7 = .ok (.aload_n 0, 1) := by decide +kernel
theorem dX12_ruleFor_8 : decode cX12_ruleFor 8 = .ok (.iload_n 1, 1) := by decide +kernel
theorem dX12_ruleFor_9 : decode cX12_ruleFor 9 = .ok (.iconst 0, 1) := by decide +kernel
theorem dX12_ruleFor_10 : decode cX12_ruleFor 10 = .ok (.invokevirtual 281, 3) := by decide +kernel
theorem dX12_ruleFor_13 : decode cX12_ruleFor 13 = .ok (.iload_n 2, 1) := by decide +kernel
theorem dX12_ruleFor_14 : decode cX12_ruleFor 14 = .ok (.aload_n 0, 1) := by decide +kernel
theorem dX12_ruleFor_15 : decode cX12_ruleFor 15 = .ok (.iload_n 1, 1) := by decide +kernel
theorem dX12_ruleFor_16 : decode cX12_ruleFor 16 = .ok (.iconst 1, 1) := by decide +kernel
theorem dX12_ruleFor_17 : decode cX12_ruleFor 17 = .ok (.invokevirtual 281, 3) := by decide +kernel
theorem dX12_ruleFor_20 : decode cX12_ruleFor 20 = .ok (.invokevirtual 325, 3) := by decide +kernel
theorem dX12_ruleFor_23 : decode cX12_ruleFor 23 = .ok (.ireturn, 1) := by decide +kernel
set_option maxRecDepth 100000 in
set_option maxHeartbeats 8000000 in
theorem c_X12_ruleFor (l : Launch) (D : va_G) (cA : Nat → ClassId) (q aK aV : Nat → Nat) (hq : injG 20 q) {a1 : Int32} {a2 : Int32} {M M0 : Mem} {r0 : Int32} (h : f_X12_ruleFor a1 a2 M = some (r0, M0)) : Met l yX12_ruleFor (.code yX12_ruleFor cX12_ruleFor 3 (some .int) :: BW) ({ frames := 5, cells := 0, slots := 0, locals := 106 } : Room) (va_Pc [.ref (q 0), .int a1, .int a2] (CB 20 (ceR cA q) D cA q aK aV M)) (Qi 20 (ceR cA q) D q r0 M0) 0 0 (AqG 20 q) := by
  refine gMet RX12 (by decide +kernel) rfl hq (Nat.le_of_ble_eq_true rfl) ?_
  intro p e s m below meth c ls X hr hk hP hS hl
  have hx := X.1
  have hb := X.2.1
  have hl : lv_has ls 3 [(0, .ref (q 0)), (1, .int a1), (2, .int a2)] := hl
  rw [f_X12_ruleFor] at h
  refine lv_aload_n hx hb dX12_ruleFor_0 rfl (lv_at hl 0 rfl) ?_
  refine lv_aload_n hx hb dX12_ruleFor_1 rfl (lv_at hl 0 rfl) ?_
  refine lv_iload_n hx hb dX12_ruleFor_2 rfl (lv_at hl 1 rfl) ?_
  refine lv_iconst (v := 3) hx hb dX12_ruleFor_3 (by decide) ?_
  obtain ⟨r1, M2, hc3, h⟩ := bnd_inv h
  refine gV_i (As := [.int a1, .int (3 : Int32)]) X hP hS hl.1 (c_X12_personOf l D cA q aK aV hq hc3) sf_X12_personOf bw_1683 sv_X12_personOf (rcR_12 sR_0) rfl ⟨rfl, rfl⟩ ⟨Nat.le_of_ble_eq_true rfl, Nat.le_of_ble_eq_true rfl⟩ rfl rfl (Nat.le_of_ble_eq_true rfl) dX12_ruleFor_4 (fun H locs hP hS => ?_)
  refine lv_aload_n hx hb dX12_ruleFor_7 rfl (lv_at hl 0 rfl) ?_
  refine lv_iload_n hx hb dX12_ruleFor_8 rfl (lv_at hl 1 rfl) ?_
  refine lv_iconst (v := 0) hx hb dX12_ruleFor_9 (by decide) ?_
  obtain ⟨r4, M5, hc6, h⟩ := bnd_inv h
  refine gV_i (As := [.int a1, .int (0 : Int32)]) X hP hS hl.1 (c_X12_personOf l D cA q aK aV hq hc6) sf_X12_personOf bw_1683 sv_X12_personOf (rcR_12 sR_0) rfl ⟨rfl, rfl⟩ ⟨Nat.le_of_ble_eq_true rfl, Nat.le_of_ble_eq_true rfl⟩ rfl rfl (Nat.le_of_ble_eq_true rfl) dX12_ruleFor_10 (fun H locs hP hS => ?_)
  refine lv_iload_n hx hb dX12_ruleFor_13 rfl (lv_at hl 2 rfl) ?_
  refine lv_aload_n hx hb dX12_ruleFor_14 rfl (lv_at hl 0 rfl) ?_
  refine lv_iload_n hx hb dX12_ruleFor_15 rfl (lv_at hl 1 rfl) ?_
  refine lv_iconst (v := 1) hx hb dX12_ruleFor_16 (by decide) ?_
  obtain ⟨r7, M8, hc9, h⟩ := bnd_inv h
  refine gV_i (As := [.int a1, .int (1 : Int32)]) X hP hS hl.1 (c_X12_personOf l D cA q aK aV hq hc9) sf_X12_personOf bw_1683 sv_X12_personOf (rcR_12 sR_0) rfl ⟨rfl, rfl⟩ ⟨Nat.le_of_ble_eq_true rfl, Nat.le_of_ble_eq_true rfl⟩ rfl rfl (Nat.le_of_ble_eq_true rfl) dX12_ruleFor_17 (fun H locs hP hS => ?_)
  obtain ⟨r10, M11, hc12, h⟩ := bnd_inv h
  refine gV_i (As := [.int r1, .int r4, .int a2, .int r7]) X hP hS hl.1 (c_X12_firstOf l D cA q aK aV hq hc12) sf_X12_firstOf bw_1747 sv_X12_firstOf (rcR_12 sR_0) rfl ⟨rfl, rfl⟩ ⟨Nat.le_of_ble_eq_true rfl, Nat.le_of_ble_eq_true rfl⟩ rfl rfl (Nat.le_of_ble_eq_true rfl) dX12_ruleFor_20 (fun H locs hP hS => ?_)
  exact end_i X hr hk hP hS h dX12_ruleFor_23
theorem dX12_cueFor_0 : decode cX12_cueFor 0 = .ok (.aload_n 0, 1) := by decide +kernel
theorem dX12_cueFor_1 : decode cX12_cueFor 1 = .ok (.iload_n 1, 1) := by decide +kernel
theorem dX12_cueFor_2 : decode cX12_cueFor 2 = .ok (.iload_n 2, 1) := by decide +kernel
theorem dX12_cueFor_3 : decode cX12_cueFor 3 = .ok (.invokevirtual 329, 3) := by decide +kernel
theorem dX12_cueFor_6 : decode cX12_cueFor 6 = .ok (.istore_n 3, 1) := by decide +kernel
theorem dX12_cueFor_7 : decode cX12_cueFor 7 = .ok (.iload_n 3, 1) := by decide +kernel
theorem dX12_cueFor_8 : decode cX12_cueFor 8 = .ok (.iconst (-1), 1) := by decide +kernel
theorem dX12_cueFor_9 : decode cX12_cueFor 9 = .ok (.if_icmp .ne 7, 3) := by decide +kernel
theorem dX12_cueFor_12 : decode cX12_cueFor 12 = .ok (.iconst (-1), 1) := by decide +kernel
theorem dX12_cueFor_13 : decode cX12_cueFor 13 = .ok (.goto 9, 3) := by decide +kernel
theorem dX12_cueFor_16 : decode cX12_cueFor 16 = .ok (.aload_n 0, 1) := by decide +kernel
theorem dX12_cueFor_17 : decode cX12_cueFor 17 = .ok (.iload_n 3, 1) := by decide +kernel
theorem dX12_cueFor_18 : decode cX12_cueFor 18 = .ok (.iconst 0, 1) := by decide +kernel
theorem dX12_cueFor_19 : decode cX12_cueFor 19 = .ok (.invokevirtual 299, 3) := by decide +kernel
theorem dX12_cueFor_22 : decode cX12_cueFor 22 = .ok (.ireturn, 1) := by decide +kernel
set_option maxRecDepth 100000 in
set_option maxHeartbeats 8000000 in
theorem c_X12_cueFor (l : Launch) (D : va_G) (cA : Nat → ClassId) (q aK aV : Nat → Nat) (hq : injG 20 q) {a1 : Int32} {a2 : Int32} {M M0 : Mem} {r0 : Int32} (h : f_X12_cueFor a1 a2 M = some (r0, M0)) : Met l yX12_cueFor (.code yX12_cueFor cX12_cueFor 4 (some .int) :: BW) ({ frames := 6, cells := 0, slots := 0, locals := 128 } : Room) (va_Pc [.ref (q 0), .int a1, .int a2] (CB 20 (ceR cA q) D cA q aK aV M)) (Qi 20 (ceR cA q) D q r0 M0) 0 0 (AqG 20 q) := by
  refine gMet RX12 (by decide +kernel) rfl hq (Nat.le_of_ble_eq_true rfl) ?_
  intro p e s m below meth c ls X hr hk hP hS hl
  have hx := X.1
  have hb := X.2.1
  have hl : lv_has ls 4 [(0, .ref (q 0)), (1, .int a1), (2, .int a2)] := hl
  rw [f_X12_cueFor] at h
  refine lv_aload_n hx hb dX12_cueFor_0 rfl (lv_at hl 0 rfl) ?_
  refine lv_iload_n hx hb dX12_cueFor_1 rfl (lv_at hl 1 rfl) ?_
  refine lv_iload_n hx hb dX12_cueFor_2 rfl (lv_at hl 2 rfl) ?_
  obtain ⟨r1, M2, hc3, h⟩ := bnd_inv h
  refine gV_i (As := [.int a1, .int a2]) X hP hS hl.1 (c_X12_ruleFor l D cA q aK aV hq hc3) sf_X12_ruleFor bw_1743 sv_X12_ruleFor (rcR_12 sR_0) rfl ⟨rfl, rfl⟩ ⟨Nat.le_of_ble_eq_true rfl, Nat.le_of_ble_eq_true rfl⟩ rfl rfl (Nat.le_of_ble_eq_true rfl) dX12_cueFor_3 (fun H locs hP hS => ?_)
  refine lv_istore_n (lv' := [(3, .int r1), (0, .ref (q 0)), (1, .int a1), (2, .int a2)]) hx hb dX12_cueFor_6 rfl hl (by decide) rfl (fun ls hl => ?_)
  refine lv_iload_n hx hb dX12_cueFor_7 rfl (lv_at hl 0 rfl) ?_
  refine lv_iconst (v := -1) hx hb dX12_cueFor_8 (by decide) ?_
  refine lv_icmp_ne (tgt := 16) hx hb dX12_cueFor_9 (by decide) (fun c4 => ?_) (fun c4 => ?_)
  · rw [if_neg c4] at h
    refine lv_aload_n hx hb dX12_cueFor_16 rfl (lv_at hl 1 rfl) ?_
    refine lv_iload_n hx hb dX12_cueFor_17 rfl (lv_at hl 0 rfl) ?_
    refine lv_iconst (v := 0) hx hb dX12_cueFor_18 (by decide) ?_
    obtain ⟨r5, M6, hc7, h⟩ := bnd_inv h
    refine gV_i (As := [.int r1, .int (0 : Int32)]) X hP hS hl.1 (c_X12_ruleOf l D cA q aK aV hq hc7) sf_X12_ruleOf bw_1703 sv_X12_ruleOf (rcR_12 sR_0) rfl ⟨rfl, rfl⟩ ⟨Nat.le_of_ble_eq_true rfl, Nat.le_of_ble_eq_true rfl⟩ rfl rfl (Nat.le_of_ble_eq_true rfl) dX12_cueFor_19 (fun H locs hP hS => ?_)
    exact end_i X hr hk hP hS h dX12_cueFor_22
  · rw [if_pos c4] at h
    refine lv_iconst (v := -1) hx hb dX12_cueFor_12 (by decide) ?_
    refine lv_goto (tgt := 22) hx hb dX12_cueFor_13 (by decide) ?_
    exact end_i X hr hk hP hS h dX12_cueFor_22
theorem dX12_senseFor_0 : decode cX12_senseFor 0 = .ok (.aload_n 0, 1) := by decide +kernel
theorem dX12_senseFor_1 : decode cX12_senseFor 1 = .ok (.iload_n 1, 1) := by decide +kernel
theorem dX12_senseFor_2 : decode cX12_senseFor 2 = .ok (.iload_n 2, 1) := by decide +kernel
theorem dX12_senseFor_3 : decode cX12_senseFor 3 = .ok (.invokevirtual 332, 3) := by decide +kernel
theorem dX12_senseFor_6 : decode cX12_senseFor 6 = .ok (.istore_n 3, 1) := by decide +kernel
theorem dX12_senseFor_7 : decode cX12_senseFor 7 = .ok (.iload_n 3, 1) := by decide +kernel
theorem dX12_senseFor_8 : decode cX12_senseFor 8 = .ok (.iconst (-1), 1) := by decide +kernel
theorem dX12_senseFor_9 : decode cX12_senseFor 9 = .ok (.if_icmp .ne 7, 3) := by decide +kernel
theorem dX12_senseFor_12 : decode cX12_senseFor 12 = .ok (.iconst 0, 1) := by decide +kernel
theorem dX12_senseFor_13 : decode cX12_senseFor 13 = .ok (.goto 12, 3) := by decide +kernel
theorem dX12_senseFor_16 : decode cX12_senseFor 16 = .ok (.aload_n 0, 1) := by decide +kernel
theorem dX12_senseFor_17 : decode cX12_senseFor 17 = .ok (.getfield 7, 3) := by decide +kernel
theorem dX12_senseFor_20 : decode cX12_senseFor 20 = .ok (.bipush 10, 2) := by decide +kernel
theorem dX12_senseFor_22 : decode cX12_senseFor 22 = .ok (.iload_n 3, 1) := by decide +kernel
theorem dX12_senseFor_23 : decode cX12_senseFor 23 = .ok (.iadd, 1) := by decide +kernel
theorem dX12_senseFor_24 : decode cX12_senseFor 24 = .ok (.iaload, 1) := by decide +kernel
theorem dX12_senseFor_25 : decode cX12_senseFor 25 = .ok (.ireturn, 1) := by decide +kernel
set_option maxRecDepth 100000 in
set_option maxHeartbeats 8000000 in
theorem c_X12_senseFor (l : Launch) (D : va_G) (cA : Nat → ClassId) (q aK aV : Nat → Nat) (hq : injG 20 q) {a1 : Int32} {a2 : Int32} {M M0 : Mem} {r0 : Int32} (h : f_X12_senseFor a1 a2 M = some (r0, M0)) : Met l yX12_senseFor (.code yX12_senseFor cX12_senseFor 4 (some .int) :: BW) ({ frames := 7, cells := 0, slots := 0, locals := 151 } : Room) (va_Pc [.ref (q 0), .int a1, .int a2] (CB 20 (ceR cA q) D cA q aK aV M)) (Qi 20 (ceR cA q) D q r0 M0) 0 0 (AqG 20 q) := by
  refine gMet RX12 (by decide +kernel) rfl hq (Nat.le_of_ble_eq_true rfl) ?_
  intro p e s m below meth c ls X hr hk hP hS hl
  have hx := X.1
  have hb := X.2.1
  have hl : lv_has ls 4 [(0, .ref (q 0)), (1, .int a1), (2, .int a2)] := hl
  rw [f_X12_senseFor] at h
  refine lv_aload_n hx hb dX12_senseFor_0 rfl (lv_at hl 0 rfl) ?_
  refine lv_iload_n hx hb dX12_senseFor_1 rfl (lv_at hl 1 rfl) ?_
  refine lv_iload_n hx hb dX12_senseFor_2 rfl (lv_at hl 2 rfl) ?_
  obtain ⟨r1, M2, hc3, h⟩ := bnd_inv h
  refine gV_i (As := [.int a1, .int a2]) X hP hS hl.1 (c_X12_cueFor l D cA q aK aV hq hc3) sf_X12_cueFor bw_1739 sv_X12_cueFor (rcR_12 sR_0) rfl ⟨rfl, rfl⟩ ⟨Nat.le_of_ble_eq_true rfl, Nat.le_of_ble_eq_true rfl⟩ rfl rfl (Nat.le_of_ble_eq_true rfl) dX12_senseFor_3 (fun H locs hP hS => ?_)
  refine lv_istore_n (lv' := [(3, .int r1), (0, .ref (q 0)), (1, .int a1), (2, .int a2)]) hx hb dX12_senseFor_6 rfl hl (by decide) rfl (fun ls hl => ?_)
  refine lv_iload_n hx hb dX12_senseFor_7 rfl (lv_at hl 0 rfl) ?_
  refine lv_iconst (v := -1) hx hb dX12_senseFor_8 (by decide) ?_
  refine lv_icmp_ne (tgt := 16) hx hb dX12_senseFor_9 (by decide) (fun c4 => ?_) (fun c4 => ?_)
  · rw [if_neg c4] at h
    refine lv_aload_n hx hb dX12_senseFor_16 rfl (lv_at hl 1 rfl) ?_
    refine gfR_12_0 X hP sR_0 bw_1323 dX12_senseFor_17 ?_
    refine lv_bipush (v := 10) hx hb dX12_senseFor_20 (by decide) ?_
    refine lv_iload_n hx hb dX12_senseFor_22 rfl (lv_at hl 0 rfl) ?_
    refine lv_iadd hx hb dX12_senseFor_23 ?_
    obtain ⟨g5, h⟩ := gd_inv h
    refine ldR_ia X hP sR_1 zR_1 g5 dX12_senseFor_24 ?_
    exact end_i X hr hk hP hS h dX12_senseFor_25
  · rw [if_pos c4] at h
    refine lv_iconst (v := 0) hx hb dX12_senseFor_12 (by decide) ?_
    refine lv_goto (tgt := 25) hx hb dX12_senseFor_13 (by decide) ?_
    exact end_i X hr hk hP hS h dX12_senseFor_25
theorem dX12_cue_0 : decode cX12_cue 0 = .ok (.aload_n 0, 1) := by decide +kernel
theorem dX12_cue_1 : decode cX12_cue 1 = .ok (.iload_n 1, 1) := by decide +kernel
theorem dX12_cue_2 : decode cX12_cue 2 = .ok (.i2l, 1) := by decide +kernel
theorem dX12_cue_3 : decode cX12_cue 3 = .ok (.invokevirtual 305, 3) := by decide +kernel
theorem dX12_cue_6 : decode cX12_cue 6 = .ok (.ifCond .eq 22, 3) := by decide +kernel
theorem dX12_cue_9 : decode cX12_cue 9 = .ok (.aload_n 0, 1) := by decide +kernel
theorem dX12_cue_10 : decode cX12_cue 10 = .ok (.aload_n 0, 1) := by decide +kernel
theorem dX12_cue_11 : decode cX12_cue 11 = .ok (.iload_n 1, 1) := by decide +kernel
theorem dX12_cue_12 : decode cX12_cue 12 = .ok (.aload_n 0, 1) := by decide +kernel
theorem dX12_cue_13 : decode cX12_cue 13 = .ok (.getfield 7, 3) := by decide +kernel
theorem dX12_cue_16 : decode cX12_cue 16 = .ok (.bipush 6, 2) := by decide +kernel
theorem dX12_cue_18 : decode cX12_cue 18 = .ok (.iaload, 1) := by decide +kernel
theorem dX12_cue_19 : decode cX12_cue 19 = .ok (.invokevirtual 332, 3) := by decide +kernel
theorem dX12_cue_22 : decode cX12_cue 22 = .ok (.invokevirtual 302, 3) := by decide +kernel
theorem dX12_cue_25 : decode cX12_cue 25 = .ok (.goto 8, 3) := by decide +kernel
theorem dX12_cue_28 : decode cX12_cue 28 = .ok (.aload_n 0, 1) := by decide +kernel
theorem dX12_cue_29 : decode cX12_cue 29 = .ok (.iconst 1, 1) := by decide +kernel
theorem dX12_cue_30 : decode cX12_cue 30 = .ok (.invokevirtual 91, 3) := by decide +kernel
theorem dX12_cue_33 : decode cX12_cue 33 = .ok (.ireturn, 1) := by decide +kernel
set_option maxRecDepth 100000 in
set_option maxHeartbeats 8000000 in
theorem c_X12_cue (l : Launch) (D : va_G) (cA : Nat → ClassId) (q aK aV : Nat → Nat) (hq : injG 20 q) {a1 : Int32} {M M0 : Mem} {r0 : Int32} (h : f_X12_cue a1 M = some (r0, M0)) : Met l yX12_cue (.code yX12_cue cX12_cue 2 (some .int) :: BW) ({ frames := 7, cells := 0, slots := 0, locals := 151 } : Room) (va_Pc [.ref (q 0), .int a1] (CB 20 (ceR cA q) D cA q aK aV M)) (Qi 20 (ceR cA q) D q r0 M0) 0 0 (AqG 20 q) := by
  refine gMet RX12 (by decide +kernel) rfl hq (Nat.le_of_ble_eq_true rfl) ?_
  intro p e s m below meth c ls X hr hk hP hS hl
  have hx := X.1
  have hb := X.2.1
  have hl : lv_has ls 2 [(0, .ref (q 0)), (1, .int a1)] := hl
  rw [f_X12_cue] at h
  refine lv_aload_n hx hb dX12_cue_0 rfl (lv_at hl 0 rfl) ?_
  refine lv_iload_n hx hb dX12_cue_1 rfl (lv_at hl 1 rfl) ?_
  refine lv_i2l hx hb dX12_cue_2 rfl ?_
  obtain ⟨r1, M2, hc3, h⟩ := bnd_inv h
  refine gV_i (As := [.long (a1.toInt64)]) X hP hS hl.1 (c_X12_isPerson l D cA q aK aV hq hc3) sf_X12_isPerson bw_1715 sv_X12_isPerson (rcR_12 sR_0) rfl ⟨rfl, rfl⟩ ⟨Nat.le_of_ble_eq_true rfl, Nat.le_of_ble_eq_true rfl⟩ rfl rfl (Nat.le_of_ble_eq_true rfl) dX12_cue_3 (fun H locs hP hS => ?_)
  refine lv_if_eq (tgt := 28) hx hb dX12_cue_6 (by decide) (fun c4 => ?_) (fun c4 => ?_)
  · rw [if_pos c4] at h
    refine lv_aload_n hx hb dX12_cue_28 rfl (lv_at hl 0 rfl) ?_
    refine lv_iconst (v := 1) hx hb dX12_cue_29 (by decide) ?_
    obtain ⟨r5, M6, hc7, h⟩ := bnd_inv h
    refine gV_i (As := [.int (1 : Int32)]) X hP hS hl.1 (c_X12_refuse l D cA q aK aV hq hc7) sf_X12_refuse bw_1530 sv_X12_refuse (rcR_12 sR_0) rfl ⟨rfl, rfl⟩ ⟨Nat.le_of_ble_eq_true rfl, Nat.le_of_ble_eq_true rfl⟩ rfl rfl (Nat.le_of_ble_eq_true rfl) dX12_cue_30 (fun H locs hP hS => ?_)
    exact end_i X hr hk hP hS h dX12_cue_33
  · rw [if_neg c4] at h
    refine lv_aload_n hx hb dX12_cue_9 rfl (lv_at hl 0 rfl) ?_
    refine lv_aload_n hx hb dX12_cue_10 rfl (lv_at hl 0 rfl) ?_
    refine lv_iload_n hx hb dX12_cue_11 rfl (lv_at hl 1 rfl) ?_
    refine lv_aload_n hx hb dX12_cue_12 rfl (lv_at hl 0 rfl) ?_
    refine gfR_12_0 X hP sR_0 bw_1323 dX12_cue_13 ?_
    refine lv_bipush (v := 6) hx hb dX12_cue_16 (by decide) ?_
    refine ldR_ia X hP sR_1 zR_1 (by decide) dX12_cue_18 ?_
    refine topE (y := (gI M2 1 6)) rfl ?_
    obtain ⟨r8, M9, hc10, h⟩ := bnd_inv h
    refine gV_i (As := [.int a1, .int (gI M2 1 6)]) X hP hS hl.1 (c_X12_cueFor l D cA q aK aV hq hc10) sf_X12_cueFor bw_1739 sv_X12_cueFor (rcR_12 sR_0) rfl ⟨rfl, rfl⟩ ⟨Nat.le_of_ble_eq_true rfl, Nat.le_of_ble_eq_true rfl⟩ rfl rfl (Nat.le_of_ble_eq_true rfl) dX12_cue_19 (fun H locs hP hS => ?_)
    obtain ⟨r11, M12, hc13, h⟩ := bnd_inv h
    refine gV_i (As := [.int r8]) X hP hS hl.1 (c_X12_orNone l D cA q aK aV hq hc13) sf_X12_orNone bw_1707 sv_X12_orNone (rcR_12 sR_0) rfl ⟨rfl, rfl⟩ ⟨Nat.le_of_ble_eq_true rfl, Nat.le_of_ble_eq_true rfl⟩ rfl rfl (Nat.le_of_ble_eq_true rfl) dX12_cue_22 (fun H locs hP hS => ?_)
    refine lv_goto (tgt := 33) hx hb dX12_cue_25 (by decide) ?_
    exact end_i X hr hk hP hS h dX12_cue_33
theorem dX12_cueAt_0 : decode cX12_cueAt 0 = .ok (.aload_n 0, 1) := by decide +kernel
theorem dX12_cueAt_1 : decode cX12_cueAt 1 = .ok (.iload_n 1, 1) := by decide +kernel
theorem dX12_cueAt_2 : decode cX12_cueAt 2 = .ok (.i2l, 1) := by decide +kernel
theorem dX12_cueAt_3 : decode cX12_cueAt 3 = .ok (.invokevirtual 305, 3) := by decide +kernel
theorem dX12_cueAt_6 : decode cX12_cueAt 6 = .ok (.ifCond .eq 28, 3) := by decide +kernel
theorem dX12_cueAt_9 : decode cX12_cueAt 9 = .ok (.iload_n 2, 1) := by decide +kernel
theorem dX12_cueAt_10 : decode cX12_cueAt 10 = .ok (.i2l, 1) := by decide +kernel
theorem dX12_cueAt_11 : decode cX12_cueAt 11 = .ok (.lconst 0, 1) := by decide +kernel
theorem dX12_cueAt_12 : decode cX12_cueAt 12 = .ok (.ldc2_w 335, 3) := by decide +kernel
theorem dX12_cueAt_15 : decode cX12_cueAt 15 = .ok (.invokestatic 337, 3) := by decide +kernel
theorem dX12_cueAt_18 : decode cX12_cueAt 18 = .ok (.ifCond .eq 16, 3) := by decide +kernel
theorem dX12_cueAt_21 : decode cX12_cueAt 21 = .ok (.aload_n 0, 1) := by decide +kernel
theorem dX12_cueAt_22 : decode cX12_cueAt 22 = .ok (.aload_n 0, 1) := by decide +kernel
theorem dX12_cueAt_23 : decode cX12_cueAt 23 = .ok (.iload_n 1, 1) := by decide +kernel
theorem dX12_cueAt_24 : decode cX12_cueAt 24 = .ok (.iload_n 2, 1) := by decide +kernel
theorem dX12_cueAt_25 : decode cX12_cueAt 25 = .ok (.invokevirtual 332, 3) := by decide +kernel
theorem dX12_cueAt_28 : decode cX12_cueAt 28 = .ok (.invokevirtual 302, 3) := by decide +kernel
theorem dX12_cueAt_31 : decode cX12_cueAt 31 = .ok (.goto 8, 3) := by decide +kernel
theorem dX12_cueAt_34 : decode cX12_cueAt 34 = .ok (.aload_n 0, 1) := by decide +kernel
theorem dX12_cueAt_35 : decode cX12_cueAt 35 = .ok (.iconst 1, 1) := by decide +kernel
theorem dX12_cueAt_36 : decode cX12_cueAt 36 = .ok (.invokevirtual 91, 3) := by decide +kernel
theorem dX12_cueAt_39 : decode cX12_cueAt 39 = .ok (.ireturn, 1) := by decide +kernel
set_option maxRecDepth 100000 in
set_option maxHeartbeats 8000000 in
theorem c_X12_cueAt (l : Launch) (D : va_G) (cA : Nat → ClassId) (q aK aV : Nat → Nat) (hq : injG 20 q) {a1 : Int32} {a2 : Int32} {M M0 : Mem} {r0 : Int32} (h : f_X12_cueAt a1 a2 M = some (r0, M0)) : Met l yX12_cueAt (.code yX12_cueAt cX12_cueAt 3 (some .int) :: BW) ({ frames := 7, cells := 0, slots := 0, locals := 151 } : Room) (va_Pc [.ref (q 0), .int a1, .int a2] (CB 20 (ceR cA q) D cA q aK aV M)) (Qi 20 (ceR cA q) D q r0 M0) 0 0 (AqG 20 q) := by
  refine gMet RX12 (by decide +kernel) rfl hq (Nat.le_of_ble_eq_true rfl) ?_
  intro p e s m below meth c ls X hr hk hP hS hl
  have hx := X.1
  have hb := X.2.1
  have hl : lv_has ls 3 [(0, .ref (q 0)), (1, .int a1), (2, .int a2)] := hl
  rw [f_X12_cueAt] at h
  refine lv_aload_n hx hb dX12_cueAt_0 rfl (lv_at hl 0 rfl) ?_
  refine lv_iload_n hx hb dX12_cueAt_1 rfl (lv_at hl 1 rfl) ?_
  refine lv_i2l hx hb dX12_cueAt_2 rfl ?_
  obtain ⟨r1, M2, hc3, h⟩ := bnd_inv h
  refine gV_i (As := [.long (a1.toInt64)]) X hP hS hl.1 (c_X12_isPerson l D cA q aK aV hq hc3) sf_X12_isPerson bw_1715 sv_X12_isPerson (rcR_12 sR_0) rfl ⟨rfl, rfl⟩ ⟨Nat.le_of_ble_eq_true rfl, Nat.le_of_ble_eq_true rfl⟩ rfl rfl (Nat.le_of_ble_eq_true rfl) dX12_cueAt_3 (fun H locs hP hS => ?_)
  refine lv_if_eq (tgt := 34) hx hb dX12_cueAt_6 (by decide) (fun c4 => ?_) (fun c4 => ?_)
  · rw [if_pos c4] at h
    refine lv_aload_n hx hb dX12_cueAt_34 rfl (lv_at hl 0 rfl) ?_
    refine lv_iconst (v := 1) hx hb dX12_cueAt_35 (by decide) ?_
    obtain ⟨r5, M6, hc7, h⟩ := bnd_inv h
    refine gV_i (As := [.int (1 : Int32)]) X hP hS hl.1 (c_X12_refuse l D cA q aK aV hq hc7) sf_X12_refuse bw_1530 sv_X12_refuse (rcR_12 sR_0) rfl ⟨rfl, rfl⟩ ⟨Nat.le_of_ble_eq_true rfl, Nat.le_of_ble_eq_true rfl⟩ rfl rfl (Nat.le_of_ble_eq_true rfl) dX12_cueAt_36 (fun H locs hP hS => ?_)
    exact end_i X hr hk hP hS h dX12_cueAt_39
  · rw [if_neg c4] at h
    refine lv_iload_n hx hb dX12_cueAt_9 rfl (lv_at hl 2 rfl) ?_
    refine lv_i2l hx hb dX12_cueAt_10 rfl ?_
    refine lv_lconst (v := 0) hx hb dX12_cueAt_11 (by decide) ?_
    refine lv_ldc2 hx hb X.2.2.2.1 (X.2.2.2.2.1 _ bw_1766) dX12_cueAt_12 ?_
    obtain ⟨r8, M9, hc10, h⟩ := bnd_inv h
    refine gS_i (As := [.long (a2.toInt64), .long (0 : Int64), .long (9 : Int64)]) X hP hS hl.1 (c_X12_isFrom l D cA q aK aV hq hc10) sf_X12_isFrom bw_1767 ss_X12_isFrom ⟨rfl, rfl⟩ ⟨Nat.le_of_ble_eq_true rfl, Nat.le_of_ble_eq_true rfl⟩ rfl rfl (Nat.le_of_ble_eq_true rfl) dX12_cueAt_15 (fun H locs hP hS => ?_)
    refine lv_if_eq (tgt := 34) hx hb dX12_cueAt_18 (by decide) (fun c11 => ?_) (fun c11 => ?_)
    · rw [if_pos c11] at h
      refine lv_aload_n hx hb dX12_cueAt_34 rfl (lv_at hl 0 rfl) ?_
      refine lv_iconst (v := 1) hx hb dX12_cueAt_35 (by decide) ?_
      obtain ⟨r12, M13, hc14, h⟩ := bnd_inv h
      refine gV_i (As := [.int (1 : Int32)]) X hP hS hl.1 (c_X12_refuse l D cA q aK aV hq hc14) sf_X12_refuse bw_1530 sv_X12_refuse (rcR_12 sR_0) rfl ⟨rfl, rfl⟩ ⟨Nat.le_of_ble_eq_true rfl, Nat.le_of_ble_eq_true rfl⟩ rfl rfl (Nat.le_of_ble_eq_true rfl) dX12_cueAt_36 (fun H locs hP hS => ?_)
      exact end_i X hr hk hP hS h dX12_cueAt_39
    · rw [if_neg c11] at h
      refine lv_aload_n hx hb dX12_cueAt_21 rfl (lv_at hl 0 rfl) ?_
      refine lv_aload_n hx hb dX12_cueAt_22 rfl (lv_at hl 0 rfl) ?_
      refine lv_iload_n hx hb dX12_cueAt_23 rfl (lv_at hl 1 rfl) ?_
      refine lv_iload_n hx hb dX12_cueAt_24 rfl (lv_at hl 2 rfl) ?_
      obtain ⟨r15, M16, hc17, h⟩ := bnd_inv h
      refine gV_i (As := [.int a1, .int a2]) X hP hS hl.1 (c_X12_cueFor l D cA q aK aV hq hc17) sf_X12_cueFor bw_1739 sv_X12_cueFor (rcR_12 sR_0) rfl ⟨rfl, rfl⟩ ⟨Nat.le_of_ble_eq_true rfl, Nat.le_of_ble_eq_true rfl⟩ rfl rfl (Nat.le_of_ble_eq_true rfl) dX12_cueAt_25 (fun H locs hP hS => ?_)
      obtain ⟨r18, M19, hc20, h⟩ := bnd_inv h
      refine gV_i (As := [.int r15]) X hP hS hl.1 (c_X12_orNone l D cA q aK aV hq hc20) sf_X12_orNone bw_1707 sv_X12_orNone (rcR_12 sR_0) rfl ⟨rfl, rfl⟩ ⟨Nat.le_of_ble_eq_true rfl, Nat.le_of_ble_eq_true rfl⟩ rfl rfl (Nat.le_of_ble_eq_true rfl) dX12_cueAt_28 (fun H locs hP hS => ?_)
      refine lv_goto (tgt := 39) hx hb dX12_cueAt_31 (by decide) ?_
      exact end_i X hr hk hP hS h dX12_cueAt_39
theorem dX12_bears_0 : decode cX12_bears 0 = .ok (.aload_n 0, 1) := by decide +kernel
theorem dX12_bears_1 : decode cX12_bears 1 = .ok (.iload_n 1, 1) := by decide +kernel
theorem dX12_bears_2 : decode cX12_bears 2 = .ok (.i2l, 1) := by decide +kernel
theorem dX12_bears_3 : decode cX12_bears 3 = .ok (.invokevirtual 305, 3) := by decide +kernel
theorem dX12_bears_6 : decode cX12_bears 6 = .ok (.ifCond .eq 22, 3) := by decide +kernel
theorem dX12_bears_9 : decode cX12_bears 9 = .ok (.aload_n 0, 1) := by decide +kernel
theorem dX12_bears_10 : decode cX12_bears 10 = .ok (.aload_n 0, 1) := by decide +kernel
theorem dX12_bears_11 : decode cX12_bears 11 = .ok (.iload_n 1, 1) := by decide +kernel
theorem dX12_bears_12 : decode cX12_bears 12 = .ok (.aload_n 0, 1) := by decide +kernel
theorem dX12_bears_13 : decode cX12_bears 13 = .ok (.getfield 7, 3) := by decide +kernel
theorem dX12_bears_16 : decode cX12_bears 16 = .ok (.bipush 6, 2) := by decide +kernel
theorem dX12_bears_18 : decode cX12_bears 18 = .ok (.iaload, 1) := by decide +kernel
theorem dX12_bears_19 : decode cX12_bears 19 = .ok (.invokevirtual 329, 3) := by decide +kernel
theorem dX12_bears_22 : decode cX12_bears 22 = .ok (.invokevirtual 302, 3) := by decide +kernel
theorem dX12_bears_25 : decode cX12_bears 25 = .ok (.goto 8, 3) := by decide +kernel
theorem dX12_bears_28 : decode cX12_bears 28 = .ok (.aload_n 0, 1) := by decide +kernel
theorem dX12_bears_29 : decode cX12_bears 29 = .ok (.iconst 1, 1) := by decide +kernel
theorem dX12_bears_30 : decode cX12_bears 30 = .ok (.invokevirtual 91, 3) := by decide +kernel
theorem dX12_bears_33 : decode cX12_bears 33 = .ok (.ireturn, 1) := by decide +kernel
set_option maxRecDepth 100000 in
set_option maxHeartbeats 8000000 in
theorem c_X12_bears (l : Launch) (D : va_G) (cA : Nat → ClassId) (q aK aV : Nat → Nat) (hq : injG 20 q) {a1 : Int32} {M M0 : Mem} {r0 : Int32} (h : f_X12_bears a1 M = some (r0, M0)) : Met l yX12_bears (.code yX12_bears cX12_bears 2 (some .int) :: BW) ({ frames := 6, cells := 0, slots := 0, locals := 128 } : Room) (va_Pc [.ref (q 0), .int a1] (CB 20 (ceR cA q) D cA q aK aV M)) (Qi 20 (ceR cA q) D q r0 M0) 0 0 (AqG 20 q) := by
  refine gMet RX12 (by decide +kernel) rfl hq (Nat.le_of_ble_eq_true rfl) ?_
  intro p e s m below meth c ls X hr hk hP hS hl
  have hx := X.1
  have hb := X.2.1
  have hl : lv_has ls 2 [(0, .ref (q 0)), (1, .int a1)] := hl
  rw [f_X12_bears] at h
  refine lv_aload_n hx hb dX12_bears_0 rfl (lv_at hl 0 rfl) ?_
  refine lv_iload_n hx hb dX12_bears_1 rfl (lv_at hl 1 rfl) ?_
  refine lv_i2l hx hb dX12_bears_2 rfl ?_
  obtain ⟨r1, M2, hc3, h⟩ := bnd_inv h
  refine gV_i (As := [.long (a1.toInt64)]) X hP hS hl.1 (c_X12_isPerson l D cA q aK aV hq hc3) sf_X12_isPerson bw_1715 sv_X12_isPerson (rcR_12 sR_0) rfl ⟨rfl, rfl⟩ ⟨Nat.le_of_ble_eq_true rfl, Nat.le_of_ble_eq_true rfl⟩ rfl rfl (Nat.le_of_ble_eq_true rfl) dX12_bears_3 (fun H locs hP hS => ?_)
  refine lv_if_eq (tgt := 28) hx hb dX12_bears_6 (by decide) (fun c4 => ?_) (fun c4 => ?_)
  · rw [if_pos c4] at h
    refine lv_aload_n hx hb dX12_bears_28 rfl (lv_at hl 0 rfl) ?_
    refine lv_iconst (v := 1) hx hb dX12_bears_29 (by decide) ?_
    obtain ⟨r5, M6, hc7, h⟩ := bnd_inv h
    refine gV_i (As := [.int (1 : Int32)]) X hP hS hl.1 (c_X12_refuse l D cA q aK aV hq hc7) sf_X12_refuse bw_1530 sv_X12_refuse (rcR_12 sR_0) rfl ⟨rfl, rfl⟩ ⟨Nat.le_of_ble_eq_true rfl, Nat.le_of_ble_eq_true rfl⟩ rfl rfl (Nat.le_of_ble_eq_true rfl) dX12_bears_30 (fun H locs hP hS => ?_)
    exact end_i X hr hk hP hS h dX12_bears_33
  · rw [if_neg c4] at h
    refine lv_aload_n hx hb dX12_bears_9 rfl (lv_at hl 0 rfl) ?_
    refine lv_aload_n hx hb dX12_bears_10 rfl (lv_at hl 0 rfl) ?_
    refine lv_iload_n hx hb dX12_bears_11 rfl (lv_at hl 1 rfl) ?_
    refine lv_aload_n hx hb dX12_bears_12 rfl (lv_at hl 0 rfl) ?_
    refine gfR_12_0 X hP sR_0 bw_1323 dX12_bears_13 ?_
    refine lv_bipush (v := 6) hx hb dX12_bears_16 (by decide) ?_
    refine ldR_ia X hP sR_1 zR_1 (by decide) dX12_bears_18 ?_
    refine topE (y := (gI M2 1 6)) rfl ?_
    obtain ⟨r8, M9, hc10, h⟩ := bnd_inv h
    refine gV_i (As := [.int a1, .int (gI M2 1 6)]) X hP hS hl.1 (c_X12_ruleFor l D cA q aK aV hq hc10) sf_X12_ruleFor bw_1743 sv_X12_ruleFor (rcR_12 sR_0) rfl ⟨rfl, rfl⟩ ⟨Nat.le_of_ble_eq_true rfl, Nat.le_of_ble_eq_true rfl⟩ rfl rfl (Nat.le_of_ble_eq_true rfl) dX12_bears_19 (fun H locs hP hS => ?_)
    obtain ⟨r11, M12, hc13, h⟩ := bnd_inv h
    refine gV_i (As := [.int r8]) X hP hS hl.1 (c_X12_orNone l D cA q aK aV hq hc13) sf_X12_orNone bw_1707 sv_X12_orNone (rcR_12 sR_0) rfl ⟨rfl, rfl⟩ ⟨Nat.le_of_ble_eq_true rfl, Nat.le_of_ble_eq_true rfl⟩ rfl rfl (Nat.le_of_ble_eq_true rfl) dX12_bears_22 (fun H locs hP hS => ?_)
    refine lv_goto (tgt := 33) hx hb dX12_bears_25 (by decide) ?_
    exact end_i X hr hk hP hS h dX12_bears_33
theorem dX12_bearing_0 : decode cX12_bearing 0 = .ok (.aload_n 0, 1) := by decide +kernel
theorem dX12_bearing_1 : decode cX12_bearing 1 = .ok (.iload_n 1, 1) := by decide +kernel
theorem dX12_bearing_2 : decode cX12_bearing 2 = .ok (.i2l, 1) := by decide +kernel
theorem dX12_bearing_3 : decode cX12_bearing 3 = .ok (.invokevirtual 305, 3) := by decide +kernel
theorem dX12_bearing_6 : decode cX12_bearing 6 = .ok (.ifCond .ne 9, 3) := by decide +kernel
theorem dX12_bearing_9 : decode cX12_bearing 9 = .ok (.aload_n 0, 1) := by decide +kernel
theorem dX12_bearing_10 : decode cX12_bearing 10 = .ok (.iconst 1, 1) := by decide +kernel
theorem dX12_bearing_11 : decode cX12_bearing 11 = .ok (.invokevirtual 91, 3) := by decide +kernel
theorem dX12_bearing_14 : decode cX12_bearing 14 = .ok (.ireturn, 1) := by decide +kernel
theorem dX12_bearing_15 : decode cX12_bearing 15 = .ok (.iconst 0, 1) := by decide +kernel
theorem dX12_bearing_16 : decode cX12_bearing 16 = .ok (.istore_n 2, 1) := by decide +kernel
theorem dX12_bearing_17 : decode cX12_bearing 17 = .ok (.iconst 0, 1) := by decide +kernel
theorem dX12_bearing_18 : decode cX12_bearing 18 = .ok (.istore_n 3, 1) := by decide +kernel
theorem dX12_bearing_19 : decode cX12_bearing 19 = .ok (.iload_n 3, 1) := by decide +kernel
theorem dX12_bearing_20 : decode cX12_bearing 20 = .ok (.aload_n 0, 1) := by decide +kernel
theorem dX12_bearing_21 : decode cX12_bearing 21 = .ok (.getfield 7, 3) := by decide +kernel
theorem dX12_bearing_24 : decode cX12_bearing 24 = .ok (.iconst 2, 1) := by decide +kernel
theorem dX12_bearing_25 : decode cX12_bearing 25 = .ok (.iaload, 1) := by decide +kernel
theorem dX12_bearing_26 : decode cX12_bearing 26 = .ok (.if_icmp .ge 48, 3) := by decide +kernel
theorem dX12_bearing_29 : decode cX12_bearing 29 = .ok (.aload_n 0, 1) := by decide +kernel
theorem dX12_bearing_30 : decode cX12_bearing 30 = .ok (.iload_n 3, 1) := by decide +kernel
theorem dX12_bearing_31 : decode cX12_bearing 31 = .ok (.aload_n 0, 1) := by decide +kernel
theorem dX12_bearing_32 : decode cX12_bearing 32 = .ok (.iload_n 1, 1) := by decide +kernel
theorem dX12_bearing_33 : decode cX12_bearing 33 = .ok (.iconst 3, 1) := by decide +kernel
theorem dX12_bearing_34 : decode cX12_bearing 34 = .ok (.invokevirtual 281, 3) := by decide +kernel
theorem dX12_bearing_37 : decode cX12_bearing 37 = .ok (.aload_n 0, 1) := by decide +kernel
theorem dX12_bearing_38 : decode cX12_bearing 38 = .ok (.iload_n 1, 1) := by decide +kernel
theorem dX12_bearing_39 : decode cX12_bearing 39 = .ok (.iconst 0, 1) := by decide +kernel
theorem dX12_bearing_40 : decode cX12_bearing 40 = .ok (.invokevirtual 281, 3) := by decide +kernel
theorem dX12_bearing_43 : decode cX12_bearing 43 = .ok (.aload_n 0, 1) := by decide +kernel
theorem dX12_bearing_44 : decode cX12_bearing 44 = .ok (.getfield 7, 3) := by decide +kernel
theorem dX12_bearing_47 : decode cX12_bearing 47 = .ok (.bipush 6, 2) := by decide +kernel
theorem dX12_bearing_49 : decode cX12_bearing 49 = .ok (.iaload, 1) := by decide +kernel
theorem dX12_bearing_50 : decode cX12_bearing 50 = .ok (.aload_n 0, 1) := by decide +kernel
theorem dX12_bearing_51 : decode cX12_bearing 51 = .ok (.iload_n 1, 1) := by decide +kernel
theorem dX12_bearing_52 : decode cX12_bearing 52 = .ok (.iconst 1, 1) := by decide +kernel
theorem dX12_bearing_53 : decode cX12_bearing 53 = .ok (.invokevirtual 281, 3) := by decide +kernel
theorem dX12_bearing_56 : decode cX12_bearing 56 = .ok (.invokevirtual 321, 3) := by decide +kernel
theorem dX12_bearing_59 : decode cX12_bearing 59 = .ok (.ifCond .eq 9, 3) := by decide +kernel
theorem dX12_bearing_62 : decode cX12_bearing 62 = .ok (.iload_n 2, 1) := by decide +kernel
theorem dX12_bearing_63 : decode cX12_bearing 63 = .ok (.iconst 1, 1) := by decide +kernel
theorem dX12_bearing_64 : decode cX12_bearing 64 = .ok (.iload_n 3, 1) := by decide +kernel
theorem dX12_bearing_65 : decode cX12_bearing 65 = .ok (.ishl, 1) := by decide +kernel
theorem dX12_bearing_66 : decode cX12_bearing 66 = .ok (.ior, 1) := by decide +kernel
theorem dX12_bearing_67 : decode cX12_bearing 67 = .ok (.istore_n 2, 1) := by decide +kernel
theorem dX12_bearing_68 : decode cX12_bearing 68 = .ok (.iinc 3 1, 3) := by decide +kernel
theorem dX12_bearing_71 : decode cX12_bearing 71 = .ok (.goto (-52), 3) := by decide +kernel
theorem dX12_bearing_74 : decode cX12_bearing 74 = .ok (.aload_n 0, 1) := by decide +kernel
theorem dX12_bearing_75 : decode cX12_bearing 75 = .ok (.iload_n 2, 1) := by decide +kernel
theorem dX12_bearing_76 : decode cX12_bearing 76 = .ok (.invokevirtual 95, 3) := by decide +kernel
theorem dX12_bearing_79 : decode cX12_bearing 79 = .ok (.ireturn, 1) := by decide +kernel
set_option maxRecDepth 100000 in
set_option maxHeartbeats 8000000 in
theorem c_X12_bearing (l : Launch) (D : va_G) (cA : Nat → ClassId) (q aK aV : Nat → Nat) (hq : injG 20 q) {a1 : Int32} {M M0 : Mem} {r0 : Int32} (h : f_X12_bearing a1 M = some (r0, M0)) : Met l yX12_bearing (.code yX12_bearing cX12_bearing 4 (some .int) :: BW) ({ frames := 4, cells := 0, slots := 0, locals := 81 } : Room) (va_Pc [.ref (q 0), .int a1] (CB 20 (ceR cA q) D cA q aK aV M)) (Qi 20 (ceR cA q) D q r0 M0) 0 0 (AqG 20 q) := by
  refine gMet RX12 (by decide +kernel) rfl hq (Nat.le_of_ble_eq_true rfl) ?_
  intro p e s m below meth c ls X hr hk hP hS hl
  have hx := X.1
  have hb := X.2.1
  have hl : lv_has ls 4 [(0, .ref (q 0)), (1, .int a1)] := hl
  rw [f_X12_bearing] at h
  have hL19 : ∀ (fu : Nat) (b2 : Int32) (b3 : Int32) (M : Mem) (res : (Int32) × Mem) (H : Heap) (locs : List Loc) (ls : Array Slot), f_X12_bearing_L19 a1 fu b2 b3 M = some res → va_P D vwCl (wsG 20 (ceR cA q) q M) H → va_S (AqG 20 q) s.heap H locs → lv_has ls 4 [(0, .ref (q 0)), (1, .int a1), (2, .int b2), (3, .int b3)] → (∀ (H : Heap) (locs : List Loc) (ls : Array Slot), va_P D vwCl (wsG 20 (ceR cA q) q res.2) H → va_S (AqG 20 q) s.heap H locs → lv_has ls 4 [(0, .ref (q 0)), (2, .int (res.1))] → W p l e ({ frames := 4, cells := 0, slots := 0, locals := 81 } : Room) s m [.ref (q 0), .int a1].toArray below meth c H locs 0 0 (MQ below (Qi 20 (ceR cA q) D q r0 M0) [.ref (q 0), .int a1].toArray s 0 0 (AqG 20 q)) (F0 m 74 ls [])) → W p l e ({ frames := 4, cells := 0, slots := 0, locals := 81 } : Room) s m [.ref (q 0), .int a1].toArray below meth c H locs 0 0 (MQ below (Qi 20 (ceR cA q) D q r0 M0) [.ref (q 0), .int a1].toArray s 0 0 (AqG 20 q)) (F0 m 19 ls []) := by
    intro fu
    induction fu with
    | zero => intro b2 b3 M res H locs ls h; exact absurd h (by simp [f_X12_bearing_L19])
    | succ fu ih =>
      intro b2 b3 M res H locs ls h hP hS hl K19_0
      rw [f_X12_bearing_L19] at h
      refine lv_iload_n hx hb dX12_bearing_19 rfl (lv_at hl 3 rfl) ?_
      refine lv_aload_n hx hb dX12_bearing_20 rfl (lv_at hl 0 rfl) ?_
      refine gfR_12_0 X hP sR_0 bw_1323 dX12_bearing_21 ?_
      refine lv_iconst (v := 2) hx hb dX12_bearing_24 (by decide) ?_
      refine ldR_ia X hP sR_1 zR_1 (by decide) dX12_bearing_25 ?_
      refine topE (y := (gI M 1 2)) rfl ?_
      refine lv_icmp_ge (tgt := 74) hx hb dX12_bearing_26 (by decide) (fun c15 => ?_) (fun c15 => ?_)
      · rw [if_pos c15] at h
        cases h
        exact K19_0 _ _ _ hP hS (lv_sub hl [0, 2] rfl)
      · rw [if_neg c15] at h
        refine lv_aload_n hx hb dX12_bearing_29 rfl (lv_at hl 0 rfl) ?_
        refine lv_iload_n hx hb dX12_bearing_30 rfl (lv_at hl 3 rfl) ?_
        refine lv_aload_n hx hb dX12_bearing_31 rfl (lv_at hl 0 rfl) ?_
        refine lv_iload_n hx hb dX12_bearing_32 rfl (lv_at hl 1 rfl) ?_
        refine lv_iconst (v := 3) hx hb dX12_bearing_33 (by decide) ?_
        obtain ⟨r16, M17, hc18, h⟩ := bnd_inv h
        refine gV_i (As := [.int a1, .int (3 : Int32)]) X hP hS hl.1 (c_X12_personOf l D cA q aK aV hq hc18) sf_X12_personOf bw_1683 sv_X12_personOf (rcR_12 sR_0) rfl ⟨rfl, rfl⟩ ⟨Nat.le_of_ble_eq_true rfl, Nat.le_of_ble_eq_true rfl⟩ rfl rfl (Nat.le_of_ble_eq_true rfl) dX12_bearing_34 (fun H locs hP hS => ?_)
        refine lv_aload_n hx hb dX12_bearing_37 rfl (lv_at hl 0 rfl) ?_
        refine lv_iload_n hx hb dX12_bearing_38 rfl (lv_at hl 1 rfl) ?_
        refine lv_iconst (v := 0) hx hb dX12_bearing_39 (by decide) ?_
        obtain ⟨r19, M20, hc21, h⟩ := bnd_inv h
        refine gV_i (As := [.int a1, .int (0 : Int32)]) X hP hS hl.1 (c_X12_personOf l D cA q aK aV hq hc21) sf_X12_personOf bw_1683 sv_X12_personOf (rcR_12 sR_0) rfl ⟨rfl, rfl⟩ ⟨Nat.le_of_ble_eq_true rfl, Nat.le_of_ble_eq_true rfl⟩ rfl rfl (Nat.le_of_ble_eq_true rfl) dX12_bearing_40 (fun H locs hP hS => ?_)
        refine lv_aload_n hx hb dX12_bearing_43 rfl (lv_at hl 0 rfl) ?_
        refine gfR_12_0 X hP sR_0 bw_1323 dX12_bearing_44 ?_
        refine lv_bipush (v := 6) hx hb dX12_bearing_47 (by decide) ?_
        refine ldR_ia X hP sR_1 zR_1 (by decide) dX12_bearing_49 ?_
        refine topE (y := (gI M20 1 6)) rfl ?_
        refine lv_aload_n hx hb dX12_bearing_50 rfl (lv_at hl 0 rfl) ?_
        refine lv_iload_n hx hb dX12_bearing_51 rfl (lv_at hl 1 rfl) ?_
        refine lv_iconst (v := 1) hx hb dX12_bearing_52 (by decide) ?_
        obtain ⟨r22, M23, hc24, h⟩ := bnd_inv h
        refine gV_i (As := [.int a1, .int (1 : Int32)]) X hP hS hl.1 (c_X12_personOf l D cA q aK aV hq hc24) sf_X12_personOf bw_1683 sv_X12_personOf (rcR_12 sR_0) rfl ⟨rfl, rfl⟩ ⟨Nat.le_of_ble_eq_true rfl, Nat.le_of_ble_eq_true rfl⟩ rfl rfl (Nat.le_of_ble_eq_true rfl) dX12_bearing_53 (fun H locs hP hS => ?_)
        obtain ⟨r25, M26, hc27, h⟩ := bnd_inv h
        refine gV_i (As := [.int b3, .int r16, .int r19, .int (gI M20 1 6), .int r22]) X hP hS hl.1 (c_X12_doesBear l D cA q aK aV hq hc27) sf_X12_doesBear bw_1751 sv_X12_doesBear (rcR_12 sR_0) rfl ⟨rfl, rfl⟩ ⟨Nat.le_of_ble_eq_true rfl, Nat.le_of_ble_eq_true rfl⟩ rfl rfl (Nat.le_of_ble_eq_true rfl) dX12_bearing_56 (fun H locs hP hS => ?_)
        refine lv_if_eq (tgt := 68) hx hb dX12_bearing_59 (by decide) (fun c28 => ?_) (fun c28 => ?_)
        · rw [if_pos c28] at h
          obtain ⟨y29, ey29, h⟩ := lt_inv h
          refine lv_iinc (v := y29) (lv' := [(3, .int y29), (0, .ref (q 0)), (1, .int a1), (2, .int b2)]) hx hb dX12_bearing_68 hl (k := 3) rfl (by rw [ey29]; rfl) (by decide) rfl (fun ls hl => ?_)
          refine lv_goto (tgt := 19) hx hb dX12_bearing_71 (by decide) ?_
          exact ih _ _ _ res _ _ _ h hP hS (lv_sub hl [1, 2, 3, 0] rfl) K19_0
        · rw [if_neg c28] at h
          refine lv_iload_n hx hb dX12_bearing_62 rfl (lv_at hl 2 rfl) ?_
          refine lv_iconst (v := 1) hx hb dX12_bearing_63 (by decide) ?_
          refine lv_iload_n hx hb dX12_bearing_64 rfl (lv_at hl 3 rfl) ?_
          refine lv_ishl hx hb dX12_bearing_65 ?_
          refine lv_ior hx hb dX12_bearing_66 ?_
          obtain ⟨y30, ey30, h⟩ := lt_inv h
          refine topE ey30 ?_
          refine lv_istore_n (lv' := [(2, .int y30), (0, .ref (q 0)), (1, .int a1), (3, .int b3)]) hx hb dX12_bearing_67 rfl hl (by decide) rfl (fun ls hl => ?_)
          obtain ⟨y31, ey31, h⟩ := lt_inv h
          refine lv_iinc (v := y31) (lv' := [(3, .int y31), (2, .int y30), (0, .ref (q 0)), (1, .int a1)]) hx hb dX12_bearing_68 hl (k := 3) rfl (by rw [ey31]; rfl) (by decide) rfl (fun ls hl => ?_)
          refine lv_goto (tgt := 19) hx hb dX12_bearing_71 (by decide) ?_
          exact ih _ _ _ res _ _ _ h hP hS (lv_sub hl [2, 3, 1, 0] rfl) K19_0
  refine lv_aload_n hx hb dX12_bearing_0 rfl (lv_at hl 0 rfl) ?_
  refine lv_iload_n hx hb dX12_bearing_1 rfl (lv_at hl 1 rfl) ?_
  refine lv_i2l hx hb dX12_bearing_2 rfl ?_
  obtain ⟨r1, M2, hc3, h⟩ := bnd_inv h
  refine gV_i (As := [.long (a1.toInt64)]) X hP hS hl.1 (c_X12_isPerson l D cA q aK aV hq hc3) sf_X12_isPerson bw_1715 sv_X12_isPerson (rcR_12 sR_0) rfl ⟨rfl, rfl⟩ ⟨Nat.le_of_ble_eq_true rfl, Nat.le_of_ble_eq_true rfl⟩ rfl rfl (Nat.le_of_ble_eq_true rfl) dX12_bearing_3 (fun H locs hP hS => ?_)
  refine lv_if_ne (tgt := 15) hx hb dX12_bearing_6 (by decide) (fun c4 => ?_) (fun c4 => ?_)
  · rw [if_neg c4] at h
    refine lv_iconst (v := 0) hx hb dX12_bearing_15 (by decide) ?_
    refine lv_istore_n (lv' := [(2, .int (0 : Int32)), (0, .ref (q 0)), (1, .int a1)]) hx hb dX12_bearing_16 rfl hl (by decide) rfl (fun ls hl => ?_)
    refine lv_iconst (v := 0) hx hb dX12_bearing_17 (by decide) ?_
    refine lv_istore_n (lv' := [(3, .int (0 : Int32)), (2, .int (0 : Int32)), (0, .ref (q 0)), (1, .int a1)]) hx hb dX12_bearing_18 rfl hl (by decide) rfl (fun ls hl => ?_)
    obtain ⟨s5, M6, hc7, h⟩ := bnd_inv h
    obtain ⟨x8, rfl⟩ : ∃ z, z = s5 := ⟨_, rfl⟩
    try dsimp only at h
    refine hL19  fz _ _ _ _ _ _ _ hc7 hP hS (lv_sub hl [2, 3, 1, 0] rfl) (fun H locs ls hP hS hl => ?_)
    have hl : lv_has ls 4 [(0, .ref (q 0)), (2, .int x8)] := hl
    refine lv_aload_n hx hb dX12_bearing_74 rfl (lv_at hl 0 rfl) ?_
    refine lv_iload_n hx hb dX12_bearing_75 rfl (lv_at hl 1 rfl) ?_
    obtain ⟨r9, M10, hc11, h⟩ := bnd_inv h
    refine gV_i (As := [.int x8]) X hP hS hl.1 (c_X12_gives l D cA q aK aV hq hc11) sf_X12_gives bw_1639 sv_X12_gives (rcR_12 sR_0) rfl ⟨rfl, rfl⟩ ⟨Nat.le_of_ble_eq_true rfl, Nat.le_of_ble_eq_true rfl⟩ rfl rfl (Nat.le_of_ble_eq_true rfl) dX12_bearing_76 (fun H locs hP hS => ?_)
    exact end_i X hr hk hP hS h dX12_bearing_79
  · rw [if_pos c4] at h
    refine lv_aload_n hx hb dX12_bearing_9 rfl (lv_at hl 0 rfl) ?_
    refine lv_iconst (v := 1) hx hb dX12_bearing_10 (by decide) ?_
    obtain ⟨r12, M13, hc14, h⟩ := bnd_inv h
    refine gV_i (As := [.int (1 : Int32)]) X hP hS hl.1 (c_X12_refuse l D cA q aK aV hq hc14) sf_X12_refuse bw_1530 sv_X12_refuse (rcR_12 sR_0) rfl ⟨rfl, rfl⟩ ⟨Nat.le_of_ble_eq_true rfl, Nat.le_of_ble_eq_true rfl⟩ rfl rfl (Nat.le_of_ble_eq_true rfl) dX12_bearing_11 (fun H locs hP hS => ?_)
    exact end_i X hr hk hP hS h dX12_bearing_14
