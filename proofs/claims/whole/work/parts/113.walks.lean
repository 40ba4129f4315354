theorem dX12_wrongSeen_0 : decode cX12_wrongSeen 0 = .ok (.iload_n 1, 1) := by decide +kernel
theorem dX12_wrongSeen_1 : decode cX12_wrongSeen 1 = .ok (.invokestatic 102, 3) := by decide +kernel
theorem dX12_wrongSeen_4 : decode cX12_wrongSeen 4 = .ok (.ifCond .eq 15, 3) := by decide +kernel
theorem dX12_wrongSeen_7 : decode cX12_wrongSeen 7 = .ok (.iload_n 2, 1) := by decide +kernel
theorem dX12_wrongSeen_8 : decode cX12_wrongSeen 8 = .ok (.i2l, 1) := by decide +kernel
theorem dX12_wrongSeen_9 : decode cX12_wrongSeen 9 = .ok (.lconst 0, 1) := by decide +kernel
theorem dX12_wrongSeen_10 : decode cX12_wrongSeen 10 = .ok (.ldc2_w 380, 3) := by decide +kernel
theorem dX12_wrongSeen_13 : decode cX12_wrongSeen 13 = .ok (.invokestatic 337, 3) := by decide +kernel
theorem dX12_wrongSeen_16 : decode cX12_wrongSeen 16 = .ok (.ifCond .ne 5, 3) := by decide +kernel
theorem dX12_wrongSeen_19 : decode cX12_wrongSeen 19 = .ok (.iconst 1, 1) := by decide +kernel
theorem dX12_wrongSeen_20 : decode cX12_wrongSeen 20 = .ok (.ireturn, 1) := by decide +kernel
theorem dX12_wrongSeen_21 : decode cX12_wrongSeen 21 = .ok (.aload_n 0, 1) := by decide +kernel
theorem dX12_wrongSeen_22 : decode cX12_wrongSeen 22 = .ok (.getfield 24, 3) := by decide +kernel
theorem dX12_wrongSeen_25 : decode cX12_wrongSeen 25 = .ok (.iload_n 1, 1) := by decide +kernel
theorem dX12_wrongSeen_26 : decode cX12_wrongSeen 26 = .ok (.iaload, 1) := by decide +kernel
theorem dX12_wrongSeen_27 : decode cX12_wrongSeen 27 = .ok (.iconst (-1), 1) := by decide +kernel
theorem dX12_wrongSeen_28 : decode cX12_wrongSeen 28 = .ok (.if_icmp .ne 5, 3) := by decide +kernel
theorem dX12_wrongSeen_31 : decode cX12_wrongSeen 31 = .ok (.iconst 2, 1) := by decide +kernel
theorem dX12_wrongSeen_32 : decode cX12_wrongSeen 32 = .ok (.ireturn, 1) := by decide +kernel
theorem dX12_wrongSeen_33 : decode cX12_wrongSeen 33 = .ok (.aload_n 0, 1) := by decide +kernel
theorem dX12_wrongSeen_34 : decode cX12_wrongSeen 34 = .ok (.getfield 24, 3) := by decide +kernel
theorem dX12_wrongSeen_37 : decode cX12_wrongSeen 37 = .ok (.iload_n 1, 1) := by decide +kernel
theorem dX12_wrongSeen_38 : decode cX12_wrongSeen 38 = .ok (.iaload, 1) := by decide +kernel
theorem dX12_wrongSeen_39 : decode cX12_wrongSeen 39 = .ok (.iconst 3, 1) := by decide +kernel
theorem dX12_wrongSeen_40 : decode cX12_wrongSeen 40 = .ok (.iload_n 2, 1) := by decide +kernel
theorem dX12_wrongSeen_41 : decode cX12_wrongSeen 41 = .ok (.imul, 1) := by decide +kernel
theorem dX12_wrongSeen_42 : decode cX12_wrongSeen 42 = .ok (.if_icmp .ge 5, 3) := by decide +kernel
theorem dX12_wrongSeen_45 : decode cX12_wrongSeen 45 = .ok (.iconst 3, 1) := by decide +kernel
theorem dX12_wrongSeen_46 : decode cX12_wrongSeen 46 = .ok (.ireturn, 1) := by decide +kernel
theorem dX12_wrongSeen_47 : decode cX12_wrongSeen 47 = .ok (.iconst 0, 1) := by decide +kernel
theorem dX12_wrongSeen_48 : decode cX12_wrongSeen 48 = .ok (.istore_n 3, 1) := by decide +kernel
theorem dX12_wrongSeen_49 : decode cX12_wrongSeen 49 = .ok (.iload_n 3, 1) := by decide +kernel
theorem dX12_wrongSeen_50 : decode cX12_wrongSeen 50 = .ok (.iload_n 2, 1) := by decide +kernel
theorem dX12_wrongSeen_51 : decode cX12_wrongSeen 51 = .ok (.if_icmp .ge 77, 3) := by decide +kernel
theorem dX12_wrongSeen_54 : decode cX12_wrongSeen 54 = .ok (.bipush 60, 2) := by decide +kernel
theorem dX12_wrongSeen_56 : decode cX12_wrongSeen 56 = .ok (.iload_n 1, 1) := by decide +kernel
theorem dX12_wrongSeen_57 : decode cX12_wrongSeen 57 = .ok (.imul, 1) := by decide +kernel
theorem dX12_wrongSeen_58 : decode cX12_wrongSeen 58 = .ok (.iconst 3, 1) := by decide +kernel
theorem dX12_wrongSeen_59 : decode cX12_wrongSeen 59 = .ok (.iload_n 3, 1) := by decide +kernel
theorem dX12_wrongSeen_60 : decode cX12_wrongSeen 60 = .ok (.imul, 1) := by decide +kernel
theorem dX12_wrongSeen_61 : decode cX12_wrongSeen 61 = .ok (.iadd, 1) := by decide +kernel
theorem dX12_wrongSeen_62 : decode cX12_wrongSeen 62 = .ok (.istore 4, 2) := by decide +kernel
theorem dX12_wrongSeen_64 : decode cX12_wrongSeen 64 = .ok (.aload_n 0, 1) := by decide +kernel
theorem dX12_wrongSeen_65 : decode cX12_wrongSeen 65 = .ok (.aload_n 0, 1) := by decide +kernel
theorem dX12_wrongSeen_66 : decode cX12_wrongSeen 66 = .ok (.getfield 27, 3) := by decide +kernel
theorem dX12_wrongSeen_69 : decode cX12_wrongSeen 69 = .ok (.iload 4, 2) := by decide +kernel
theorem dX12_wrongSeen_71 : decode cX12_wrongSeen 71 = .ok (.laload, 1) := by decide +kernel
theorem dX12_wrongSeen_72 : decode cX12_wrongSeen 72 = .ok (.invokevirtual 305, 3) := by decide +kernel
theorem dX12_wrongSeen_75 : decode cX12_wrongSeen 75 = .ok (.ifCond .eq 45, 3) := by decide +kernel
theorem dX12_wrongSeen_78 : decode cX12_wrongSeen 78 = .ok (.aload_n 0, 1) := by decide +kernel
theorem dX12_wrongSeen_79 : decode cX12_wrongSeen 79 = .ok (.getfield 27, 3) := by decide +kernel
theorem dX12_wrongSeen_82 : decode cX12_wrongSeen 82 = .ok (.iload 4, 2) := by decide +kernel
theorem dX12_wrongSeen_84 : decode cX12_wrongSeen 84 = .ok (.iconst 1, 1) := by decide +kernel
theorem dX12_wrongSeen_85 : decode cX12_wrongSeen 85 = .ok (.iadd, 1) := by decide +kernel
theorem dX12_wrongSeen_86 : decode cX12_wrongSeen 86 = .ok (.laload, 1) := by decide +kernel
theorem dX12_wrongSeen_87 : decode cX12_wrongSeen 87 = .ok (.lconst 0, 1) := by decide +kernel
theorem dX12_wrongSeen_88 : decode cX12_wrongSeen 88 = .ok (.ldc2_w 335, 3) := by decide +kernel
theorem dX12_wrongSeen_91 : decode cX12_wrongSeen 91 = .ok (.invokestatic 337, 3) := by decide +kernel
theorem dX12_wrongSeen_94 : decode cX12_wrongSeen 94 = .ok (.ifCond .eq 26, 3) := by decide +kernel
theorem dX12_wrongSeen_97 : decode cX12_wrongSeen 97 = .ok (.aload_n 0, 1) := by decide +kernel
theorem dX12_wrongSeen_98 : decode cX12_wrongSeen 98 = .ok (.getfield 27, 3) := by decide +kernel
theorem dX12_wrongSeen_101 : decode cX12_wrongSeen 101 = .ok (.iload 4, 2) := by decide +kernel
theorem dX12_wrongSeen_103 : decode cX12_wrongSeen 103 = .ok (.iconst 2, 1) := by decide +kernel
theorem dX12_wrongSeen_104 : decode cX12_wrongSeen 104 = .ok (.iadd, 1) := by decide +kernel
theorem dX12_wrongSeen_105 : decode cX12_wrongSeen 105 = .ok (.laload, 1) := by decide +kernel
theorem dX12_wrongSeen_106 : decode cX12_wrongSeen 106 = .ok (.lconst 0, 1) := by decide +kernel
theorem dX12_wrongSeen_107 : decode cX12_wrongSeen 107 = .ok (.aload_n 0, 1) := by decide +kernel
theorem dX12_wrongSeen_108 : decode cX12_wrongSeen 108 = .ok (.getfield 7, 3) := by decide +kernel
theorem dX12_wrongSeen_111 : decode cX12_wrongSeen 111 = .ok (.iconst 1, 1) := by decide +kernel
theorem dX12_wrongSeen_112 : decode cX12_wrongSeen 112 = .ok (.iaload, 1) := by decide +kernel
theorem dX12_wrongSeen_113 : decode cX12_wrongSeen 113 = .ok (.i2l, 1) := by decide +kernel
theorem dX12_wrongSeen_114 : decode cX12_wrongSeen 114 = .ok (.invokestatic 337, 3) := by decide +kernel
theorem dX12_wrongSeen_117 : decode cX12_wrongSeen 117 = .ok (.ifCond .ne 5, 3) := by decide +kernel
theorem dX12_wrongSeen_120 : decode cX12_wrongSeen 120 = .ok (.iconst 5, 1) := by decide +kernel
theorem dX12_wrongSeen_121 : decode cX12_wrongSeen 121 = .ok (.ireturn, 1) := by decide +kernel
theorem dX12_wrongSeen_122 : decode cX12_wrongSeen 122 = .ok (.iinc 3 1, 3) := by decide +kernel
theorem dX12_wrongSeen_125 : decode cX12_wrongSeen 125 = .ok (.goto (-76), 3) := by decide +kernel
theorem dX12_wrongSeen_128 : decode cX12_wrongSeen 128 = .ok (.iconst 0, 1) := by decide +kernel
theorem dX12_wrongSeen_129 : decode cX12_wrongSeen 129 = .ok (.ireturn, 1) := by decide +kernel
set_option maxRecDepth 100000 in
set_option maxHeartbeats 8000000 in
theorem c_X12_wrongSeen (l : Launch) (D : va_G) (cA : Nat → ClassId) (q aK aV : Nat → Nat) (hq : injG 20 q) {a1 : Int32} {a2 : Int32} {M M0 : Mem} {r0 : Int32} (h : f_X12_wrongSeen a1 a2 M = some (r0, M0)) : Met l yX12_wrongSeen (.code yX12_wrongSeen cX12_wrongSeen 5 (some .int) :: BW) ({ frames := 2, cells := 0, slots := 0, locals := 42 } : Room) (va_Pc [.ref (q 0), .int a1, .int a2] (CB 20 (ceR cA q) D cA q aK aV M)) (Qi 20 (ceR cA q) D q r0 M0) 0 0 (AqG 20 q) := by
  refine gMet RX12 (by decide +kernel) rfl hq (Nat.le_of_ble_eq_true rfl) ?_
  intro p e s m below meth c ls X hr hk hP hS hl
  have hx := X.1
  have hb := X.2.1
  have hl : lv_has ls 5 [(0, .ref (q 0)), (1, .int a1), (2, .int a2)] := hl
  rw [f_X12_wrongSeen] at h
  have hL49 : ∀ (fu : Nat) (b3 : Int32) (M : Mem) (res : (Nat) × Mem) (H : Heap) (locs : List Loc) (ls : Array Slot), f_X12_wrongSeen_L49 a1 a2 fu b3 M = some res → va_P D vwCl (wsG 20 (ceR cA q) q M) H → va_S (AqG 20 q) s.heap H locs → lv_has ls 5 [(0, .ref (q 0)), (1, .int a1), (2, .int a2), (3, .int b3)] → (res.1 = 0 → ∀ (H : Heap) (locs : List Loc) (ls : Array Slot), va_P D vwCl (wsG 20 (ceR cA q) q res.2) H → va_S (AqG 20 q) s.heap H locs → lv_has ls 5 [] → W p l e ({ frames := 2, cells := 0, slots := 0, locals := 42 } : Room) s m [.ref (q 0), .int a1, .int a2].toArray below meth c H locs 0 0 (MQ below (Qi 20 (ceR cA q) D q r0 M0) [.ref (q 0), .int a1, .int a2].toArray s 0 0 (AqG 20 q)) (F0 m 120 ls [])) → (res.1 = 1 → ∀ (H : Heap) (locs : List Loc) (ls : Array Slot), va_P D vwCl (wsG 20 (ceR cA q) q res.2) H → va_S (AqG 20 q) s.heap H locs → lv_has ls 5 [] → W p l e ({ frames := 2, cells := 0, slots := 0, locals := 42 } : Room) s m [.ref (q 0), .int a1, .int a2].toArray below meth c H locs 0 0 (MQ below (Qi 20 (ceR cA q) D q r0 M0) [.ref (q 0), .int a1, .int a2].toArray s 0 0 (AqG 20 q)) (F0 m 128 ls [])) → W p l e ({ frames := 2, cells := 0, slots := 0, locals := 42 } : Room) s m [.ref (q 0), .int a1, .int a2].toArray below meth c H locs 0 0 (MQ below (Qi 20 (ceR cA q) D q r0 M0) [.ref (q 0), .int a1, .int a2].toArray s 0 0 (AqG 20 q)) (F0 m 49 ls []) := by
    intro fu
    induction fu with
    | zero => intro b3 M res H locs ls h; exact absurd h (by simp [f_X12_wrongSeen_L49])
    | succ fu ih =>
      intro b3 M res H locs ls h hP hS hl K49_0 K49_1
      rw [f_X12_wrongSeen_L49] at h
      refine lv_iload_n hx hb dX12_wrongSeen_49 rfl (lv_at hl 3 rfl) ?_
      refine lv_iload_n hx hb dX12_wrongSeen_50 rfl (lv_at hl 2 rfl) ?_
      refine lv_icmp_ge (tgt := 128) hx hb dX12_wrongSeen_51 (by decide) (fun c17 => ?_) (fun c17 => ?_)
      · rw [if_pos c17] at h
        cases h
        exact K49_1 rfl _ _ _ hP hS (lv_sub hl [] rfl)
      · rw [if_neg c17] at h
        refine lv_bipush (v := 60) hx hb dX12_wrongSeen_54 (by decide) ?_
        refine lv_iload_n hx hb dX12_wrongSeen_56 rfl (lv_at hl 1 rfl) ?_
        refine lv_imul hx hb dX12_wrongSeen_57 ?_
        refine lv_iconst (v := 3) hx hb dX12_wrongSeen_58 (by decide) ?_
        refine lv_iload_n hx hb dX12_wrongSeen_59 rfl (lv_at hl 3 rfl) ?_
        refine lv_imul hx hb dX12_wrongSeen_60 ?_
        refine lv_iadd hx hb dX12_wrongSeen_61 ?_
        obtain ⟨y18, ey18, h⟩ := lt_inv h
        refine topE ey18 ?_
        refine lv_istore (lv' := [(4, .int y18), (0, .ref (q 0)), (1, .int a1), (2, .int a2), (3, .int b3)]) hx hb dX12_wrongSeen_62 hl (by decide) rfl (fun ls hl => ?_)
        refine lv_aload_n hx hb dX12_wrongSeen_64 rfl (lv_at hl 1 rfl) ?_
        refine lv_aload_n hx hb dX12_wrongSeen_65 rfl (lv_at hl 1 rfl) ?_
        refine gfR_12_7 X hP sR_0 bw_1330 dX12_wrongSeen_66 ?_
        refine lv_iload hx hb dX12_wrongSeen_69 (lv_at hl 0 rfl) ?_
        obtain ⟨g19, h⟩ := gd_inv h
        refine ldR_la X hP sR_5 zR_5 g19 dX12_wrongSeen_71 ?_
        obtain ⟨r20, M21, hc22, h⟩ := bnd_inv h
        refine gV_i (As := [.long (gL M 5 y18.toNatClampNeg)]) X hP hS hl.1 (c_X12_isPerson l D cA q aK aV hq hc22) sf_X12_isPerson bw_1715 sv_X12_isPerson (rcR_12 sR_0) rfl ⟨rfl, rfl⟩ ⟨Nat.le_of_ble_eq_true rfl, Nat.le_of_ble_eq_true rfl⟩ rfl rfl (Nat.le_of_ble_eq_true rfl) dX12_wrongSeen_72 (fun H locs hP hS => ?_)
        refine lv_if_eq (tgt := 120) hx hb dX12_wrongSeen_75 (by decide) (fun c23 => ?_) (fun c23 => ?_)
        · rw [if_pos c23] at h
          cases h
          exact K49_0 rfl _ _ _ hP hS (lv_sub hl [] rfl)
        · rw [if_neg c23] at h
          refine lv_aload_n hx hb dX12_wrongSeen_78 rfl (lv_at hl 1 rfl) ?_
          refine gfR_12_7 X hP sR_0 bw_1330 dX12_wrongSeen_79 ?_
          refine lv_iload hx hb dX12_wrongSeen_82 (lv_at hl 0 rfl) ?_
          refine lv_iconst (v := 1) hx hb dX12_wrongSeen_84 (by decide) ?_
          refine lv_iadd hx hb dX12_wrongSeen_85 ?_
          obtain ⟨g24, h⟩ := gd_inv h
          refine ldR_la X hP sR_5 zR_5 g24 dX12_wrongSeen_86 ?_
          refine lv_lconst (v := 0) hx hb dX12_wrongSeen_87 (by decide) ?_
          refine lv_ldc2 hx hb X.2.2.2.1 (X.2.2.2.2.1 _ bw_1766) dX12_wrongSeen_88 ?_
          obtain ⟨r25, M26, hc27, h⟩ := bnd_inv h
          refine gS_i (As := [.long (gL M21 5 ((y18 + (1 : Int32))).toNatClampNeg), .long (0 : Int64), .long (9 : Int64)]) X hP hS hl.1 (c_X12_isFrom l D cA q aK aV hq hc27) sf_X12_isFrom bw_1767 ss_X12_isFrom ⟨rfl, rfl⟩ ⟨Nat.le_of_ble_eq_true rfl, Nat.le_of_ble_eq_true rfl⟩ rfl rfl (Nat.le_of_ble_eq_true rfl) dX12_wrongSeen_91 (fun H locs hP hS => ?_)
          refine lv_if_eq (tgt := 120) hx hb dX12_wrongSeen_94 (by decide) (fun c28 => ?_) (fun c28 => ?_)
          · rw [if_pos c28] at h
            cases h
            exact K49_0 rfl _ _ _ hP hS (lv_sub hl [] rfl)
          · rw [if_neg c28] at h
            refine lv_aload_n hx hb dX12_wrongSeen_97 rfl (lv_at hl 1 rfl) ?_
            refine gfR_12_7 X hP sR_0 bw_1330 dX12_wrongSeen_98 ?_
            refine lv_iload hx hb dX12_wrongSeen_101 (lv_at hl 0 rfl) ?_
            refine lv_iconst (v := 2) hx hb dX12_wrongSeen_103 (by decide) ?_
            refine lv_iadd hx hb dX12_wrongSeen_104 ?_
            obtain ⟨g29, h⟩ := gd_inv h
            refine ldR_la X hP sR_5 zR_5 g29 dX12_wrongSeen_105 ?_
            refine lv_lconst (v := 0) hx hb dX12_wrongSeen_106 (by decide) ?_
            refine lv_aload_n hx hb dX12_wrongSeen_107 rfl (lv_at hl 1 rfl) ?_
            refine gfR_12_0 X hP sR_0 bw_1323 dX12_wrongSeen_108 ?_
            refine lv_iconst (v := 1) hx hb dX12_wrongSeen_111 (by decide) ?_
            refine ldR_ia X hP sR_1 zR_1 (by decide) dX12_wrongSeen_112 ?_
            refine topE (y := (gI M26 1 1)) rfl ?_
            refine lv_i2l hx hb dX12_wrongSeen_113 rfl ?_
            obtain ⟨r30, M31, hc32, h⟩ := bnd_inv h
            refine gS_i (As := [.long (gL M26 5 ((y18 + (2 : Int32))).toNatClampNeg), .long (0 : Int64), .long (((gI M26 1 1)).toInt64)]) X hP hS hl.1 (c_X12_isFrom l D cA q aK aV hq hc32) sf_X12_isFrom bw_1767 ss_X12_isFrom ⟨rfl, rfl⟩ ⟨Nat.le_of_ble_eq_true rfl, Nat.le_of_ble_eq_true rfl⟩ rfl rfl (Nat.le_of_ble_eq_true rfl) dX12_wrongSeen_114 (fun H locs hP hS => ?_)
            refine lv_if_ne (tgt := 122) hx hb dX12_wrongSeen_117 (by decide) (fun c33 => ?_) (fun c33 => ?_)
            · rw [if_neg c33] at h
              obtain ⟨y34, ey34, h⟩ := lt_inv h
              refine lv_iinc (v := y34) (lv' := [(3, .int y34), (4, .int y18), (0, .ref (q 0)), (1, .int a1), (2, .int a2)]) hx hb dX12_wrongSeen_122 hl (k := 4) rfl (by rw [ey34]; rfl) (by decide) rfl (fun ls hl => ?_)
              refine lv_goto (tgt := 49) hx hb dX12_wrongSeen_125 (by decide) ?_
              exact ih _ _ res _ _ _ h hP hS (lv_sub hl [2, 3, 4, 0] rfl) K49_0 K49_1
            · rw [if_pos c33] at h
              cases h
              exact K49_0 rfl _ _ _ hP hS (lv_sub hl [] rfl)
  refine lv_iload_n hx hb dX12_wrongSeen_0 rfl (lv_at hl 1 rfl) ?_
  obtain ⟨r1, M2, hc3, h⟩ := bnd_inv h
  refine gS_i (As := [.int a1]) X hP hS hl.1 (c_X12_isTray l D cA q aK aV hq hc3) sf_X12_isTray bw_1467 ss_X12_isTray ⟨rfl, rfl⟩ ⟨Nat.le_of_ble_eq_true rfl, Nat.le_of_ble_eq_true rfl⟩ rfl rfl (Nat.le_of_ble_eq_true rfl) dX12_wrongSeen_1 (fun H locs hP hS => ?_)
  refine lv_if_eq (tgt := 19) hx hb dX12_wrongSeen_4 (by decide) (fun c4 => ?_) (fun c4 => ?_)
  · rw [if_pos c4] at h
    refine lv_iconst (v := 1) hx hb dX12_wrongSeen_19 (by decide) ?_
    exact end_i X hr hk hP hS h dX12_wrongSeen_20
  · rw [if_neg c4] at h
    refine lv_iload_n hx hb dX12_wrongSeen_7 rfl (lv_at hl 2 rfl) ?_
    refine lv_i2l hx hb dX12_wrongSeen_8 rfl ?_
    refine lv_lconst (v := 0) hx hb dX12_wrongSeen_9 (by decide) ?_
    refine lv_ldc2 hx hb X.2.2.2.1 (X.2.2.2.2.1 _ bw_1885) dX12_wrongSeen_10 ?_
    obtain ⟨r5, M6, hc7, h⟩ := bnd_inv h
    refine gS_i (As := [.long (a2.toInt64), .long (0 : Int64), .long (20 : Int64)]) X hP hS hl.1 (c_X12_isFrom l D cA q aK aV hq hc7) sf_X12_isFrom bw_1767 ss_X12_isFrom ⟨rfl, rfl⟩ ⟨Nat.le_of_ble_eq_true rfl, Nat.le_of_ble_eq_true rfl⟩ rfl rfl (Nat.le_of_ble_eq_true rfl) dX12_wrongSeen_13 (fun H locs hP hS => ?_)
    refine lv_if_ne (tgt := 21) hx hb dX12_wrongSeen_16 (by decide) (fun c8 => ?_) (fun c8 => ?_)
    · rw [if_neg c8] at h
      refine lv_aload_n hx hb dX12_wrongSeen_21 rfl (lv_at hl 0 rfl) ?_
      refine gfR_12_6 X hP sR_0 bw_1329 dX12_wrongSeen_22 ?_
      refine lv_iload_n hx hb dX12_wrongSeen_25 rfl (lv_at hl 1 rfl) ?_
      obtain ⟨g9, h⟩ := gd_inv h
      refine ldR_ia X hP sR_4 zR_4 g9 dX12_wrongSeen_26 ?_
      refine lv_iconst (v := -1) hx hb dX12_wrongSeen_27 (by decide) ?_
      refine lv_icmp_ne (tgt := 33) hx hb dX12_wrongSeen_28 (by decide) (fun c10 => ?_) (fun c10 => ?_)
      · rw [if_neg c10] at h
        refine lv_aload_n hx hb dX12_wrongSeen_33 rfl (lv_at hl 0 rfl) ?_
        refine gfR_12_6 X hP sR_0 bw_1329 dX12_wrongSeen_34 ?_
        refine lv_iload_n hx hb dX12_wrongSeen_37 rfl (lv_at hl 1 rfl) ?_
        obtain ⟨g11, h⟩ := gd_inv h
        refine ldR_ia X hP sR_4 zR_4 g11 dX12_wrongSeen_38 ?_
        refine lv_iconst (v := 3) hx hb dX12_wrongSeen_39 (by decide) ?_
        refine lv_iload_n hx hb dX12_wrongSeen_40 rfl (lv_at hl 2 rfl) ?_
        refine lv_imul hx hb dX12_wrongSeen_41 ?_
        refine lv_icmp_ge (tgt := 47) hx hb dX12_wrongSeen_42 (by decide) (fun c12 => ?_) (fun c12 => ?_)
        · rw [if_pos c12] at h
          refine lv_iconst (v := 0) hx hb dX12_wrongSeen_47 (by decide) ?_
          refine lv_istore_n (lv' := [(3, .int (0 : Int32)), (0, .ref (q 0)), (1, .int a1), (2, .int a2)]) hx hb dX12_wrongSeen_48 rfl hl (by decide) rfl (fun ls hl => ?_)
          obtain ⟨s13, M14, hc15, h⟩ := bnd_inv h
          obtain ⟨k16, rfl⟩ : ∃ z, z = s13 := ⟨_, rfl⟩
          try dsimp only at h
          refine hL49  fz _ _ _ _ _ _ hc15 hP hS (lv_sub hl [1, 2, 3, 0] rfl) (fun hke H locs ls hP hS hl => ?_) (fun hke H locs ls hP hS hl => ?_)
          · have hke : k16 = 0 := hke
            have hl : lv_has ls 5 [] := hl
            subst hke
            rw [if_pos rfl] at h
            refine lv_iconst (v := 5) hx hb dX12_wrongSeen_120 (by decide) ?_
            exact end_i X hr hk hP hS h dX12_wrongSeen_121
          · have hke : k16 = 1 := hke
            have hl : lv_has ls 5 [] := hl
            subst hke
            rw [if_neg (by decide)] at h
            refine lv_iconst (v := 0) hx hb dX12_wrongSeen_128 (by decide) ?_
            exact end_i X hr hk hP hS h dX12_wrongSeen_129
        · rw [if_neg c12] at h
          refine lv_iconst (v := 3) hx hb dX12_wrongSeen_45 (by decide) ?_
          exact end_i X hr hk hP hS h dX12_wrongSeen_46
      · rw [if_pos c10] at h
        refine lv_iconst (v := 2) hx hb dX12_wrongSeen_31 (by decide) ?_
        exact end_i X hr hk hP hS h dX12_wrongSeen_32
    · rw [if_pos c8] at h
      refine lv_iconst (v := 1) hx hb dX12_wrongSeen_19 (by decide) ?_
      exact end_i X hr hk hP hS h dX12_wrongSeen_20
theorem dX12_wouldShow_0 : decode cX12_wouldShow 0 = .ok (.aload_n 0, 1) := by decide +kernel
theorem dX12_wouldShow_1 : decode cX12_wouldShow 1 = .ok (.iload_n 1, 1) := by decide +kernel
theorem dX12_wouldShow_2 : decode cX12_wouldShow 2 = .ok (.iload_n 2, 1) := by decide +kernel
theorem dX12_wouldShow_3 : decode cX12_wouldShow 3 = .ok (.ishr, 1) := by decide +kernel
theorem dX12_wouldShow_4 : decode cX12_wouldShow 4 = .ok (.iconst 1, 1) := by decide +kernel
theorem dX12_wouldShow_5 : decode cX12_wouldShow 5 = .ok (.iand, 1) := by decide +kernel
theorem dX12_wouldShow_6 : decode cX12_wouldShow 6 = .ok (.aload_n 0, 1) := by decide +kernel
theorem dX12_wouldShow_7 : decode cX12_wouldShow 7 = .ok (.iload_n 2, 1) := by decide +kernel
theorem dX12_wouldShow_8 : decode cX12_wouldShow 8 = .ok (.iconst 0, 1) := by decide +kernel
theorem dX12_wouldShow_9 : decode cX12_wouldShow 9 = .ok (.invokevirtual 281, 3) := by decide +kernel
theorem dX12_wouldShow_12 : decode cX12_wouldShow 12 = .ok (.iload_n 3, 1) := by decide +kernel
theorem dX12_wouldShow_13 : decode cX12_wouldShow 13 = .ok (.aload_n 0, 1) := by decide +kernel
theorem dX12_wouldShow_14 : decode cX12_wouldShow 14 = .ok (.iload_n 2, 1) := by decide +kernel
theorem dX12_wouldShow_15 : decode cX12_wouldShow 15 = .ok (.iconst 1, 1) := by decide +kernel
theorem dX12_wouldShow_16 : decode cX12_wouldShow 16 = .ok (.invokevirtual 281, 3) := by decide +kernel
theorem dX12_wouldShow_19 : decode cX12_wouldShow 19 = .ok (.invokevirtual 382, 3) := by decide +kernel
theorem dX12_wouldShow_22 : decode cX12_wouldShow 22 = .ok (.istore 4, 2) := by decide +kernel
theorem dX12_wouldShow_24 : decode cX12_wouldShow 24 = .ok (.iload 4, 2) := by decide +kernel
theorem dX12_wouldShow_26 : decode cX12_wouldShow 26 = .ok (.iconst (-1), 1) := by decide +kernel
theorem dX12_wouldShow_27 : decode cX12_wouldShow 27 = .ok (.if_icmp .ne 12, 3) := by decide +kernel
theorem dX12_wouldShow_30 : decode cX12_wouldShow 30 = .ok (.aload_n 0, 1) := by decide +kernel
theorem dX12_wouldShow_31 : decode cX12_wouldShow 31 = .ok (.getfield 7, 3) := by decide +kernel
theorem dX12_wouldShow_34 : decode cX12_wouldShow 34 = .ok (.iconst 1, 1) := by decide +kernel
theorem dX12_wouldShow_35 : decode cX12_wouldShow 35 = .ok (.iaload, 1) := by decide +kernel
theorem dX12_wouldShow_36 : decode cX12_wouldShow 36 = .ok (.goto 5, 3) := by decide +kernel
theorem dX12_wouldShow_39 : decode cX12_wouldShow 39 = .ok (.iload 4, 2) := by decide +kernel
theorem dX12_wouldShow_41 : decode cX12_wouldShow 41 = .ok (.ireturn, 1) := by decide +kernel
set_option maxRecDepth 100000 in
set_option maxHeartbeats 8000000 in
theorem c_X12_wouldShow (l : Launch) (D : va_G) (cA : Nat → ClassId) (q aK aV : Nat → Nat) (hq : injG 20 q) {a1 : Int32} {a2 : Int32} {a3 : Int32} {M M0 : Mem} {r0 : Int32} (h : f_X12_wouldShow a1 a2 a3 M = some (r0, M0)) : Met l yX12_wouldShow (.code yX12_wouldShow cX12_wouldShow 5 (some .int) :: BW) ({ frames := 6, cells := 0, slots := 0, locals := 131 } : Room) (va_Pc [.ref (q 0), .int a1, .int a2, .int a3] (CB 20 (ceR cA q) D cA q aK aV M)) (Qi 20 (ceR cA q) D q r0 M0) 0 0 (AqG 20 q) := by
  refine gMet RX12 (by decide +kernel) rfl hq (Nat.le_of_ble_eq_true rfl) ?_
  intro p e s m below meth c ls X hr hk hP hS hl
  have hx := X.1
  have hb := X.2.1
  have hl : lv_has ls 5 [(0, .ref (q 0)), (1, .int a1), (2, .int a2), (3, .int a3)] := hl
  rw [f_X12_wouldShow] at h
  refine lv_aload_n hx hb dX12_wouldShow_0 rfl (lv_at hl 0 rfl) ?_
  refine lv_iload_n hx hb dX12_wouldShow_1 rfl (lv_at hl 1 rfl) ?_
  refine lv_iload_n hx hb dX12_wouldShow_2 rfl (lv_at hl 2 rfl) ?_
  refine lv_ishr hx hb dX12_wouldShow_3 ?_
  refine lv_iconst (v := 1) hx hb dX12_wouldShow_4 (by decide) ?_
  refine lv_iand hx hb dX12_wouldShow_5 ?_
  refine lv_aload_n hx hb dX12_wouldShow_6 rfl (lv_at hl 0 rfl) ?_
  refine lv_iload_n hx hb dX12_wouldShow_7 rfl (lv_at hl 2 rfl) ?_
  refine lv_iconst (v := 0) hx hb dX12_wouldShow_8 (by decide) ?_
  obtain ⟨r1, M2, hc3, h⟩ := bnd_inv h
  refine gV_i (As := [.int a2, .int (0 : Int32)]) X hP hS hl.1 (c_X12_personOf l D cA q aK aV hq hc3) sf_X12_personOf bw_1683 sv_X12_personOf (rcR_12 sR_0) rfl ⟨rfl, rfl⟩ ⟨Nat.le_of_ble_eq_true rfl, Nat.le_of_ble_eq_true rfl⟩ rfl rfl (Nat.le_of_ble_eq_true rfl) dX12_wouldShow_9 (fun H locs hP hS => ?_)
  refine lv_iload_n hx hb dX12_wouldShow_12 rfl (lv_at hl 3 rfl) ?_
  refine lv_aload_n hx hb dX12_wouldShow_13 rfl (lv_at hl 0 rfl) ?_
  refine lv_iload_n hx hb dX12_wouldShow_14 rfl (lv_at hl 2 rfl) ?_
  refine lv_iconst (v := 1) hx hb dX12_wouldShow_15 (by decide) ?_
  obtain ⟨r4, M5, hc6, h⟩ := bnd_inv h
  refine gV_i (As := [.int a2, .int (1 : Int32)]) X hP hS hl.1 (c_X12_personOf l D cA q aK aV hq hc6) sf_X12_personOf bw_1683 sv_X12_personOf (rcR_12 sR_0) rfl ⟨rfl, rfl⟩ ⟨Nat.le_of_ble_eq_true rfl, Nat.le_of_ble_eq_true rfl⟩ rfl rfl (Nat.le_of_ble_eq_true rfl) dX12_wouldShow_16 (fun H locs hP hS => ?_)
  obtain ⟨r7, M8, hc9, h⟩ := bnd_inv h
  refine gV_i (As := [.int ((a1 >>> (a2 &&& 31)) &&& (1 : Int32)), .int r1, .int a3, .int r4]) X hP hS hl.1 (c_X12_cueOf l D cA q aK aV hq hc9) sf_X12_cueOf bw_1898 sv_X12_cueOf (rcR_12 sR_0) rfl ⟨rfl, rfl⟩ ⟨Nat.le_of_ble_eq_true rfl, Nat.le_of_ble_eq_true rfl⟩ rfl rfl (Nat.le_of_ble_eq_true rfl) dX12_wouldShow_19 (fun H locs hP hS => ?_)
  refine lv_istore (lv' := [(4, .int r7), (0, .ref (q 0)), (1, .int a1), (2, .int a2), (3, .int a3)]) hx hb dX12_wouldShow_22 hl (by decide) rfl (fun ls hl => ?_)
  refine lv_iload hx hb dX12_wouldShow_24 (lv_at hl 0 rfl) ?_
  refine lv_iconst (v := -1) hx hb dX12_wouldShow_26 (by decide) ?_
  refine lv_icmp_ne (tgt := 39) hx hb dX12_wouldShow_27 (by decide) (fun c10 => ?_) (fun c10 => ?_)
  · rw [if_neg c10] at h
    refine lv_iload hx hb dX12_wouldShow_39 (lv_at hl 0 rfl) ?_
    exact end_i X hr hk hP hS h dX12_wouldShow_41
  · rw [if_pos c10] at h
    refine lv_aload_n hx hb dX12_wouldShow_30 rfl (lv_at hl 1 rfl) ?_
    refine gfR_12_0 X hP sR_0 bw_1323 dX12_wouldShow_31 ?_
    refine lv_iconst (v := 1) hx hb dX12_wouldShow_34 (by decide) ?_
    refine ldR_ia X hP sR_1 zR_1 (by decide) dX12_wouldShow_35 ?_
    refine topE (y := (gI M8 1 1)) rfl ?_
    refine lv_goto (tgt := 41) hx hb dX12_wouldShow_36 (by decide) ?_
    exact end_i X hr hk hP hS h dX12_wouldShow_41
theorem dX12_doesFit_0 : decode cX12_doesFit 0 = .ok (.iconst 0, 1) := by decide +kernel
theorem dX12_doesFit_1 : decode cX12_doesFit 1 = .ok (.istore 4, 2) := by decide +kernel
theorem dX12_doesFit_3 : decode cX12_doesFit 3 = .ok (.iload 4, 2) := by decide +kernel
theorem dX12_doesFit_5 : decode cX12_doesFit 5 = .ok (.iload_n 3, 1) := by decide +kernel
theorem dX12_doesFit_6 : decode cX12_doesFit 6 = .ok (.if_icmp .ge 59, 3) := by decide +kernel
theorem dX12_doesFit_9 : decode cX12_doesFit 9 = .ok (.bipush 60, 2) := by decide +kernel
theorem dX12_doesFit_11 : decode cX12_doesFit 11 = .ok (.iload_n 2, 1) := by decide +kernel
theorem dX12_doesFit_12 : decode cX12_doesFit 12 = .ok (.imul, 1) := by decide +kernel
theorem dX12_doesFit_13 : decode cX12_doesFit 13 = .ok (.iconst 3, 1) := by decide +kernel
theorem dX12_doesFit_14 : decode cX12_doesFit 14 = .ok (.iload 4, 2) := by decide +kernel
theorem dX12_doesFit_16 : decode cX12_doesFit 16 = .ok (.imul, 1) := by decide +kernel
theorem dX12_doesFit_17 : decode cX12_doesFit 17 = .ok (.iadd, 1) := by decide +kernel
theorem dX12_doesFit_18 : decode cX12_doesFit 18 = .ok (.istore 5, 2) := by decide +kernel
theorem dX12_doesFit_20 : decode cX12_doesFit 20 = .ok (.aload_n 0, 1) := by decide +kernel
theorem dX12_doesFit_21 : decode cX12_doesFit 21 = .ok (.iload_n 1, 1) := by decide +kernel
theorem dX12_doesFit_22 : decode cX12_doesFit 22 = .ok (.aload_n 0, 1) := by decide +kernel
theorem dX12_doesFit_23 : decode cX12_doesFit 23 = .ok (.getfield 27, 3) := by decide +kernel
theorem dX12_doesFit_26 : decode cX12_doesFit 26 = .ok (.iload 5, 2) := by decide +kernel
theorem dX12_doesFit_28 : decode cX12_doesFit 28 = .ok (.laload, 1) := by decide +kernel
theorem dX12_doesFit_29 : decode cX12_doesFit 29 = .ok (.l2i, 1) := by decide +kernel
theorem dX12_doesFit_30 : decode cX12_doesFit 30 = .ok (.aload_n 0, 1) := by decide +kernel
theorem dX12_doesFit_31 : decode cX12_doesFit 31 = .ok (.getfield 27, 3) := by decide +kernel
theorem dX12_doesFit_34 : decode cX12_doesFit 34 = .ok (.iload 5, 2) := by decide +kernel
theorem dX12_doesFit_36 : decode cX12_doesFit 36 = .ok (.iconst 1, 1) := by decide +kernel
theorem dX12_doesFit_37 : decode cX12_doesFit 37 = .ok (.iadd, 1) := by decide +kernel
theorem dX12_doesFit_38 : decode cX12_doesFit 38 = .ok (.laload, 1) := by decide +kernel
theorem dX12_doesFit_39 : decode cX12_doesFit 39 = .ok (.l2i, 1) := by decide +kernel
theorem dX12_doesFit_40 : decode cX12_doesFit 40 = .ok (.invokevirtual 385, 3) := by decide +kernel
theorem dX12_doesFit_43 : decode cX12_doesFit 43 = .ok (.i2l, 1) := by decide +kernel
theorem dX12_doesFit_44 : decode cX12_doesFit 44 = .ok (.aload_n 0, 1) := by decide +kernel
theorem dX12_doesFit_45 : decode cX12_doesFit 45 = .ok (.getfield 27, 3) := by decide +kernel
theorem dX12_doesFit_48 : decode cX12_doesFit 48 = .ok (.iload 5, 2) := by decide +kernel
theorem dX12_doesFit_50 : decode cX12_doesFit 50 = .ok (.iconst 2, 1) := by decide +kernel
theorem dX12_doesFit_51 : decode cX12_doesFit 51 = .ok (.iadd, 1) := by decide +kernel
theorem dX12_doesFit_52 : decode cX12_doesFit 52 = .ok (.laload, 1) := by decide +kernel
theorem dX12_doesFit_53 : decode cX12_doesFit 53 = .ok (.lcmp, 1) := by decide +kernel
theorem dX12_doesFit_54 : decode cX12_doesFit 54 = .ok (.ifCond .eq 5, 3) := by decide +kernel
theorem dX12_doesFit_57 : decode cX12_doesFit 57 = .ok (.iconst 0, 1) := by decide +kernel
theorem dX12_doesFit_58 : decode cX12_doesFit 58 = .ok (.ireturn, 1) := by decide +kernel
theorem dX12_doesFit_59 : decode cX12_doesFit 59 = .ok (.iinc 4 1, 3) := by decide +kernel
theorem dX12_doesFit_62 : decode cX12_doesFit 62 = .ok (.goto (-59), 3) := by decide +kernel
theorem dX12_doesFit_65 : decode cX12_doesFit 65 = .ok (.iconst 1, 1) := by decide +kernel
theorem dX12_doesFit_66 : decode cX12_doesFit 66 = .ok (.ireturn, 1) := by decide +kernel
set_option maxRecDepth 100000 in
set_option maxHeartbeats 8000000 in
theorem c_X12_doesFit (l : Launch) (D : va_G) (cA : Nat → ClassId) (q aK aV : Nat → Nat) (hq : injG 20 q) {a1 : Int32} {a2 : Int32} {a3 : Int32} {M M0 : Mem} {r0 : Int32} (h : f_X12_doesFit a1 a2 a3 M = some (r0, M0)) : Met l yX12_doesFit (.code yX12_doesFit cX12_doesFit 6 (some .boolean) :: BW) ({ frames := 7, cells := 0, slots := 0, locals := 155 } : Room) (va_Pc [.ref (q 0), .int a1, .int a2, .int a3] (CB 20 (ceR cA q) D cA q aK aV M)) (Qi 20 (ceR cA q) D q r0 M0) 0 0 (AqG 20 q) := by
  refine gMet RX12 (by decide +kernel) rfl hq (Nat.le_of_ble_eq_true rfl) ?_
  intro p e s m below meth c ls X hr hk hP hS hl
  have hx := X.1
  have hb := X.2.1
  have hl : lv_has ls 6 [(0, .ref (q 0)), (1, .int a1), (2, .int a2), (3, .int a3)] := hl
  rw [f_X12_doesFit] at h
  have hL3 : ∀ (fu : Nat) (b4 : Int32) (M : Mem) (res : (Nat) × Mem) (H : Heap) (locs : List Loc) (ls : Array Slot), f_X12_doesFit_L3 a1 a2 a3 fu b4 M = some res → va_P D vwCl (wsG 20 (ceR cA q) q M) H → va_S (AqG 20 q) s.heap H locs → lv_has ls 6 [(0, .ref (q 0)), (1, .int a1), (2, .int a2), (3, .int a3), (4, .int b4)] → (res.1 = 0 → ∀ (H : Heap) (locs : List Loc) (ls : Array Slot), va_P D vwCl (wsG 20 (ceR cA q) q res.2) H → va_S (AqG 20 q) s.heap H locs → lv_has ls 6 [] → W p l e ({ frames := 7, cells := 0, slots := 0, locals := 155 } : Room) s m [.ref (q 0), .int a1, .int a2, .int a3].toArray below meth c H locs 0 0 (MQ below (Qi 20 (ceR cA q) D q r0 M0) [.ref (q 0), .int a1, .int a2, .int a3].toArray s 0 0 (AqG 20 q)) (F0 m 57 ls [])) → (res.1 = 1 → ∀ (H : Heap) (locs : List Loc) (ls : Array Slot), va_P D vwCl (wsG 20 (ceR cA q) q res.2) H → va_S (AqG 20 q) s.heap H locs → lv_has ls 6 [] → W p l e ({ frames := 7, cells := 0, slots := 0, locals := 155 } : Room) s m [.ref (q 0), .int a1, .int a2, .int a3].toArray below meth c H locs 0 0 (MQ below (Qi 20 (ceR cA q) D q r0 M0) [.ref (q 0), .int a1, .int a2, .int a3].toArray s 0 0 (AqG 20 q)) (F0 m 65 ls [])) → W p l e ({ frames := 7, cells := 0, slots := 0, locals := 155 } : Room) s m [.ref (q 0), .int a1, .int a2, .int a3].toArray below meth c H locs 0 0 (MQ below (Qi 20 (ceR cA q) D q r0 M0) [.ref (q 0), .int a1, .int a2, .int a3].toArray s 0 0 (AqG 20 q)) (F0 m 3 ls []) := by
    intro fu
    induction fu with
    | zero => intro b4 M res H locs ls h; exact absurd h (by simp [f_X12_doesFit_L3])
    | succ fu ih =>
      intro b4 M res H locs ls h hP hS hl K3_0 K3_1
      rw [f_X12_doesFit_L3] at h
      refine lv_iload hx hb dX12_doesFit_3 (lv_at hl 4 rfl) ?_
      refine lv_iload_n hx hb dX12_doesFit_5 rfl (lv_at hl 3 rfl) ?_
      refine lv_icmp_ge (tgt := 65) hx hb dX12_doesFit_6 (by decide) (fun c5 => ?_) (fun c5 => ?_)
      · rw [if_pos c5] at h
        cases h
        exact K3_1 rfl _ _ _ hP hS (lv_sub hl [] rfl)
      · rw [if_neg c5] at h
        refine lv_bipush (v := 60) hx hb dX12_doesFit_9 (by decide) ?_
        refine lv_iload_n hx hb dX12_doesFit_11 rfl (lv_at hl 2 rfl) ?_
        refine lv_imul hx hb dX12_doesFit_12 ?_
        refine lv_iconst (v := 3) hx hb dX12_doesFit_13 (by decide) ?_
        refine lv_iload hx hb dX12_doesFit_14 (lv_at hl 4 rfl) ?_
        refine lv_imul hx hb dX12_doesFit_16 ?_
        refine lv_iadd hx hb dX12_doesFit_17 ?_
        obtain ⟨y6, ey6, h⟩ := lt_inv h
        refine topE ey6 ?_
        refine lv_istore (lv' := [(5, .int y6), (0, .ref (q 0)), (1, .int a1), (2, .int a2), (3, .int a3), (4, .int b4)]) hx hb dX12_doesFit_18 hl (by decide) rfl (fun ls hl => ?_)
        refine lv_aload_n hx hb dX12_doesFit_20 rfl (lv_at hl 1 rfl) ?_
        refine lv_iload_n hx hb dX12_doesFit_21 rfl (lv_at hl 2 rfl) ?_
        refine lv_aload_n hx hb dX12_doesFit_22 rfl (lv_at hl 1 rfl) ?_
        refine gfR_12_7 X hP sR_0 bw_1330 dX12_doesFit_23 ?_
        refine lv_iload hx hb dX12_doesFit_26 (lv_at hl 0 rfl) ?_
        obtain ⟨g7, h⟩ := gd_inv h
        refine ldR_la X hP sR_5 zR_5 g7 dX12_doesFit_28 ?_
        refine lv_l2i hx hb dX12_doesFit_29 rfl ?_
        refine lv_aload_n hx hb dX12_doesFit_30 rfl (lv_at hl 1 rfl) ?_
        refine gfR_12_7 X hP sR_0 bw_1330 dX12_doesFit_31 ?_
        refine lv_iload hx hb dX12_doesFit_34 (lv_at hl 0 rfl) ?_
        refine lv_iconst (v := 1) hx hb dX12_doesFit_36 (by decide) ?_
        refine lv_iadd hx hb dX12_doesFit_37 ?_
        obtain ⟨g8, h⟩ := gd_inv h
        refine ldR_la X hP sR_5 zR_5 g8 dX12_doesFit_38 ?_
        refine lv_l2i hx hb dX12_doesFit_39 rfl ?_
        obtain ⟨r9, M10, hc11, h⟩ := bnd_inv h
        refine gV_i (As := [.int a1, .int (((gL M 5 y6.toNatClampNeg)).toInt32), .int (((gL M 5 ((y6 + (1 : Int32))).toNatClampNeg)).toInt32)]) X hP hS hl.1 (c_X12_wouldShow l D cA q aK aV hq hc11) sf_X12_wouldShow bw_1894 sv_X12_wouldShow (rcR_12 sR_0) rfl ⟨rfl, rfl⟩ ⟨Nat.le_of_ble_eq_true rfl, Nat.le_of_ble_eq_true rfl⟩ rfl rfl (Nat.le_of_ble_eq_true rfl) dX12_doesFit_40 (fun H locs hP hS => ?_)
        refine lv_i2l hx hb dX12_doesFit_43 rfl ?_
        refine lv_aload_n hx hb dX12_doesFit_44 rfl (lv_at hl 1 rfl) ?_
        refine gfR_12_7 X hP sR_0 bw_1330 dX12_doesFit_45 ?_
        refine lv_iload hx hb dX12_doesFit_48 (lv_at hl 0 rfl) ?_
        refine lv_iconst (v := 2) hx hb dX12_doesFit_50 (by decide) ?_
        refine lv_iadd hx hb dX12_doesFit_51 ?_
        obtain ⟨g12, h⟩ := gd_inv h
        refine ldR_la X hP sR_5 zR_5 g12 dX12_doesFit_52 ?_
        refine W.lcmp hx hb dX12_doesFit_53 ?_
        refine lv_if_eq (tgt := 59) hx hb dX12_doesFit_54 (by decide) (fun c13 => ?_) (fun c13 => ?_)
        · rw [if_pos c13] at h
          obtain ⟨y14, ey14, h⟩ := lt_inv h
          refine lv_iinc (v := y14) (lv' := [(4, .int y14), (5, .int y6), (0, .ref (q 0)), (1, .int a1), (2, .int a2), (3, .int a3)]) hx hb dX12_doesFit_59 hl (k := 5) rfl (by rw [ey14]; rfl) (by decide) rfl (fun ls hl => ?_)
          refine lv_goto (tgt := 3) hx hb dX12_doesFit_62 (by decide) ?_
          exact ih _ _ res _ _ _ h hP hS (lv_sub hl [2, 3, 4, 5, 0] rfl) K3_0 K3_1
        · rw [if_neg c13] at h
          cases h
          exact K3_0 rfl _ _ _ hP hS (lv_sub hl [] rfl)
  refine lv_iconst (v := 0) hx hb dX12_doesFit_0 (by decide) ?_
  refine lv_istore (lv' := [(4, .int (0 : Int32)), (0, .ref (q 0)), (1, .int a1), (2, .int a2), (3, .int a3)]) hx hb dX12_doesFit_1 hl (by decide) rfl (fun ls hl => ?_)
  obtain ⟨s1, M2, hc3, h⟩ := bnd_inv h
  obtain ⟨k4, rfl⟩ : ∃ z, z = s1 := ⟨_, rfl⟩
  try dsimp only at h
  refine hL3  fz _ _ _ _ _ _ hc3 hP hS (lv_sub hl [1, 2, 3, 4, 0] rfl) (fun hke H locs ls hP hS hl => ?_) (fun hke H locs ls hP hS hl => ?_)
  · have hke : k4 = 0 := hke
    have hl : lv_has ls 6 [] := hl
    subst hke
    rw [if_pos rfl] at h
    refine lv_iconst (v := 0) hx hb dX12_doesFit_57 (by decide) ?_
    exact end_z X hr hk hP hS (Or.inl rfl) h dX12_doesFit_58
  · have hke : k4 = 1 := hke
    have hl : lv_has ls 6 [] := hl
    subst hke
    rw [if_neg (by decide)] at h
    refine lv_iconst (v := 1) hx hb dX12_doesFit_65 (by decide) ?_
    exact end_z X hr hk hP hS (Or.inr rfl) h dX12_doesFit_66
theorem dX12_laysFits_0 : decode cX12_laysFits 0 = .ok (.aload_n 0, 1) := by decide +kernel
theorem dX12_laysFits_1 : decode cX12_laysFits 1 = .ok (.iconst 0, 1) := by decide +kernel
theorem dX12_laysFits_2 : decode cX12_laysFits 2 = .ok (.putfield 389, 3) := by decide +kernel
theorem dX12_laysFits_5 : decode cX12_laysFits 5 = .ok (.iconst 0, 1) := by decide +kernel
theorem dX12_laysFits_6 : decode cX12_laysFits 6 = .ok (.istore_n 3, 1) := by decide +kernel
theorem dX12_laysFits_7 : decode cX12_laysFits 7 = .ok (.iload_n 3, 1) := by decide +kernel
theorem dX12_laysFits_8 : decode cX12_laysFits 8 = .ok (.iconst 1, 1) := by decide +kernel
theorem dX12_laysFits_9 : decode cX12_laysFits 9 = .ok (.aload_n 0, 1) := by decide +kernel
theorem dX12_laysFits_10 : decode cX12_laysFits 10 = .ok (.getfield 7, 3) := by decide +kernel
theorem dX12_laysFits_13 : decode cX12_laysFits 13 = .ok (.iconst 3, 1) := by decide +kernel
theorem dX12_laysFits_14 : decode cX12_laysFits 14 = .ok (.iaload, 1) := by decide +kernel
theorem dX12_laysFits_15 : decode cX12_laysFits 15 = .ok (.ishl, 1) := by decide +kernel
theorem dX12_laysFits_16 : decode cX12_laysFits 16 = .ok (.if_icmp .ge 45, 3) := by decide +kernel
theorem dX12_laysFits_19 : decode cX12_laysFits 19 = .ok (.aload_n 0, 1) := by decide +kernel
theorem dX12_laysFits_20 : decode cX12_laysFits 20 = .ok (.getfield 47, 3) := by decide +kernel
theorem dX12_laysFits_23 : decode cX12_laysFits 23 = .ok (.iload_n 3, 1) := by decide +kernel
theorem dX12_laysFits_24 : decode cX12_laysFits 24 = .ok (.aload_n 0, 1) := by decide +kernel
theorem dX12_laysFits_25 : decode cX12_laysFits 25 = .ok (.iload_n 3, 1) := by decide +kernel
theorem dX12_laysFits_26 : decode cX12_laysFits 26 = .ok (.iload_n 1, 1) := by decide +kernel
theorem dX12_laysFits_27 : decode cX12_laysFits 27 = .ok (.iload_n 2, 1) := by decide +kernel
theorem dX12_laysFits_28 : decode cX12_laysFits 28 = .ok (.invokevirtual 392, 3) := by decide +kernel
theorem dX12_laysFits_31 : decode cX12_laysFits 31 = .ok (.bastore, 1) := by decide +kernel
theorem dX12_laysFits_32 : decode cX12_laysFits 32 = .ok (.aload_n 0, 1) := by decide +kernel
theorem dX12_laysFits_33 : decode cX12_laysFits 33 = .ok (.dup, 1) := by decide +kernel
theorem dX12_laysFits_34 : decode cX12_laysFits 34 = .ok (.getfield 389, 3) := by decide +kernel
theorem dX12_laysFits_37 : decode cX12_laysFits 37 = .ok (.aload_n 0, 1) := by decide +kernel
theorem dX12_laysFits_38 : decode cX12_laysFits 38 = .ok (.getfield 47, 3) := by decide +kernel
theorem dX12_laysFits_41 : decode cX12_laysFits 41 = .ok (.iload_n 3, 1) := by decide +kernel
theorem dX12_laysFits_42 : decode cX12_laysFits 42 = .ok (.baload, 1) := by decide +kernel
theorem dX12_laysFits_43 : decode cX12_laysFits 43 = .ok (.ifCond .eq 7, 3) := by decide +kernel
theorem dX12_laysFits_46 : decode cX12_laysFits 46 = .ok (.iconst 1, 1) := by decide +kernel
theorem dX12_laysFits_47 : decode cX12_laysFits 47 = .ok (.goto 4, 3) := by decide +kernel
theorem dX12_laysFits_50 : decode cX12_laysFits 50 = .ok (.iconst 0, 1) := by decide +kernel
theorem dX12_laysFits_51 : decode cX12_laysFits 51 = .ok (.iadd, 1) := by decide +kernel
theorem dX12_laysFits_52 : decode cX12_laysFits 52 = .ok (.putfield 389, 3) := by decide +kernel
theorem dX12_laysFits_55 : decode cX12_laysFits 55 = .ok (.iinc 3 1, 3) := by decide +kernel
theorem dX12_laysFits_58 : decode cX12_laysFits 58 = .ok (.goto (-51), 3) := by decide +kernel
theorem dX12_laysFits_61 : decode cX12_laysFits 61 = .ok (.return_, 1) := by decide +kernel
set_option maxRecDepth 100000 in
set_option maxHeartbeats 8000000 in
theorem c_X12_laysFits (l : Launch) (D : va_G) (cA : Nat → ClassId) (q aK aV : Nat → Nat) (hq : injG 20 q) {a1 : Int32} {a2 : Int32} {M M0 : Mem} (h : f_X12_laysFits a1 a2 M = some ((), M0)) : Met l yX12_laysFits (.code yX12_laysFits cX12_laysFits 4 none :: BW) ({ frames := 8, cells := 0, slots := 0, locals := 180 } : Room) (va_Pc [.ref (q 0), .int a1, .int a2] (CB 20 (ceR cA q) D cA q aK aV M)) (Qv 20 (ceR cA q) D q M0) 0 0 (AqG 20 q) := by
  refine gMet RX12 (by decide +kernel) rfl hq (Nat.le_of_ble_eq_true rfl) ?_
  intro p e s m below meth c ls X hr hk hP hS hl
  have hx := X.1
  have hb := X.2.1
  have hl : lv_has ls 4 [(0, .ref (q 0)), (1, .int a1), (2, .int a2)] := hl
  rw [f_X12_laysFits] at h
  have hL7 : ∀ (fu : Nat) (b3 : Int32) (M : Mem) (res : (Unit) × Mem) (H : Heap) (locs : List Loc) (ls : Array Slot), f_X12_laysFits_L7 a1 a2 fu b3 M = some res → va_P D vwCl (wsG 20 (ceR cA q) q M) H → va_S (AqG 20 q) s.heap H locs → lv_has ls 4 [(0, .ref (q 0)), (1, .int a1), (2, .int a2), (3, .int b3)] → (∀ (H : Heap) (locs : List Loc) (ls : Array Slot), va_P D vwCl (wsG 20 (ceR cA q) q res.2) H → va_S (AqG 20 q) s.heap H locs → lv_has ls 4 [] → W p l e ({ frames := 8, cells := 0, slots := 0, locals := 180 } : Room) s m [.ref (q 0), .int a1, .int a2].toArray below meth c H locs 0 0 (MQ below (Qv 20 (ceR cA q) D q M0) [.ref (q 0), .int a1, .int a2].toArray s 0 0 (AqG 20 q)) (F0 m 61 ls [])) → W p l e ({ frames := 8, cells := 0, slots := 0, locals := 180 } : Room) s m [.ref (q 0), .int a1, .int a2].toArray below meth c H locs 0 0 (MQ below (Qv 20 (ceR cA q) D q M0) [.ref (q 0), .int a1, .int a2].toArray s 0 0 (AqG 20 q)) (F0 m 7 ls []) := by
    intro fu
    induction fu with
    | zero => intro b3 M res H locs ls h; exact absurd h (by simp [f_X12_laysFits_L7])
    | succ fu ih =>
      intro b3 M res H locs ls h hP hS hl K7_0
      rw [f_X12_laysFits_L7] at h
      refine lv_iload_n hx hb dX12_laysFits_7 rfl (lv_at hl 3 rfl) ?_
      refine lv_iconst (v := 1) hx hb dX12_laysFits_8 (by decide) ?_
      refine lv_aload_n hx hb dX12_laysFits_9 rfl (lv_at hl 0 rfl) ?_
      refine gfR_12_0 X hP sR_0 bw_1323 dX12_laysFits_10 ?_
      refine lv_iconst (v := 3) hx hb dX12_laysFits_13 (by decide) ?_
      refine ldR_ia X hP sR_1 zR_1 (by decide) dX12_laysFits_14 ?_
      refine topE (y := (gI M 1 3)) rfl ?_
      refine lv_ishl hx hb dX12_laysFits_15 ?_
      refine lv_icmp_ge (tgt := 61) hx hb dX12_laysFits_16 (by decide) (fun c5 => ?_) (fun c5 => ?_)
      · rw [if_pos c5] at h
        cases h
        exact K7_0 _ _ _ hP hS (lv_sub hl [] rfl)
      · rw [if_neg c5] at h
        refine lv_aload_n hx hb dX12_laysFits_19 rfl (lv_at hl 0 rfl) ?_
        refine gfR_12_23 X hP sR_0 bw_1346 dX12_laysFits_20 ?_
        refine lv_iload_n hx hb dX12_laysFits_23 rfl (lv_at hl 3 rfl) ?_
        refine lv_aload_n hx hb dX12_laysFits_24 rfl (lv_at hl 0 rfl) ?_
        refine lv_iload_n hx hb dX12_laysFits_25 rfl (lv_at hl 3 rfl) ?_
        refine lv_iload_n hx hb dX12_laysFits_26 rfl (lv_at hl 1 rfl) ?_
        refine lv_iload_n hx hb dX12_laysFits_27 rfl (lv_at hl 2 rfl) ?_
        obtain ⟨r6, M7, hc8, h⟩ := bnd_inv h
        refine gV_i (As := [.int b3, .int a1, .int a2]) X hP hS hl.1 (c_X12_doesFit l D cA q aK aV hq hc8) sf_X12_doesFit bw_1890 sv_X12_doesFit (rcR_12 sR_0) rfl ⟨rfl, rfl⟩ ⟨Nat.le_of_ble_eq_true rfl, Nat.le_of_ble_eq_true rfl⟩ rfl rfl (Nat.le_of_ble_eq_true rfl) dX12_laysFits_28 (fun H locs hP hS => ?_)
        obtain ⟨g9, h⟩ := gd_inv h
        obtain ⟨M10, eM10, h⟩ := lt_inv h
        refine stR_za X hP hS sR_9 zR_9 g9 eM10 dX12_laysFits_31 (fun H locs hP hS => ?_)
        refine lv_aload_n hx hb dX12_laysFits_32 rfl (lv_at hl 0 rfl) ?_
        refine lv_dup hx hb dX12_laysFits_33 rfl ?_
        refine gfR_12_24 X hP sR_0 bw_1347 dX12_laysFits_34 ?_
        refine lv_aload_n hx hb dX12_laysFits_37 rfl (lv_at hl 0 rfl) ?_
        refine gfR_12_23 X hP sR_0 bw_1346 dX12_laysFits_38 ?_
        refine lv_iload_n hx hb dX12_laysFits_41 rfl (lv_at hl 3 rfl) ?_
        obtain ⟨g11, h⟩ := gd_inv h
        refine ldR_za X hP sR_9 zR_9 g11 dX12_laysFits_42 ?_
        refine lv_if_eq (tgt := 50) hx hb dX12_laysFits_43 (by decide) (fun c12 => ?_) (fun c12 => ?_)
        · rw [if_pos c12] at h
          refine lv_iconst (v := 0) hx hb dX12_laysFits_50 (by decide) ?_
          refine lv_iadd hx hb dX12_laysFits_51 ?_
          obtain ⟨M13, eM13, h⟩ := lt_inv h
          refine pfR_12_24 X hP hS sR_0 bw_1347 eM13 dX12_laysFits_52 (fun H locs hP hS => ?_)
          obtain ⟨y14, ey14, h⟩ := lt_inv h
          refine lv_iinc (v := y14) (lv' := [(3, .int y14), (0, .ref (q 0)), (1, .int a1), (2, .int a2)]) hx hb dX12_laysFits_55 hl (k := 3) rfl (by rw [ey14]; rfl) (by decide) rfl (fun ls hl => ?_)
          refine lv_goto (tgt := 7) hx hb dX12_laysFits_58 (by decide) ?_
          exact ih _ _ res _ _ _ h hP hS (lv_sub hl [1, 2, 3, 0] rfl) K7_0
        · rw [if_neg c12] at h
          refine lv_iconst (v := 1) hx hb dX12_laysFits_46 (by decide) ?_
          refine lv_goto (tgt := 51) hx hb dX12_laysFits_47 (by decide) ?_
          refine lv_iadd hx hb dX12_laysFits_51 ?_
          obtain ⟨M15, eM15, h⟩ := lt_inv h
          refine pfR_12_24 X hP hS sR_0 bw_1347 eM15 dX12_laysFits_52 (fun H locs hP hS => ?_)
          obtain ⟨y16, ey16, h⟩ := lt_inv h
          refine lv_iinc (v := y16) (lv' := [(3, .int y16), (0, .ref (q 0)), (1, .int a1), (2, .int a2)]) hx hb dX12_laysFits_55 hl (k := 3) rfl (by rw [ey16]; rfl) (by decide) rfl (fun ls hl => ?_)
          refine lv_goto (tgt := 7) hx hb dX12_laysFits_58 (by decide) ?_
          exact ih _ _ res _ _ _ h hP hS (lv_sub hl [1, 2, 3, 0] rfl) K7_0
  refine lv_aload_n hx hb dX12_laysFits_0 rfl (lv_at hl 0 rfl) ?_
  refine lv_iconst (v := 0) hx hb dX12_laysFits_1 (by decide) ?_
  obtain ⟨M1, eM1, h⟩ := lt_inv h
  refine pfR_12_24 X hP hS sR_0 bw_1347 eM1 dX12_laysFits_2 (fun H locs hP hS => ?_)
  refine lv_iconst (v := 0) hx hb dX12_laysFits_5 (by decide) ?_
  refine lv_istore_n (lv' := [(3, .int (0 : Int32)), (0, .ref (q 0)), (1, .int a1), (2, .int a2)]) hx hb dX12_laysFits_6 rfl hl (by decide) rfl (fun ls hl => ?_)
  obtain ⟨s2, M3, hc4, h⟩ := bnd_inv h
  try dsimp only at h
  refine hL7  fz _ _ _ _ _ _ hc4 hP hS (lv_sub hl [1, 2, 3, 0] rfl) (fun H locs ls hP hS hl => ?_)
  have hl : lv_has ls 4 [] := hl
  exact end_v X hr hk hP hS h dX12_laysFits_61
theorem dX12_guiltyIn_0 : decode cX12_guiltyIn 0 = .ok (.iconst 0, 1) := by decide +kernel
theorem dX12_guiltyIn_1 : decode cX12_guiltyIn 1 = .ok (.istore_n 2, 1) := by decide +kernel
theorem dX12_guiltyIn_2 : decode cX12_guiltyIn 2 = .ok (.iconst 0, 1) := by decide +kernel
theorem dX12_guiltyIn_3 : decode cX12_guiltyIn 3 = .ok (.istore_n 3, 1) := by decide +kernel
theorem dX12_guiltyIn_4 : decode cX12_guiltyIn 4 = .ok (.iload_n 3, 1) := by decide +kernel
theorem dX12_guiltyIn_5 : decode cX12_guiltyIn 5 = .ok (.iconst 1, 1) := by decide +kernel
theorem dX12_guiltyIn_6 : decode cX12_guiltyIn 6 = .ok (.aload_n 0, 1) := by decide +kernel
theorem dX12_guiltyIn_7 : decode cX12_guiltyIn 7 = .ok (.getfield 7, 3) := by decide +kernel
theorem dX12_guiltyIn_10 : decode cX12_guiltyIn 10 = .ok (.iconst 3, 1) := by decide +kernel
theorem dX12_guiltyIn_11 : decode cX12_guiltyIn 11 = .ok (.iaload, 1) := by decide +kernel
theorem dX12_guiltyIn_12 : decode cX12_guiltyIn 12 = .ok (.ishl, 1) := by decide +kernel
theorem dX12_guiltyIn_13 : decode cX12_guiltyIn 13 = .ok (.if_icmp .ge 35, 3) := by decide +kernel
theorem dX12_guiltyIn_16 : decode cX12_guiltyIn 16 = .ok (.iload_n 2, 1) := by decide +kernel
theorem dX12_guiltyIn_17 : decode cX12_guiltyIn 17 = .ok (.aload_n 0, 1) := by decide +kernel
theorem dX12_guiltyIn_18 : decode cX12_guiltyIn 18 = .ok (.getfield 47, 3) := by decide +kernel
theorem dX12_guiltyIn_21 : decode cX12_guiltyIn 21 = .ok (.iload_n 3, 1) := by decide +kernel
theorem dX12_guiltyIn_22 : decode cX12_guiltyIn 22 = .ok (.baload, 1) := by decide +kernel
theorem dX12_guiltyIn_23 : decode cX12_guiltyIn 23 = .ok (.ifCond .eq 16, 3) := by decide +kernel
theorem dX12_guiltyIn_26 : decode cX12_guiltyIn 26 = .ok (.aload_n 0, 1) := by decide +kernel
theorem dX12_guiltyIn_27 : decode cX12_guiltyIn 27 = .ok (.iload_n 3, 1) := by decide +kernel
theorem dX12_guiltyIn_28 : decode cX12_guiltyIn 28 = .ok (.iload_n 1, 1) := by decide +kernel
theorem dX12_guiltyIn_29 : decode cX12_guiltyIn 29 = .ok (.invokevirtual 315, 3) := by decide +kernel
theorem dX12_guiltyIn_32 : decode cX12_guiltyIn 32 = .ok (.ifCond .eq 7, 3) := by decide +kernel
theorem dX12_guiltyIn_35 : decode cX12_guiltyIn 35 = .ok (.iconst 1, 1) := by decide +kernel
theorem dX12_guiltyIn_36 : decode cX12_guiltyIn 36 = .ok (.goto 4, 3) := by decide +kernel
theorem dX12_guiltyIn_39 : decode cX12_guiltyIn 39 = .ok (.iconst 0, 1) := by decide +kernel
theorem dX12_guiltyIn_40 : decode cX12_guiltyIn 40 = .ok (.iadd, 1) := by decide +kernel
theorem dX12_guiltyIn_41 : decode cX12_guiltyIn 41 = .ok (.istore_n 2, 1) := by decide +kernel
theorem dX12_guiltyIn_42 : decode cX12_guiltyIn 42 = .ok (.iinc 3 1, 3) := by decide +kernel
theorem dX12_guiltyIn_45 : decode cX12_guiltyIn 45 = .ok (.goto (-41), 3) := by decide +kernel
theorem dX12_guiltyIn_48 : decode cX12_guiltyIn 48 = .ok (.iload_n 2, 1) := by decide +kernel
theorem dX12_guiltyIn_49 : decode cX12_guiltyIn 49 = .ok (.ireturn, 1) := by decide +kernel
set_option maxRecDepth 100000 in
set_option maxHeartbeats 8000000 in
theorem c_X12_guiltyIn (l : Launch) (D : va_G) (cA : Nat → ClassId) (q aK aV : Nat → Nat) (hq : injG 20 q) {a1 : Int32} {M M0 : Mem} {r0 : Int32} (h : f_X12_guiltyIn a1 M = some (r0, M0)) : Met l yX12_guiltyIn (.code yX12_guiltyIn cX12_guiltyIn 4 (some .int) :: BW) ({ frames := 2, cells := 0, slots := 0, locals := 36 } : Room) (va_Pc [.ref (q 0), .int a1] (CB 20 (ceR cA q) D cA q aK aV M)) (Qi 20 (ceR cA q) D q r0 M0) 0 0 (AqG 20 q) := by
  refine gMet RX12 (by decide +kernel) rfl hq (Nat.le_of_ble_eq_true rfl) ?_
  intro p e s m below meth c ls X hr hk hP hS hl
  have hx := X.1
  have hb := X.2.1
  have hl : lv_has ls 4 [(0, .ref (q 0)), (1, .int a1)] := hl
  rw [f_X12_guiltyIn] at h
  have hL4 : ∀ (fu : Nat) (b2 : Int32) (b3 : Int32) (M : Mem) (res : (Int32) × Mem) (H : Heap) (locs : List Loc) (ls : Array Slot), f_X12_guiltyIn_L4 a1 fu b2 b3 M = some res → va_P D vwCl (wsG 20 (ceR cA q) q M) H → va_S (AqG 20 q) s.heap H locs → lv_has ls 4 [(0, .ref (q 0)), (1, .int a1), (2, .int b2), (3, .int b3)] → (∀ (H : Heap) (locs : List Loc) (ls : Array Slot), va_P D vwCl (wsG 20 (ceR cA q) q res.2) H → va_S (AqG 20 q) s.heap H locs → lv_has ls 4 [(2, .int (res.1))] → W p l e ({ frames := 2, cells := 0, slots := 0, locals := 36 } : Room) s m [.ref (q 0), .int a1].toArray below meth c H locs 0 0 (MQ below (Qi 20 (ceR cA q) D q r0 M0) [.ref (q 0), .int a1].toArray s 0 0 (AqG 20 q)) (F0 m 48 ls [])) → W p l e ({ frames := 2, cells := 0, slots := 0, locals := 36 } : Room) s m [.ref (q 0), .int a1].toArray below meth c H locs 0 0 (MQ below (Qi 20 (ceR cA q) D q r0 M0) [.ref (q 0), .int a1].toArray s 0 0 (AqG 20 q)) (F0 m 4 ls []) := by
    intro fu
    induction fu with
    | zero => intro b2 b3 M res H locs ls h; exact absurd h (by simp [f_X12_guiltyIn_L4])
    | succ fu ih =>
      intro b2 b3 M res H locs ls h hP hS hl K4_0
      rw [f_X12_guiltyIn_L4] at h
      refine lv_iload_n hx hb dX12_guiltyIn_4 rfl (lv_at hl 3 rfl) ?_
      refine lv_iconst (v := 1) hx hb dX12_guiltyIn_5 (by decide) ?_
      refine lv_aload_n hx hb dX12_guiltyIn_6 rfl (lv_at hl 0 rfl) ?_
      refine gfR_12_0 X hP sR_0 bw_1323 dX12_guiltyIn_7 ?_
      refine lv_iconst (v := 3) hx hb dX12_guiltyIn_10 (by decide) ?_
      refine ldR_ia X hP sR_1 zR_1 (by decide) dX12_guiltyIn_11 ?_
      refine topE (y := (gI M 1 3)) rfl ?_
      refine lv_ishl hx hb dX12_guiltyIn_12 ?_
      refine lv_icmp_ge (tgt := 48) hx hb dX12_guiltyIn_13 (by decide) (fun c5 => ?_) (fun c5 => ?_)
      · rw [if_pos c5] at h
        cases h
        exact K4_0 _ _ _ hP hS (lv_sub hl [2] rfl)
      · rw [if_neg c5] at h
        refine lv_iload_n hx hb dX12_guiltyIn_16 rfl (lv_at hl 2 rfl) ?_
        refine lv_aload_n hx hb dX12_guiltyIn_17 rfl (lv_at hl 0 rfl) ?_
        refine gfR_12_23 X hP sR_0 bw_1346 dX12_guiltyIn_18 ?_
        refine lv_iload_n hx hb dX12_guiltyIn_21 rfl (lv_at hl 3 rfl) ?_
        obtain ⟨g6, h⟩ := gd_inv h
        refine ldR_za X hP sR_9 zR_9 g6 dX12_guiltyIn_22 ?_
        refine lv_if_eq (tgt := 39) hx hb dX12_guiltyIn_23 (by decide) (fun c7 => ?_) (fun c7 => ?_)
        · rw [if_pos c7] at h
          refine lv_iconst (v := 0) hx hb dX12_guiltyIn_39 (by decide) ?_
          refine lv_iadd hx hb dX12_guiltyIn_40 ?_
          obtain ⟨y8, ey8, h⟩ := lt_inv h
          refine topE ey8 ?_
          refine lv_istore_n (lv' := [(2, .int y8), (0, .ref (q 0)), (1, .int a1), (3, .int b3)]) hx hb dX12_guiltyIn_41 rfl hl (by decide) rfl (fun ls hl => ?_)
          obtain ⟨y9, ey9, h⟩ := lt_inv h
          refine lv_iinc (v := y9) (lv' := [(3, .int y9), (2, .int y8), (0, .ref (q 0)), (1, .int a1)]) hx hb dX12_guiltyIn_42 hl (k := 3) rfl (by rw [ey9]; rfl) (by decide) rfl (fun ls hl => ?_)
          refine lv_goto (tgt := 4) hx hb dX12_guiltyIn_45 (by decide) ?_
          exact ih _ _ _ res _ _ _ h hP hS (lv_sub hl [2, 3, 1, 0] rfl) K4_0
        · rw [if_neg c7] at h
          refine lv_aload_n hx hb dX12_guiltyIn_26 rfl (lv_at hl 0 rfl) ?_
          refine lv_iload_n hx hb dX12_guiltyIn_27 rfl (lv_at hl 3 rfl) ?_
          refine lv_iload_n hx hb dX12_guiltyIn_28 rfl (lv_at hl 1 rfl) ?_
          obtain ⟨r10, M11, hc12, h⟩ := bnd_inv h
          refine gV_i (As := [.int b3, .int a1]) X hP hS hl.1 (c_X12_isIn l D cA q aK aV hq hc12) sf_X12_isIn bw_1755 sv_X12_isIn (rcR_12 sR_0) rfl ⟨rfl, rfl⟩ ⟨Nat.le_of_ble_eq_true rfl, Nat.le_of_ble_eq_true rfl⟩ rfl rfl (Nat.le_of_ble_eq_true rfl) dX12_guiltyIn_29 (fun H locs hP hS => ?_)
          refine lv_if_eq (tgt := 39) hx hb dX12_guiltyIn_32 (by decide) (fun c13 => ?_) (fun c13 => ?_)
          · rw [if_pos c13] at h
            refine lv_iconst (v := 0) hx hb dX12_guiltyIn_39 (by decide) ?_
            refine lv_iadd hx hb dX12_guiltyIn_40 ?_
            obtain ⟨y14, ey14, h⟩ := lt_inv h
            refine topE ey14 ?_
            refine lv_istore_n (lv' := [(2, .int y14), (0, .ref (q 0)), (1, .int a1), (3, .int b3)]) hx hb dX12_guiltyIn_41 rfl hl (by decide) rfl (fun ls hl => ?_)
            obtain ⟨y15, ey15, h⟩ := lt_inv h
            refine lv_iinc (v := y15) (lv' := [(3, .int y15), (2, .int y14), (0, .ref (q 0)), (1, .int a1)]) hx hb dX12_guiltyIn_42 hl (k := 3) rfl (by rw [ey15]; rfl) (by decide) rfl (fun ls hl => ?_)
            refine lv_goto (tgt := 4) hx hb dX12_guiltyIn_45 (by decide) ?_
            exact ih _ _ _ res _ _ _ h hP hS (lv_sub hl [2, 3, 1, 0] rfl) K4_0
          · rw [if_neg c13] at h
            refine lv_iconst (v := 1) hx hb dX12_guiltyIn_35 (by decide) ?_
            refine lv_goto (tgt := 40) hx hb dX12_guiltyIn_36 (by decide) ?_
            refine lv_iadd hx hb dX12_guiltyIn_40 ?_
            obtain ⟨y16, ey16, h⟩ := lt_inv h
            refine topE ey16 ?_
            refine lv_istore_n (lv' := [(2, .int y16), (0, .ref (q 0)), (1, .int a1), (3, .int b3)]) hx hb dX12_guiltyIn_41 rfl hl (by decide) rfl (fun ls hl => ?_)
            obtain ⟨y17, ey17, h⟩ := lt_inv h
            refine lv_iinc (v := y17) (lv' := [(3, .int y17), (2, .int y16), (0, .ref (q 0)), (1, .int a1)]) hx hb dX12_guiltyIn_42 hl (k := 3) rfl (by rw [ey17]; rfl) (by decide) rfl (fun ls hl => ?_)
            refine lv_goto (tgt := 4) hx hb dX12_guiltyIn_45 (by decide) ?_
            exact ih _ _ _ res _ _ _ h hP hS (lv_sub hl [2, 3, 1, 0] rfl) K4_0
  refine lv_iconst (v := 0) hx hb dX12_guiltyIn_0 (by decide) ?_
  refine lv_istore_n (lv' := [(2, .int (0 : Int32)), (0, .ref (q 0)), (1, .int a1)]) hx hb dX12_guiltyIn_1 rfl hl (by decide) rfl (fun ls hl => ?_)
  refine lv_iconst (v := 0) hx hb dX12_guiltyIn_2 (by decide) ?_
  refine lv_istore_n (lv' := [(3, .int (0 : Int32)), (2, .int (0 : Int32)), (0, .ref (q 0)), (1, .int a1)]) hx hb dX12_guiltyIn_3 rfl hl (by decide) rfl (fun ls hl => ?_)
  obtain ⟨s1, M2, hc3, h⟩ := bnd_inv h
  obtain ⟨x4, rfl⟩ : ∃ z, z = s1 := ⟨_, rfl⟩
  try dsimp only at h
  refine hL4  fz _ _ _ _ _ _ _ hc3 hP hS (lv_sub hl [2, 3, 1, 0] rfl) (fun H locs ls hP hS hl => ?_)
  have hl : lv_has ls 4 [(2, .int x4)] := hl
  refine lv_iload_n hx hb dX12_guiltyIn_48 rfl (lv_at hl 0 rfl) ?_
  exact end_i X hr hk hP hS h dX12_guiltyIn_49
theorem dX12_fits_0 : decode cX12_fits 0 = .ok (.aload_n 0, 1) := by decide +kernel
theorem dX12_fits_1 : decode cX12_fits 1 = .ok (.iload_n 1, 1) := by decide +kernel
theorem dX12_fits_2 : decode cX12_fits 2 = .ok (.iload_n 2, 1) := by decide +kernel
theorem dX12_fits_3 : decode cX12_fits 3 = .ok (.invokevirtual 395, 3) := by decide +kernel
theorem dX12_fits_6 : decode cX12_fits 6 = .ok (.istore_n 3, 1) := by decide +kernel
theorem dX12_fits_7 : decode cX12_fits 7 = .ok (.iload_n 3, 1) := by decide +kernel
theorem dX12_fits_8 : decode cX12_fits 8 = .ok (.ifCond .le 9, 3) := by decide +kernel
theorem dX12_fits_11 : decode cX12_fits 11 = .ok (.aload_n 0, 1) := by decide +kernel
theorem dX12_fits_12 : decode cX12_fits 12 = .ok (.iload_n 3, 1) := by decide +kernel
theorem dX12_fits_13 : decode cX12_fits 13 = .ok (.invokevirtual 91, 3) := by decide +kernel
theorem dX12_fits_16 : decode cX12_fits 16 = .ok (.ireturn, 1) := by decide +kernel
theorem dX12_fits_17 : decode cX12_fits 17 = .ok (.aload_n 0, 1) := by decide +kernel
theorem dX12_fits_18 : decode cX12_fits 18 = .ok (.iload_n 1, 1) := by decide +kernel
theorem dX12_fits_19 : decode cX12_fits 19 = .ok (.iload_n 2, 1) := by decide +kernel
theorem dX12_fits_20 : decode cX12_fits 20 = .ok (.invokevirtual 398, 3) := by decide +kernel
theorem dX12_fits_23 : decode cX12_fits 23 = .ok (.aload_n 0, 1) := by decide +kernel
theorem dX12_fits_24 : decode cX12_fits 24 = .ok (.aload_n 0, 1) := by decide +kernel
theorem dX12_fits_25 : decode cX12_fits 25 = .ok (.getfield 389, 3) := by decide +kernel
theorem dX12_fits_28 : decode cX12_fits 28 = .ok (.invokevirtual 95, 3) := by decide +kernel
theorem dX12_fits_31 : decode cX12_fits 31 = .ok (.ireturn, 1) := by decide +kernel
set_option maxRecDepth 100000 in
set_option maxHeartbeats 8000000 in
theorem c_X12_fits (l : Launch) (D : va_G) (cA : Nat → ClassId) (q aK aV : Nat → Nat) (hq : injG 20 q) {a1 : Int32} {a2 : Int32} {M M0 : Mem} {r0 : Int32} (h : f_X12_fits a1 a2 M = some (r0, M0)) : Met l yX12_fits (.code yX12_fits cX12_fits 4 (some .int) :: BW) ({ frames := 9, cells := 0, slots := 0, locals := 203 } : Room) (va_Pc [.ref (q 0), .int a1, .int a2] (CB 20 (ceR cA q) D cA q aK aV M)) (Qi 20 (ceR cA q) D q r0 M0) 0 0 (AqG 20 q) := by
  refine gMet RX12 (by decide +kernel) rfl hq (Nat.le_of_ble_eq_true rfl) ?_
  intro p e s m below meth c ls X hr hk hP hS hl
  have hx := X.1
  have hb := X.2.1
  have hl : lv_has ls 4 [(0, .ref (q 0)), (1, .int a1), (2, .int a2)] := hl
  rw [f_X12_fits] at h
  refine lv_aload_n hx hb dX12_fits_0 rfl (lv_at hl 0 rfl) ?_
  refine lv_iload_n hx hb dX12_fits_1 rfl (lv_at hl 1 rfl) ?_
  refine lv_iload_n hx hb dX12_fits_2 rfl (lv_at hl 2 rfl) ?_
  obtain ⟨r1, M2, hc3, h⟩ := bnd_inv h
  refine gV_i (As := [.int a1, .int a2]) X hP hS hl.1 (c_X12_wrongSeen l D cA q aK aV hq hc3) sf_X12_wrongSeen bw_1881 sv_X12_wrongSeen (rcR_12 sR_0) rfl ⟨rfl, rfl⟩ ⟨Nat.le_of_ble_eq_true rfl, Nat.le_of_ble_eq_true rfl⟩ rfl rfl (Nat.le_of_ble_eq_true rfl) dX12_fits_3 (fun H locs hP hS => ?_)
  refine lv_istore_n (lv' := [(3, .int r1), (0, .ref (q 0)), (1, .int a1), (2, .int a2)]) hx hb dX12_fits_6 rfl hl (by decide) rfl (fun ls hl => ?_)
  refine lv_iload_n hx hb dX12_fits_7 rfl (lv_at hl 0 rfl) ?_
  refine lv_if_le (tgt := 17) hx hb dX12_fits_8 (by decide) (fun c4 => ?_) (fun c4 => ?_)
  · rw [if_pos c4] at h
    refine lv_aload_n hx hb dX12_fits_17 rfl (lv_at hl 1 rfl) ?_
    refine lv_iload_n hx hb dX12_fits_18 rfl (lv_at hl 2 rfl) ?_
    refine lv_iload_n hx hb dX12_fits_19 rfl (lv_at hl 3 rfl) ?_
    obtain ⟨_, M6, hc7, h⟩ := bnd_inv h
    refine gV_v (As := [.int a1, .int a2]) X hP hS hl.1 (c_X12_laysFits l D cA q aK aV hq hc7) sf_X12_laysFits bw_1886 sv_X12_laysFits (rcR_12 sR_0) rfl ⟨rfl, rfl⟩ ⟨Nat.le_of_ble_eq_true rfl, Nat.le_of_ble_eq_true rfl⟩ rfl rfl (Nat.le_of_ble_eq_true rfl) dX12_fits_20 (fun H locs hP hS => ?_)
    refine lv_aload_n hx hb dX12_fits_23 rfl (lv_at hl 1 rfl) ?_
    refine lv_aload_n hx hb dX12_fits_24 rfl (lv_at hl 1 rfl) ?_
    refine gfR_12_24 X hP sR_0 bw_1347 dX12_fits_25 ?_
    obtain ⟨r8, M9, hc10, h⟩ := bnd_inv h
    refine gV_i (As := [.int (gI M6 0 24)]) X hP hS hl.1 (c_X12_gives l D cA q aK aV hq hc10) sf_X12_gives bw_1639 sv_X12_gives (rcR_12 sR_0) rfl ⟨rfl, rfl⟩ ⟨Nat.le_of_ble_eq_true rfl, Nat.le_of_ble_eq_true rfl⟩ rfl rfl (Nat.le_of_ble_eq_true rfl) dX12_fits_28 (fun H locs hP hS => ?_)
    exact end_i X hr hk hP hS h dX12_fits_31
  · rw [if_neg c4] at h
    refine lv_aload_n hx hb dX12_fits_11 rfl (lv_at hl 1 rfl) ?_
    refine lv_iload_n hx hb dX12_fits_12 rfl (lv_at hl 0 rfl) ?_
    obtain ⟨r11, M12, hc13, h⟩ := bnd_inv h
    refine gV_i (As := [.int r1]) X hP hS hl.1 (c_X12_refuse l D cA q aK aV hq hc13) sf_X12_refuse bw_1530 sv_X12_refuse (rcR_12 sR_0) rfl ⟨rfl, rfl⟩ ⟨Nat.le_of_ble_eq_true rfl, Nat.le_of_ble_eq_true rfl⟩ rfl rfl (Nat.le_of_ble_eq_true rfl) dX12_fits_13 (fun H locs hP hS => ?_)
    exact end_i X hr hk hP hS h dX12_fits_16
theorem dX12_sure_0 : decode cX12_sure 0 = .ok (.aload_n 0, 1) := by decide +kernel
theorem dX12_sure_1 : decode cX12_sure 1 = .ok (.iload_n 1, 1) := by decide +kernel
theorem dX12_sure_2 : decode cX12_sure 2 = .ok (.i2l, 1) := by decide +kernel
theorem dX12_sure_3 : decode cX12_sure 3 = .ok (.invokevirtual 305, 3) := by decide +kernel
theorem dX12_sure_6 : decode cX12_sure 6 = .ok (.ifCond .eq 12, 3) := by decide +kernel
theorem dX12_sure_9 : decode cX12_sure 9 = .ok (.aload_n 0, 1) := by decide +kernel
theorem dX12_sure_10 : decode cX12_sure 10 = .ok (.iload_n 2, 1) := by decide +kernel
theorem dX12_sure_11 : decode cX12_sure 11 = .ok (.iload_n 3, 1) := by decide +kernel
theorem dX12_sure_12 : decode cX12_sure 12 = .ok (.invokevirtual 395, 3) := by decide +kernel
theorem dX12_sure_15 : decode cX12_sure 15 = .ok (.goto 4, 3) := by decide +kernel
theorem dX12_sure_18 : decode cX12_sure 18 = .ok (.iconst 1, 1) := by decide +kernel
theorem dX12_sure_19 : decode cX12_sure 19 = .ok (.istore 4, 2) := by decide +kernel
theorem dX12_sure_21 : decode cX12_sure 21 = .ok (.iload 4, 2) := by decide +kernel
theorem dX12_sure_23 : decode cX12_sure 23 = .ok (.ifCond .le 10, 3) := by decide +kernel
theorem dX12_sure_26 : decode cX12_sure 26 = .ok (.aload_n 0, 1) := by decide +kernel
theorem dX12_sure_27 : decode cX12_sure 27 = .ok (.iload 4, 2) := by decide +kernel
theorem dX12_sure_29 : decode cX12_sure 29 = .ok (.invokevirtual 91, 3) := by decide +kernel
theorem dX12_sure_32 : decode cX12_sure 32 = .ok (.ireturn, 1) := by decide +kernel
theorem dX12_sure_33 : decode cX12_sure 33 = .ok (.aload_n 0, 1) := by decide +kernel
theorem dX12_sure_34 : decode cX12_sure 34 = .ok (.iload_n 2, 1) := by decide +kernel
theorem dX12_sure_35 : decode cX12_sure 35 = .ok (.iload_n 3, 1) := by decide +kernel
theorem dX12_sure_36 : decode cX12_sure 36 = .ok (.invokevirtual 398, 3) := by decide +kernel
theorem dX12_sure_39 : decode cX12_sure 39 = .ok (.aload_n 0, 1) := by decide +kernel
theorem dX12_sure_40 : decode cX12_sure 40 = .ok (.iload_n 1, 1) := by decide +kernel
theorem dX12_sure_41 : decode cX12_sure 41 = .ok (.invokevirtual 402, 3) := by decide +kernel
theorem dX12_sure_44 : decode cX12_sure 44 = .ok (.istore 5, 2) := by decide +kernel
theorem dX12_sure_46 : decode cX12_sure 46 = .ok (.aload_n 0, 1) := by decide +kernel
theorem dX12_sure_47 : decode cX12_sure 47 = .ok (.getfield 389, 3) := by decide +kernel
theorem dX12_sure_50 : decode cX12_sure 50 = .ok (.ifCond .eq 17, 3) := by decide +kernel
theorem dX12_sure_53 : decode cX12_sure 53 = .ok (.iload 5, 2) := by decide +kernel
theorem dX12_sure_55 : decode cX12_sure 55 = .ok (.ifCond .le 19, 3) := by decide +kernel
theorem dX12_sure_58 : decode cX12_sure 58 = .ok (.iload 5, 2) := by decide +kernel
theorem dX12_sure_60 : decode cX12_sure 60 = .ok (.aload_n 0, 1) := by decide +kernel
theorem dX12_sure_61 : decode cX12_sure 61 = .ok (.getfield 389, 3) := by decide +kernel
theorem dX12_sure_64 : decode cX12_sure 64 = .ok (.if_icmp .ge 10, 3) := by decide +kernel
theorem dX12_sure_67 : decode cX12_sure 67 = .ok (.aload_n 0, 1) := by decide +kernel
theorem dX12_sure_68 : decode cX12_sure 68 = .ok (.bipush 6, 2) := by decide +kernel
theorem dX12_sure_70 : decode cX12_sure 70 = .ok (.invokevirtual 91, 3) := by decide +kernel
theorem dX12_sure_73 : decode cX12_sure 73 = .ok (.ireturn, 1) := by decide +kernel
theorem dX12_sure_74 : decode cX12_sure 74 = .ok (.aload_n 0, 1) := by decide +kernel
theorem dX12_sure_75 : decode cX12_sure 75 = .ok (.iload 5, 2) := by decide +kernel
theorem dX12_sure_77 : decode cX12_sure 77 = .ok (.ifCond .le 7, 3) := by decide +kernel
theorem dX12_sure_80 : decode cX12_sure 80 = .ok (.iconst 1, 1) := by decide +kernel
theorem dX12_sure_81 : decode cX12_sure 81 = .ok (.goto 4, 3) := by decide +kernel
theorem dX12_sure_84 : decode cX12_sure 84 = .ok (.iconst 0, 1) := by decide +kernel
theorem dX12_sure_85 : decode cX12_sure 85 = .ok (.invokevirtual 95, 3) := by decide +kernel
theorem dX12_sure_88 : decode cX12_sure 88 = .ok (.ireturn, 1) := by decide +kernel
set_option maxRecDepth 100000 in
set_option maxHeartbeats 8000000 in
theorem c_X12_sure (l : Launch) (D : va_G) (cA : Nat → ClassId) (q aK aV : Nat → Nat) (hq : injG 20 q) {a1 : Int32} {a2 : Int32} {a3 : Int32} {M M0 : Mem} {r0 : Int32} (h : f_X12_sure a1 a2 a3 M = some (r0, M0)) : Met l yX12_sure (.code yX12_sure cX12_sure 6 (some .int) :: BW) ({ frames := 9, cells := 0, slots := 0, locals := 203 } : Room) (va_Pc [.ref (q 0), .int a1, .int a2, .int a3] (CB 20 (ceR cA q) D cA q aK aV M)) (Qi 20 (ceR cA q) D q r0 M0) 0 0 (AqG 20 q) := by
  refine gMet RX12 (by decide +kernel) rfl hq (Nat.le_of_ble_eq_true rfl) ?_
  intro p e s m below meth c ls X hr hk hP hS hl
  have hx := X.1
  have hb := X.2.1
  have hl : lv_has ls 6 [(0, .ref (q 0)), (1, .int a1), (2, .int a2), (3, .int a3)] := hl
  rw [f_X12_sure] at h
  have hJ74 : ∀ (b5 : Int32) (M : Mem) (H : Heap) (locs : List Loc) (ls : Array Slot), f_X12_sure_J74 b5 M = some (r0, M0) → va_P D vwCl (wsG 20 (ceR cA q) q M) H → va_S (AqG 20 q) s.heap H locs → lv_has ls 6 [(0, .ref (q 0)), (5, .int b5)] → W p l e ({ frames := 9, cells := 0, slots := 0, locals := 203 } : Room) s m [.ref (q 0), .int a1, .int a2, .int a3].toArray below meth c H locs 0 0 (MQ below (Qi 20 (ceR cA q) D q r0 M0) [.ref (q 0), .int a1, .int a2, .int a3].toArray s 0 0 (AqG 20 q)) (F0 m 74 ls []) := by
    intro b5 M H locs ls h hP hS hl
    rw [f_X12_sure_J74] at h
    refine lv_aload_n hx hb dX12_sure_74 rfl (lv_at hl 0 rfl) ?_
    refine lv_iload hx hb dX12_sure_75 (lv_at hl 1 rfl) ?_
    refine lv_if_le (tgt := 84) hx hb dX12_sure_77 (by decide) (fun c27 => ?_) (fun c27 => ?_)
    · rw [if_pos c27] at h
      refine lv_iconst (v := 0) hx hb dX12_sure_84 (by decide) ?_
      obtain ⟨r28, M29, hc30, h⟩ := bnd_inv h
      refine gV_i (As := [.int (0 : Int32)]) X hP hS hl.1 (c_X12_gives l D cA q aK aV hq hc30) sf_X12_gives bw_1639 sv_X12_gives (rcR_12 sR_0) rfl ⟨rfl, rfl⟩ ⟨Nat.le_of_ble_eq_true rfl, Nat.le_of_ble_eq_true rfl⟩ rfl rfl (Nat.le_of_ble_eq_true rfl) dX12_sure_85 (fun H locs hP hS => ?_)
      exact end_i X hr hk hP hS h dX12_sure_88
    · rw [if_neg c27] at h
      refine lv_iconst (v := 1) hx hb dX12_sure_80 (by decide) ?_
      refine lv_goto (tgt := 85) hx hb dX12_sure_81 (by decide) ?_
      obtain ⟨r31, M32, hc33, h⟩ := bnd_inv h
      refine gV_i (As := [.int (1 : Int32)]) X hP hS hl.1 (c_X12_gives l D cA q aK aV hq hc33) sf_X12_gives bw_1639 sv_X12_gives (rcR_12 sR_0) rfl ⟨rfl, rfl⟩ ⟨Nat.le_of_ble_eq_true rfl, Nat.le_of_ble_eq_true rfl⟩ rfl rfl (Nat.le_of_ble_eq_true rfl) dX12_sure_85 (fun H locs hP hS => ?_)
      exact end_i X hr hk hP hS h dX12_sure_88
  have hJ19 : ∀ (s0 : Int32) (M : Mem) (H : Heap) (locs : List Loc) (ls : Array Slot), f_X12_sure_J19 a1 a2 a3 s0 M = some (r0, M0) → va_P D vwCl (wsG 20 (ceR cA q) q M) H → va_S (AqG 20 q) s.heap H locs → lv_has ls 6 [(0, .ref (q 0)), (1, .int a1), (2, .int a2), (3, .int a3)] → W p l e ({ frames := 9, cells := 0, slots := 0, locals := 203 } : Room) s m [.ref (q 0), .int a1, .int a2, .int a3].toArray below meth c H locs 0 0 (MQ below (Qi 20 (ceR cA q) D q r0 M0) [.ref (q 0), .int a1, .int a2, .int a3].toArray s 0 0 (AqG 20 q)) (F0 m 19 ls [.int s0]) := by
    intro s0 M H locs ls h hP hS hl
    rw [f_X12_sure_J19] at h
    refine lv_istore (lv' := [(4, .int s0), (0, .ref (q 0)), (1, .int a1), (2, .int a2), (3, .int a3)]) hx hb dX12_sure_19 hl (by decide) rfl (fun ls hl => ?_)
    refine lv_iload hx hb dX12_sure_21 (lv_at hl 0 rfl) ?_
    refine lv_if_le (tgt := 33) hx hb dX12_sure_23 (by decide) (fun c8 => ?_) (fun c8 => ?_)
    · rw [if_pos c8] at h
      refine lv_aload_n hx hb dX12_sure_33 rfl (lv_at hl 1 rfl) ?_
      refine lv_iload_n hx hb dX12_sure_34 rfl (lv_at hl 3 rfl) ?_
      refine lv_iload_n hx hb dX12_sure_35 rfl (lv_at hl 4 rfl) ?_
      obtain ⟨_, M10, hc11, h⟩ := bnd_inv h
      refine gV_v (As := [.int a2, .int a3]) X hP hS hl.1 (c_X12_laysFits l D cA q aK aV hq hc11) sf_X12_laysFits bw_1886 sv_X12_laysFits (rcR_12 sR_0) rfl ⟨rfl, rfl⟩ ⟨Nat.le_of_ble_eq_true rfl, Nat.le_of_ble_eq_true rfl⟩ rfl rfl (Nat.le_of_ble_eq_true rfl) dX12_sure_36 (fun H locs hP hS => ?_)
      refine lv_aload_n hx hb dX12_sure_39 rfl (lv_at hl 1 rfl) ?_
      refine lv_iload_n hx hb dX12_sure_40 rfl (lv_at hl 2 rfl) ?_
      obtain ⟨r12, M13, hc14, h⟩ := bnd_inv h
      refine gV_i (As := [.int a1]) X hP hS hl.1 (c_X12_guiltyIn l D cA q aK aV hq hc14) sf_X12_guiltyIn bw_1906 sv_X12_guiltyIn (rcR_12 sR_0) rfl ⟨rfl, rfl⟩ ⟨Nat.le_of_ble_eq_true rfl, Nat.le_of_ble_eq_true rfl⟩ rfl rfl (Nat.le_of_ble_eq_true rfl) dX12_sure_41 (fun H locs hP hS => ?_)
      refine lv_istore (lv' := [(5, .int r12), (4, .int s0), (0, .ref (q 0)), (1, .int a1), (2, .int a2), (3, .int a3)]) hx hb dX12_sure_44 hl (by decide) rfl (fun ls hl => ?_)
      refine lv_aload_n hx hb dX12_sure_46 rfl (lv_at hl 2 rfl) ?_
      refine gfR_12_24 X hP sR_0 bw_1347 dX12_sure_47 ?_
      refine lv_if_eq (tgt := 67) hx hb dX12_sure_50 (by decide) (fun c15 => ?_) (fun c15 => ?_)
      · rw [if_pos c15] at h
        refine lv_aload_n hx hb dX12_sure_67 rfl (lv_at hl 2 rfl) ?_
        refine lv_bipush (v := 6) hx hb dX12_sure_68 (by decide) ?_
        obtain ⟨r16, M17, hc18, h⟩ := bnd_inv h
        refine gV_i (As := [.int (6 : Int32)]) X hP hS hl.1 (c_X12_refuse l D cA q aK aV hq hc18) sf_X12_refuse bw_1530 sv_X12_refuse (rcR_12 sR_0) rfl ⟨rfl, rfl⟩ ⟨Nat.le_of_ble_eq_true rfl, Nat.le_of_ble_eq_true rfl⟩ rfl rfl (Nat.le_of_ble_eq_true rfl) dX12_sure_70 (fun H locs hP hS => ?_)
        exact end_i X hr hk hP hS h dX12_sure_73
      · rw [if_neg c15] at h
        refine lv_iload hx hb dX12_sure_53 (lv_at hl 0 rfl) ?_
        refine lv_if_le (tgt := 74) hx hb dX12_sure_55 (by decide) (fun c19 => ?_) (fun c19 => ?_)
        · rw [if_pos c19] at h
          exact hJ74 _ _ _ _ _ h hP hS (lv_sub hl [2, 0] rfl)
        · rw [if_neg c19] at h
          refine lv_iload hx hb dX12_sure_58 (lv_at hl 0 rfl) ?_
          refine lv_aload_n hx hb dX12_sure_60 rfl (lv_at hl 2 rfl) ?_
          refine gfR_12_24 X hP sR_0 bw_1347 dX12_sure_61 ?_
          refine lv_icmp_ge (tgt := 74) hx hb dX12_sure_64 (by decide) (fun c20 => ?_) (fun c20 => ?_)
          · rw [if_pos c20] at h
            exact hJ74 _ _ _ _ _ h hP hS (lv_sub hl [2, 0] rfl)
          · rw [if_neg c20] at h
            refine lv_aload_n hx hb dX12_sure_67 rfl (lv_at hl 2 rfl) ?_
            refine lv_bipush (v := 6) hx hb dX12_sure_68 (by decide) ?_
            obtain ⟨r21, M22, hc23, h⟩ := bnd_inv h
            refine gV_i (As := [.int (6 : Int32)]) X hP hS hl.1 (c_X12_refuse l D cA q aK aV hq hc23) sf_X12_refuse bw_1530 sv_X12_refuse (rcR_12 sR_0) rfl ⟨rfl, rfl⟩ ⟨Nat.le_of_ble_eq_true rfl, Nat.le_of_ble_eq_true rfl⟩ rfl rfl (Nat.le_of_ble_eq_true rfl) dX12_sure_70 (fun H locs hP hS => ?_)
            exact end_i X hr hk hP hS h dX12_sure_73
    · rw [if_neg c8] at h
      refine lv_aload_n hx hb dX12_sure_26 rfl (lv_at hl 1 rfl) ?_
      refine lv_iload hx hb dX12_sure_27 (lv_at hl 0 rfl) ?_
      obtain ⟨r24, M25, hc26, h⟩ := bnd_inv h
      refine gV_i (As := [.int s0]) X hP hS hl.1 (c_X12_refuse l D cA q aK aV hq hc26) sf_X12_refuse bw_1530 sv_X12_refuse (rcR_12 sR_0) rfl ⟨rfl, rfl⟩ ⟨Nat.le_of_ble_eq_true rfl, Nat.le_of_ble_eq_true rfl⟩ rfl rfl (Nat.le_of_ble_eq_true rfl) dX12_sure_29 (fun H locs hP hS => ?_)
      exact end_i X hr hk hP hS h dX12_sure_32
  refine lv_aload_n hx hb dX12_sure_0 rfl (lv_at hl 0 rfl) ?_
  refine lv_iload_n hx hb dX12_sure_1 rfl (lv_at hl 1 rfl) ?_
  refine lv_i2l hx hb dX12_sure_2 rfl ?_
  obtain ⟨r1, M2, hc3, h⟩ := bnd_inv h
  refine gV_i (As := [.long (a1.toInt64)]) X hP hS hl.1 (c_X12_isPerson l D cA q aK aV hq hc3) sf_X12_isPerson bw_1715 sv_X12_isPerson (rcR_12 sR_0) rfl ⟨rfl, rfl⟩ ⟨Nat.le_of_ble_eq_true rfl, Nat.le_of_ble_eq_true rfl⟩ rfl rfl (Nat.le_of_ble_eq_true rfl) dX12_sure_3 (fun H locs hP hS => ?_)
  refine lv_if_eq (tgt := 18) hx hb dX12_sure_6 (by decide) (fun c4 => ?_) (fun c4 => ?_)
  · rw [if_pos c4] at h
    refine lv_iconst (v := 1) hx hb dX12_sure_18 (by decide) ?_
    exact hJ19 _ _ _ _ _ h hP hS (lv_sub hl [0, 1, 2, 3] rfl)
  · rw [if_neg c4] at h
    refine lv_aload_n hx hb dX12_sure_9 rfl (lv_at hl 0 rfl) ?_
    refine lv_iload_n hx hb dX12_sure_10 rfl (lv_at hl 2 rfl) ?_
    refine lv_iload_n hx hb dX12_sure_11 rfl (lv_at hl 3 rfl) ?_
    obtain ⟨r5, M6, hc7, h⟩ := bnd_inv h
    refine gV_i (As := [.int a2, .int a3]) X hP hS hl.1 (c_X12_wrongSeen l D cA q aK aV hq hc7) sf_X12_wrongSeen bw_1881 sv_X12_wrongSeen (rcR_12 sR_0) rfl ⟨rfl, rfl⟩ ⟨Nat.le_of_ble_eq_true rfl, Nat.le_of_ble_eq_true rfl⟩ rfl rfl (Nat.le_of_ble_eq_true rfl) dX12_sure_12 (fun H locs hP hS => ?_)
    refine lv_goto (tgt := 19) hx hb dX12_sure_15 (by decide) ?_
    exact hJ19 _ _ _ _ _ h hP hS (lv_sub hl [0, 1, 2, 3] rfl)
theorem dX12_odds_0 : decode cX12_odds 0 = .ok (.aload_n 0, 1) := by decide +kernel
theorem dX12_odds_1 : decode cX12_odds 1 = .ok (.iload_n 1, 1) := by decide +kernel
theorem dX12_odds_2 : decode cX12_odds 2 = .ok (.i2l, 1) := by decide +kernel
theorem dX12_odds_3 : decode cX12_odds 3 = .ok (.invokevirtual 305, 3) := by decide +kernel
theorem dX12_odds_6 : decode cX12_odds 6 = .ok (.ifCond .eq 12, 3) := by decide +kernel
theorem dX12_odds_9 : decode cX12_odds 9 = .ok (.aload_n 0, 1) := by decide +kernel
theorem dX12_odds_10 : decode cX12_odds 10 = .ok (.iload_n 2, 1) := by decide +kernel
theorem dX12_odds_11 : decode cX12_odds 11 = .ok (.iload_n 3, 1) := by decide +kernel
theorem dX12_odds_12 : decode cX12_odds 12 = .ok (.invokevirtual 395, 3) := by decide +kernel
theorem dX12_odds_15 : decode cX12_odds 15 = .ok (.goto 4, 3) := by decide +kernel
theorem dX12_odds_18 : decode cX12_odds 18 = .ok (.iconst 1, 1) := by decide +kernel
theorem dX12_odds_19 : decode cX12_odds 19 = .ok (.istore 4, 2) := by decide +kernel
theorem dX12_odds_21 : decode cX12_odds 21 = .ok (.iload 4, 2) := by decide +kernel
theorem dX12_odds_23 : decode cX12_odds 23 = .ok (.ifCond .le 10, 3) := by decide +kernel
theorem dX12_odds_26 : decode cX12_odds 26 = .ok (.aload_n 0, 1) := by decide +kernel
theorem dX12_odds_27 : decode cX12_odds 27 = .ok (.iload 4, 2) := by decide +kernel
theorem dX12_odds_29 : decode cX12_odds 29 = .ok (.invokevirtual 98, 3) := by decide +kernel
theorem dX12_odds_32 : decode cX12_odds 32 = .ok (.ireturn, 1) := by decide +kernel
theorem dX12_odds_33 : decode cX12_odds 33 = .ok (.aload_n 0, 1) := by decide +kernel
theorem dX12_odds_34 : decode cX12_odds 34 = .ok (.iload_n 2, 1) := by decide +kernel
theorem dX12_odds_35 : decode cX12_odds 35 = .ok (.iload_n 3, 1) := by decide +kernel
theorem dX12_odds_36 : decode cX12_odds 36 = .ok (.invokevirtual 398, 3) := by decide +kernel
theorem dX12_odds_39 : decode cX12_odds 39 = .ok (.aload_n 0, 1) := by decide +kernel
theorem dX12_odds_40 : decode cX12_odds 40 = .ok (.getfield 389, 3) := by decide +kernel
theorem dX12_odds_43 : decode cX12_odds 43 = .ok (.ifCond .ne 12, 3) := by decide +kernel
theorem dX12_odds_46 : decode cX12_odds 46 = .ok (.aload_n 0, 1) := by decide +kernel
theorem dX12_odds_47 : decode cX12_odds 47 = .ok (.bipush 6, 2) := by decide +kernel
theorem dX12_odds_49 : decode cX12_odds 49 = .ok (.invokevirtual 98, 3) := by decide +kernel
theorem dX12_odds_52 : decode cX12_odds 52 = .ok (.goto 18, 3) := by decide +kernel
theorem dX12_odds_55 : decode cX12_odds 55 = .ok (.aload_n 0, 1) := by decide +kernel
theorem dX12_odds_56 : decode cX12_odds 56 = .ok (.aload_n 0, 1) := by decide +kernel
theorem dX12_odds_57 : decode cX12_odds 57 = .ok (.iload_n 1, 1) := by decide +kernel
theorem dX12_odds_58 : decode cX12_odds 58 = .ok (.invokevirtual 402, 3) := by decide +kernel
theorem dX12_odds_61 : decode cX12_odds 61 = .ok (.i2l, 1) := by decide +kernel
theorem dX12_odds_62 : decode cX12_odds 62 = .ok (.aload_n 0, 1) := by decide +kernel
theorem dX12_odds_63 : decode cX12_odds 63 = .ok (.getfield 389, 3) := by decide +kernel
theorem dX12_odds_66 : decode cX12_odds 66 = .ok (.i2l, 1) := by decide +kernel
theorem dX12_odds_67 : decode cX12_odds 67 = .ok (.invokevirtual 405, 3) := by decide +kernel
theorem dX12_odds_70 : decode cX12_odds 70 = .ok (.ireturn, 1) := by decide +kernel
set_option maxRecDepth 100000 in
set_option maxHeartbeats 8000000 in
theorem c_X12_odds (l : Launch) (D : va_G) (cA : Nat → ClassId) (q aK aV : Nat → Nat) (hq : injG 20 q) {a1 : Int32} {a2 : Int32} {a3 : Int32} {M M0 : Mem} {r0 : Int32} (h : f_X12_odds a1 a2 a3 M = some (r0, M0)) : Met l yX12_odds (.code yX12_odds cX12_odds 5 (some .boolean) :: BW) ({ frames := 9, cells := 0, slots := 0, locals := 203 } : Room) (va_Pc [.ref (q 0), .int a1, .int a2, .int a3] (CB 20 (ceR cA q) D cA q aK aV M)) (Qi 20 (ceR cA q) D q r0 M0) 0 0 (AqG 20 q) := by
  refine gMet RX12 (by decide +kernel) rfl hq (Nat.le_of_ble_eq_true rfl) ?_
  intro p e s m below meth c ls X hr hk hP hS hl
  have hx := X.1
  have hb := X.2.1
  have hl : lv_has ls 5 [(0, .ref (q 0)), (1, .int a1), (2, .int a2), (3, .int a3)] := hl
  rw [f_X12_odds] at h
  have hJ19 : ∀ (s0 : Int32) (M : Mem) (H : Heap) (locs : List Loc) (ls : Array Slot), f_X12_odds_J19 a1 a2 a3 s0 M = some (r0, M0) → va_P D vwCl (wsG 20 (ceR cA q) q M) H → va_S (AqG 20 q) s.heap H locs → lv_has ls 5 [(0, .ref (q 0)), (1, .int a1), (2, .int a2), (3, .int a3)] → W p l e ({ frames := 9, cells := 0, slots := 0, locals := 203 } : Room) s m [.ref (q 0), .int a1, .int a2, .int a3].toArray below meth c H locs 0 0 (MQ below (Qi 20 (ceR cA q) D q r0 M0) [.ref (q 0), .int a1, .int a2, .int a3].toArray s 0 0 (AqG 20 q)) (F0 m 19 ls [.int s0]) := by
    intro s0 M H locs ls h hP hS hl
    rw [f_X12_odds_J19] at h
    refine lv_istore (lv' := [(4, .int s0), (0, .ref (q 0)), (1, .int a1), (2, .int a2), (3, .int a3)]) hx hb dX12_odds_19 hl (by decide) rfl (fun ls hl => ?_)
    refine lv_iload hx hb dX12_odds_21 (lv_at hl 0 rfl) ?_
    refine lv_if_le (tgt := 33) hx hb dX12_odds_23 (by decide) (fun c8 => ?_) (fun c8 => ?_)
    · rw [if_pos c8] at h
      refine lv_aload_n hx hb dX12_odds_33 rfl (lv_at hl 1 rfl) ?_
      refine lv_iload_n hx hb dX12_odds_34 rfl (lv_at hl 3 rfl) ?_
      refine lv_iload_n hx hb dX12_odds_35 rfl (lv_at hl 4 rfl) ?_
      obtain ⟨_, M10, hc11, h⟩ := bnd_inv h
      refine gV_v (As := [.int a2, .int a3]) X hP hS hl.1 (c_X12_laysFits l D cA q aK aV hq hc11) sf_X12_laysFits bw_1886 sv_X12_laysFits (rcR_12 sR_0) rfl ⟨rfl, rfl⟩ ⟨Nat.le_of_ble_eq_true rfl, Nat.le_of_ble_eq_true rfl⟩ rfl rfl (Nat.le_of_ble_eq_true rfl) dX12_odds_36 (fun H locs hP hS => ?_)
      refine lv_aload_n hx hb dX12_odds_39 rfl (lv_at hl 1 rfl) ?_
      refine gfR_12_24 X hP sR_0 bw_1347 dX12_odds_40 ?_
      refine lv_if_ne (tgt := 55) hx hb dX12_odds_43 (by decide) (fun c12 => ?_) (fun c12 => ?_)
      · rw [if_neg c12] at h
        refine lv_aload_n hx hb dX12_odds_55 rfl (lv_at hl 1 rfl) ?_
        refine lv_aload_n hx hb dX12_odds_56 rfl (lv_at hl 1 rfl) ?_
        refine lv_iload_n hx hb dX12_odds_57 rfl (lv_at hl 2 rfl) ?_
        obtain ⟨r13, M14, hc15, h⟩ := bnd_inv h
        refine gV_i (As := [.int a1]) X hP hS hl.1 (c_X12_guiltyIn l D cA q aK aV hq hc15) sf_X12_guiltyIn bw_1906 sv_X12_guiltyIn (rcR_12 sR_0) rfl ⟨rfl, rfl⟩ ⟨Nat.le_of_ble_eq_true rfl, Nat.le_of_ble_eq_true rfl⟩ rfl rfl (Nat.le_of_ble_eq_true rfl) dX12_odds_58 (fun H locs hP hS => ?_)
        refine lv_i2l hx hb dX12_odds_61 rfl ?_
        refine lv_aload_n hx hb dX12_odds_62 rfl (lv_at hl 1 rfl) ?_
        refine gfR_12_24 X hP sR_0 bw_1347 dX12_odds_63 ?_
        refine lv_i2l hx hb dX12_odds_66 rfl ?_
        obtain ⟨r16, M17, hc18, h⟩ := bnd_inv h
        refine gV_i (As := [.long (r13.toInt64), .long (((gI M14 0 24)).toInt64)]) X hP hS hl.1 (c_X12_tellsBy l D cA q aK aV hq hc18) sf_X12_tellsBy bw_1914 sv_X12_tellsBy (rcR_12 sR_0) rfl ⟨rfl, rfl⟩ ⟨Nat.le_of_ble_eq_true rfl, Nat.le_of_ble_eq_true rfl⟩ rfl rfl (Nat.le_of_ble_eq_true rfl) dX12_odds_67 (fun H locs hP hS => ?_)
        obtain ⟨g19, h⟩ := gd_inv h
        exact end_z X hr hk hP hS (Decidable.not_not.mp g19) h dX12_odds_70
      · rw [if_pos c12] at h
        refine lv_aload_n hx hb dX12_odds_46 rfl (lv_at hl 1 rfl) ?_
        refine lv_bipush (v := 6) hx hb dX12_odds_47 (by decide) ?_
        obtain ⟨r20, M21, hc22, h⟩ := bnd_inv h
        refine gV_i (As := [.int (6 : Int32)]) X hP hS hl.1 (c_X12_is l D cA q aK aV hq hc22) sf_X12_is bw_1470 sv_X12_is (rcR_12 sR_0) rfl ⟨rfl, rfl⟩ ⟨Nat.le_of_ble_eq_true rfl, Nat.le_of_ble_eq_true rfl⟩ rfl rfl (Nat.le_of_ble_eq_true rfl) dX12_odds_49 (fun H locs hP hS => ?_)
        refine lv_goto (tgt := 70) hx hb dX12_odds_52 (by decide) ?_
        obtain ⟨g23, h⟩ := gd_inv h
        exact end_z X hr hk hP hS (Decidable.not_not.mp g23) h dX12_odds_70
    · rw [if_neg c8] at h
      refine lv_aload_n hx hb dX12_odds_26 rfl (lv_at hl 1 rfl) ?_
      refine lv_iload hx hb dX12_odds_27 (lv_at hl 0 rfl) ?_
      obtain ⟨r24, M25, hc26, h⟩ := bnd_inv h
      refine gV_i (As := [.int s0]) X hP hS hl.1 (c_X12_is l D cA q aK aV hq hc26) sf_X12_is bw_1470 sv_X12_is (rcR_12 sR_0) rfl ⟨rfl, rfl⟩ ⟨Nat.le_of_ble_eq_true rfl, Nat.le_of_ble_eq_true rfl⟩ rfl rfl (Nat.le_of_ble_eq_true rfl) dX12_odds_29 (fun H locs hP hS => ?_)
      obtain ⟨g27, h⟩ := gd_inv h
      exact end_z X hr hk hP hS (Decidable.not_not.mp g27) h dX12_odds_32
  refine lv_aload_n hx hb dX12_odds_0 rfl (lv_at hl 0 rfl) ?_
  refine lv_iload_n hx hb dX12_odds_1 rfl (lv_at hl 1 rfl) ?_
  refine lv_i2l hx hb dX12_odds_2 rfl ?_
  obtain ⟨r1, M2, hc3, h⟩ := bnd_inv h
  refine gV_i (As := [.long (a1.toInt64)]) X hP hS hl.1 (c_X12_isPerson l D cA q aK aV hq hc3) sf_X12_isPerson bw_1715 sv_X12_isPerson (rcR_12 sR_0) rfl ⟨rfl, rfl⟩ ⟨Nat.le_of_ble_eq_true rfl, Nat.le_of_ble_eq_true rfl⟩ rfl rfl (Nat.le_of_ble_eq_true rfl) dX12_odds_3 (fun H locs hP hS => ?_)
  refine lv_if_eq (tgt := 18) hx hb dX12_odds_6 (by decide) (fun c4 => ?_) (fun c4 => ?_)
  · rw [if_pos c4] at h
    refine lv_iconst (v := 1) hx hb dX12_odds_18 (by decide) ?_
    exact hJ19 _ _ _ _ _ h hP hS (lv_sub hl [0, 1, 2, 3] rfl)
  · rw [if_neg c4] at h
    refine lv_aload_n hx hb dX12_odds_9 rfl (lv_at hl 0 rfl) ?_
    refine lv_iload_n hx hb dX12_odds_10 rfl (lv_at hl 2 rfl) ?_
    refine lv_iload_n hx hb dX12_odds_11 rfl (lv_at hl 3 rfl) ?_
    obtain ⟨r5, M6, hc7, h⟩ := bnd_inv h
    refine gV_i (As := [.int a2, .int a3]) X hP hS hl.1 (c_X12_wrongSeen l D cA q aK aV hq hc7) sf_X12_wrongSeen bw_1881 sv_X12_wrongSeen (rcR_12 sR_0) rfl ⟨rfl, rfl⟩ ⟨Nat.le_of_ble_eq_true rfl, Nat.le_of_ble_eq_true rfl⟩ rfl rfl (Nat.le_of_ble_eq_true rfl) dX12_odds_12 (fun H locs hP hS => ?_)
    refine lv_goto (tgt := 19) hx hb dX12_odds_15 (by decide) ?_
    exact hJ19 _ _ _ _ _ h hP hS (lv_sub hl [0, 1, 2, 3] rfl)
theorem dX12_mostAlike_0 : decode cX12_mostAlike 0 = .ok (.iconst 0, 1) := by decide +kernel
theorem dX12_mostAlike_1 : decode cX12_mostAlike 1 = .ok (.istore_n 3, 1) := by decide +kernel
theorem dX12_mostAlike_2 : decode cX12_mostAlike 2 = .ok (.iconst 0, 1) := by decide +kernel
theorem dX12_mostAlike_3 : decode cX12_mostAlike 3 = .ok (.istore 4, 2) := by decide +kernel
theorem dX12_mostAlike_5 : decode cX12_mostAlike 5 = .ok (.iload 4, 2) := by decide +kernel
theorem dX12_mostAlike_7 : decode cX12_mostAlike 7 = .ok (.bipush 7, 2) := by decide +kernel
theorem dX12_mostAlike_9 : decode cX12_mostAlike 9 = .ok (.if_icmp .ge 17, 3) := by decide +kernel
theorem dX12_mostAlike_12 : decode cX12_mostAlike 12 = .ok (.aload_n 0, 1) := by decide +kernel
theorem dX12_mostAlike_13 : decode cX12_mostAlike 13 = .ok (.getfield 51, 3) := by decide +kernel
theorem dX12_mostAlike_16 : decode cX12_mostAlike 16 = .ok (.iload 4, 2) := by decide +kernel
theorem dX12_mostAlike_18 : decode cX12_mostAlike 18 = .ok (.iconst 0, 1) := by decide +kernel
theorem dX12_mostAlike_19 : decode cX12_mostAlike 19 = .ok (.iastore, 1) := by decide +kernel
theorem dX12_mostAlike_20 : decode cX12_mostAlike 20 = .ok (.iinc 4 1, 3) := by decide +kernel
theorem dX12_mostAlike_23 : decode cX12_mostAlike 23 = .ok (.goto (-18), 3) := by decide +kernel
theorem dX12_mostAlike_26 : decode cX12_mostAlike 26 = .ok (.iconst 0, 1) := by decide +kernel
theorem dX12_mostAlike_27 : decode cX12_mostAlike 27 = .ok (.istore 4, 2) := by decide +kernel
theorem dX12_mostAlike_29 : decode cX12_mostAlike 29 = .ok (.iload 4, 2) := by decide +kernel
theorem dX12_mostAlike_31 : decode cX12_mostAlike 31 = .ok (.iconst 1, 1) := by decide +kernel
theorem dX12_mostAlike_32 : decode cX12_mostAlike 32 = .ok (.aload_n 0, 1) := by decide +kernel
theorem dX12_mostAlike_33 : decode cX12_mostAlike 33 = .ok (.getfield 7, 3) := by decide +kernel
theorem dX12_mostAlike_36 : decode cX12_mostAlike 36 = .ok (.iconst 3, 1) := by decide +kernel
theorem dX12_mostAlike_37 : decode cX12_mostAlike 37 = .ok (.iaload, 1) := by decide +kernel
theorem dX12_mostAlike_38 : decode cX12_mostAlike 38 = .ok (.ishl, 1) := by decide +kernel
theorem dX12_mostAlike_39 : decode cX12_mostAlike 39 = .ok (.if_icmp .ge 55, 3) := by decide +kernel
theorem dX12_mostAlike_42 : decode cX12_mostAlike 42 = .ok (.aload_n 0, 1) := by decide +kernel
theorem dX12_mostAlike_43 : decode cX12_mostAlike 43 = .ok (.getfield 47, 3) := by decide +kernel
theorem dX12_mostAlike_46 : decode cX12_mostAlike 46 = .ok (.iload 4, 2) := by decide +kernel
theorem dX12_mostAlike_48 : decode cX12_mostAlike 48 = .ok (.baload, 1) := by decide +kernel
theorem dX12_mostAlike_49 : decode cX12_mostAlike 49 = .ok (.ifCond .ne 6, 3) := by decide +kernel
theorem dX12_mostAlike_52 : decode cX12_mostAlike 52 = .ok (.goto 36, 3) := by decide +kernel
theorem dX12_mostAlike_55 : decode cX12_mostAlike 55 = .ok (.aload_n 0, 1) := by decide +kernel
theorem dX12_mostAlike_56 : decode cX12_mostAlike 56 = .ok (.iload 4, 2) := by decide +kernel
theorem dX12_mostAlike_58 : decode cX12_mostAlike 58 = .ok (.iload_n 1, 1) := by decide +kernel
theorem dX12_mostAlike_59 : decode cX12_mostAlike 59 = .ok (.iload_n 2, 1) := by decide +kernel
theorem dX12_mostAlike_60 : decode cX12_mostAlike 60 = .ok (.invokevirtual 385, 3) := by decide +kernel
theorem dX12_mostAlike_63 : decode cX12_mostAlike 63 = .ok (.istore 5, 2) := by decide +kernel
theorem dX12_mostAlike_65 : decode cX12_mostAlike 65 = .ok (.aload_n 0, 1) := by decide +kernel
theorem dX12_mostAlike_66 : decode cX12_mostAlike 66 = .ok (.getfield 51, 3) := by decide +kernel
theorem dX12_mostAlike_69 : decode cX12_mostAlike 69 = .ok (.iload 5, 2) := by decide +kernel
theorem dX12_mostAlike_71 : decode cX12_mostAlike 71 = .ok (.dup2, 1) := by decide +kernel
theorem dX12_mostAlike_72 : decode cX12_mostAlike 72 = .ok (.iaload, 1) := by decide +kernel
theorem dX12_mostAlike_73 : decode cX12_mostAlike 73 = .ok (.iconst 1, 1) := by decide +kernel
theorem dX12_mostAlike_74 : decode cX12_mostAlike 74 = .ok (.iadd, 1) := by decide +kernel
theorem dX12_mostAlike_75 : decode cX12_mostAlike 75 = .ok (.iastore, 1) := by decide +kernel
theorem dX12_mostAlike_76 : decode cX12_mostAlike 76 = .ok (.iload_n 3, 1) := by decide +kernel
theorem dX12_mostAlike_77 : decode cX12_mostAlike 77 = .ok (.aload_n 0, 1) := by decide +kernel
theorem dX12_mostAlike_78 : decode cX12_mostAlike 78 = .ok (.getfield 51, 3) := by decide +kernel
theorem dX12_mostAlike_81 : decode cX12_mostAlike 81 = .ok (.iload 5, 2) := by decide +kernel
theorem dX12_mostAlike_83 : decode cX12_mostAlike 83 = .ok (.iaload, 1) := by decide +kernel
theorem dX12_mostAlike_84 : decode cX12_mostAlike 84 = .ok (.invokestatic 409, 3) := by decide +kernel
theorem dX12_mostAlike_87 : decode cX12_mostAlike 87 = .ok (.istore_n 3, 1) := by decide +kernel
theorem dX12_mostAlike_88 : decode cX12_mostAlike 88 = .ok (.iinc 4 1, 3) := by decide +kernel
theorem dX12_mostAlike_91 : decode cX12_mostAlike 91 = .ok (.goto (-62), 3) := by decide +kernel
theorem dX12_mostAlike_94 : decode cX12_mostAlike 94 = .ok (.iload_n 3, 1) := by decide +kernel
theorem dX12_mostAlike_95 : decode cX12_mostAlike 95 = .ok (.ireturn, 1) := by decide +kernel
set_option maxRecDepth 100000 in
set_option maxHeartbeats 8000000 in
theorem c_X12_mostAlike (l : Launch) (D : va_G) (cA : Nat → ClassId) (q aK aV : Nat → Nat) (hq : injG 20 q) {a1 : Int32} {a2 : Int32} {M M0 : Mem} {r0 : Int32} (h : f_X12_mostAlike a1 a2 M = some (r0, M0)) : Met l yX12_mostAlike (.code yX12_mostAlike cX12_mostAlike 6 (some .int) :: BW) ({ frames := 7, cells := 0, slots := 0, locals := 155 } : Room) (va_Pc [.ref (q 0), .int a1, .int a2] (CB 20 (ceR cA q) D cA q aK aV M)) (Qi 20 (ceR cA q) D q r0 M0) 0 0 (AqG 20 q) := by
  refine gMet RX12 (by decide +kernel) rfl hq (Nat.le_of_ble_eq_true rfl) ?_
  intro p e s m below meth c ls X hr hk hP hS hl
  have hx := X.1
  have hb := X.2.1
  have hl : lv_has ls 6 [(0, .ref (q 0)), (1, .int a1), (2, .int a2)] := hl
  rw [f_X12_mostAlike] at h
  have hL29 : ∀ (fu : Nat) (b3 : Int32) (b4 : Int32) (M : Mem) (res : (Int32) × Mem) (H : Heap) (locs : List Loc) (ls : Array Slot), f_X12_mostAlike_L29 a1 a2 fu b3 b4 M = some res → va_P D vwCl (wsG 20 (ceR cA q) q M) H → va_S (AqG 20 q) s.heap H locs → lv_has ls 6 [(0, .ref (q 0)), (1, .int a1), (2, .int a2), (3, .int b3), (4, .int b4)] → (∀ (H : Heap) (locs : List Loc) (ls : Array Slot), va_P D vwCl (wsG 20 (ceR cA q) q res.2) H → va_S (AqG 20 q) s.heap H locs → lv_has ls 6 [(3, .int (res.1))] → W p l e ({ frames := 7, cells := 0, slots := 0, locals := 155 } : Room) s m [.ref (q 0), .int a1, .int a2].toArray below meth c H locs 0 0 (MQ below (Qi 20 (ceR cA q) D q r0 M0) [.ref (q 0), .int a1, .int a2].toArray s 0 0 (AqG 20 q)) (F0 m 94 ls [])) → W p l e ({ frames := 7, cells := 0, slots := 0, locals := 155 } : Room) s m [.ref (q 0), .int a1, .int a2].toArray below meth c H locs 0 0 (MQ below (Qi 20 (ceR cA q) D q r0 M0) [.ref (q 0), .int a1, .int a2].toArray s 0 0 (AqG 20 q)) (F0 m 29 ls []) := by
    intro fu
    induction fu with
    | zero => intro b3 b4 M res H locs ls h; exact absurd h (by simp [f_X12_mostAlike_L29])
    | succ fu ih =>
      intro b3 b4 M res H locs ls h hP hS hl K29_0
      rw [f_X12_mostAlike_L29] at h
      refine lv_iload hx hb dX12_mostAlike_29 (lv_at hl 4 rfl) ?_
      refine lv_iconst (v := 1) hx hb dX12_mostAlike_31 (by decide) ?_
      refine lv_aload_n hx hb dX12_mostAlike_32 rfl (lv_at hl 0 rfl) ?_
      refine gfR_12_0 X hP sR_0 bw_1323 dX12_mostAlike_33 ?_
      refine lv_iconst (v := 3) hx hb dX12_mostAlike_36 (by decide) ?_
      refine ldR_ia X hP sR_1 zR_1 (by decide) dX12_mostAlike_37 ?_
      refine topE (y := (gI M 1 3)) rfl ?_
      refine lv_ishl hx hb dX12_mostAlike_38 ?_
      refine lv_icmp_ge (tgt := 94) hx hb dX12_mostAlike_39 (by decide) (fun c12 => ?_) (fun c12 => ?_)
      · rw [if_pos c12] at h
        cases h
        exact K29_0 _ _ _ hP hS (lv_sub hl [3] rfl)
      · rw [if_neg c12] at h
        refine lv_aload_n hx hb dX12_mostAlike_42 rfl (lv_at hl 0 rfl) ?_
        refine gfR_12_23 X hP sR_0 bw_1346 dX12_mostAlike_43 ?_
        refine lv_iload hx hb dX12_mostAlike_46 (lv_at hl 4 rfl) ?_
        obtain ⟨g13, h⟩ := gd_inv h
        refine ldR_za X hP sR_9 zR_9 g13 dX12_mostAlike_48 ?_
        refine lv_if_ne (tgt := 55) hx hb dX12_mostAlike_49 (by decide) (fun c14 => ?_) (fun c14 => ?_)
        · rw [if_neg c14] at h
          refine lv_aload_n hx hb dX12_mostAlike_55 rfl (lv_at hl 0 rfl) ?_
          refine lv_iload hx hb dX12_mostAlike_56 (lv_at hl 4 rfl) ?_
          refine lv_iload_n hx hb dX12_mostAlike_58 rfl (lv_at hl 1 rfl) ?_
          refine lv_iload_n hx hb dX12_mostAlike_59 rfl (lv_at hl 2 rfl) ?_
          obtain ⟨r15, M16, hc17, h⟩ := bnd_inv h
          refine gV_i (As := [.int b4, .int a1, .int a2]) X hP hS hl.1 (c_X12_wouldShow l D cA q aK aV hq hc17) sf_X12_wouldShow bw_1894 sv_X12_wouldShow (rcR_12 sR_0) rfl ⟨rfl, rfl⟩ ⟨Nat.le_of_ble_eq_true rfl, Nat.le_of_ble_eq_true rfl⟩ rfl rfl (Nat.le_of_ble_eq_true rfl) dX12_mostAlike_60 (fun H locs hP hS => ?_)
          refine lv_istore (lv' := [(5, .int r15), (0, .ref (q 0)), (1, .int a1), (2, .int a2), (3, .int b3), (4, .int b4)]) hx hb dX12_mostAlike_63 hl (by decide) rfl (fun ls hl => ?_)
          refine lv_aload_n hx hb dX12_mostAlike_65 rfl (lv_at hl 1 rfl) ?_
          refine gfR_12_25 X hP sR_0 bw_1348 dX12_mostAlike_66 ?_
          refine lv_iload hx hb dX12_mostAlike_69 (lv_at hl 0 rfl) ?_
          refine lv_dup2_11 hx hb dX12_mostAlike_71 rfl rfl ?_
          obtain ⟨g18, h⟩ := gd_inv h
          refine ldR_ia X hP sR_10 zR_10 g18 dX12_mostAlike_72 ?_
          refine lv_iconst (v := 1) hx hb dX12_mostAlike_73 (by decide) ?_
          refine lv_iadd hx hb dX12_mostAlike_74 ?_
          obtain ⟨g19, h⟩ := gd_inv h
          obtain ⟨M20, eM20, h⟩ := lt_inv h
          refine stR_ia X hP hS sR_10 zR_10 g19 eM20 dX12_mostAlike_75 (fun H locs hP hS => ?_)
          refine lv_iload_n hx hb dX12_mostAlike_76 rfl (lv_at hl 4 rfl) ?_
          refine lv_aload_n hx hb dX12_mostAlike_77 rfl (lv_at hl 1 rfl) ?_
          refine gfR_12_25 X hP sR_0 bw_1348 dX12_mostAlike_78 ?_
          refine lv_iload hx hb dX12_mostAlike_81 (lv_at hl 0 rfl) ?_
          obtain ⟨g21, h⟩ := gd_inv h
          refine ldR_ia X hP sR_10 zR_10 g21 dX12_mostAlike_83 ?_
          obtain ⟨y22, ey22, h⟩ := lt_inv h
          refine va_mmax hx hb (by rw [X.2.2.1]; exact hl.1.symm) X.2.2.2.1 (X.2.2.2.2.1 _ bw_1927) (X.2.2.2.2.1 _ bw_1177) (X.2.2.2.2.1 _ bw_18) (X.2.2.2.2.1 _ bw_1178) (Nat.le_of_ble_eq_true rfl) (Nat.le_of_ble_eq_true rfl) (Nat.zero_le _) (Nat.zero_le _) dX12_mostAlike_84 ?_
          refine topE ey22 ?_
          refine lv_istore_n (lv' := [(3, .int y22), (5, .int r15), (0, .ref (q 0)), (1, .int a1), (2, .int a2), (4, .int b4)]) hx hb dX12_mostAlike_87 rfl hl (by decide) rfl (fun ls hl => ?_)
          obtain ⟨y23, ey23, h⟩ := lt_inv h
          refine lv_iinc (v := y23) (lv' := [(4, .int y23), (3, .int y22), (5, .int r15), (0, .ref (q 0)), (1, .int a1), (2, .int a2)]) hx hb dX12_mostAlike_88 hl (k := 5) rfl (by rw [ey23]; rfl) (by decide) rfl (fun ls hl => ?_)
          refine lv_goto (tgt := 29) hx hb dX12_mostAlike_91 (by decide) ?_
          exact ih _ _ _ res _ _ _ h hP hS (lv_sub hl [3, 4, 5, 1, 0] rfl) K29_0
        · rw [if_pos c14] at h
          refine lv_goto (tgt := 88) hx hb dX12_mostAlike_52 (by decide) ?_
          obtain ⟨y24, ey24, h⟩ := lt_inv h
          refine lv_iinc (v := y24) (lv' := [(4, .int y24), (0, .ref (q 0)), (1, .int a1), (2, .int a2), (3, .int b3)]) hx hb dX12_mostAlike_88 hl (k := 4) rfl (by rw [ey24]; rfl) (by decide) rfl (fun ls hl => ?_)
          refine lv_goto (tgt := 29) hx hb dX12_mostAlike_91 (by decide) ?_
          exact ih _ _ _ res _ _ _ h hP hS (lv_sub hl [1, 2, 3, 4, 0] rfl) K29_0
  have hL5 : ∀ (b3 : Int32) (fu : Nat) (b4 : Int32) (M : Mem) (res : (Unit) × Mem) (H : Heap) (locs : List Loc) (ls : Array Slot), f_X12_mostAlike_L5 a1 a2 b3 fu b4 M = some res → va_P D vwCl (wsG 20 (ceR cA q) q M) H → va_S (AqG 20 q) s.heap H locs → lv_has ls 6 [(0, .ref (q 0)), (1, .int a1), (2, .int a2), (3, .int b3), (4, .int b4)] → (∀ (H : Heap) (locs : List Loc) (ls : Array Slot), va_P D vwCl (wsG 20 (ceR cA q) q res.2) H → va_S (AqG 20 q) s.heap H locs → lv_has ls 6 [(0, .ref (q 0)), (1, .int a1), (2, .int a2), (3, .int b3)] → W p l e ({ frames := 7, cells := 0, slots := 0, locals := 155 } : Room) s m [.ref (q 0), .int a1, .int a2].toArray below meth c H locs 0 0 (MQ below (Qi 20 (ceR cA q) D q r0 M0) [.ref (q 0), .int a1, .int a2].toArray s 0 0 (AqG 20 q)) (F0 m 26 ls [])) → W p l e ({ frames := 7, cells := 0, slots := 0, locals := 155 } : Room) s m [.ref (q 0), .int a1, .int a2].toArray below meth c H locs 0 0 (MQ below (Qi 20 (ceR cA q) D q r0 M0) [.ref (q 0), .int a1, .int a2].toArray s 0 0 (AqG 20 q)) (F0 m 5 ls []) := by
    intro b3 fu
    induction fu with
    | zero => intro b4 M res H locs ls h; exact absurd h (by simp [f_X12_mostAlike_L5])
    | succ fu ih =>
      intro b4 M res H locs ls h hP hS hl K5_0
      rw [f_X12_mostAlike_L5] at h
      refine lv_iload hx hb dX12_mostAlike_5 (lv_at hl 4 rfl) ?_
      refine lv_bipush (v := 7) hx hb dX12_mostAlike_7 (by decide) ?_
      refine lv_icmp_ge (tgt := 26) hx hb dX12_mostAlike_9 (by decide) (fun c8 => ?_) (fun c8 => ?_)
      · rw [if_pos c8] at h
        cases h
        exact K5_0 _ _ _ hP hS (lv_sub hl [0, 1, 2, 3] rfl)
      · rw [if_neg c8] at h
        refine lv_aload_n hx hb dX12_mostAlike_12 rfl (lv_at hl 0 rfl) ?_
        refine gfR_12_25 X hP sR_0 bw_1348 dX12_mostAlike_13 ?_
        refine lv_iload hx hb dX12_mostAlike_16 (lv_at hl 4 rfl) ?_
        refine lv_iconst (v := 0) hx hb dX12_mostAlike_18 (by decide) ?_
        obtain ⟨g9, h⟩ := gd_inv h
        obtain ⟨M10, eM10, h⟩ := lt_inv h
        refine stR_ia X hP hS sR_10 zR_10 g9 eM10 dX12_mostAlike_19 (fun H locs hP hS => ?_)
        obtain ⟨y11, ey11, h⟩ := lt_inv h
        refine lv_iinc (v := y11) (lv' := [(4, .int y11), (0, .ref (q 0)), (1, .int a1), (2, .int a2), (3, .int b3)]) hx hb dX12_mostAlike_20 hl (k := 4) rfl (by rw [ey11]; rfl) (by decide) rfl (fun ls hl => ?_)
        refine lv_goto (tgt := 5) hx hb dX12_mostAlike_23 (by decide) ?_
        exact ih _ _ res _ _ _ h hP hS (lv_sub hl [1, 2, 3, 4, 0] rfl) K5_0
  refine lv_iconst (v := 0) hx hb dX12_mostAlike_0 (by decide) ?_
  refine lv_istore_n (lv' := [(3, .int (0 : Int32)), (0, .ref (q 0)), (1, .int a1), (2, .int a2)]) hx hb dX12_mostAlike_1 rfl hl (by decide) rfl (fun ls hl => ?_)
  refine lv_iconst (v := 0) hx hb dX12_mostAlike_2 (by decide) ?_
  refine lv_istore (lv' := [(4, .int (0 : Int32)), (3, .int (0 : Int32)), (0, .ref (q 0)), (1, .int a1), (2, .int a2)]) hx hb dX12_mostAlike_3 hl (by decide) rfl (fun ls hl => ?_)
  obtain ⟨s1, M2, hc3, h⟩ := bnd_inv h
  try dsimp only at h
  refine hL5 _ fz _ _ _ _ _ _ hc3 hP hS (lv_sub hl [2, 3, 4, 1, 0] rfl) (fun H locs ls hP hS hl => ?_)
  have hl : lv_has ls 6 [(0, .ref (q 0)), (1, .int a1), (2, .int a2), (3, .int (0 : Int32))] := hl
  refine lv_iconst (v := 0) hx hb dX12_mostAlike_26 (by decide) ?_
  refine lv_istore (lv' := [(4, .int (0 : Int32)), (0, .ref (q 0)), (1, .int a1), (2, .int a2), (3, .int (0 : Int32))]) hx hb dX12_mostAlike_27 hl (by decide) rfl (fun ls hl => ?_)
  obtain ⟨s4, M5, hc6, h⟩ := bnd_inv h
  obtain ⟨x7, rfl⟩ : ∃ z, z = s4 := ⟨_, rfl⟩
  try dsimp only at h
  refine hL29  fz _ _ _ _ _ _ _ hc6 hP hS (lv_sub hl [1, 2, 3, 4, 0] rfl) (fun H locs ls hP hS hl => ?_)
  have hl : lv_has ls 6 [(3, .int x7)] := hl
  refine lv_iload_n hx hb dX12_mostAlike_94 rfl (lv_at hl 0 rfl) ?_
  exact end_i X hr hk hP hS h dX12_mostAlike_95
theorem dX12_ask_0 : decode cX12_ask 0 = .ok (.iload_n 3, 1) := by decide +kernel
theorem dX12_ask_1 : decode cX12_ask 1 = .ok (.ifCond .lt 8, 3) := by decide +kernel
theorem dX12_ask_4 : decode cX12_ask 4 = .ok (.iload_n 3, 1) := by decide +kernel
theorem dX12_ask_5 : decode cX12_ask 5 = .ok (.iconst 1, 1) := by decide +kernel
theorem dX12_ask_6 : decode cX12_ask 6 = .ok (.if_icmp .le 7, 3) := by decide +kernel
theorem dX12_ask_9 : decode cX12_ask 9 = .ok (.iconst 1, 1) := by decide +kernel
theorem dX12_ask_10 : decode cX12_ask 10 = .ok (.goto 9, 3) := by decide +kernel
theorem dX12_ask_13 : decode cX12_ask 13 = .ok (.aload_n 0, 1) := by decide +kernel
theorem dX12_ask_14 : decode cX12_ask 14 = .ok (.iload_n 1, 1) := by decide +kernel
theorem dX12_ask_15 : decode cX12_ask 15 = .ok (.iload_n 2, 1) := by decide +kernel
theorem dX12_ask_16 : decode cX12_ask 16 = .ok (.invokevirtual 395, 3) := by decide +kernel
theorem dX12_ask_19 : decode cX12_ask 19 = .ok (.istore 4, 2) := by decide +kernel
theorem dX12_ask_21 : decode cX12_ask 21 = .ok (.iload 4, 2) := by decide +kernel
theorem dX12_ask_23 : decode cX12_ask 23 = .ok (.ifCond .le 10, 3) := by decide +kernel
theorem dX12_ask_26 : decode cX12_ask 26 = .ok (.aload_n 0, 1) := by decide +kernel
theorem dX12_ask_27 : decode cX12_ask 27 = .ok (.iload 4, 2) := by decide +kernel
theorem dX12_ask_29 : decode cX12_ask 29 = .ok (.invokevirtual 91, 3) := by decide +kernel
theorem dX12_ask_32 : decode cX12_ask 32 = .ok (.ireturn, 1) := by decide +kernel
theorem dX12_ask_33 : decode cX12_ask 33 = .ok (.aload_n 0, 1) := by decide +kernel
theorem dX12_ask_34 : decode cX12_ask 34 = .ok (.iload_n 1, 1) := by decide +kernel
theorem dX12_ask_35 : decode cX12_ask 35 = .ok (.iload_n 2, 1) := by decide +kernel
theorem dX12_ask_36 : decode cX12_ask 36 = .ok (.invokevirtual 398, 3) := by decide +kernel
theorem dX12_ask_39 : decode cX12_ask 39 = .ok (.aload_n 0, 1) := by decide +kernel
theorem dX12_ask_40 : decode cX12_ask 40 = .ok (.getfield 389, 3) := by decide +kernel
theorem dX12_ask_43 : decode cX12_ask 43 = .ok (.iconst 2, 1) := by decide +kernel
theorem dX12_ask_44 : decode cX12_ask 44 = .ok (.if_icmp .ge 10, 3) := by decide +kernel
theorem dX12_ask_47 : decode cX12_ask 47 = .ok (.aload_n 0, 1) := by decide +kernel
theorem dX12_ask_48 : decode cX12_ask 48 = .ok (.bipush 6, 2) := by decide +kernel
theorem dX12_ask_50 : decode cX12_ask 50 = .ok (.invokevirtual 91, 3) := by decide +kernel
theorem dX12_ask_53 : decode cX12_ask 53 = .ok (.ireturn, 1) := by decide +kernel
theorem dX12_ask_54 : decode cX12_ask 54 = .ok (.ldc_w 412, 3) := by decide +kernel
theorem dX12_ask_57 : decode cX12_ask 57 = .ok (.istore 5, 2) := by decide +kernel
theorem dX12_ask_59 : decode cX12_ask 59 = .ok (.iconst 0, 1) := by decide +kernel
theorem dX12_ask_60 : decode cX12_ask 60 = .ok (.istore 6, 2) := by decide +kernel
theorem dX12_ask_62 : decode cX12_ask 62 = .ok (.iconst 0, 1) := by decide +kernel
theorem dX12_ask_63 : decode cX12_ask 63 = .ok (.istore 7, 2) := by decide +kernel
theorem dX12_ask_65 : decode cX12_ask 65 = .ok (.iload 7, 2) := by decide +kernel
theorem dX12_ask_67 : decode cX12_ask 67 = .ok (.bipush 10, 2) := by decide +kernel
theorem dX12_ask_69 : decode cX12_ask 69 = .ok (.aload_n 0, 1) := by decide +kernel
theorem dX12_ask_70 : decode cX12_ask 70 = .ok (.getfield 7, 3) := by decide +kernel
theorem dX12_ask_73 : decode cX12_ask 73 = .ok (.iconst 3, 1) := by decide +kernel
theorem dX12_ask_74 : decode cX12_ask 74 = .ok (.iaload, 1) := by decide +kernel
theorem dX12_ask_75 : decode cX12_ask 75 = .ok (.imul, 1) := by decide +kernel
theorem dX12_ask_76 : decode cX12_ask 76 = .ok (.if_icmp .ge 43, 3) := by decide +kernel
theorem dX12_ask_79 : decode cX12_ask 79 = .ok (.aload_n 0, 1) := by decide +kernel
theorem dX12_ask_80 : decode cX12_ask 80 = .ok (.iload 7, 2) := by decide +kernel
theorem dX12_ask_82 : decode cX12_ask 82 = .ok (.bipush 10, 2) := by decide +kernel
theorem dX12_ask_84 : decode cX12_ask 84 = .ok (.idiv, 1) := by decide +kernel
theorem dX12_ask_85 : decode cX12_ask 85 = .ok (.iload 7, 2) := by decide +kernel
theorem dX12_ask_87 : decode cX12_ask 87 = .ok (.bipush 10, 2) := by decide +kernel
theorem dX12_ask_89 : decode cX12_ask 89 = .ok (.irem, 1) := by decide +kernel
theorem dX12_ask_90 : decode cX12_ask 90 = .ok (.invokevirtual 413, 3) := by decide +kernel
theorem dX12_ask_93 : decode cX12_ask 93 = .ok (.istore 8, 2) := by decide +kernel
theorem dX12_ask_95 : decode cX12_ask 95 = .ok (.iload 8, 2) := by decide +kernel
theorem dX12_ask_97 : decode cX12_ask 97 = .ok (.iload 5, 2) := by decide +kernel
theorem dX12_ask_99 : decode cX12_ask 99 = .ok (.if_icmp .lt 6, 3) := by decide +kernel
theorem dX12_ask_102 : decode cX12_ask 102 = .ok (.goto 11, 3) := by decide +kernel
theorem dX12_ask_105 : decode cX12_ask 105 = .ok (.iload 8, 2) := by decide +kernel
theorem dX12_ask_107 : decode cX12_ask 107 = .ok (.istore 5, 2) := by decide +kernel
theorem dX12_ask_109 : decode cX12_ask 109 = .ok (.iload 7, 2) := by decide +kernel
theorem dX12_ask_111 : decode cX12_ask 111 = .ok (.istore 6, 2) := by decide +kernel
theorem dX12_ask_113 : decode cX12_ask 113 = .ok (.iinc 7 1, 3) := by decide +kernel
theorem dX12_ask_116 : decode cX12_ask 116 = .ok (.goto (-51), 3) := by decide +kernel
theorem dX12_ask_119 : decode cX12_ask 119 = .ok (.aload_n 0, 1) := by decide +kernel
theorem dX12_ask_120 : decode cX12_ask 120 = .ok (.iload_n 3, 1) := by decide +kernel
theorem dX12_ask_121 : decode cX12_ask 121 = .ok (.ifCond .ne 11, 3) := by decide +kernel
theorem dX12_ask_124 : decode cX12_ask 124 = .ok (.iload 6, 2) := by decide +kernel
theorem dX12_ask_126 : decode cX12_ask 126 = .ok (.bipush 10, 2) := by decide +kernel
theorem dX12_ask_128 : decode cX12_ask 128 = .ok (.idiv, 1) := by decide +kernel
theorem dX12_ask_129 : decode cX12_ask 129 = .ok (.goto 8, 3) := by decide +kernel
theorem dX12_ask_132 : decode cX12_ask 132 = .ok (.iload 6, 2) := by decide +kernel
theorem dX12_ask_134 : decode cX12_ask 134 = .ok (.bipush 10, 2) := by decide +kernel
theorem dX12_ask_136 : decode cX12_ask 136 = .ok (.irem, 1) := by decide +kernel
theorem dX12_ask_137 : decode cX12_ask 137 = .ok (.invokevirtual 95, 3) := by decide +kernel
theorem dX12_ask_140 : decode cX12_ask 140 = .ok (.ireturn, 1) := by decide +kernel
set_option maxRecDepth 100000 in
set_option maxHeartbeats 8000000 in
theorem c_X12_ask (l : Launch) (D : va_G) (cA : Nat → ClassId) (q aK aV : Nat → Nat) (hq : injG 20 q) {a1 : Int32} {a2 : Int32} {a3 : Int32} {M M0 : Mem} {r0 : Int32} (h : f_X12_ask a1 a2 a3 M = some (r0, M0)) : Met l yX12_ask (.code yX12_ask cX12_ask 9 (some .int) :: BW) ({ frames := 9, cells := 0, slots := 0, locals := 203 } : Room) (va_Pc [.ref (q 0), .int a1, .int a2, .int a3] (CB 20 (ceR cA q) D cA q aK aV M)) (Qi 20 (ceR cA q) D q r0 M0) 0 0 (AqG 20 q) := by
  refine gMet RX12 (by decide +kernel) rfl hq (Nat.le_of_ble_eq_true rfl) ?_
  intro p e s m below meth c ls X hr hk hP hS hl
  have hx := X.1
  have hb := X.2.1
  have hl : lv_has ls 9 [(0, .ref (q 0)), (1, .int a1), (2, .int a2), (3, .int a3)] := hl
  rw [f_X12_ask] at h
  have hL65 : ∀ (fu : Nat) (b5 : Int32) (b6 : Int32) (b7 : Int32) (M : Mem) (res : (Int32) × Mem) (H : Heap) (locs : List Loc) (ls : Array Slot), f_X12_ask_L65 a3 fu b5 b6 b7 M = some res → va_P D vwCl (wsG 20 (ceR cA q) q M) H → va_S (AqG 20 q) s.heap H locs → lv_has ls 9 [(0, .ref (q 0)), (3, .int a3), (5, .int b5), (6, .int b6), (7, .int b7)] → (∀ (H : Heap) (locs : List Loc) (ls : Array Slot), va_P D vwCl (wsG 20 (ceR cA q) q res.2) H → va_S (AqG 20 q) s.heap H locs → lv_has ls 9 [(0, .ref (q 0)), (3, .int a3), (6, .int (res.1))] → W p l e ({ frames := 9, cells := 0, slots := 0, locals := 203 } : Room) s m [.ref (q 0), .int a1, .int a2, .int a3].toArray below meth c H locs 0 0 (MQ below (Qi 20 (ceR cA q) D q r0 M0) [.ref (q 0), .int a1, .int a2, .int a3].toArray s 0 0 (AqG 20 q)) (F0 m 119 ls [])) → W p l e ({ frames := 9, cells := 0, slots := 0, locals := 203 } : Room) s m [.ref (q 0), .int a1, .int a2, .int a3].toArray below meth c H locs 0 0 (MQ below (Qi 20 (ceR cA q) D q r0 M0) [.ref (q 0), .int a1, .int a2, .int a3].toArray s 0 0 (AqG 20 q)) (F0 m 65 ls []) := by
    intro fu
    induction fu with
    | zero => intro b5 b6 b7 M res H locs ls h; exact absurd h (by simp [f_X12_ask_L65])
    | succ fu ih =>
      intro b5 b6 b7 M res H locs ls h hP hS hl K65_0
      rw [f_X12_ask_L65] at h
      refine lv_iload hx hb dX12_ask_65 (lv_at hl 4 rfl) ?_
      refine lv_bipush (v := 10) hx hb dX12_ask_67 (by decide) ?_
      refine lv_aload_n hx hb dX12_ask_69 rfl (lv_at hl 0 rfl) ?_
      refine gfR_12_0 X hP sR_0 bw_1323 dX12_ask_70 ?_
      refine lv_iconst (v := 3) hx hb dX12_ask_73 (by decide) ?_
      refine ldR_ia X hP sR_1 zR_1 (by decide) dX12_ask_74 ?_
      refine topE (y := (gI M 1 3)) rfl ?_
      refine lv_imul hx hb dX12_ask_75 ?_
      refine lv_icmp_ge (tgt := 119) hx hb dX12_ask_76 (by decide) (fun c28 => ?_) (fun c28 => ?_)
      · rw [if_pos c28] at h
        cases h
        exact K65_0 _ _ _ hP hS (lv_sub hl [0, 1, 3] rfl)
      · rw [if_neg c28] at h
        refine lv_aload_n hx hb dX12_ask_79 rfl (lv_at hl 0 rfl) ?_
        refine lv_iload hx hb dX12_ask_80 (lv_at hl 4 rfl) ?_
        refine lv_bipush (v := 10) hx hb dX12_ask_82 (by decide) ?_
        refine lv_idiv hx hb dX12_ask_84 (by decide) ?_
        refine lv_iload hx hb dX12_ask_85 (lv_at hl 4 rfl) ?_
        refine lv_bipush (v := 10) hx hb dX12_ask_87 (by decide) ?_
        refine lv_irem hx hb dX12_ask_89 (by decide) ?_
        obtain ⟨r29, M30, hc31, h⟩ := bnd_inv h
        refine gV_i (As := [.int (b7 / (10 : Int32)), .int (b7 - b7 / (10 : Int32) * (10 : Int32))]) X hP hS hl.1 (c_X12_mostAlike l D cA q aK aV hq hc31) sf_X12_mostAlike bw_1923 sv_X12_mostAlike (rcR_12 sR_0) rfl ⟨rfl, rfl⟩ ⟨Nat.le_of_ble_eq_true rfl, Nat.le_of_ble_eq_true rfl⟩ rfl rfl (Nat.le_of_ble_eq_true rfl) dX12_ask_90 (fun H locs hP hS => ?_)
        refine lv_istore (lv' := [(8, .int r29), (0, .ref (q 0)), (3, .int a3), (5, .int b5), (6, .int b6), (7, .int b7)]) hx hb dX12_ask_93 hl (by decide) rfl (fun ls hl => ?_)
        refine lv_iload hx hb dX12_ask_95 (lv_at hl 0 rfl) ?_
        refine lv_iload hx hb dX12_ask_97 (lv_at hl 3 rfl) ?_
        refine lv_icmp_lt (tgt := 105) hx hb dX12_ask_99 (by decide) (fun c32 => ?_) (fun c32 => ?_)
        · rw [if_pos c32] at h
          refine lv_iload hx hb dX12_ask_105 (lv_at hl 0 rfl) ?_
          refine lv_istore (lv' := [(5, .int r29), (8, .int r29), (0, .ref (q 0)), (3, .int a3), (6, .int b6), (7, .int b7)]) hx hb dX12_ask_107 hl (by decide) rfl (fun ls hl => ?_)
          refine lv_iload hx hb dX12_ask_109 (lv_at hl 5 rfl) ?_
          refine lv_istore (lv' := [(6, .int b7), (5, .int r29), (8, .int r29), (0, .ref (q 0)), (3, .int a3), (7, .int b7)]) hx hb dX12_ask_111 hl (by decide) rfl (fun ls hl => ?_)
          obtain ⟨y33, ey33, h⟩ := lt_inv h
          refine lv_iinc (v := y33) (lv' := [(7, .int y33), (6, .int b7), (5, .int r29), (8, .int r29), (0, .ref (q 0)), (3, .int a3)]) hx hb dX12_ask_113 hl (k := 5) rfl (by rw [ey33]; rfl) (by decide) rfl (fun ls hl => ?_)
          refine lv_goto (tgt := 65) hx hb dX12_ask_116 (by decide) ?_
          exact ih _ _ _ _ res _ _ _ h hP hS (lv_sub hl [4, 5, 2, 1, 0] rfl) K65_0
        · rw [if_neg c32] at h
          refine lv_goto (tgt := 113) hx hb dX12_ask_102 (by decide) ?_
          obtain ⟨y34, ey34, h⟩ := lt_inv h
          refine lv_iinc (v := y34) (lv' := [(7, .int y34), (8, .int r29), (0, .ref (q 0)), (3, .int a3), (5, .int b5), (6, .int b6)]) hx hb dX12_ask_113 hl (k := 5) rfl (by rw [ey34]; rfl) (by decide) rfl (fun ls hl => ?_)
          refine lv_goto (tgt := 65) hx hb dX12_ask_116 (by decide) ?_
          exact ih _ _ _ _ res _ _ _ h hP hS (lv_sub hl [2, 3, 4, 5, 0] rfl) K65_0
  have hJ19 : ∀ (s0 : Int32) (M : Mem) (H : Heap) (locs : List Loc) (ls : Array Slot), f_X12_ask_J19 a1 a2 a3 s0 M = some (r0, M0) → va_P D vwCl (wsG 20 (ceR cA q) q M) H → va_S (AqG 20 q) s.heap H locs → lv_has ls 9 [(0, .ref (q 0)), (1, .int a1), (2, .int a2), (3, .int a3)] → W p l e ({ frames := 9, cells := 0, slots := 0, locals := 203 } : Room) s m [.ref (q 0), .int a1, .int a2, .int a3].toArray below meth c H locs 0 0 (MQ below (Qi 20 (ceR cA q) D q r0 M0) [.ref (q 0), .int a1, .int a2, .int a3].toArray s 0 0 (AqG 20 q)) (F0 m 19 ls [.int s0]) := by
    intro s0 M H locs ls h hP hS hl
    rw [f_X12_ask_J19] at h
    refine lv_istore (lv' := [(4, .int s0), (0, .ref (q 0)), (1, .int a1), (2, .int a2), (3, .int a3)]) hx hb dX12_ask_19 hl (by decide) rfl (fun ls hl => ?_)
    refine lv_iload hx hb dX12_ask_21 (lv_at hl 0 rfl) ?_
    refine lv_if_le (tgt := 33) hx hb dX12_ask_23 (by decide) (fun c6 => ?_) (fun c6 => ?_)
    · rw [if_pos c6] at h
      refine lv_aload_n hx hb dX12_ask_33 rfl (lv_at hl 1 rfl) ?_
      refine lv_iload_n hx hb dX12_ask_34 rfl (lv_at hl 2 rfl) ?_
      refine lv_iload_n hx hb dX12_ask_35 rfl (lv_at hl 3 rfl) ?_
      obtain ⟨_, M8, hc9, h⟩ := bnd_inv h
      refine gV_v (As := [.int a1, .int a2]) X hP hS hl.1 (c_X12_laysFits l D cA q aK aV hq hc9) sf_X12_laysFits bw_1886 sv_X12_laysFits (rcR_12 sR_0) rfl ⟨rfl, rfl⟩ ⟨Nat.le_of_ble_eq_true rfl, Nat.le_of_ble_eq_true rfl⟩ rfl rfl (Nat.le_of_ble_eq_true rfl) dX12_ask_36 (fun H locs hP hS => ?_)
      refine lv_aload_n hx hb dX12_ask_39 rfl (lv_at hl 1 rfl) ?_
      refine gfR_12_24 X hP sR_0 bw_1347 dX12_ask_40 ?_
      refine lv_iconst (v := 2) hx hb dX12_ask_43 (by decide) ?_
      refine lv_icmp_ge (tgt := 54) hx hb dX12_ask_44 (by decide) (fun c10 => ?_) (fun c10 => ?_)
      · rw [if_pos c10] at h
        refine lv_ldcw hx hb X.2.2.2.1 (X.2.2.2.2.1 _ bw_1922) dX12_ask_54 ?_
        refine lv_istore (lv' := [(5, .int (1000000 : Int32)), (4, .int s0), (0, .ref (q 0)), (1, .int a1), (2, .int a2), (3, .int a3)]) hx hb dX12_ask_57 hl (by decide) rfl (fun ls hl => ?_)
        refine lv_iconst (v := 0) hx hb dX12_ask_59 (by decide) ?_
        refine lv_istore (lv' := [(6, .int (0 : Int32)), (5, .int (1000000 : Int32)), (4, .int s0), (0, .ref (q 0)), (1, .int a1), (2, .int a2), (3, .int a3)]) hx hb dX12_ask_60 hl (by decide) rfl (fun ls hl => ?_)
        refine lv_iconst (v := 0) hx hb dX12_ask_62 (by decide) ?_
        refine lv_istore (lv' := [(7, .int (0 : Int32)), (6, .int (0 : Int32)), (5, .int (1000000 : Int32)), (4, .int s0), (0, .ref (q 0)), (1, .int a1), (2, .int a2), (3, .int a3)]) hx hb dX12_ask_63 hl (by decide) rfl (fun ls hl => ?_)
        obtain ⟨s11, M12, hc13, h⟩ := bnd_inv h
        obtain ⟨x14, rfl⟩ : ∃ z, z = s11 := ⟨_, rfl⟩
        try dsimp only at h
        refine hL65  fz _ _ _ _ _ _ _ _ hc13 hP hS (lv_sub hl [4, 7, 2, 1, 0] rfl) (fun H locs ls hP hS hl => ?_)
        have hl : lv_has ls 9 [(0, .ref (q 0)), (3, .int a3), (6, .int x14)] := hl
        refine lv_aload_n hx hb dX12_ask_119 rfl (lv_at hl 0 rfl) ?_
        refine lv_iload_n hx hb dX12_ask_120 rfl (lv_at hl 1 rfl) ?_
        refine lv_if_ne (tgt := 132) hx hb dX12_ask_121 (by decide) (fun c15 => ?_) (fun c15 => ?_)
        · rw [if_neg c15] at h
          refine lv_iload hx hb dX12_ask_132 (lv_at hl 2 rfl) ?_
          refine lv_bipush (v := 10) hx hb dX12_ask_134 (by decide) ?_
          refine lv_irem hx hb dX12_ask_136 (by decide) ?_
          obtain ⟨r16, M17, hc18, h⟩ := bnd_inv h
          refine gV_i (As := [.int (x14 - x14 / (10 : Int32) * (10 : Int32))]) X hP hS hl.1 (c_X12_gives l D cA q aK aV hq hc18) sf_X12_gives bw_1639 sv_X12_gives (rcR_12 sR_0) rfl ⟨rfl, rfl⟩ ⟨Nat.le_of_ble_eq_true rfl, Nat.le_of_ble_eq_true rfl⟩ rfl rfl (Nat.le_of_ble_eq_true rfl) dX12_ask_137 (fun H locs hP hS => ?_)
          exact end_i X hr hk hP hS h dX12_ask_140
        · rw [if_pos c15] at h
          refine lv_iload hx hb dX12_ask_124 (lv_at hl 2 rfl) ?_
          refine lv_bipush (v := 10) hx hb dX12_ask_126 (by decide) ?_
          refine lv_idiv hx hb dX12_ask_128 (by decide) ?_
          refine lv_goto (tgt := 137) hx hb dX12_ask_129 (by decide) ?_
          obtain ⟨r19, M20, hc21, h⟩ := bnd_inv h
          refine gV_i (As := [.int (x14 / (10 : Int32))]) X hP hS hl.1 (c_X12_gives l D cA q aK aV hq hc21) sf_X12_gives bw_1639 sv_X12_gives (rcR_12 sR_0) rfl ⟨rfl, rfl⟩ ⟨Nat.le_of_ble_eq_true rfl, Nat.le_of_ble_eq_true rfl⟩ rfl rfl (Nat.le_of_ble_eq_true rfl) dX12_ask_137 (fun H locs hP hS => ?_)
          exact end_i X hr hk hP hS h dX12_ask_140
      · rw [if_neg c10] at h
        refine lv_aload_n hx hb dX12_ask_47 rfl (lv_at hl 1 rfl) ?_
        refine lv_bipush (v := 6) hx hb dX12_ask_48 (by decide) ?_
        obtain ⟨r22, M23, hc24, h⟩ := bnd_inv h
        refine gV_i (As := [.int (6 : Int32)]) X hP hS hl.1 (c_X12_refuse l D cA q aK aV hq hc24) sf_X12_refuse bw_1530 sv_X12_refuse (rcR_12 sR_0) rfl ⟨rfl, rfl⟩ ⟨Nat.le_of_ble_eq_true rfl, Nat.le_of_ble_eq_true rfl⟩ rfl rfl (Nat.le_of_ble_eq_true rfl) dX12_ask_50 (fun H locs hP hS => ?_)
        exact end_i X hr hk hP hS h dX12_ask_53
    · rw [if_neg c6] at h
      refine lv_aload_n hx hb dX12_ask_26 rfl (lv_at hl 1 rfl) ?_
      refine lv_iload hx hb dX12_ask_27 (lv_at hl 0 rfl) ?_
      obtain ⟨r25, M26, hc27, h⟩ := bnd_inv h
      refine gV_i (As := [.int s0]) X hP hS hl.1 (c_X12_refuse l D cA q aK aV hq hc27) sf_X12_refuse bw_1530 sv_X12_refuse (rcR_12 sR_0) rfl ⟨rfl, rfl⟩ ⟨Nat.le_of_ble_eq_true rfl, Nat.le_of_ble_eq_true rfl⟩ rfl rfl (Nat.le_of_ble_eq_true rfl) dX12_ask_29 (fun H locs hP hS => ?_)
      exact end_i X hr hk hP hS h dX12_ask_32
  have hJ9 : ∀ (M : Mem) (H : Heap) (locs : List Loc) (ls : Array Slot), f_X12_ask_J9 a1 a2 a3 M = some (r0, M0) → va_P D vwCl (wsG 20 (ceR cA q) q M) H → va_S (AqG 20 q) s.heap H locs → lv_has ls 9 [(0, .ref (q 0)), (1, .int a1), (2, .int a2), (3, .int a3)] → W p l e ({ frames := 9, cells := 0, slots := 0, locals := 203 } : Room) s m [.ref (q 0), .int a1, .int a2, .int a3].toArray below meth c H locs 0 0 (MQ below (Qi 20 (ceR cA q) D q r0 M0) [.ref (q 0), .int a1, .int a2, .int a3].toArray s 0 0 (AqG 20 q)) (F0 m 9 ls []) := by
    intro M H locs ls h hP hS hl
    rw [f_X12_ask_J9] at h
    refine lv_iconst (v := 1) hx hb dX12_ask_9 (by decide) ?_
    refine lv_goto (tgt := 19) hx hb dX12_ask_10 (by decide) ?_
    exact hJ19 _ _ _ _ _ h hP hS (lv_sub hl [0, 1, 2, 3] rfl)
  refine lv_iload_n hx hb dX12_ask_0 rfl (lv_at hl 3 rfl) ?_
  refine lv_if_lt (tgt := 9) hx hb dX12_ask_1 (by decide) (fun c1 => ?_) (fun c1 => ?_)
  · rw [if_pos c1] at h
    exact hJ9  _ _ _ _ h hP hS (lv_sub hl [0, 1, 2, 3] rfl)
  · rw [if_neg c1] at h
    refine lv_iload_n hx hb dX12_ask_4 rfl (lv_at hl 3 rfl) ?_
    refine lv_iconst (v := 1) hx hb dX12_ask_5 (by decide) ?_
    refine lv_icmp_le (tgt := 13) hx hb dX12_ask_6 (by decide) (fun c2 => ?_) (fun c2 => ?_)
    · rw [if_pos c2] at h
      refine lv_aload_n hx hb dX12_ask_13 rfl (lv_at hl 0 rfl) ?_
      refine lv_iload_n hx hb dX12_ask_14 rfl (lv_at hl 1 rfl) ?_
      refine lv_iload_n hx hb dX12_ask_15 rfl (lv_at hl 2 rfl) ?_
      obtain ⟨r3, M4, hc5, h⟩ := bnd_inv h
      refine gV_i (As := [.int a1, .int a2]) X hP hS hl.1 (c_X12_wrongSeen l D cA q aK aV hq hc5) sf_X12_wrongSeen bw_1881 sv_X12_wrongSeen (rcR_12 sR_0) rfl ⟨rfl, rfl⟩ ⟨Nat.le_of_ble_eq_true rfl, Nat.le_of_ble_eq_true rfl⟩ rfl rfl (Nat.le_of_ble_eq_true rfl) dX12_ask_16 (fun H locs hP hS => ?_)
      exact hJ19 _ _ _ _ _ h hP hS (lv_sub hl [0, 1, 2, 3] rfl)
    · rw [if_neg c2] at h
      exact hJ9  _ _ _ _ h hP hS (lv_sub hl [0, 1, 2, 3] rfl)
theorem dX12_laysLeast_0 : decode cX12_laysLeast 0 = .ok (.aload_n 0, 1) := by decide +kernel
theorem dX12_laysLeast_1 : decode cX12_laysLeast 1 = .ok (.ldc_w 412, 3) := by decide +kernel
theorem dX12_laysLeast_4 : decode cX12_laysLeast 4 = .ok (.putfield 416, 3) := by decide +kernel
theorem dX12_laysLeast_7 : decode cX12_laysLeast 7 = .ok (.iconst 0, 1) := by decide +kernel
theorem dX12_laysLeast_8 : decode cX12_laysLeast 8 = .ok (.istore_n 3, 1) := by decide +kernel
theorem dX12_laysLeast_9 : decode cX12_laysLeast 9 = .ok (.iload_n 3, 1) := by decide +kernel
theorem dX12_laysLeast_10 : decode cX12_laysLeast 10 = .ok (.bipush 20, 2) := by decide +kernel
theorem dX12_laysLeast_12 : decode cX12_laysLeast 12 = .ok (.if_icmp .gt 118, 3) := by decide +kernel
theorem dX12_laysLeast_15 : decode cX12_laysLeast 15 = .ok (.aload_n 0, 1) := by decide +kernel
theorem dX12_laysLeast_16 : decode cX12_laysLeast 16 = .ok (.iload_n 1, 1) := by decide +kernel
theorem dX12_laysLeast_17 : decode cX12_laysLeast 17 = .ok (.iconst 0, 1) := by decide +kernel
theorem dX12_laysLeast_18 : decode cX12_laysLeast 18 = .ok (.invokevirtual 281, 3) := by decide +kernel
theorem dX12_laysLeast_21 : decode cX12_laysLeast 21 = .ok (.iload_n 3, 1) := by decide +kernel
theorem dX12_laysLeast_22 : decode cX12_laysLeast 22 = .ok (.iadd, 1) := by decide +kernel
theorem dX12_laysLeast_23 : decode cX12_laysLeast 23 = .ok (.istore 4, 2) := by decide +kernel
theorem dX12_laysLeast_25 : decode cX12_laysLeast 25 = .ok (.iconst 0, 1) := by decide +kernel
theorem dX12_laysLeast_26 : decode cX12_laysLeast 26 = .ok (.istore 5, 2) := by decide +kernel
theorem dX12_laysLeast_28 : decode cX12_laysLeast 28 = .ok (.iload 5, 2) := by decide +kernel
theorem dX12_laysLeast_30 : decode cX12_laysLeast 30 = .ok (.iconst 1, 1) := by decide +kernel
theorem dX12_laysLeast_31 : decode cX12_laysLeast 31 = .ok (.aload_n 0, 1) := by decide +kernel
theorem dX12_laysLeast_32 : decode cX12_laysLeast 32 = .ok (.getfield 7, 3) := by decide +kernel
theorem dX12_laysLeast_35 : decode cX12_laysLeast 35 = .ok (.iconst 0, 1) := by decide +kernel
theorem dX12_laysLeast_36 : decode cX12_laysLeast 36 = .ok (.iaload, 1) := by decide +kernel
theorem dX12_laysLeast_37 : decode cX12_laysLeast 37 = .ok (.ishl, 1) := by decide +kernel
theorem dX12_laysLeast_38 : decode cX12_laysLeast 38 = .ok (.if_icmp .ge 86, 3) := by decide +kernel
theorem dX12_laysLeast_41 : decode cX12_laysLeast 41 = .ok (.iload 4, 2) := by decide +kernel
theorem dX12_laysLeast_43 : decode cX12_laysLeast 43 = .ok (.bipush 99, 2) := by decide +kernel
theorem dX12_laysLeast_45 : decode cX12_laysLeast 45 = .ok (.if_icmp .gt 79, 3) := by decide +kernel
theorem dX12_laysLeast_48 : decode cX12_laysLeast 48 = .ok (.iload_n 3, 1) := by decide +kernel
theorem dX12_laysLeast_49 : decode cX12_laysLeast 49 = .ok (.iload 5, 2) := by decide +kernel
theorem dX12_laysLeast_51 : decode cX12_laysLeast 51 = .ok (.aload_n 0, 1) := by decide +kernel
theorem dX12_laysLeast_52 : decode cX12_laysLeast 52 = .ok (.iload_n 1, 1) := by decide +kernel
theorem dX12_laysLeast_53 : decode cX12_laysLeast 53 = .ok (.iconst 1, 1) := by decide +kernel
theorem dX12_laysLeast_54 : decode cX12_laysLeast 54 = .ok (.invokevirtual 281, 3) := by decide +kernel
theorem dX12_laysLeast_57 : decode cX12_laysLeast 57 = .ok (.ixor, 1) := by decide +kernel
theorem dX12_laysLeast_58 : decode cX12_laysLeast 58 = .ok (.invokestatic 344, 3) := by decide +kernel
theorem dX12_laysLeast_61 : decode cX12_laysLeast 61 = .ok (.iadd, 1) := by decide +kernel
theorem dX12_laysLeast_62 : decode cX12_laysLeast 62 = .ok (.istore 6, 2) := by decide +kernel
theorem dX12_laysLeast_64 : decode cX12_laysLeast 64 = .ok (.iload 6, 2) := by decide +kernel
theorem dX12_laysLeast_66 : decode cX12_laysLeast 66 = .ok (.aload_n 0, 1) := by decide +kernel
theorem dX12_laysLeast_67 : decode cX12_laysLeast 67 = .ok (.getfield 416, 3) := by decide +kernel
theorem dX12_laysLeast_70 : decode cX12_laysLeast 70 = .ok (.if_icmp .ge 48, 3) := by decide +kernel
theorem dX12_laysLeast_73 : decode cX12_laysLeast 73 = .ok (.aload_n 0, 1) := by decide +kernel
theorem dX12_laysLeast_74 : decode cX12_laysLeast 74 = .ok (.aload_n 0, 1) := by decide +kernel
theorem dX12_laysLeast_75 : decode cX12_laysLeast 75 = .ok (.iload_n 1, 1) := by decide +kernel
theorem dX12_laysLeast_76 : decode cX12_laysLeast 76 = .ok (.iconst 3, 1) := by decide +kernel
theorem dX12_laysLeast_77 : decode cX12_laysLeast 77 = .ok (.invokevirtual 281, 3) := by decide +kernel
theorem dX12_laysLeast_80 : decode cX12_laysLeast 80 = .ok (.iload 4, 2) := by decide +kernel
theorem dX12_laysLeast_82 : decode cX12_laysLeast 82 = .ok (.aload_n 0, 1) := by decide +kernel
theorem dX12_laysLeast_83 : decode cX12_laysLeast 83 = .ok (.getfield 7, 3) := by decide +kernel
theorem dX12_laysLeast_86 : decode cX12_laysLeast 86 = .ok (.bipush 6, 2) := by decide +kernel
theorem dX12_laysLeast_88 : decode cX12_laysLeast 88 = .ok (.iaload, 1) := by decide +kernel
theorem dX12_laysLeast_89 : decode cX12_laysLeast 89 = .ok (.iload 5, 2) := by decide +kernel
theorem dX12_laysLeast_91 : decode cX12_laysLeast 91 = .ok (.invokevirtual 382, 3) := by decide +kernel
theorem dX12_laysLeast_94 : decode cX12_laysLeast 94 = .ok (.iload_n 2, 1) := by decide +kernel
theorem dX12_laysLeast_95 : decode cX12_laysLeast 95 = .ok (.if_icmp .eq 6, 3) := by decide +kernel
theorem dX12_laysLeast_98 : decode cX12_laysLeast 98 = .ok (.goto 20, 3) := by decide +kernel
theorem dX12_laysLeast_101 : decode cX12_laysLeast 101 = .ok (.aload_n 0, 1) := by decide +kernel
theorem dX12_laysLeast_102 : decode cX12_laysLeast 102 = .ok (.iload 6, 2) := by decide +kernel
theorem dX12_laysLeast_104 : decode cX12_laysLeast 104 = .ok (.putfield 416, 3) := by decide +kernel
theorem dX12_laysLeast_107 : decode cX12_laysLeast 107 = .ok (.aload_n 0, 1) := by decide +kernel
theorem dX12_laysLeast_108 : decode cX12_laysLeast 108 = .ok (.iload_n 3, 1) := by decide +kernel
theorem dX12_laysLeast_109 : decode cX12_laysLeast 109 = .ok (.putfield 419, 3) := by decide +kernel
theorem dX12_laysLeast_112 : decode cX12_laysLeast 112 = .ok (.aload_n 0, 1) := by decide +kernel
theorem dX12_laysLeast_113 : decode cX12_laysLeast 113 = .ok (.iload 5, 2) := by decide +kernel
theorem dX12_laysLeast_115 : decode cX12_laysLeast 115 = .ok (.putfield 422, 3) := by decide +kernel
theorem dX12_laysLeast_118 : decode cX12_laysLeast 118 = .ok (.iinc 5 1, 3) := by decide +kernel
theorem dX12_laysLeast_121 : decode cX12_laysLeast 121 = .ok (.goto (-93), 3) := by decide +kernel
theorem dX12_laysLeast_124 : decode cX12_laysLeast 124 = .ok (.iinc 3 1, 3) := by decide +kernel
theorem dX12_laysLeast_127 : decode cX12_laysLeast 127 = .ok (.goto (-118), 3) := by decide +kernel
theorem dX12_laysLeast_130 : decode cX12_laysLeast 130 = .ok (.return_, 1) := by decide +kernel
set_option maxRecDepth 100000 in
set_option maxHeartbeats 8000000 in
theorem c_X12_laysLeast (l : Launch) (D : va_G) (cA : Nat → ClassId) (q aK aV : Nat → Nat) (hq : injG 20 q) {a1 : Int32} {a2 : Int32} {M M0 : Mem} (h : f_X12_laysLeast a1 a2 M = some ((), M0)) : Met l yX12_laysLeast (.code yX12_laysLeast cX12_laysLeast 7 none :: BW) ({ frames := 6, cells := 0, slots := 0, locals := 131 } : Room) (va_Pc [.ref (q 0), .int a1, .int a2] (CB 20 (ceR cA q) D cA q aK aV M)) (Qv 20 (ceR cA q) D q M0) 0 0 (AqG 20 q) := by
  refine gMet RX12 (by decide +kernel) rfl hq (Nat.le_of_ble_eq_true rfl) ?_
  intro p e s m below meth c ls X hr hk hP hS hl
  have hx := X.1
  have hb := X.2.1
  have hl : lv_has ls 7 [(0, .ref (q 0)), (1, .int a1), (2, .int a2)] := hl
  rw [f_X12_laysLeast] at h
  have hL9 : ∀ (fu : Nat) (b3 : Int32) (M : Mem) (res : (Unit) × Mem) (H : Heap) (locs : List Loc) (ls : Array Slot), f_X12_laysLeast_L9 a1 a2 fu b3 M = some res → va_P D vwCl (wsG 20 (ceR cA q) q M) H → va_S (AqG 20 q) s.heap H locs → lv_has ls 7 [(0, .ref (q 0)), (1, .int a1), (2, .int a2), (3, .int b3)] → (∀ (H : Heap) (locs : List Loc) (ls : Array Slot), va_P D vwCl (wsG 20 (ceR cA q) q res.2) H → va_S (AqG 20 q) s.heap H locs → lv_has ls 7 [] → W p l e ({ frames := 6, cells := 0, slots := 0, locals := 131 } : Room) s m [.ref (q 0), .int a1, .int a2].toArray below meth c H locs 0 0 (MQ below (Qv 20 (ceR cA q) D q M0) [.ref (q 0), .int a1, .int a2].toArray s 0 0 (AqG 20 q)) (F0 m 130 ls [])) → W p l e ({ frames := 6, cells := 0, slots := 0, locals := 131 } : Room) s m [.ref (q 0), .int a1, .int a2].toArray below meth c H locs 0 0 (MQ below (Qv 20 (ceR cA q) D q M0) [.ref (q 0), .int a1, .int a2].toArray s 0 0 (AqG 20 q)) (F0 m 9 ls []) := by
    intro fu
    induction fu with
    | zero => intro b3 M res H locs ls h; exact absurd h (by simp [f_X12_laysLeast_L9])
    | succ fu ih =>
      intro b3 M res H locs ls h hP hS hl K9_0
      rw [f_X12_laysLeast_L9] at h
      have hL28 : ∀ (b3 : Int32) (b4 : Int32) (fu : Nat) (b5 : Int32) (M : Mem) (res : (Unit) × Mem) (H : Heap) (locs : List Loc) (ls : Array Slot), f_X12_laysLeast_L28 a1 a2 b3 b4 fu b5 M = some res → va_P D vwCl (wsG 20 (ceR cA q) q M) H → va_S (AqG 20 q) s.heap H locs → lv_has ls 7 [(0, .ref (q 0)), (1, .int a1), (2, .int a2), (3, .int b3), (4, .int b4), (5, .int b5)] → (∀ (H : Heap) (locs : List Loc) (ls : Array Slot), va_P D vwCl (wsG 20 (ceR cA q) q res.2) H → va_S (AqG 20 q) s.heap H locs → lv_has ls 7 [(0, .ref (q 0)), (1, .int a1), (2, .int a2), (3, .int b3)] → W p l e ({ frames := 6, cells := 0, slots := 0, locals := 131 } : Room) s m [.ref (q 0), .int a1, .int a2].toArray below meth c H locs 0 0 (MQ below (Qv 20 (ceR cA q) D q M0) [.ref (q 0), .int a1, .int a2].toArray s 0 0 (AqG 20 q)) (F0 m 124 ls [])) → W p l e ({ frames := 6, cells := 0, slots := 0, locals := 131 } : Room) s m [.ref (q 0), .int a1, .int a2].toArray below meth c H locs 0 0 (MQ below (Qv 20 (ceR cA q) D q M0) [.ref (q 0), .int a1, .int a2].toArray s 0 0 (AqG 20 q)) (F0 m 28 ls []) := by
        intro b3 b4 fu
        induction fu with
        | zero => intro b5 M res H locs ls h; exact absurd h (by simp [f_X12_laysLeast_L28])
        | succ fu ih =>
          intro b5 M res H locs ls h hP hS hl K28_0
          rw [f_X12_laysLeast_L28] at h
          refine lv_iload hx hb dX12_laysLeast_28 (lv_at hl 5 rfl) ?_
          refine lv_iconst (v := 1) hx hb dX12_laysLeast_30 (by decide) ?_
          refine lv_aload_n hx hb dX12_laysLeast_31 rfl (lv_at hl 0 rfl) ?_
          refine gfR_12_0 X hP sR_0 bw_1323 dX12_laysLeast_32 ?_
          refine lv_iconst (v := 0) hx hb dX12_laysLeast_35 (by decide) ?_
          refine ldR_ia X hP sR_1 zR_1 (by decide) dX12_laysLeast_36 ?_
          refine topE (y := (gI M 1 0)) rfl ?_
          refine lv_ishl hx hb dX12_laysLeast_37 ?_
          refine lv_icmp_ge (tgt := 124) hx hb dX12_laysLeast_38 (by decide) (fun c14 => ?_) (fun c14 => ?_)
          · rw [if_pos c14] at h
            cases h
            exact K28_0 _ _ _ hP hS (lv_sub hl [0, 1, 2, 3] rfl)
          · rw [if_neg c14] at h
            refine lv_iload hx hb dX12_laysLeast_41 (lv_at hl 4 rfl) ?_
            refine lv_bipush (v := 99) hx hb dX12_laysLeast_43 (by decide) ?_
            refine lv_icmp_gt (tgt := 124) hx hb dX12_laysLeast_45 (by decide) (fun c15 => ?_) (fun c15 => ?_)
            · rw [if_pos c15] at h
              cases h
              exact K28_0 _ _ _ hP hS (lv_sub hl [0, 1, 2, 3] rfl)
            · rw [if_neg c15] at h
              refine lv_iload_n hx hb dX12_laysLeast_48 rfl (lv_at hl 3 rfl) ?_
              refine lv_iload hx hb dX12_laysLeast_49 (lv_at hl 5 rfl) ?_
              refine lv_aload_n hx hb dX12_laysLeast_51 rfl (lv_at hl 0 rfl) ?_
              refine lv_iload_n hx hb dX12_laysLeast_52 rfl (lv_at hl 1 rfl) ?_
              refine lv_iconst (v := 1) hx hb dX12_laysLeast_53 (by decide) ?_
              obtain ⟨r16, M17, hc18, h⟩ := bnd_inv h
              refine gV_i (As := [.int a1, .int (1 : Int32)]) X hP hS hl.1 (c_X12_personOf l D cA q aK aV hq hc18) sf_X12_personOf bw_1683 sv_X12_personOf (rcR_12 sR_0) rfl ⟨rfl, rfl⟩ ⟨Nat.le_of_ble_eq_true rfl, Nat.le_of_ble_eq_true rfl⟩ rfl rfl (Nat.le_of_ble_eq_true rfl) dX12_laysLeast_54 (fun H locs hP hS => ?_)
              refine lv_ixor hx hb dX12_laysLeast_57 ?_
              obtain ⟨r19, M20, hc21, h⟩ := bnd_inv h
              refine gS_i (As := [.int (b5 ^^^ r16)]) X hP hS hl.1 (c_X12_bits l D cA q aK aV hq hc21) sf_X12_bits bw_1798 ss_X12_bits ⟨rfl, rfl⟩ ⟨Nat.le_of_ble_eq_true rfl, Nat.le_of_ble_eq_true rfl⟩ rfl rfl (Nat.le_of_ble_eq_true rfl) dX12_laysLeast_58 (fun H locs hP hS => ?_)
              refine lv_iadd hx hb dX12_laysLeast_61 ?_
              obtain ⟨y22, ey22, h⟩ := lt_inv h
              refine topE ey22 ?_
              refine lv_istore (lv' := [(6, .int y22), (0, .ref (q 0)), (1, .int a1), (2, .int a2), (3, .int b3), (4, .int b4), (5, .int b5)]) hx hb dX12_laysLeast_62 hl (by decide) rfl (fun ls hl => ?_)
              refine lv_iload hx hb dX12_laysLeast_64 (lv_at hl 0 rfl) ?_
              refine lv_aload_n hx hb dX12_laysLeast_66 rfl (lv_at hl 1 rfl) ?_
              refine gfR_12_26 X hP sR_0 bw_1349 dX12_laysLeast_67 ?_
              refine lv_icmp_ge (tgt := 118) hx hb dX12_laysLeast_70 (by decide) (fun c23 => ?_) (fun c23 => ?_)
              · rw [if_pos c23] at h
                obtain ⟨y24, ey24, h⟩ := lt_inv h
                refine lv_iinc (v := y24) (lv' := [(5, .int y24), (6, .int y22), (0, .ref (q 0)), (1, .int a1), (2, .int a2), (3, .int b3), (4, .int b4)]) hx hb dX12_laysLeast_118 hl (k := 6) rfl (by rw [ey24]; rfl) (by decide) rfl (fun ls hl => ?_)
                refine lv_goto (tgt := 28) hx hb dX12_laysLeast_121 (by decide) ?_
                exact ih _ _ res _ _ _ h hP hS (lv_sub hl [2, 3, 4, 5, 6, 0] rfl) K28_0
              · rw [if_neg c23] at h
                refine lv_aload_n hx hb dX12_laysLeast_73 rfl (lv_at hl 1 rfl) ?_
                refine lv_aload_n hx hb dX12_laysLeast_74 rfl (lv_at hl 1 rfl) ?_
                refine lv_iload_n hx hb dX12_laysLeast_75 rfl (lv_at hl 2 rfl) ?_
                refine lv_iconst (v := 3) hx hb dX12_laysLeast_76 (by decide) ?_
                obtain ⟨r25, M26, hc27, h⟩ := bnd_inv h
                refine gV_i (As := [.int a1, .int (3 : Int32)]) X hP hS hl.1 (c_X12_personOf l D cA q aK aV hq hc27) sf_X12_personOf bw_1683 sv_X12_personOf (rcR_12 sR_0) rfl ⟨rfl, rfl⟩ ⟨Nat.le_of_ble_eq_true rfl, Nat.le_of_ble_eq_true rfl⟩ rfl rfl (Nat.le_of_ble_eq_true rfl) dX12_laysLeast_77 (fun H locs hP hS => ?_)
                refine lv_iload hx hb dX12_laysLeast_80 (lv_at hl 5 rfl) ?_
                refine lv_aload_n hx hb dX12_laysLeast_82 rfl (lv_at hl 1 rfl) ?_
                refine gfR_12_0 X hP sR_0 bw_1323 dX12_laysLeast_83 ?_
                refine lv_bipush (v := 6) hx hb dX12_laysLeast_86 (by decide) ?_
                refine ldR_ia X hP sR_1 zR_1 (by decide) dX12_laysLeast_88 ?_
                refine topE (y := (gI M26 1 6)) rfl ?_
                refine lv_iload hx hb dX12_laysLeast_89 (lv_at hl 6 rfl) ?_
                obtain ⟨r28, M29, hc30, h⟩ := bnd_inv h
                refine gV_i (As := [.int r25, .int b4, .int (gI M26 1 6), .int b5]) X hP hS hl.1 (c_X12_cueOf l D cA q aK aV hq hc30) sf_X12_cueOf bw_1898 sv_X12_cueOf (rcR_12 sR_0) rfl ⟨rfl, rfl⟩ ⟨Nat.le_of_ble_eq_true rfl, Nat.le_of_ble_eq_true rfl⟩ rfl rfl (Nat.le_of_ble_eq_true rfl) dX12_laysLeast_91 (fun H locs hP hS => ?_)
                refine lv_iload_n hx hb dX12_laysLeast_94 rfl (lv_at hl 3 rfl) ?_
                refine lv_icmp_eq (tgt := 101) hx hb dX12_laysLeast_95 (by decide) (fun c31 => ?_) (fun c31 => ?_)
                · rw [if_pos c31] at h
                  refine lv_aload_n hx hb dX12_laysLeast_101 rfl (lv_at hl 1 rfl) ?_
                  refine lv_iload hx hb dX12_laysLeast_102 (lv_at hl 0 rfl) ?_
                  obtain ⟨M32, eM32, h⟩ := lt_inv h
                  refine pfR_12_26 X hP hS sR_0 bw_1349 eM32 dX12_laysLeast_104 (fun H locs hP hS => ?_)
                  refine lv_aload_n hx hb dX12_laysLeast_107 rfl (lv_at hl 1 rfl) ?_
                  refine lv_iload_n hx hb dX12_laysLeast_108 rfl (lv_at hl 4 rfl) ?_
                  obtain ⟨M33, eM33, h⟩ := lt_inv h
                  refine pfR_12_27 X hP hS sR_0 bw_1350 eM33 dX12_laysLeast_109 (fun H locs hP hS => ?_)
                  refine lv_aload_n hx hb dX12_laysLeast_112 rfl (lv_at hl 1 rfl) ?_
                  refine lv_iload hx hb dX12_laysLeast_113 (lv_at hl 6 rfl) ?_
                  obtain ⟨M34, eM34, h⟩ := lt_inv h
                  refine pfR_12_28 X hP hS sR_0 bw_1351 eM34 dX12_laysLeast_115 (fun H locs hP hS => ?_)
                  obtain ⟨y35, ey35, h⟩ := lt_inv h
                  refine lv_iinc (v := y35) (lv' := [(5, .int y35), (6, .int y22), (0, .ref (q 0)), (1, .int a1), (2, .int a2), (3, .int b3), (4, .int b4)]) hx hb dX12_laysLeast_118 hl (k := 6) rfl (by rw [ey35]; rfl) (by decide) rfl (fun ls hl => ?_)
                  refine lv_goto (tgt := 28) hx hb dX12_laysLeast_121 (by decide) ?_
                  exact ih _ _ res _ _ _ h hP hS (lv_sub hl [2, 3, 4, 5, 6, 0] rfl) K28_0
                · rw [if_neg c31] at h
                  refine lv_goto (tgt := 118) hx hb dX12_laysLeast_98 (by decide) ?_
                  obtain ⟨y36, ey36, h⟩ := lt_inv h
                  refine lv_iinc (v := y36) (lv' := [(5, .int y36), (6, .int y22), (0, .ref (q 0)), (1, .int a1), (2, .int a2), (3, .int b3), (4, .int b4)]) hx hb dX12_laysLeast_118 hl (k := 6) rfl (by rw [ey36]; rfl) (by decide) rfl (fun ls hl => ?_)
                  refine lv_goto (tgt := 28) hx hb dX12_laysLeast_121 (by decide) ?_
                  exact ih _ _ res _ _ _ h hP hS (lv_sub hl [2, 3, 4, 5, 6, 0] rfl) K28_0
      refine lv_iload_n hx hb dX12_laysLeast_9 rfl (lv_at hl 3 rfl) ?_
      refine lv_bipush (v := 20) hx hb dX12_laysLeast_10 (by decide) ?_
      refine lv_icmp_gt (tgt := 130) hx hb dX12_laysLeast_12 (by decide) (fun c5 => ?_) (fun c5 => ?_)
      · rw [if_pos c5] at h
        cases h
        exact K9_0 _ _ _ hP hS (lv_sub hl [] rfl)
      · rw [if_neg c5] at h
        refine lv_aload_n hx hb dX12_laysLeast_15 rfl (lv_at hl 0 rfl) ?_
        refine lv_iload_n hx hb dX12_laysLeast_16 rfl (lv_at hl 1 rfl) ?_
        refine lv_iconst (v := 0) hx hb dX12_laysLeast_17 (by decide) ?_
        obtain ⟨r6, M7, hc8, h⟩ := bnd_inv h
        refine gV_i (As := [.int a1, .int (0 : Int32)]) X hP hS hl.1 (c_X12_personOf l D cA q aK aV hq hc8) sf_X12_personOf bw_1683 sv_X12_personOf (rcR_12 sR_0) rfl ⟨rfl, rfl⟩ ⟨Nat.le_of_ble_eq_true rfl, Nat.le_of_ble_eq_true rfl⟩ rfl rfl (Nat.le_of_ble_eq_true rfl) dX12_laysLeast_18 (fun H locs hP hS => ?_)
        refine lv_iload_n hx hb dX12_laysLeast_21 rfl (lv_at hl 3 rfl) ?_
        refine lv_iadd hx hb dX12_laysLeast_22 ?_
        obtain ⟨y9, ey9, h⟩ := lt_inv h
        refine topE ey9 ?_
        refine lv_istore (lv' := [(4, .int y9), (0, .ref (q 0)), (1, .int a1), (2, .int a2), (3, .int b3)]) hx hb dX12_laysLeast_23 hl (by decide) rfl (fun ls hl => ?_)
        refine lv_iconst (v := 0) hx hb dX12_laysLeast_25 (by decide) ?_
        refine lv_istore (lv' := [(5, .int (0 : Int32)), (4, .int y9), (0, .ref (q 0)), (1, .int a1), (2, .int a2), (3, .int b3)]) hx hb dX12_laysLeast_26 hl (by decide) rfl (fun ls hl => ?_)
        obtain ⟨s10, M11, hc12, h⟩ := bnd_inv h
        try dsimp only at h
        refine hL28 _ _ fz _ _ _ _ _ _ hc12 hP hS (lv_sub hl [2, 3, 4, 5, 1, 0] rfl) (fun H locs ls hP hS hl => ?_)
        have hl : lv_has ls 7 [(0, .ref (q 0)), (1, .int a1), (2, .int a2), (3, .int b3)] := hl
        obtain ⟨y13, ey13, h⟩ := lt_inv h
        refine lv_iinc (v := y13) (lv' := [(3, .int y13), (0, .ref (q 0)), (1, .int a1), (2, .int a2)]) hx hb dX12_laysLeast_124 hl (k := 3) rfl (by rw [ey13]; rfl) (by decide) rfl (fun ls hl => ?_)
        refine lv_goto (tgt := 9) hx hb dX12_laysLeast_127 (by decide) ?_
        exact ih _ _ res _ _ _ h hP hS (lv_sub hl [1, 2, 3, 0] rfl) K9_0
  refine lv_aload_n hx hb dX12_laysLeast_0 rfl (lv_at hl 0 rfl) ?_
  refine lv_ldcw hx hb X.2.2.2.1 (X.2.2.2.2.1 _ bw_1922) dX12_laysLeast_1 ?_
  obtain ⟨M1, eM1, h⟩ := lt_inv h
  refine pfR_12_26 X hP hS sR_0 bw_1349 eM1 dX12_laysLeast_4 (fun H locs hP hS => ?_)
  refine lv_iconst (v := 0) hx hb dX12_laysLeast_7 (by decide) ?_
  refine lv_istore_n (lv' := [(3, .int (0 : Int32)), (0, .ref (q 0)), (1, .int a1), (2, .int a2)]) hx hb dX12_laysLeast_8 rfl hl (by decide) rfl (fun ls hl => ?_)
  obtain ⟨s2, M3, hc4, h⟩ := bnd_inv h
  try dsimp only at h
  refine hL9  fz _ _ _ _ _ _ hc4 hP hS (lv_sub hl [1, 2, 3, 0] rfl) (fun H locs ls hP hS hl => ?_)
  have hl : lv_has ls 7 [] := hl
  exact end_v X hr hk hP hS h dX12_laysLeast_130
theorem dX12_least_0 : decode cX12_least 0 = .ok (.aload_n 0, 1) := by decide +kernel
theorem dX12_least_1 : decode cX12_least 1 = .ok (.iload_n 1, 1) := by decide +kernel
theorem dX12_least_2 : decode cX12_least 2 = .ok (.i2l, 1) := by decide +kernel
theorem dX12_least_3 : decode cX12_least 3 = .ok (.invokevirtual 305, 3) := by decide +kernel
theorem dX12_least_6 : decode cX12_least 6 = .ok (.ifCond .eq 11, 3) := by decide +kernel
theorem dX12_least_9 : decode cX12_least 9 = .ok (.aload_n 0, 1) := by decide +kernel
theorem dX12_least_10 : decode cX12_least 10 = .ok (.iload_n 2, 1) := by decide +kernel
theorem dX12_least_11 : decode cX12_least 11 = .ok (.invokevirtual 293, 3) := by decide +kernel
theorem dX12_least_14 : decode cX12_least 14 = .ok (.ifCond .ne 9, 3) := by decide +kernel
theorem dX12_least_17 : decode cX12_least 17 = .ok (.aload_n 0, 1) := by decide +kernel
theorem dX12_least_18 : decode cX12_least 18 = .ok (.iconst 1, 1) := by decide +kernel
theorem dX12_least_19 : decode cX12_least 19 = .ok (.invokevirtual 91, 3) := by decide +kernel
theorem dX12_least_22 : decode cX12_least 22 = .ok (.ireturn, 1) := by decide +kernel
theorem dX12_least_23 : decode cX12_least 23 = .ok (.aload_n 0, 1) := by decide +kernel
theorem dX12_least_24 : decode cX12_least 24 = .ok (.iload_n 1, 1) := by decide +kernel
theorem dX12_least_25 : decode cX12_least 25 = .ok (.iload_n 2, 1) := by decide +kernel
theorem dX12_least_26 : decode cX12_least 26 = .ok (.invokevirtual 425, 3) := by decide +kernel
theorem dX12_least_29 : decode cX12_least 29 = .ok (.aload_n 0, 1) := by decide +kernel
theorem dX12_least_30 : decode cX12_least 30 = .ok (.getfield 416, 3) := by decide +kernel
theorem dX12_least_33 : decode cX12_least 33 = .ok (.ldc_w 412, 3) := by decide +kernel
theorem dX12_least_36 : decode cX12_least 36 = .ok (.if_icmp .ne 12, 3) := by decide +kernel
theorem dX12_least_39 : decode cX12_least 39 = .ok (.aload_n 0, 1) := by decide +kernel
theorem dX12_least_40 : decode cX12_least 40 = .ok (.bipush 6, 2) := by decide +kernel
theorem dX12_least_42 : decode cX12_least 42 = .ok (.invokevirtual 91, 3) := by decide +kernel
theorem dX12_least_45 : decode cX12_least 45 = .ok (.goto 11, 3) := by decide +kernel
theorem dX12_least_48 : decode cX12_least 48 = .ok (.aload_n 0, 1) := by decide +kernel
theorem dX12_least_49 : decode cX12_least 49 = .ok (.aload_n 0, 1) := by decide +kernel
theorem dX12_least_50 : decode cX12_least 50 = .ok (.getfield 416, 3) := by decide +kernel
theorem dX12_least_53 : decode cX12_least 53 = .ok (.invokevirtual 95, 3) := by decide +kernel
theorem dX12_least_56 : decode cX12_least 56 = .ok (.ireturn, 1) := by decide +kernel
set_option maxRecDepth 100000 in
set_option maxHeartbeats 8000000 in
theorem c_X12_least (l : Launch) (D : va_G) (cA : Nat → ClassId) (q aK aV : Nat → Nat) (hq : injG 20 q) {a1 : Int32} {a2 : Int32} {M M0 : Mem} {r0 : Int32} (h : f_X12_least a1 a2 M = some (r0, M0)) : Met l yX12_least (.code yX12_least cX12_least 3 (some .int) :: BW) ({ frames := 7, cells := 0, slots := 0, locals := 157 } : Room) (va_Pc [.ref (q 0), .int a1, .int a2] (CB 20 (ceR cA q) D cA q aK aV M)) (Qi 20 (ceR cA q) D q r0 M0) 0 0 (AqG 20 q) := by
  refine gMet RX12 (by decide +kernel) rfl hq (Nat.le_of_ble_eq_true rfl) ?_
  intro p e s m below meth c ls X hr hk hP hS hl
  have hx := X.1
  have hb := X.2.1
  have hl : lv_has ls 3 [(0, .ref (q 0)), (1, .int a1), (2, .int a2)] := hl
  rw [f_X12_least] at h
  refine lv_aload_n hx hb dX12_least_0 rfl (lv_at hl 0 rfl) ?_
  refine lv_iload_n hx hb dX12_least_1 rfl (lv_at hl 1 rfl) ?_
  refine lv_i2l hx hb dX12_least_2 rfl ?_
  obtain ⟨r1, M2, hc3, h⟩ := bnd_inv h
  refine gV_i (As := [.long (a1.toInt64)]) X hP hS hl.1 (c_X12_isPerson l D cA q aK aV hq hc3) sf_X12_isPerson bw_1715 sv_X12_isPerson (rcR_12 sR_0) rfl ⟨rfl, rfl⟩ ⟨Nat.le_of_ble_eq_true rfl, Nat.le_of_ble_eq_true rfl⟩ rfl rfl (Nat.le_of_ble_eq_true rfl) dX12_least_3 (fun H locs hP hS => ?_)
  refine lv_if_eq (tgt := 17) hx hb dX12_least_6 (by decide) (fun c4 => ?_) (fun c4 => ?_)
  · rw [if_pos c4] at h
    refine lv_aload_n hx hb dX12_least_17 rfl (lv_at hl 0 rfl) ?_
    refine lv_iconst (v := 1) hx hb dX12_least_18 (by decide) ?_
    obtain ⟨r5, M6, hc7, h⟩ := bnd_inv h
    refine gV_i (As := [.int (1 : Int32)]) X hP hS hl.1 (c_X12_refuse l D cA q aK aV hq hc7) sf_X12_refuse bw_1530 sv_X12_refuse (rcR_12 sR_0) rfl ⟨rfl, rfl⟩ ⟨Nat.le_of_ble_eq_true rfl, Nat.le_of_ble_eq_true rfl⟩ rfl rfl (Nat.le_of_ble_eq_true rfl) dX12_least_19 (fun H locs hP hS => ?_)
    exact end_i X hr hk hP hS h dX12_least_22
  · rw [if_neg c4] at h
    refine lv_aload_n hx hb dX12_least_9 rfl (lv_at hl 0 rfl) ?_
    refine lv_iload_n hx hb dX12_least_10 rfl (lv_at hl 2 rfl) ?_
    obtain ⟨r8, M9, hc10, h⟩ := bnd_inv h
    refine gV_i (As := [.int a2]) X hP hS hl.1 (c_X12_isCue l D cA q aK aV hq hc10) sf_X12_isCue bw_1691 sv_X12_isCue (rcR_12 sR_0) rfl ⟨rfl, rfl⟩ ⟨Nat.le_of_ble_eq_true rfl, Nat.le_of_ble_eq_true rfl⟩ rfl rfl (Nat.le_of_ble_eq_true rfl) dX12_least_11 (fun H locs hP hS => ?_)
    refine lv_if_ne (tgt := 23) hx hb dX12_least_14 (by decide) (fun c11 => ?_) (fun c11 => ?_)
    · rw [if_neg c11] at h
      refine lv_aload_n hx hb dX12_least_23 rfl (lv_at hl 0 rfl) ?_
      refine lv_iload_n hx hb dX12_least_24 rfl (lv_at hl 1 rfl) ?_
      refine lv_iload_n hx hb dX12_least_25 rfl (lv_at hl 2 rfl) ?_
      obtain ⟨_, M13, hc14, h⟩ := bnd_inv h
      refine gV_v (As := [.int a1, .int a2]) X hP hS hl.1 (c_X12_laysLeast l D cA q aK aV hq hc14) sf_X12_laysLeast bw_1932 sv_X12_laysLeast (rcR_12 sR_0) rfl ⟨rfl, rfl⟩ ⟨Nat.le_of_ble_eq_true rfl, Nat.le_of_ble_eq_true rfl⟩ rfl rfl (Nat.le_of_ble_eq_true rfl) dX12_least_26 (fun H locs hP hS => ?_)
      refine lv_aload_n hx hb dX12_least_29 rfl (lv_at hl 0 rfl) ?_
      refine gfR_12_26 X hP sR_0 bw_1349 dX12_least_30 ?_
      refine lv_ldcw hx hb X.2.2.2.1 (X.2.2.2.2.1 _ bw_1922) dX12_least_33 ?_
      refine lv_icmp_ne (tgt := 48) hx hb dX12_least_36 (by decide) (fun c15 => ?_) (fun c15 => ?_)
      · rw [if_neg c15] at h
        refine lv_aload_n hx hb dX12_least_48 rfl (lv_at hl 0 rfl) ?_
        refine lv_aload_n hx hb dX12_least_49 rfl (lv_at hl 0 rfl) ?_
        refine gfR_12_26 X hP sR_0 bw_1349 dX12_least_50 ?_
        obtain ⟨r16, M17, hc18, h⟩ := bnd_inv h
        refine gV_i (As := [.int (gI M13 0 26)]) X hP hS hl.1 (c_X12_gives l D cA q aK aV hq hc18) sf_X12_gives bw_1639 sv_X12_gives (rcR_12 sR_0) rfl ⟨rfl, rfl⟩ ⟨Nat.le_of_ble_eq_true rfl, Nat.le_of_ble_eq_true rfl⟩ rfl rfl (Nat.le_of_ble_eq_true rfl) dX12_least_53 (fun H locs hP hS => ?_)
        exact end_i X hr hk hP hS h dX12_least_56
      · rw [if_pos c15] at h
        refine lv_aload_n hx hb dX12_least_39 rfl (lv_at hl 0 rfl) ?_
        refine lv_bipush (v := 6) hx hb dX12_least_40 (by decide) ?_
        obtain ⟨r19, M20, hc21, h⟩ := bnd_inv h
        refine gV_i (As := [.int (6 : Int32)]) X hP hS hl.1 (c_X12_refuse l D cA q aK aV hq hc21) sf_X12_refuse bw_1530 sv_X12_refuse (rcR_12 sR_0) rfl ⟨rfl, rfl⟩ ⟨Nat.le_of_ble_eq_true rfl, Nat.le_of_ble_eq_true rfl⟩ rfl rfl (Nat.le_of_ble_eq_true rfl) dX12_least_42 (fun H locs hP hS => ?_)
        refine lv_goto (tgt := 56) hx hb dX12_least_45 (by decide) ?_
        exact end_i X hr hk hP hS h dX12_least_56
    · rw [if_pos c11] at h
      refine lv_aload_n hx hb dX12_least_17 rfl (lv_at hl 0 rfl) ?_
      refine lv_iconst (v := 1) hx hb dX12_least_18 (by decide) ?_
      obtain ⟨r22, M23, hc24, h⟩ := bnd_inv h
      refine gV_i (As := [.int (1 : Int32)]) X hP hS hl.1 (c_X12_refuse l D cA q aK aV hq hc24) sf_X12_refuse bw_1530 sv_X12_refuse (rcR_12 sR_0) rfl ⟨rfl, rfl⟩ ⟨Nat.le_of_ble_eq_true rfl, Nat.le_of_ble_eq_true rfl⟩ rfl rfl (Nat.le_of_ble_eq_true rfl) dX12_least_19 (fun H locs hP hS => ?_)
      exact end_i X hr hk hP hS h dX12_least_22
theorem dX12_leastBy_0 : decode cX12_leastBy 0 = .ok (.aload_n 0, 1) := by decide +kernel
theorem dX12_leastBy_1 : decode cX12_leastBy 1 = .ok (.iload_n 1, 1) := by decide +kernel
theorem dX12_leastBy_2 : decode cX12_leastBy 2 = .ok (.i2l, 1) := by decide +kernel
theorem dX12_leastBy_3 : decode cX12_leastBy 3 = .ok (.invokevirtual 305, 3) := by decide +kernel
theorem dX12_leastBy_6 : decode cX12_leastBy 6 = .ok (.ifCond .eq 20, 3) := by decide +kernel
theorem dX12_leastBy_9 : decode cX12_leastBy 9 = .ok (.aload_n 0, 1) := by decide +kernel
theorem dX12_leastBy_10 : decode cX12_leastBy 10 = .ok (.iload_n 2, 1) := by decide +kernel
theorem dX12_leastBy_11 : decode cX12_leastBy 11 = .ok (.invokevirtual 293, 3) := by decide +kernel
theorem dX12_leastBy_14 : decode cX12_leastBy 14 = .ok (.ifCond .eq 12, 3) := by decide +kernel
theorem dX12_leastBy_17 : decode cX12_leastBy 17 = .ok (.iload_n 3, 1) := by decide +kernel
theorem dX12_leastBy_18 : decode cX12_leastBy 18 = .ok (.ifCond .lt 8, 3) := by decide +kernel
theorem dX12_leastBy_21 : decode cX12_leastBy 21 = .ok (.iload_n 3, 1) := by decide +kernel
theorem dX12_leastBy_22 : decode cX12_leastBy 22 = .ok (.iconst 1, 1) := by decide +kernel
theorem dX12_leastBy_23 : decode cX12_leastBy 23 = .ok (.if_icmp .le 9, 3) := by decide +kernel
theorem dX12_leastBy_26 : decode cX12_leastBy 26 = .ok (.aload_n 0, 1) := by decide +kernel
theorem dX12_leastBy_27 : decode cX12_leastBy 27 = .ok (.iconst 1, 1) := by decide +kernel
theorem dX12_leastBy_28 : decode cX12_leastBy 28 = .ok (.invokevirtual 91, 3) := by decide +kernel
theorem dX12_leastBy_31 : decode cX12_leastBy 31 = .ok (.ireturn, 1) := by decide +kernel
theorem dX12_leastBy_32 : decode cX12_leastBy 32 = .ok (.aload_n 0, 1) := by decide +kernel
theorem dX12_leastBy_33 : decode cX12_leastBy 33 = .ok (.iload_n 1, 1) := by decide +kernel
theorem dX12_leastBy_34 : decode cX12_leastBy 34 = .ok (.iload_n 2, 1) := by decide +kernel
theorem dX12_leastBy_35 : decode cX12_leastBy 35 = .ok (.invokevirtual 425, 3) := by decide +kernel
theorem dX12_leastBy_38 : decode cX12_leastBy 38 = .ok (.aload_n 0, 1) := by decide +kernel
theorem dX12_leastBy_39 : decode cX12_leastBy 39 = .ok (.getfield 416, 3) := by decide +kernel
theorem dX12_leastBy_42 : decode cX12_leastBy 42 = .ok (.ldc_w 412, 3) := by decide +kernel
theorem dX12_leastBy_45 : decode cX12_leastBy 45 = .ok (.if_icmp .ne 10, 3) := by decide +kernel
theorem dX12_leastBy_48 : decode cX12_leastBy 48 = .ok (.aload_n 0, 1) := by decide +kernel
theorem dX12_leastBy_49 : decode cX12_leastBy 49 = .ok (.bipush 6, 2) := by decide +kernel
theorem dX12_leastBy_51 : decode cX12_leastBy 51 = .ok (.invokevirtual 91, 3) := by decide +kernel
theorem dX12_leastBy_54 : decode cX12_leastBy 54 = .ok (.ireturn, 1) := by decide +kernel
theorem dX12_leastBy_55 : decode cX12_leastBy 55 = .ok (.aload_n 0, 1) := by decide +kernel
theorem dX12_leastBy_56 : decode cX12_leastBy 56 = .ok (.iload_n 3, 1) := by decide +kernel
theorem dX12_leastBy_57 : decode cX12_leastBy 57 = .ok (.ifCond .ne 10, 3) := by decide +kernel
theorem dX12_leastBy_60 : decode cX12_leastBy 60 = .ok (.aload_n 0, 1) := by decide +kernel
theorem dX12_leastBy_61 : decode cX12_leastBy 61 = .ok (.getfield 419, 3) := by decide +kernel
theorem dX12_leastBy_64 : decode cX12_leastBy 64 = .ok (.goto 7, 3) := by decide +kernel
theorem dX12_leastBy_67 : decode cX12_leastBy 67 = .ok (.aload_n 0, 1) := by decide +kernel
theorem dX12_leastBy_68 : decode cX12_leastBy 68 = .ok (.getfield 422, 3) := by decide +kernel
theorem dX12_leastBy_71 : decode cX12_leastBy 71 = .ok (.invokevirtual 95, 3) := by decide +kernel
theorem dX12_leastBy_74 : decode cX12_leastBy 74 = .ok (.ireturn, 1) := by decide +kernel
set_option maxRecDepth 100000 in
set_option maxHeartbeats 8000000 in
theorem c_X12_leastBy (l : Launch) (D : va_G) (cA : Nat → ClassId) (q aK aV : Nat → Nat) (hq : injG 20 q) {a1 : Int32} {a2 : Int32} {a3 : Int32} {M M0 : Mem} {r0 : Int32} (h : f_X12_leastBy a1 a2 a3 M = some (r0, M0)) : Met l yX12_leastBy (.code yX12_leastBy cX12_leastBy 4 (some .int) :: BW) ({ frames := 7, cells := 0, slots := 0, locals := 157 } : Room) (va_Pc [.ref (q 0), .int a1, .int a2, .int a3] (CB 20 (ceR cA q) D cA q aK aV M)) (Qi 20 (ceR cA q) D q r0 M0) 0 0 (AqG 20 q) := by
  refine gMet RX12 (by decide +kernel) rfl hq (Nat.le_of_ble_eq_true rfl) ?_
  intro p e s m below meth c ls X hr hk hP hS hl
  have hx := X.1
  have hb := X.2.1
  have hl : lv_has ls 4 [(0, .ref (q 0)), (1, .int a1), (2, .int a2), (3, .int a3)] := hl
  rw [f_X12_leastBy] at h
  refine lv_aload_n hx hb dX12_leastBy_0 rfl (lv_at hl 0 rfl) ?_
  refine lv_iload_n hx hb dX12_leastBy_1 rfl (lv_at hl 1 rfl) ?_
  refine lv_i2l hx hb dX12_leastBy_2 rfl ?_
  obtain ⟨r1, M2, hc3, h⟩ := bnd_inv h
  refine gV_i (As := [.long (a1.toInt64)]) X hP hS hl.1 (c_X12_isPerson l D cA q aK aV hq hc3) sf_X12_isPerson bw_1715 sv_X12_isPerson (rcR_12 sR_0) rfl ⟨rfl, rfl⟩ ⟨Nat.le_of_ble_eq_true rfl, Nat.le_of_ble_eq_true rfl⟩ rfl rfl (Nat.le_of_ble_eq_true rfl) dX12_leastBy_3 (fun H locs hP hS => ?_)
  refine lv_if_eq (tgt := 26) hx hb dX12_leastBy_6 (by decide) (fun c4 => ?_) (fun c4 => ?_)
  · rw [if_pos c4] at h
    refine lv_aload_n hx hb dX12_leastBy_26 rfl (lv_at hl 0 rfl) ?_
    refine lv_iconst (v := 1) hx hb dX12_leastBy_27 (by decide) ?_
    obtain ⟨r5, M6, hc7, h⟩ := bnd_inv h
    refine gV_i (As := [.int (1 : Int32)]) X hP hS hl.1 (c_X12_refuse l D cA q aK aV hq hc7) sf_X12_refuse bw_1530 sv_X12_refuse (rcR_12 sR_0) rfl ⟨rfl, rfl⟩ ⟨Nat.le_of_ble_eq_true rfl, Nat.le_of_ble_eq_true rfl⟩ rfl rfl (Nat.le_of_ble_eq_true rfl) dX12_leastBy_28 (fun H locs hP hS => ?_)
    exact end_i X hr hk hP hS h dX12_leastBy_31
  · rw [if_neg c4] at h
    refine lv_aload_n hx hb dX12_leastBy_9 rfl (lv_at hl 0 rfl) ?_
    refine lv_iload_n hx hb dX12_leastBy_10 rfl (lv_at hl 2 rfl) ?_
    obtain ⟨r8, M9, hc10, h⟩ := bnd_inv h
    refine gV_i (As := [.int a2]) X hP hS hl.1 (c_X12_isCue l D cA q aK aV hq hc10) sf_X12_isCue bw_1691 sv_X12_isCue (rcR_12 sR_0) rfl ⟨rfl, rfl⟩ ⟨Nat.le_of_ble_eq_true rfl, Nat.le_of_ble_eq_true rfl⟩ rfl rfl (Nat.le_of_ble_eq_true rfl) dX12_leastBy_11 (fun H locs hP hS => ?_)
    refine lv_if_eq (tgt := 26) hx hb dX12_leastBy_14 (by decide) (fun c11 => ?_) (fun c11 => ?_)
    · rw [if_pos c11] at h
      refine lv_aload_n hx hb dX12_leastBy_26 rfl (lv_at hl 0 rfl) ?_
      refine lv_iconst (v := 1) hx hb dX12_leastBy_27 (by decide) ?_
      obtain ⟨r12, M13, hc14, h⟩ := bnd_inv h
      refine gV_i (As := [.int (1 : Int32)]) X hP hS hl.1 (c_X12_refuse l D cA q aK aV hq hc14) sf_X12_refuse bw_1530 sv_X12_refuse (rcR_12 sR_0) rfl ⟨rfl, rfl⟩ ⟨Nat.le_of_ble_eq_true rfl, Nat.le_of_ble_eq_true rfl⟩ rfl rfl (Nat.le_of_ble_eq_true rfl) dX12_leastBy_28 (fun H locs hP hS => ?_)
      exact end_i X hr hk hP hS h dX12_leastBy_31
    · rw [if_neg c11] at h
      refine lv_iload_n hx hb dX12_leastBy_17 rfl (lv_at hl 3 rfl) ?_
      refine lv_if_lt (tgt := 26) hx hb dX12_leastBy_18 (by decide) (fun c15 => ?_) (fun c15 => ?_)
      · rw [if_pos c15] at h
        refine lv_aload_n hx hb dX12_leastBy_26 rfl (lv_at hl 0 rfl) ?_
        refine lv_iconst (v := 1) hx hb dX12_leastBy_27 (by decide) ?_
        obtain ⟨r16, M17, hc18, h⟩ := bnd_inv h
        refine gV_i (As := [.int (1 : Int32)]) X hP hS hl.1 (c_X12_refuse l D cA q aK aV hq hc18) sf_X12_refuse bw_1530 sv_X12_refuse (rcR_12 sR_0) rfl ⟨rfl, rfl⟩ ⟨Nat.le_of_ble_eq_true rfl, Nat.le_of_ble_eq_true rfl⟩ rfl rfl (Nat.le_of_ble_eq_true rfl) dX12_leastBy_28 (fun H locs hP hS => ?_)
        exact end_i X hr hk hP hS h dX12_leastBy_31
      · rw [if_neg c15] at h
        refine lv_iload_n hx hb dX12_leastBy_21 rfl (lv_at hl 3 rfl) ?_
        refine lv_iconst (v := 1) hx hb dX12_leastBy_22 (by decide) ?_
        refine lv_icmp_le (tgt := 32) hx hb dX12_leastBy_23 (by decide) (fun c19 => ?_) (fun c19 => ?_)
        · rw [if_pos c19] at h
          refine lv_aload_n hx hb dX12_leastBy_32 rfl (lv_at hl 0 rfl) ?_
          refine lv_iload_n hx hb dX12_leastBy_33 rfl (lv_at hl 1 rfl) ?_
          refine lv_iload_n hx hb dX12_leastBy_34 rfl (lv_at hl 2 rfl) ?_
          obtain ⟨_, M21, hc22, h⟩ := bnd_inv h
          refine gV_v (As := [.int a1, .int a2]) X hP hS hl.1 (c_X12_laysLeast l D cA q aK aV hq hc22) sf_X12_laysLeast bw_1932 sv_X12_laysLeast (rcR_12 sR_0) rfl ⟨rfl, rfl⟩ ⟨Nat.le_of_ble_eq_true rfl, Nat.le_of_ble_eq_true rfl⟩ rfl rfl (Nat.le_of_ble_eq_true rfl) dX12_leastBy_35 (fun H locs hP hS => ?_)
          refine lv_aload_n hx hb dX12_leastBy_38 rfl (lv_at hl 0 rfl) ?_
          refine gfR_12_26 X hP sR_0 bw_1349 dX12_leastBy_39 ?_
          refine lv_ldcw hx hb X.2.2.2.1 (X.2.2.2.2.1 _ bw_1922) dX12_leastBy_42 ?_
          refine lv_icmp_ne (tgt := 55) hx hb dX12_leastBy_45 (by decide) (fun c23 => ?_) (fun c23 => ?_)
          · rw [if_neg c23] at h
            refine lv_aload_n hx hb dX12_leastBy_55 rfl (lv_at hl 0 rfl) ?_
            refine lv_iload_n hx hb dX12_leastBy_56 rfl (lv_at hl 3 rfl) ?_
            refine lv_if_ne (tgt := 67) hx hb dX12_leastBy_57 (by decide) (fun c24 => ?_) (fun c24 => ?_)
            · rw [if_neg c24] at h
              refine lv_aload_n hx hb dX12_leastBy_67 rfl (lv_at hl 0 rfl) ?_
              refine gfR_12_28 X hP sR_0 bw_1351 dX12_leastBy_68 ?_
              obtain ⟨r25, M26, hc27, h⟩ := bnd_inv h
              refine gV_i (As := [.int (gI M21 0 28)]) X hP hS hl.1 (c_X12_gives l D cA q aK aV hq hc27) sf_X12_gives bw_1639 sv_X12_gives (rcR_12 sR_0) rfl ⟨rfl, rfl⟩ ⟨Nat.le_of_ble_eq_true rfl, Nat.le_of_ble_eq_true rfl⟩ rfl rfl (Nat.le_of_ble_eq_true rfl) dX12_leastBy_71 (fun H locs hP hS => ?_)
              exact end_i X hr hk hP hS h dX12_leastBy_74
            · rw [if_pos c24] at h
              refine lv_aload_n hx hb dX12_leastBy_60 rfl (lv_at hl 0 rfl) ?_
              refine gfR_12_27 X hP sR_0 bw_1350 dX12_leastBy_61 ?_
              refine lv_goto (tgt := 71) hx hb dX12_leastBy_64 (by decide) ?_
              obtain ⟨r28, M29, hc30, h⟩ := bnd_inv h
              refine gV_i (As := [.int (gI M21 0 27)]) X hP hS hl.1 (c_X12_gives l D cA q aK aV hq hc30) sf_X12_gives bw_1639 sv_X12_gives (rcR_12 sR_0) rfl ⟨rfl, rfl⟩ ⟨Nat.le_of_ble_eq_true rfl, Nat.le_of_ble_eq_true rfl⟩ rfl rfl (Nat.le_of_ble_eq_true rfl) dX12_leastBy_71 (fun H locs hP hS => ?_)
              exact end_i X hr hk hP hS h dX12_leastBy_74
          · rw [if_pos c23] at h
            refine lv_aload_n hx hb dX12_leastBy_48 rfl (lv_at hl 0 rfl) ?_
            refine lv_bipush (v := 6) hx hb dX12_leastBy_49 (by decide) ?_
            obtain ⟨r31, M32, hc33, h⟩ := bnd_inv h
            refine gV_i (As := [.int (6 : Int32)]) X hP hS hl.1 (c_X12_refuse l D cA q aK aV hq hc33) sf_X12_refuse bw_1530 sv_X12_refuse (rcR_12 sR_0) rfl ⟨rfl, rfl⟩ ⟨Nat.le_of_ble_eq_true rfl, Nat.le_of_ble_eq_true rfl⟩ rfl rfl (Nat.le_of_ble_eq_true rfl) dX12_leastBy_51 (fun H locs hP hS => ?_)
            exact end_i X hr hk hP hS h dX12_leastBy_54
        · rw [if_neg c19] at h
          refine lv_aload_n hx hb dX12_leastBy_26 rfl (lv_at hl 0 rfl) ?_
          refine lv_iconst (v := 1) hx hb dX12_leastBy_27 (by decide) ?_
          obtain ⟨r34, M35, hc36, h⟩ := bnd_inv h
          refine gV_i (As := [.int (1 : Int32)]) X hP hS hl.1 (c_X12_refuse l D cA q aK aV hq hc36) sf_X12_refuse bw_1530 sv_X12_refuse (rcR_12 sR_0) rfl ⟨rfl, rfl⟩ ⟨Nat.le_of_ble_eq_true rfl, Nat.le_of_ble_eq_true rfl⟩ rfl rfl (Nat.le_of_ble_eq_true rfl) dX12_leastBy_28 (fun H locs hP hS => ?_)
          exact end_i X hr hk hP hS h dX12_leastBy_31
theorem dX12_laysWorlds_0 : decode cX12_laysWorlds 0 = .ok (.iconst 0, 1) := by decide +kernel
theorem dX12_laysWorlds_1 : decode cX12_laysWorlds 1 = .ok (.istore_n 1, 1) := by decide +kernel
theorem dX12_laysWorlds_2 : decode cX12_laysWorlds 2 = .ok (.iload_n 1, 1) := by decide +kernel
theorem dX12_laysWorlds_3 : decode cX12_laysWorlds 3 = .ok (.bipush 8, 2) := by decide +kernel
theorem dX12_laysWorlds_5 : decode cX12_laysWorlds 5 = .ok (.if_icmp .gt 23, 3) := by decide +kernel
theorem dX12_laysWorlds_8 : decode cX12_laysWorlds 8 = .ok (.aload_n 0, 1) := by decide +kernel
theorem dX12_laysWorlds_9 : decode cX12_laysWorlds 9 = .ok (.getfield 54, 3) := by decide +kernel
theorem dX12_laysWorlds_12 : decode cX12_laysWorlds 12 = .ok (.iload_n 1, 1) := by decide +kernel
theorem dX12_laysWorlds_13 : decode cX12_laysWorlds 13 = .ok (.iconst 0, 1) := by decide +kernel
theorem dX12_laysWorlds_14 : decode cX12_laysWorlds 14 = .ok (.iastore, 1) := by decide +kernel
theorem dX12_laysWorlds_15 : decode cX12_laysWorlds 15 = .ok (.aload_n 0, 1) := by decide +kernel
theorem dX12_laysWorlds_16 : decode cX12_laysWorlds 16 = .ok (.getfield 57, 3) := by decide +kernel
theorem dX12_laysWorlds_19 : decode cX12_laysWorlds 19 = .ok (.iload_n 1, 1) := by decide +kernel
theorem dX12_laysWorlds_20 : decode cX12_laysWorlds 20 = .ok (.iconst 0, 1) := by decide +kernel
theorem dX12_laysWorlds_21 : decode cX12_laysWorlds 21 = .ok (.iastore, 1) := by decide +kernel
theorem dX12_laysWorlds_22 : decode cX12_laysWorlds 22 = .ok (.iinc 1 1, 3) := by decide +kernel
theorem dX12_laysWorlds_25 : decode cX12_laysWorlds 25 = .ok (.goto (-23), 3) := by decide +kernel
theorem dX12_laysWorlds_28 : decode cX12_laysWorlds 28 = .ok (.iconst 0, 1) := by decide +kernel
theorem dX12_laysWorlds_29 : decode cX12_laysWorlds 29 = .ok (.istore_n 1, 1) := by decide +kernel
theorem dX12_laysWorlds_30 : decode cX12_laysWorlds 30 = .ok (.iload_n 1, 1) := by decide +kernel
theorem dX12_laysWorlds_31 : decode cX12_laysWorlds 31 = .ok (.iconst 1, 1) := by decide +kernel
theorem dX12_laysWorlds_32 : decode cX12_laysWorlds 32 = .ok (.aload_n 0, 1) := by decide +kernel
theorem dX12_laysWorlds_33 : decode cX12_laysWorlds 33 = .ok (.getfield 7, 3) := by decide +kernel
theorem dX12_laysWorlds_36 : decode cX12_laysWorlds 36 = .ok (.iconst 0, 1) := by decide +kernel
theorem dX12_laysWorlds_37 : decode cX12_laysWorlds 37 = .ok (.iaload, 1) := by decide +kernel
theorem dX12_laysWorlds_38 : decode cX12_laysWorlds 38 = .ok (.ishl, 1) := by decide +kernel
theorem dX12_laysWorlds_39 : decode cX12_laysWorlds 39 = .ok (.if_icmp .ge 73, 3) := by decide +kernel
theorem dX12_laysWorlds_42 : decode cX12_laysWorlds 42 = .ok (.iconst 0, 1) := by decide +kernel
theorem dX12_laysWorlds_43 : decode cX12_laysWorlds 43 = .ok (.istore_n 2, 1) := by decide +kernel
theorem dX12_laysWorlds_44 : decode cX12_laysWorlds 44 = .ok (.iload_n 2, 1) := by decide +kernel
theorem dX12_laysWorlds_45 : decode cX12_laysWorlds 45 = .ok (.sipush 420, 3) := by decide +kernel
theorem dX12_laysWorlds_48 : decode cX12_laysWorlds 48 = .ok (.if_icmp .ge 58, 3) := by decide +kernel
theorem dX12_laysWorlds_51 : decode cX12_laysWorlds 51 = .ok (.aload_n 0, 1) := by decide +kernel
theorem dX12_laysWorlds_52 : decode cX12_laysWorlds 52 = .ok (.iload_n 2, 1) := by decide +kernel
theorem dX12_laysWorlds_53 : decode cX12_laysWorlds 53 = .ok (.iconst 2, 1) := by decide +kernel
theorem dX12_laysWorlds_54 : decode cX12_laysWorlds 54 = .ok (.irem, 1) := by decide +kernel
theorem dX12_laysWorlds_55 : decode cX12_laysWorlds 55 = .ok (.iload_n 2, 1) := by decide +kernel
theorem dX12_laysWorlds_56 : decode cX12_laysWorlds 56 = .ok (.bipush 20, 2) := by decide +kernel
theorem dX12_laysWorlds_58 : decode cX12_laysWorlds 58 = .ok (.idiv, 1) := by decide +kernel
theorem dX12_laysWorlds_59 : decode cX12_laysWorlds 59 = .ok (.iload_n 2, 1) := by decide +kernel
theorem dX12_laysWorlds_60 : decode cX12_laysWorlds 60 = .ok (.iconst 2, 1) := by decide +kernel
theorem dX12_laysWorlds_61 : decode cX12_laysWorlds 61 = .ok (.idiv, 1) := by decide +kernel
theorem dX12_laysWorlds_62 : decode cX12_laysWorlds 62 = .ok (.bipush 10, 2) := by decide +kernel
theorem dX12_laysWorlds_64 : decode cX12_laysWorlds 64 = .ok (.irem, 1) := by decide +kernel
theorem dX12_laysWorlds_65 : decode cX12_laysWorlds 65 = .ok (.iload_n 1, 1) := by decide +kernel
theorem dX12_laysWorlds_66 : decode cX12_laysWorlds 66 = .ok (.invokevirtual 325, 3) := by decide +kernel
theorem dX12_laysWorlds_69 : decode cX12_laysWorlds 69 = .ok (.istore_n 3, 1) := by decide +kernel
theorem dX12_laysWorlds_70 : decode cX12_laysWorlds 70 = .ok (.iload_n 3, 1) := by decide +kernel
theorem dX12_laysWorlds_71 : decode cX12_laysWorlds 71 = .ok (.iconst (-1), 1) := by decide +kernel
theorem dX12_laysWorlds_72 : decode cX12_laysWorlds 72 = .ok (.if_icmp .ne 6, 3) := by decide +kernel
theorem dX12_laysWorlds_75 : decode cX12_laysWorlds 75 = .ok (.bipush 8, 2) := by decide +kernel
theorem dX12_laysWorlds_77 : decode cX12_laysWorlds 77 = .ok (.istore_n 3, 1) := by decide +kernel
theorem dX12_laysWorlds_78 : decode cX12_laysWorlds 78 = .ok (.aload_n 0, 1) := by decide +kernel
theorem dX12_laysWorlds_79 : decode cX12_laysWorlds 79 = .ok (.getfield 54, 3) := by decide +kernel
theorem dX12_laysWorlds_82 : decode cX12_laysWorlds 82 = .ok (.iload_n 3, 1) := by decide +kernel
theorem dX12_laysWorlds_83 : decode cX12_laysWorlds 83 = .ok (.dup2, 1) := by decide +kernel
theorem dX12_laysWorlds_84 : decode cX12_laysWorlds 84 = .ok (.iaload, 1) := by decide +kernel
theorem dX12_laysWorlds_85 : decode cX12_laysWorlds 85 = .ok (.iconst 1, 1) := by decide +kernel
theorem dX12_laysWorlds_86 : decode cX12_laysWorlds 86 = .ok (.iadd, 1) := by decide +kernel
theorem dX12_laysWorlds_87 : decode cX12_laysWorlds 87 = .ok (.iastore, 1) := by decide +kernel
theorem dX12_laysWorlds_88 : decode cX12_laysWorlds 88 = .ok (.aload_n 0, 1) := by decide +kernel
theorem dX12_laysWorlds_89 : decode cX12_laysWorlds 89 = .ok (.getfield 57, 3) := by decide +kernel
theorem dX12_laysWorlds_92 : decode cX12_laysWorlds 92 = .ok (.iload_n 3, 1) := by decide +kernel
theorem dX12_laysWorlds_93 : decode cX12_laysWorlds 93 = .ok (.dup2, 1) := by decide +kernel
theorem dX12_laysWorlds_94 : decode cX12_laysWorlds 94 = .ok (.iaload, 1) := by decide +kernel
theorem dX12_laysWorlds_95 : decode cX12_laysWorlds 95 = .ok (.iload_n 2, 1) := by decide +kernel
theorem dX12_laysWorlds_96 : decode cX12_laysWorlds 96 = .ok (.iconst 2, 1) := by decide +kernel
theorem dX12_laysWorlds_97 : decode cX12_laysWorlds 97 = .ok (.irem, 1) := by decide +kernel
theorem dX12_laysWorlds_98 : decode cX12_laysWorlds 98 = .ok (.iadd, 1) := by decide +kernel
theorem dX12_laysWorlds_99 : decode cX12_laysWorlds 99 = .ok (.iastore, 1) := by decide +kernel
theorem dX12_laysWorlds_100 : decode cX12_laysWorlds 100 = .ok (.iinc 2 1, 3) := by decide +kernel
theorem dX12_laysWorlds_103 : decode cX12_laysWorlds 103 = .ok (.goto (-59), 3) := by decide +kernel
theorem dX12_laysWorlds_106 : decode cX12_laysWorlds 106 = .ok (.iinc 1 1, 3) := by decide +kernel
theorem dX12_laysWorlds_109 : decode cX12_laysWorlds 109 = .ok (.goto (-79), 3) := by decide +kernel
theorem dX12_laysWorlds_112 : decode cX12_laysWorlds 112 = .ok (.return_, 1) := by decide +kernel
set_option maxRecDepth 100000 in
set_option maxHeartbeats 8000000 in
theorem c_X12_laysWorlds (l : Launch) (D : va_G) (cA : Nat → ClassId) (q aK aV : Nat → Nat) (hq : injG 20 q) {M M0 : Mem} (h : f_X12_laysWorlds M = some ((), M0)) : Met l yX12_laysWorlds (.code yX12_laysWorlds cX12_laysWorlds 4 none :: BW) ({ frames := 5, cells := 0, slots := 0, locals := 106 } : Room) (va_Pc [.ref (q 0)] (CB 20 (ceR cA q) D cA q aK aV M)) (Qv 20 (ceR cA q) D q M0) 0 0 (AqG 20 q) := by
  refine gMet RX12 (by decide +kernel) rfl hq (Nat.le_of_ble_eq_true rfl) ?_
  intro p e s m below meth c ls X hr hk hP hS hl
  have hx := X.1
  have hb := X.2.1
  have hl : lv_has ls 4 [(0, .ref (q 0))] := hl
  rw [f_X12_laysWorlds] at h
  have hL30 : ∀ (fu : Nat) (b1 : Int32) (M : Mem) (res : (Unit) × Mem) (H : Heap) (locs : List Loc) (ls : Array Slot), f_X12_laysWorlds_L30 fu b1 M = some res → va_P D vwCl (wsG 20 (ceR cA q) q M) H → va_S (AqG 20 q) s.heap H locs → lv_has ls 4 [(0, .ref (q 0)), (1, .int b1)] → (∀ (H : Heap) (locs : List Loc) (ls : Array Slot), va_P D vwCl (wsG 20 (ceR cA q) q res.2) H → va_S (AqG 20 q) s.heap H locs → lv_has ls 4 [] → W p l e ({ frames := 5, cells := 0, slots := 0, locals := 106 } : Room) s m [.ref (q 0)].toArray below meth c H locs 0 0 (MQ below (Qv 20 (ceR cA q) D q M0) [.ref (q 0)].toArray s 0 0 (AqG 20 q)) (F0 m 112 ls [])) → W p l e ({ frames := 5, cells := 0, slots := 0, locals := 106 } : Room) s m [.ref (q 0)].toArray below meth c H locs 0 0 (MQ below (Qv 20 (ceR cA q) D q M0) [.ref (q 0)].toArray s 0 0 (AqG 20 q)) (F0 m 30 ls []) := by
    intro fu
    induction fu with
    | zero => intro b1 M res H locs ls h; exact absurd h (by simp [f_X12_laysWorlds_L30])
    | succ fu ih =>
      intro b1 M res H locs ls h hP hS hl K30_0
      rw [f_X12_laysWorlds_L30] at h
      have hL44 : ∀ (b1 : Int32) (fu : Nat) (b2 : Int32) (M : Mem) (res : (Unit) × Mem) (H : Heap) (locs : List Loc) (ls : Array Slot), f_X12_laysWorlds_L44 b1 fu b2 M = some res → va_P D vwCl (wsG 20 (ceR cA q) q M) H → va_S (AqG 20 q) s.heap H locs → lv_has ls 4 [(0, .ref (q 0)), (1, .int b1), (2, .int b2)] → (∀ (H : Heap) (locs : List Loc) (ls : Array Slot), va_P D vwCl (wsG 20 (ceR cA q) q res.2) H → va_S (AqG 20 q) s.heap H locs → lv_has ls 4 [(0, .ref (q 0)), (1, .int b1)] → W p l e ({ frames := 5, cells := 0, slots := 0, locals := 106 } : Room) s m [.ref (q 0)].toArray below meth c H locs 0 0 (MQ below (Qv 20 (ceR cA q) D q M0) [.ref (q 0)].toArray s 0 0 (AqG 20 q)) (F0 m 106 ls [])) → W p l e ({ frames := 5, cells := 0, slots := 0, locals := 106 } : Room) s m [.ref (q 0)].toArray below meth c H locs 0 0 (MQ below (Qv 20 (ceR cA q) D q M0) [.ref (q 0)].toArray s 0 0 (AqG 20 q)) (F0 m 44 ls []) := by
        intro b1 fu
        induction fu with
        | zero => intro b2 M res H locs ls h; exact absurd h (by simp [f_X12_laysWorlds_L44])
        | succ fu ih =>
          intro b2 M res H locs ls h hP hS hl K44_0
          rw [f_X12_laysWorlds_L44] at h
          have hJ78 : ∀ (b2 : Int32) (b3 : Int32) (M : Mem) (H : Heap) (locs : List Loc) (ls : Array Slot), f_X12_laysWorlds_J78 (f_X12_laysWorlds_L44 b1 fu) b1 b2 b3 M = some res → va_P D vwCl (wsG 20 (ceR cA q) q M) H → va_S (AqG 20 q) s.heap H locs → lv_has ls 4 [(0, .ref (q 0)), (1, .int b1), (2, .int b2), (3, .int b3)] → W p l e ({ frames := 5, cells := 0, slots := 0, locals := 106 } : Room) s m [.ref (q 0)].toArray below meth c H locs 0 0 (MQ below (Qv 20 (ceR cA q) D q M0) [.ref (q 0)].toArray s 0 0 (AqG 20 q)) (F0 m 78 ls []) := by
            intro b2 b3 M H locs ls h hP hS hl
            rw [f_X12_laysWorlds_J78] at h
            refine lv_aload_n hx hb dX12_laysWorlds_78 rfl (lv_at hl 0 rfl) ?_
            refine gfR_12_29 X hP sR_0 bw_1352 dX12_laysWorlds_79 ?_
            refine lv_iload_n hx hb dX12_laysWorlds_82 rfl (lv_at hl 3 rfl) ?_
            refine lv_dup2_11 hx hb dX12_laysWorlds_83 rfl rfl ?_
            obtain ⟨g23, h⟩ := gd_inv h
            refine ldR_ia X hP sR_11 zR_11 g23 dX12_laysWorlds_84 ?_
            refine lv_iconst (v := 1) hx hb dX12_laysWorlds_85 (by decide) ?_
            refine lv_iadd hx hb dX12_laysWorlds_86 ?_
            obtain ⟨g24, h⟩ := gd_inv h
            obtain ⟨M25, eM25, h⟩ := lt_inv h
            refine stR_ia X hP hS sR_11 zR_11 g24 eM25 dX12_laysWorlds_87 (fun H locs hP hS => ?_)
            refine lv_aload_n hx hb dX12_laysWorlds_88 rfl (lv_at hl 0 rfl) ?_
            refine gfR_12_30 X hP sR_0 bw_1353 dX12_laysWorlds_89 ?_
            refine lv_iload_n hx hb dX12_laysWorlds_92 rfl (lv_at hl 3 rfl) ?_
            refine lv_dup2_11 hx hb dX12_laysWorlds_93 rfl rfl ?_
            obtain ⟨g26, h⟩ := gd_inv h
            refine ldR_ia X hP sR_12 zR_12 g26 dX12_laysWorlds_94 ?_
            refine lv_iload_n hx hb dX12_laysWorlds_95 rfl (lv_at hl 2 rfl) ?_
            refine lv_iconst (v := 2) hx hb dX12_laysWorlds_96 (by decide) ?_
            refine lv_irem hx hb dX12_laysWorlds_97 (by decide) ?_
            refine lv_iadd hx hb dX12_laysWorlds_98 ?_
            obtain ⟨g27, h⟩ := gd_inv h
            obtain ⟨M28, eM28, h⟩ := lt_inv h
            refine stR_ia X hP hS sR_12 zR_12 g27 eM28 dX12_laysWorlds_99 (fun H locs hP hS => ?_)
            obtain ⟨y29, ey29, h⟩ := lt_inv h
            refine lv_iinc (v := y29) (lv' := [(2, .int y29), (0, .ref (q 0)), (1, .int b1), (3, .int b3)]) hx hb dX12_laysWorlds_100 hl (k := 2) rfl (by rw [ey29]; rfl) (by decide) rfl (fun ls hl => ?_)
            refine lv_goto (tgt := 44) hx hb dX12_laysWorlds_103 (by decide) ?_
            exact ih _ _ res _ _ _ h hP hS (lv_sub hl [1, 2, 0] rfl) K44_0
          refine lv_iload_n hx hb dX12_laysWorlds_44 rfl (lv_at hl 2 rfl) ?_
          refine lv_sipush (v := 420) hx hb dX12_laysWorlds_45 (by decide) ?_
          refine lv_icmp_ge (tgt := 106) hx hb dX12_laysWorlds_48 (by decide) (fun c18 => ?_) (fun c18 => ?_)
          · rw [if_pos c18] at h
            cases h
            exact K44_0 _ _ _ hP hS (lv_sub hl [0, 1] rfl)
          · rw [if_neg c18] at h
            refine lv_aload_n hx hb dX12_laysWorlds_51 rfl (lv_at hl 0 rfl) ?_
            refine lv_iload_n hx hb dX12_laysWorlds_52 rfl (lv_at hl 2 rfl) ?_
            refine lv_iconst (v := 2) hx hb dX12_laysWorlds_53 (by decide) ?_
            refine lv_irem hx hb dX12_laysWorlds_54 (by decide) ?_
            refine lv_iload_n hx hb dX12_laysWorlds_55 rfl (lv_at hl 2 rfl) ?_
            refine lv_bipush (v := 20) hx hb dX12_laysWorlds_56 (by decide) ?_
            refine lv_idiv hx hb dX12_laysWorlds_58 (by decide) ?_
            refine lv_iload_n hx hb dX12_laysWorlds_59 rfl (lv_at hl 2 rfl) ?_
            refine lv_iconst (v := 2) hx hb dX12_laysWorlds_60 (by decide) ?_
            refine lv_idiv hx hb dX12_laysWorlds_61 (by decide) ?_
            refine lv_bipush (v := 10) hx hb dX12_laysWorlds_62 (by decide) ?_
            refine lv_irem hx hb dX12_laysWorlds_64 (by decide) ?_
            refine lv_iload_n hx hb dX12_laysWorlds_65 rfl (lv_at hl 1 rfl) ?_
            obtain ⟨r19, M20, hc21, h⟩ := bnd_inv h
            refine gV_i (As := [.int (b2 - b2 / (2 : Int32) * (2 : Int32)), .int (b2 / (20 : Int32)), .int ((b2 / (2 : Int32)) - (b2 / (2 : Int32)) / (10 : Int32) * (10 : Int32)), .int b1]) X hP hS hl.1 (c_X12_firstOf l D cA q aK aV hq hc21) sf_X12_firstOf bw_1747 sv_X12_firstOf (rcR_12 sR_0) rfl ⟨rfl, rfl⟩ ⟨Nat.le_of_ble_eq_true rfl, Nat.le_of_ble_eq_true rfl⟩ rfl rfl (Nat.le_of_ble_eq_true rfl) dX12_laysWorlds_66 (fun H locs hP hS => ?_)
            refine lv_istore_n (lv' := [(3, .int r19), (0, .ref (q 0)), (1, .int b1), (2, .int b2)]) hx hb dX12_laysWorlds_69 rfl hl (by decide) rfl (fun ls hl => ?_)
            refine lv_iload_n hx hb dX12_laysWorlds_70 rfl (lv_at hl 0 rfl) ?_
            refine lv_iconst (v := -1) hx hb dX12_laysWorlds_71 (by decide) ?_
            refine lv_icmp_ne (tgt := 78) hx hb dX12_laysWorlds_72 (by decide) (fun c22 => ?_) (fun c22 => ?_)
            · rw [if_neg c22] at h
              exact hJ78 _ _ _ _ _ _ h hP hS (lv_sub hl [1, 2, 3, 0] rfl)
            · rw [if_pos c22] at h
              refine lv_bipush (v := 8) hx hb dX12_laysWorlds_75 (by decide) ?_
              refine lv_istore_n (lv' := [(3, .int (8 : Int32)), (0, .ref (q 0)), (1, .int b1), (2, .int b2)]) hx hb dX12_laysWorlds_77 rfl hl (by decide) rfl (fun ls hl => ?_)
              exact hJ78 _ _ _ _ _ _ h hP hS (lv_sub hl [1, 2, 3, 0] rfl)
      refine lv_iload_n hx hb dX12_laysWorlds_30 rfl (lv_at hl 1 rfl) ?_
      refine lv_iconst (v := 1) hx hb dX12_laysWorlds_31 (by decide) ?_
      refine lv_aload_n hx hb dX12_laysWorlds_32 rfl (lv_at hl 0 rfl) ?_
      refine gfR_12_0 X hP sR_0 bw_1323 dX12_laysWorlds_33 ?_
      refine lv_iconst (v := 0) hx hb dX12_laysWorlds_36 (by decide) ?_
      refine ldR_ia X hP sR_1 zR_1 (by decide) dX12_laysWorlds_37 ?_
      refine topE (y := (gI M 1 0)) rfl ?_
      refine lv_ishl hx hb dX12_laysWorlds_38 ?_
      refine lv_icmp_ge (tgt := 112) hx hb dX12_laysWorlds_39 (by decide) (fun c13 => ?_) (fun c13 => ?_)
      · rw [if_pos c13] at h
        cases h
        exact K30_0 _ _ _ hP hS (lv_sub hl [] rfl)
      · rw [if_neg c13] at h
        refine lv_iconst (v := 0) hx hb dX12_laysWorlds_42 (by decide) ?_
        refine lv_istore_n (lv' := [(2, .int (0 : Int32)), (0, .ref (q 0)), (1, .int b1)]) hx hb dX12_laysWorlds_43 rfl hl (by decide) rfl (fun ls hl => ?_)
        obtain ⟨s14, M15, hc16, h⟩ := bnd_inv h
        try dsimp only at h
        refine hL44 _ fz _ _ _ _ _ _ hc16 hP hS (lv_sub hl [1, 2, 0] rfl) (fun H locs ls hP hS hl => ?_)
        have hl : lv_has ls 4 [(0, .ref (q 0)), (1, .int b1)] := hl
        obtain ⟨y17, ey17, h⟩ := lt_inv h
        refine lv_iinc (v := y17) (lv' := [(1, .int y17), (0, .ref (q 0))]) hx hb dX12_laysWorlds_106 hl (k := 1) rfl (by rw [ey17]; rfl) (by decide) rfl (fun ls hl => ?_)
        refine lv_goto (tgt := 30) hx hb dX12_laysWorlds_109 (by decide) ?_
        exact ih _ _ res _ _ _ h hP hS (lv_sub hl [1, 0] rfl) K30_0
  have hL2 : ∀ (fu : Nat) (b1 : Int32) (M : Mem) (res : (Unit) × Mem) (H : Heap) (locs : List Loc) (ls : Array Slot), f_X12_laysWorlds_L2 fu b1 M = some res → va_P D vwCl (wsG 20 (ceR cA q) q M) H → va_S (AqG 20 q) s.heap H locs → lv_has ls 4 [(0, .ref (q 0)), (1, .int b1)] → (∀ (H : Heap) (locs : List Loc) (ls : Array Slot), va_P D vwCl (wsG 20 (ceR cA q) q res.2) H → va_S (AqG 20 q) s.heap H locs → lv_has ls 4 [(0, .ref (q 0))] → W p l e ({ frames := 5, cells := 0, slots := 0, locals := 106 } : Room) s m [.ref (q 0)].toArray below meth c H locs 0 0 (MQ below (Qv 20 (ceR cA q) D q M0) [.ref (q 0)].toArray s 0 0 (AqG 20 q)) (F0 m 28 ls [])) → W p l e ({ frames := 5, cells := 0, slots := 0, locals := 106 } : Room) s m [.ref (q 0)].toArray below meth c H locs 0 0 (MQ below (Qv 20 (ceR cA q) D q M0) [.ref (q 0)].toArray s 0 0 (AqG 20 q)) (F0 m 2 ls []) := by
    intro fu
    induction fu with
    | zero => intro b1 M res H locs ls h; exact absurd h (by simp [f_X12_laysWorlds_L2])
    | succ fu ih =>
      intro b1 M res H locs ls h hP hS hl K2_0
      rw [f_X12_laysWorlds_L2] at h
      refine lv_iload_n hx hb dX12_laysWorlds_2 rfl (lv_at hl 1 rfl) ?_
      refine lv_bipush (v := 8) hx hb dX12_laysWorlds_3 (by decide) ?_
      refine lv_icmp_gt (tgt := 28) hx hb dX12_laysWorlds_5 (by decide) (fun c7 => ?_) (fun c7 => ?_)
      · rw [if_pos c7] at h
        cases h
        exact K2_0 _ _ _ hP hS (lv_sub hl [0] rfl)
      · rw [if_neg c7] at h
        refine lv_aload_n hx hb dX12_laysWorlds_8 rfl (lv_at hl 0 rfl) ?_
        refine gfR_12_29 X hP sR_0 bw_1352 dX12_laysWorlds_9 ?_
        refine lv_iload_n hx hb dX12_laysWorlds_12 rfl (lv_at hl 1 rfl) ?_
        refine lv_iconst (v := 0) hx hb dX12_laysWorlds_13 (by decide) ?_
        obtain ⟨g8, h⟩ := gd_inv h
        obtain ⟨M9, eM9, h⟩ := lt_inv h
        refine stR_ia X hP hS sR_11 zR_11 g8 eM9 dX12_laysWorlds_14 (fun H locs hP hS => ?_)
        refine lv_aload_n hx hb dX12_laysWorlds_15 rfl (lv_at hl 0 rfl) ?_
        refine gfR_12_30 X hP sR_0 bw_1353 dX12_laysWorlds_16 ?_
        refine lv_iload_n hx hb dX12_laysWorlds_19 rfl (lv_at hl 1 rfl) ?_
        refine lv_iconst (v := 0) hx hb dX12_laysWorlds_20 (by decide) ?_
        obtain ⟨g10, h⟩ := gd_inv h
        obtain ⟨M11, eM11, h⟩ := lt_inv h
        refine stR_ia X hP hS sR_12 zR_12 g10 eM11 dX12_laysWorlds_21 (fun H locs hP hS => ?_)
        obtain ⟨y12, ey12, h⟩ := lt_inv h
        refine lv_iinc (v := y12) (lv' := [(1, .int y12), (0, .ref (q 0))]) hx hb dX12_laysWorlds_22 hl (k := 1) rfl (by rw [ey12]; rfl) (by decide) rfl (fun ls hl => ?_)
        refine lv_goto (tgt := 2) hx hb dX12_laysWorlds_25 (by decide) ?_
        exact ih _ _ res _ _ _ h hP hS (lv_sub hl [1, 0] rfl) K2_0
  refine lv_iconst (v := 0) hx hb dX12_laysWorlds_0 (by decide) ?_
  refine lv_istore_n (lv' := [(1, .int (0 : Int32)), (0, .ref (q 0))]) hx hb dX12_laysWorlds_1 rfl hl (by decide) rfl (fun ls hl => ?_)
  obtain ⟨s1, M2, hc3, h⟩ := bnd_inv h
  try dsimp only at h
  refine hL2  fz _ _ _ _ _ _ hc3 hP hS (lv_sub hl [1, 0] rfl) (fun H locs ls hP hS hl => ?_)
  have hl : lv_has ls 4 [(0, .ref (q 0))] := hl
  refine lv_iconst (v := 0) hx hb dX12_laysWorlds_28 (by decide) ?_
  refine lv_istore_n (lv' := [(1, .int (0 : Int32)), (0, .ref (q 0))]) hx hb dX12_laysWorlds_29 rfl hl (by decide) rfl (fun ls hl => ?_)
  obtain ⟨s4, M5, hc6, h⟩ := bnd_inv h
  try dsimp only at h
  refine hL30  fz _ _ _ _ _ _ hc6 hP hS (lv_sub hl [1, 0] rfl) (fun H locs ls hP hS hl => ?_)
  have hl : lv_has ls 4 [] := hl
  exact end_v X hr hk hP hS h dX12_laysWorlds_112
theorem dX12_reach_0 : decode cX12_reach 0 = .ok (.aload_n 0, 1) := by decide +kernel
theorem dX12_reach_1 : decode cX12_reach 1 = .ok (.iload_n 1, 1) := by decide +kernel
theorem dX12_reach_2 : decode cX12_reach 2 = .ok (.invokevirtual 296, 3) := by decide +kernel
theorem dX12_reach_5 : decode cX12_reach 5 = .ok (.ifCond .ne 9, 3) := by decide +kernel
theorem dX12_reach_8 : decode cX12_reach 8 = .ok (.aload_n 0, 1) := by decide +kernel
theorem dX12_reach_9 : decode cX12_reach 9 = .ok (.iconst 1, 1) := by decide +kernel
theorem dX12_reach_10 : decode cX12_reach 10 = .ok (.invokevirtual 91, 3) := by decide +kernel
theorem dX12_reach_13 : decode cX12_reach 13 = .ok (.ireturn, 1) := by decide +kernel
theorem dX12_reach_14 : decode cX12_reach 14 = .ok (.aload_n 0, 1) := by decide +kernel
theorem dX12_reach_15 : decode cX12_reach 15 = .ok (.invokevirtual 428, 3) := by decide +kernel
theorem dX12_reach_18 : decode cX12_reach 18 = .ok (.aload_n 0, 1) := by decide +kernel
theorem dX12_reach_19 : decode cX12_reach 19 = .ok (.aload_n 0, 1) := by decide +kernel
theorem dX12_reach_20 : decode cX12_reach 20 = .ok (.getfield 54, 3) := by decide +kernel
theorem dX12_reach_23 : decode cX12_reach 23 = .ok (.iload_n 1, 1) := by decide +kernel
theorem dX12_reach_24 : decode cX12_reach 24 = .ok (.iaload, 1) := by decide +kernel
theorem dX12_reach_25 : decode cX12_reach 25 = .ok (.invokevirtual 95, 3) := by decide +kernel
theorem dX12_reach_28 : decode cX12_reach 28 = .ok (.ireturn, 1) := by decide +kernel
set_option maxRecDepth 100000 in
set_option maxHeartbeats 8000000 in
theorem c_X12_reach (l : Launch) (D : va_G) (cA : Nat → ClassId) (q aK aV : Nat → Nat) (hq : injG 20 q) {a1 : Int32} {M M0 : Mem} {r0 : Int32} (h : f_X12_reach a1 M = some (r0, M0)) : Met l yX12_reach (.code yX12_reach cX12_reach 2 (some .int) :: BW) ({ frames := 6, cells := 0, slots := 0, locals := 129 } : Room) (va_Pc [.ref (q 0), .int a1] (CB 20 (ceR cA q) D cA q aK aV M)) (Qi 20 (ceR cA q) D q r0 M0) 0 0 (AqG 20 q) := by
  refine gMet RX12 (by decide +kernel) rfl hq (Nat.le_of_ble_eq_true rfl) ?_
  intro p e s m below meth c ls X hr hk hP hS hl
  have hx := X.1
  have hb := X.2.1
  have hl : lv_has ls 2 [(0, .ref (q 0)), (1, .int a1)] := hl
  rw [f_X12_reach] at h
  refine lv_aload_n hx hb dX12_reach_0 rfl (lv_at hl 0 rfl) ?_
  refine lv_iload_n hx hb dX12_reach_1 rfl (lv_at hl 1 rfl) ?_
  obtain ⟨r1, M2, hc3, h⟩ := bnd_inv h
  refine gV_i (As := [.int a1]) X hP hS hl.1 (c_X12_isRule l D cA q aK aV hq hc3) sf_X12_isRule bw_1699 sv_X12_isRule (rcR_12 sR_0) rfl ⟨rfl, rfl⟩ ⟨Nat.le_of_ble_eq_true rfl, Nat.le_of_ble_eq_true rfl⟩ rfl rfl (Nat.le_of_ble_eq_true rfl) dX12_reach_2 (fun H locs hP hS => ?_)
  refine lv_if_ne (tgt := 14) hx hb dX12_reach_5 (by decide) (fun c4 => ?_) (fun c4 => ?_)
  · rw [if_neg c4] at h
    refine lv_aload_n hx hb dX12_reach_14 rfl (lv_at hl 0 rfl) ?_
    obtain ⟨_, M6, hc7, h⟩ := bnd_inv h
    refine gV_v (As := []) X hP hS hl.1 (c_X12_laysWorlds l D cA q aK aV hq hc7) sf_X12_laysWorlds bw_1944 sv_X12_laysWorlds (rcR_12 sR_0) rfl ⟨rfl, rfl⟩ ⟨Nat.le_of_ble_eq_true rfl, Nat.le_of_ble_eq_true rfl⟩ rfl rfl (Nat.le_of_ble_eq_true rfl) dX12_reach_15 (fun H locs hP hS => ?_)
    refine lv_aload_n hx hb dX12_reach_18 rfl (lv_at hl 0 rfl) ?_
    refine lv_aload_n hx hb dX12_reach_19 rfl (lv_at hl 0 rfl) ?_
    refine gfR_12_29 X hP sR_0 bw_1352 dX12_reach_20 ?_
    refine lv_iload_n hx hb dX12_reach_23 rfl (lv_at hl 1 rfl) ?_
    obtain ⟨g8, h⟩ := gd_inv h
    refine ldR_ia X hP sR_11 zR_11 g8 dX12_reach_24 ?_
    obtain ⟨r9, M10, hc11, h⟩ := bnd_inv h
    refine gV_i (As := [.int (gI M6 11 a1.toNatClampNeg)]) X hP hS hl.1 (c_X12_gives l D cA q aK aV hq hc11) sf_X12_gives bw_1639 sv_X12_gives (rcR_12 sR_0) rfl ⟨rfl, rfl⟩ ⟨Nat.le_of_ble_eq_true rfl, Nat.le_of_ble_eq_true rfl⟩ rfl rfl (Nat.le_of_ble_eq_true rfl) dX12_reach_25 (fun H locs hP hS => ?_)
    exact end_i X hr hk hP hS h dX12_reach_28
  · rw [if_pos c4] at h
    refine lv_aload_n hx hb dX12_reach_8 rfl (lv_at hl 0 rfl) ?_
    refine lv_iconst (v := 1) hx hb dX12_reach_9 (by decide) ?_
    obtain ⟨r12, M13, hc14, h⟩ := bnd_inv h
    refine gV_i (As := [.int (1 : Int32)]) X hP hS hl.1 (c_X12_refuse l D cA q aK aV hq hc14) sf_X12_refuse bw_1530 sv_X12_refuse (rcR_12 sR_0) rfl ⟨rfl, rfl⟩ ⟨Nat.le_of_ble_eq_true rfl, Nat.le_of_ble_eq_true rfl⟩ rfl rfl (Nat.le_of_ble_eq_true rfl) dX12_reach_10 (fun H locs hP hS => ?_)
    exact end_i X hr hk hP hS h dX12_reach_13
theorem dX12_idle_0 : decode cX12_idle 0 = .ok (.aload_n 0, 1) := by decide +kernel
theorem dX12_idle_1 : decode cX12_idle 1 = .ok (.invokevirtual 428, 3) := by decide +kernel
theorem dX12_idle_4 : decode cX12_idle 4 = .ok (.iconst 0, 1) := by decide +kernel
theorem dX12_idle_5 : decode cX12_idle 5 = .ok (.istore_n 1, 1) := by decide +kernel
theorem dX12_idle_6 : decode cX12_idle 6 = .ok (.iconst 0, 1) := by decide +kernel
theorem dX12_idle_7 : decode cX12_idle 7 = .ok (.istore_n 2, 1) := by decide +kernel
theorem dX12_idle_8 : decode cX12_idle 8 = .ok (.iload_n 2, 1) := by decide +kernel
theorem dX12_idle_9 : decode cX12_idle 9 = .ok (.aload_n 0, 1) := by decide +kernel
theorem dX12_idle_10 : decode cX12_idle 10 = .ok (.getfield 7, 3) := by decide +kernel
theorem dX12_idle_13 : decode cX12_idle 13 = .ok (.iconst 2, 1) := by decide +kernel
theorem dX12_idle_14 : decode cX12_idle 14 = .ok (.iaload, 1) := by decide +kernel
theorem dX12_idle_15 : decode cX12_idle 15 = .ok (.if_icmp .ge 28, 3) := by decide +kernel
theorem dX12_idle_18 : decode cX12_idle 18 = .ok (.iload_n 1, 1) := by decide +kernel
theorem dX12_idle_19 : decode cX12_idle 19 = .ok (.aload_n 0, 1) := by decide +kernel
theorem dX12_idle_20 : decode cX12_idle 20 = .ok (.getfield 54, 3) := by decide +kernel
theorem dX12_idle_23 : decode cX12_idle 23 = .ok (.iload_n 2, 1) := by decide +kernel
theorem dX12_idle_24 : decode cX12_idle 24 = .ok (.iaload, 1) := by decide +kernel
theorem dX12_idle_25 : decode cX12_idle 25 = .ok (.ifCond .ne 9, 3) := by decide +kernel
theorem dX12_idle_28 : decode cX12_idle 28 = .ok (.iconst 1, 1) := by decide +kernel
theorem dX12_idle_29 : decode cX12_idle 29 = .ok (.iload_n 2, 1) := by decide +kernel
theorem dX12_idle_30 : decode cX12_idle 30 = .ok (.ishl, 1) := by decide +kernel
theorem dX12_idle_31 : decode cX12_idle 31 = .ok (.goto 4, 3) := by decide +kernel
theorem dX12_idle_34 : decode cX12_idle 34 = .ok (.iconst 0, 1) := by decide +kernel
theorem dX12_idle_35 : decode cX12_idle 35 = .ok (.ior, 1) := by decide +kernel
theorem dX12_idle_36 : decode cX12_idle 36 = .ok (.istore_n 1, 1) := by decide +kernel
theorem dX12_idle_37 : decode cX12_idle 37 = .ok (.iinc 2 1, 3) := by decide +kernel
theorem dX12_idle_40 : decode cX12_idle 40 = .ok (.goto (-32), 3) := by decide +kernel
theorem dX12_idle_43 : decode cX12_idle 43 = .ok (.aload_n 0, 1) := by decide +kernel
theorem dX12_idle_44 : decode cX12_idle 44 = .ok (.iload_n 1, 1) := by decide +kernel
theorem dX12_idle_45 : decode cX12_idle 45 = .ok (.invokevirtual 95, 3) := by decide +kernel
theorem dX12_idle_48 : decode cX12_idle 48 = .ok (.ireturn, 1) := by decide +kernel
set_option maxRecDepth 100000 in
set_option maxHeartbeats 8000000 in
theorem c_X12_idle (l : Launch) (D : va_G) (cA : Nat → ClassId) (q aK aV : Nat → Nat) (hq : injG 20 q) {M M0 : Mem} {r0 : Int32} (h : f_X12_idle M = some (r0, M0)) : Met l yX12_idle (.code yX12_idle cX12_idle 3 (some .int) :: BW) ({ frames := 6, cells := 0, slots := 0, locals := 129 } : Room) (va_Pc [.ref (q 0)] (CB 20 (ceR cA q) D cA q aK aV M)) (Qi 20 (ceR cA q) D q r0 M0) 0 0 (AqG 20 q) := by
  refine gMet RX12 (by decide +kernel) rfl hq (Nat.le_of_ble_eq_true rfl) ?_
  intro p e s m below meth c ls X hr hk hP hS hl
  have hx := X.1
  have hb := X.2.1
  have hl : lv_has ls 3 [(0, .ref (q 0))] := hl
  rw [f_X12_idle] at h
  have hL8 : ∀ (fu : Nat) (b1 : Int32) (b2 : Int32) (M : Mem) (res : (Int32) × Mem) (H : Heap) (locs : List Loc) (ls : Array Slot), f_X12_idle_L8 fu b1 b2 M = some res → va_P D vwCl (wsG 20 (ceR cA q) q M) H → va_S (AqG 20 q) s.heap H locs → lv_has ls 3 [(0, .ref (q 0)), (1, .int b1), (2, .int b2)] → (∀ (H : Heap) (locs : List Loc) (ls : Array Slot), va_P D vwCl (wsG 20 (ceR cA q) q res.2) H → va_S (AqG 20 q) s.heap H locs → lv_has ls 3 [(0, .ref (q 0)), (1, .int (res.1))] → W p l e ({ frames := 6, cells := 0, slots := 0, locals := 129 } : Room) s m [.ref (q 0)].toArray below meth c H locs 0 0 (MQ below (Qi 20 (ceR cA q) D q r0 M0) [.ref (q 0)].toArray s 0 0 (AqG 20 q)) (F0 m 43 ls [])) → W p l e ({ frames := 6, cells := 0, slots := 0, locals := 129 } : Room) s m [.ref (q 0)].toArray below meth c H locs 0 0 (MQ below (Qi 20 (ceR cA q) D q r0 M0) [.ref (q 0)].toArray s 0 0 (AqG 20 q)) (F0 m 8 ls []) := by
    intro fu
    induction fu with
    | zero => intro b1 b2 M res H locs ls h; exact absurd h (by simp [f_X12_idle_L8])
    | succ fu ih =>
      intro b1 b2 M res H locs ls h hP hS hl K8_0
      rw [f_X12_idle_L8] at h
      refine lv_iload_n hx hb dX12_idle_8 rfl (lv_at hl 2 rfl) ?_
      refine lv_aload_n hx hb dX12_idle_9 rfl (lv_at hl 0 rfl) ?_
      refine gfR_12_0 X hP sR_0 bw_1323 dX12_idle_10 ?_
      refine lv_iconst (v := 2) hx hb dX12_idle_13 (by decide) ?_
      refine ldR_ia X hP sR_1 zR_1 (by decide) dX12_idle_14 ?_
      refine topE (y := (gI M 1 2)) rfl ?_
      refine lv_icmp_ge (tgt := 43) hx hb dX12_idle_15 (by decide) (fun c11 => ?_) (fun c11 => ?_)
      · rw [if_pos c11] at h
        cases h
        exact K8_0 _ _ _ hP hS (lv_sub hl [0, 1] rfl)
      · rw [if_neg c11] at h
        refine lv_iload_n hx hb dX12_idle_18 rfl (lv_at hl 1 rfl) ?_
        refine lv_aload_n hx hb dX12_idle_19 rfl (lv_at hl 0 rfl) ?_
        refine gfR_12_29 X hP sR_0 bw_1352 dX12_idle_20 ?_
        refine lv_iload_n hx hb dX12_idle_23 rfl (lv_at hl 2 rfl) ?_
        obtain ⟨g12, h⟩ := gd_inv h
        refine ldR_ia X hP sR_11 zR_11 g12 dX12_idle_24 ?_
        refine lv_if_ne (tgt := 34) hx hb dX12_idle_25 (by decide) (fun c13 => ?_) (fun c13 => ?_)
        · rw [if_neg c13] at h
          refine lv_iconst (v := 0) hx hb dX12_idle_34 (by decide) ?_
          refine lv_ior hx hb dX12_idle_35 ?_
          obtain ⟨y14, ey14, h⟩ := lt_inv h
          refine topE ey14 ?_
          refine lv_istore_n (lv' := [(1, .int y14), (0, .ref (q 0)), (2, .int b2)]) hx hb dX12_idle_36 rfl hl (by decide) rfl (fun ls hl => ?_)
          obtain ⟨y15, ey15, h⟩ := lt_inv h
          refine lv_iinc (v := y15) (lv' := [(2, .int y15), (1, .int y14), (0, .ref (q 0))]) hx hb dX12_idle_37 hl (k := 2) rfl (by rw [ey15]; rfl) (by decide) rfl (fun ls hl => ?_)
          refine lv_goto (tgt := 8) hx hb dX12_idle_40 (by decide) ?_
          exact ih _ _ _ res _ _ _ h hP hS (lv_sub hl [2, 1, 0] rfl) K8_0
        · rw [if_pos c13] at h
          refine lv_iconst (v := 1) hx hb dX12_idle_28 (by decide) ?_
          refine lv_iload_n hx hb dX12_idle_29 rfl (lv_at hl 2 rfl) ?_
          refine lv_ishl hx hb dX12_idle_30 ?_
          refine lv_goto (tgt := 35) hx hb dX12_idle_31 (by decide) ?_
          refine lv_ior hx hb dX12_idle_35 ?_
          obtain ⟨y16, ey16, h⟩ := lt_inv h
          refine topE ey16 ?_
          refine lv_istore_n (lv' := [(1, .int y16), (0, .ref (q 0)), (2, .int b2)]) hx hb dX12_idle_36 rfl hl (by decide) rfl (fun ls hl => ?_)
          obtain ⟨y17, ey17, h⟩ := lt_inv h
          refine lv_iinc (v := y17) (lv' := [(2, .int y17), (1, .int y16), (0, .ref (q 0))]) hx hb dX12_idle_37 hl (k := 2) rfl (by rw [ey17]; rfl) (by decide) rfl (fun ls hl => ?_)
          refine lv_goto (tgt := 8) hx hb dX12_idle_40 (by decide) ?_
          exact ih _ _ _ res _ _ _ h hP hS (lv_sub hl [2, 1, 0] rfl) K8_0
  refine lv_aload_n hx hb dX12_idle_0 rfl (lv_at hl 0 rfl) ?_
  obtain ⟨_, M2, hc3, h⟩ := bnd_inv h
  refine gV_v (As := []) X hP hS hl.1 (c_X12_laysWorlds l D cA q aK aV hq hc3) sf_X12_laysWorlds bw_1944 sv_X12_laysWorlds (rcR_12 sR_0) rfl ⟨rfl, rfl⟩ ⟨Nat.le_of_ble_eq_true rfl, Nat.le_of_ble_eq_true rfl⟩ rfl rfl (Nat.le_of_ble_eq_true rfl) dX12_idle_1 (fun H locs hP hS => ?_)
  refine lv_iconst (v := 0) hx hb dX12_idle_4 (by decide) ?_
  refine lv_istore_n (lv' := [(1, .int (0 : Int32)), (0, .ref (q 0))]) hx hb dX12_idle_5 rfl hl (by decide) rfl (fun ls hl => ?_)
  refine lv_iconst (v := 0) hx hb dX12_idle_6 (by decide) ?_
  refine lv_istore_n (lv' := [(2, .int (0 : Int32)), (1, .int (0 : Int32)), (0, .ref (q 0))]) hx hb dX12_idle_7 rfl hl (by decide) rfl (fun ls hl => ?_)
  obtain ⟨s4, M5, hc6, h⟩ := bnd_inv h
  obtain ⟨x7, rfl⟩ : ∃ z, z = s4 := ⟨_, rfl⟩
  try dsimp only at h
  refine hL8  fz _ _ _ _ _ _ _ hc6 hP hS (lv_sub hl [2, 1, 0] rfl) (fun H locs ls hP hS hl => ?_)
  have hl : lv_has ls 3 [(0, .ref (q 0)), (1, .int x7)] := hl
  refine lv_aload_n hx hb dX12_idle_43 rfl (lv_at hl 0 rfl) ?_
  refine lv_iload_n hx hb dX12_idle_44 rfl (lv_at hl 1 rfl) ?_
  obtain ⟨r8, M9, hc10, h⟩ := bnd_inv h
  refine gV_i (As := [.int x7]) X hP hS hl.1 (c_X12_gives l D cA q aK aV hq hc10) sf_X12_gives bw_1639 sv_X12_gives (rcR_12 sR_0) rfl ⟨rfl, rfl⟩ ⟨Nat.le_of_ble_eq_true rfl, Nat.le_of_ble_eq_true rfl⟩ rfl rfl (Nat.le_of_ble_eq_true rfl) dX12_idle_45 (fun H locs hP hS => ?_)
  exact end_i X hr hk hP hS h dX12_idle_48
