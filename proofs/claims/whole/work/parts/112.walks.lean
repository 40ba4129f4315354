theorem dX12_shown_0 : decode cX12_shown 0 = .ok (.aload_n 0, 1) := by decide +kernel
theorem dX12_shown_1 : decode cX12_shown 1 = .ok (.iload_n 1, 1) := by decide +kernel
theorem dX12_shown_2 : decode cX12_shown 2 = .ok (.invokevirtual 293, 3) := by decide +kernel
theorem dX12_shown_5 : decode cX12_shown 5 = .ok (.ifCond .ne 9, 3) := by decide +kernel
theorem dX12_shown_8 : decode cX12_shown 8 = .ok (.aload_n 0, 1) := by decide +kernel
theorem dX12_shown_9 : decode cX12_shown 9 = .ok (.iconst 1, 1) := by decide +kernel
theorem dX12_shown_10 : decode cX12_shown 10 = .ok (.invokevirtual 91, 3) := by decide +kernel
theorem dX12_shown_13 : decode cX12_shown 13 = .ok (.ireturn, 1) := by decide +kernel
theorem dX12_shown_14 : decode cX12_shown 14 = .ok (.iconst 0, 1) := by decide +kernel
theorem dX12_shown_15 : decode cX12_shown 15 = .ok (.istore_n 2, 1) := by decide +kernel
theorem dX12_shown_16 : decode cX12_shown 16 = .ok (.iconst 0, 1) := by decide +kernel
theorem dX12_shown_17 : decode cX12_shown 17 = .ok (.istore_n 3, 1) := by decide +kernel
theorem dX12_shown_18 : decode cX12_shown 18 = .ok (.iload_n 3, 1) := by decide +kernel
theorem dX12_shown_19 : decode cX12_shown 19 = .ok (.aload_n 0, 1) := by decide +kernel
theorem dX12_shown_20 : decode cX12_shown 20 = .ok (.getfield 7, 3) := by decide +kernel
theorem dX12_shown_23 : decode cX12_shown 23 = .ok (.iconst 3, 1) := by decide +kernel
theorem dX12_shown_24 : decode cX12_shown 24 = .ok (.iaload, 1) := by decide +kernel
theorem dX12_shown_25 : decode cX12_shown 25 = .ok (.if_icmp .ge 35, 3) := by decide +kernel
theorem dX12_shown_28 : decode cX12_shown 28 = .ok (.iload_n 2, 1) := by decide +kernel
theorem dX12_shown_29 : decode cX12_shown 29 = .ok (.aload_n 0, 1) := by decide +kernel
theorem dX12_shown_30 : decode cX12_shown 30 = .ok (.iload_n 3, 1) := by decide +kernel
theorem dX12_shown_31 : decode cX12_shown 31 = .ok (.aload_n 0, 1) := by decide +kernel
theorem dX12_shown_32 : decode cX12_shown 32 = .ok (.getfield 7, 3) := by decide +kernel
theorem dX12_shown_35 : decode cX12_shown 35 = .ok (.bipush 6, 2) := by decide +kernel
theorem dX12_shown_37 : decode cX12_shown 37 = .ok (.iaload, 1) := by decide +kernel
theorem dX12_shown_38 : decode cX12_shown 38 = .ok (.invokevirtual 332, 3) := by decide +kernel
theorem dX12_shown_41 : decode cX12_shown 41 = .ok (.iload_n 1, 1) := by decide +kernel
theorem dX12_shown_42 : decode cX12_shown 42 = .ok (.if_icmp .ne 9, 3) := by decide +kernel
theorem dX12_shown_45 : decode cX12_shown 45 = .ok (.iconst 1, 1) := by decide +kernel
theorem dX12_shown_46 : decode cX12_shown 46 = .ok (.iload_n 3, 1) := by decide +kernel
theorem dX12_shown_47 : decode cX12_shown 47 = .ok (.ishl, 1) := by decide +kernel
theorem dX12_shown_48 : decode cX12_shown 48 = .ok (.goto 4, 3) := by decide +kernel
theorem dX12_shown_51 : decode cX12_shown 51 = .ok (.iconst 0, 1) := by decide +kernel
theorem dX12_shown_52 : decode cX12_shown 52 = .ok (.ior, 1) := by decide +kernel
theorem dX12_shown_53 : decode cX12_shown 53 = .ok (.istore_n 2, 1) := by decide +kernel
theorem dX12_shown_54 : decode cX12_shown 54 = .ok (.iinc 3 1, 3) := by decide +kernel
theorem dX12_shown_57 : decode cX12_shown 57 = .ok (.goto (-39), 3) := by decide +kernel
theorem dX12_shown_60 : decode cX12_shown 60 = .ok (.aload_n 0, 1) := by decide +kernel
theorem dX12_shown_61 : decode cX12_shown 61 = .ok (.iload_n 2, 1) := by decide +kernel
theorem dX12_shown_62 : decode cX12_shown 62 = .ok (.invokevirtual 95, 3) := by decide +kernel
theorem dX12_shown_65 : decode cX12_shown 65 = .ok (.ireturn, 1) := by decide +kernel
set_option maxRecDepth 100000 in
set_option maxHeartbeats 8000000 in
theorem c_X12_shown (l : Launch) (D : va_G) (cA : Nat → ClassId) (q aK aV : Nat → Nat) (hq : injG 20 q) {a1 : Int32} {M M0 : Mem} {r0 : Int32} (h : f_X12_shown a1 M = some (r0, M0)) : Met l yX12_shown (.code yX12_shown cX12_shown 4 (some .int) :: BW) ({ frames := 7, cells := 0, slots := 0, locals := 151 } : Room) (va_Pc [.ref (q 0), .int a1] (CB 20 (ceR cA q) D cA q aK aV M)) (Qi 20 (ceR cA q) D q r0 M0) 0 0 (AqG 20 q) := by
  refine gMet RX12 (by decide +kernel) rfl hq (Nat.le_of_ble_eq_true rfl) ?_
  intro p e s m below meth c ls X hr hk hP hS hl
  have hx := X.1
  have hb := X.2.1
  have hl : lv_has ls 4 [(0, .ref (q 0)), (1, .int a1)] := hl
  rw [f_X12_shown] at h
  have hL18 : ∀ (fu : Nat) (b2 : Int32) (b3 : Int32) (M : Mem) (res : (Int32) × Mem) (H : Heap) (locs : List Loc) (ls : Array Slot), f_X12_shown_L18 a1 fu b2 b3 M = some res → va_P D vwCl (wsG 20 (ceR cA q) q M) H → va_S (AqG 20 q) s.heap H locs → lv_has ls 4 [(0, .ref (q 0)), (1, .int a1), (2, .int b2), (3, .int b3)] → (∀ (H : Heap) (locs : List Loc) (ls : Array Slot), va_P D vwCl (wsG 20 (ceR cA q) q res.2) H → va_S (AqG 20 q) s.heap H locs → lv_has ls 4 [(0, .ref (q 0)), (2, .int (res.1))] → W p l e ({ frames := 7, cells := 0, slots := 0, locals := 151 } : Room) s m [.ref (q 0), .int a1].toArray below meth c H locs 0 0 (MQ below (Qi 20 (ceR cA q) D q r0 M0) [.ref (q 0), .int a1].toArray s 0 0 (AqG 20 q)) (F0 m 60 ls [])) → W p l e ({ frames := 7, cells := 0, slots := 0, locals := 151 } : Room) s m [.ref (q 0), .int a1].toArray below meth c H locs 0 0 (MQ below (Qi 20 (ceR cA q) D q r0 M0) [.ref (q 0), .int a1].toArray s 0 0 (AqG 20 q)) (F0 m 18 ls []) := by
    intro fu
    induction fu with
    | zero => intro b2 b3 M res H locs ls h; exact absurd h (by simp [f_X12_shown_L18])
    | succ fu ih =>
      intro b2 b3 M res H locs ls h hP hS hl K18_0
      rw [f_X12_shown_L18] at h
      refine lv_iload_n hx hb dX12_shown_18 rfl (lv_at hl 3 rfl) ?_
      refine lv_aload_n hx hb dX12_shown_19 rfl (lv_at hl 0 rfl) ?_
      refine gfR_12_0 X hP sR_0 bw_1323 dX12_shown_20 ?_
      refine lv_iconst (v := 3) hx hb dX12_shown_23 (by decide) ?_
      refine ldR_ia X hP sR_1 zR_1 (by decide) dX12_shown_24 ?_
      refine topE (y := (gI M 1 3)) rfl ?_
      refine lv_icmp_ge (tgt := 60) hx hb dX12_shown_25 (by decide) (fun c15 => ?_) (fun c15 => ?_)
      · rw [if_pos c15] at h
        cases h
        exact K18_0 _ _ _ hP hS (lv_sub hl [0, 2] rfl)
      · rw [if_neg c15] at h
        refine lv_iload_n hx hb dX12_shown_28 rfl (lv_at hl 2 rfl) ?_
        refine lv_aload_n hx hb dX12_shown_29 rfl (lv_at hl 0 rfl) ?_
        refine lv_iload_n hx hb dX12_shown_30 rfl (lv_at hl 3 rfl) ?_
        refine lv_aload_n hx hb dX12_shown_31 rfl (lv_at hl 0 rfl) ?_
        refine gfR_12_0 X hP sR_0 bw_1323 dX12_shown_32 ?_
        refine lv_bipush (v := 6) hx hb dX12_shown_35 (by decide) ?_
        refine ldR_ia X hP sR_1 zR_1 (by decide) dX12_shown_37 ?_
        refine topE (y := (gI M 1 6)) rfl ?_
        obtain ⟨r16, M17, hc18, h⟩ := bnd_inv h
        refine gV_i (As := [.int b3, .int (gI M 1 6)]) X hP hS hl.1 (c_X12_cueFor l D cA q aK aV hq hc18) sf_X12_cueFor bw_1739 sv_X12_cueFor (rcR_12 sR_0) rfl ⟨rfl, rfl⟩ ⟨Nat.le_of_ble_eq_true rfl, Nat.le_of_ble_eq_true rfl⟩ rfl rfl (Nat.le_of_ble_eq_true rfl) dX12_shown_38 (fun H locs hP hS => ?_)
        refine lv_iload_n hx hb dX12_shown_41 rfl (lv_at hl 1 rfl) ?_
        refine lv_icmp_ne (tgt := 51) hx hb dX12_shown_42 (by decide) (fun c19 => ?_) (fun c19 => ?_)
        · rw [if_neg c19] at h
          refine lv_iconst (v := 0) hx hb dX12_shown_51 (by decide) ?_
          refine lv_ior hx hb dX12_shown_52 ?_
          obtain ⟨y20, ey20, h⟩ := lt_inv h
          refine topE ey20 ?_
          refine lv_istore_n (lv' := [(2, .int y20), (0, .ref (q 0)), (1, .int a1), (3, .int b3)]) hx hb dX12_shown_53 rfl hl (by decide) rfl (fun ls hl => ?_)
          obtain ⟨y21, ey21, h⟩ := lt_inv h
          refine lv_iinc (v := y21) (lv' := [(3, .int y21), (2, .int y20), (0, .ref (q 0)), (1, .int a1)]) hx hb dX12_shown_54 hl (k := 3) rfl (by rw [ey21]; rfl) (by decide) rfl (fun ls hl => ?_)
          refine lv_goto (tgt := 18) hx hb dX12_shown_57 (by decide) ?_
          exact ih _ _ _ res _ _ _ h hP hS (lv_sub hl [2, 3, 1, 0] rfl) K18_0
        · rw [if_pos c19] at h
          refine lv_iconst (v := 1) hx hb dX12_shown_45 (by decide) ?_
          refine lv_iload_n hx hb dX12_shown_46 rfl (lv_at hl 3 rfl) ?_
          refine lv_ishl hx hb dX12_shown_47 ?_
          refine lv_goto (tgt := 52) hx hb dX12_shown_48 (by decide) ?_
          refine lv_ior hx hb dX12_shown_52 ?_
          obtain ⟨y22, ey22, h⟩ := lt_inv h
          refine topE ey22 ?_
          refine lv_istore_n (lv' := [(2, .int y22), (0, .ref (q 0)), (1, .int a1), (3, .int b3)]) hx hb dX12_shown_53 rfl hl (by decide) rfl (fun ls hl => ?_)
          obtain ⟨y23, ey23, h⟩ := lt_inv h
          refine lv_iinc (v := y23) (lv' := [(3, .int y23), (2, .int y22), (0, .ref (q 0)), (1, .int a1)]) hx hb dX12_shown_54 hl (k := 3) rfl (by rw [ey23]; rfl) (by decide) rfl (fun ls hl => ?_)
          refine lv_goto (tgt := 18) hx hb dX12_shown_57 (by decide) ?_
          exact ih _ _ _ res _ _ _ h hP hS (lv_sub hl [2, 3, 1, 0] rfl) K18_0
  refine lv_aload_n hx hb dX12_shown_0 rfl (lv_at hl 0 rfl) ?_
  refine lv_iload_n hx hb dX12_shown_1 rfl (lv_at hl 1 rfl) ?_
  obtain ⟨r1, M2, hc3, h⟩ := bnd_inv h
  refine gV_i (As := [.int a1]) X hP hS hl.1 (c_X12_isCue l D cA q aK aV hq hc3) sf_X12_isCue bw_1691 sv_X12_isCue (rcR_12 sR_0) rfl ⟨rfl, rfl⟩ ⟨Nat.le_of_ble_eq_true rfl, Nat.le_of_ble_eq_true rfl⟩ rfl rfl (Nat.le_of_ble_eq_true rfl) dX12_shown_2 (fun H locs hP hS => ?_)
  refine lv_if_ne (tgt := 14) hx hb dX12_shown_5 (by decide) (fun c4 => ?_) (fun c4 => ?_)
  · rw [if_neg c4] at h
    refine lv_iconst (v := 0) hx hb dX12_shown_14 (by decide) ?_
    refine lv_istore_n (lv' := [(2, .int (0 : Int32)), (0, .ref (q 0)), (1, .int a1)]) hx hb dX12_shown_15 rfl hl (by decide) rfl (fun ls hl => ?_)
    refine lv_iconst (v := 0) hx hb dX12_shown_16 (by decide) ?_
    refine lv_istore_n (lv' := [(3, .int (0 : Int32)), (2, .int (0 : Int32)), (0, .ref (q 0)), (1, .int a1)]) hx hb dX12_shown_17 rfl hl (by decide) rfl (fun ls hl => ?_)
    obtain ⟨s5, M6, hc7, h⟩ := bnd_inv h
    obtain ⟨x8, rfl⟩ : ∃ z, z = s5 := ⟨_, rfl⟩
    try dsimp only at h
    refine hL18  fz _ _ _ _ _ _ _ hc7 hP hS (lv_sub hl [2, 3, 1, 0] rfl) (fun H locs ls hP hS hl => ?_)
    have hl : lv_has ls 4 [(0, .ref (q 0)), (2, .int x8)] := hl
    refine lv_aload_n hx hb dX12_shown_60 rfl (lv_at hl 0 rfl) ?_
    refine lv_iload_n hx hb dX12_shown_61 rfl (lv_at hl 1 rfl) ?_
    obtain ⟨r9, M10, hc11, h⟩ := bnd_inv h
    refine gV_i (As := [.int x8]) X hP hS hl.1 (c_X12_gives l D cA q aK aV hq hc11) sf_X12_gives bw_1639 sv_X12_gives (rcR_12 sR_0) rfl ⟨rfl, rfl⟩ ⟨Nat.le_of_ble_eq_true rfl, Nat.le_of_ble_eq_true rfl⟩ rfl rfl (Nat.le_of_ble_eq_true rfl) dX12_shown_62 (fun H locs hP hS => ?_)
    exact end_i X hr hk hP hS h dX12_shown_65
  · rw [if_pos c4] at h
    refine lv_aload_n hx hb dX12_shown_8 rfl (lv_at hl 0 rfl) ?_
    refine lv_iconst (v := 1) hx hb dX12_shown_9 (by decide) ?_
    obtain ⟨r12, M13, hc14, h⟩ := bnd_inv h
    refine gV_i (As := [.int (1 : Int32)]) X hP hS hl.1 (c_X12_refuse l D cA q aK aV hq hc14) sf_X12_refuse bw_1530 sv_X12_refuse (rcR_12 sR_0) rfl ⟨rfl, rfl⟩ ⟨Nat.le_of_ble_eq_true rfl, Nat.le_of_ble_eq_true rfl⟩ rfl rfl (Nat.le_of_ble_eq_true rfl) dX12_shown_10 (fun H locs hP hS => ?_)
    exact end_i X hr hk hP hS h dX12_shown_13
theorem dX12_sits_0 : decode cX12_sits 0 = .ok (.aload_n 0, 1) := by decide +kernel
theorem dX12_sits_1 : decode cX12_sits 1 = .ok (.iload_n 1, 1) := by decide +kernel
theorem dX12_sits_2 : decode cX12_sits 2 = .ok (.aload_n 0, 1) := by decide +kernel
theorem dX12_sits_3 : decode cX12_sits 3 = .ok (.getfield 7, 3) := by decide +kernel
theorem dX12_sits_6 : decode cX12_sits 6 = .ok (.bipush 6, 2) := by decide +kernel
theorem dX12_sits_8 : decode cX12_sits 8 = .ok (.iaload, 1) := by decide +kernel
theorem dX12_sits_9 : decode cX12_sits 9 = .ok (.invokevirtual 332, 3) := by decide +kernel
theorem dX12_sits_12 : decode cX12_sits 12 = .ok (.istore_n 2, 1) := by decide +kernel
theorem dX12_sits_13 : decode cX12_sits 13 = .ok (.aload_n 0, 1) := by decide +kernel
theorem dX12_sits_14 : decode cX12_sits 14 = .ok (.getfield 7, 3) := by decide +kernel
theorem dX12_sits_17 : decode cX12_sits 17 = .ok (.bipush 6, 2) := by decide +kernel
theorem dX12_sits_19 : decode cX12_sits 19 = .ok (.bipush 9, 2) := by decide +kernel
theorem dX12_sits_21 : decode cX12_sits 21 = .ok (.aload_n 0, 1) := by decide +kernel
theorem dX12_sits_22 : decode cX12_sits 22 = .ok (.getfield 7, 3) := by decide +kernel
theorem dX12_sits_25 : decode cX12_sits 25 = .ok (.bipush 6, 2) := by decide +kernel
theorem dX12_sits_27 : decode cX12_sits 27 = .ok (.iaload, 1) := by decide +kernel
theorem dX12_sits_28 : decode cX12_sits 28 = .ok (.iconst 1, 1) := by decide +kernel
theorem dX12_sits_29 : decode cX12_sits 29 = .ok (.iadd, 1) := by decide +kernel
theorem dX12_sits_30 : decode cX12_sits 30 = .ok (.invokestatic 146, 3) := by decide +kernel
theorem dX12_sits_33 : decode cX12_sits 33 = .ok (.iastore, 1) := by decide +kernel
theorem dX12_sits_34 : decode cX12_sits 34 = .ok (.aload_n 0, 1) := by decide +kernel
theorem dX12_sits_35 : decode cX12_sits 35 = .ok (.getfield 7, 3) := by decide +kernel
theorem dX12_sits_38 : decode cX12_sits 38 = .ok (.bipush 7, 2) := by decide +kernel
theorem dX12_sits_40 : decode cX12_sits 40 = .ok (.dup2, 1) := by decide +kernel
theorem dX12_sits_41 : decode cX12_sits 41 = .ok (.iaload, 1) := by decide +kernel
theorem dX12_sits_42 : decode cX12_sits 42 = .ok (.iconst 1, 1) := by decide +kernel
theorem dX12_sits_43 : decode cX12_sits 43 = .ok (.iadd, 1) := by decide +kernel
theorem dX12_sits_44 : decode cX12_sits 44 = .ok (.iastore, 1) := by decide +kernel
theorem dX12_sits_45 : decode cX12_sits 45 = .ok (.aload_n 0, 1) := by decide +kernel
theorem dX12_sits_46 : decode cX12_sits 46 = .ok (.getfield 7, 3) := by decide +kernel
theorem dX12_sits_49 : decode cX12_sits 49 = .ok (.iload_n 1, 1) := by decide +kernel
theorem dX12_sits_50 : decode cX12_sits 50 = .ok (.invokestatic 224, 3) := by decide +kernel
theorem dX12_sits_53 : decode cX12_sits 53 = .ok (.iconst 4, 1) := by decide +kernel
theorem dX12_sits_54 : decode cX12_sits 54 = .ok (.iadd, 1) := by decide +kernel
theorem dX12_sits_55 : decode cX12_sits 55 = .ok (.dup2, 1) := by decide +kernel
theorem dX12_sits_56 : decode cX12_sits 56 = .ok (.iaload, 1) := by decide +kernel
theorem dX12_sits_57 : decode cX12_sits 57 = .ok (.iconst 1, 1) := by decide +kernel
theorem dX12_sits_58 : decode cX12_sits 58 = .ok (.iadd, 1) := by decide +kernel
theorem dX12_sits_59 : decode cX12_sits 59 = .ok (.iastore, 1) := by decide +kernel
theorem dX12_sits_60 : decode cX12_sits 60 = .ok (.iload_n 2, 1) := by decide +kernel
theorem dX12_sits_61 : decode cX12_sits 61 = .ok (.ireturn, 1) := by decide +kernel
set_option maxRecDepth 100000 in
set_option maxHeartbeats 8000000 in
theorem c_X12_sits (l : Launch) (D : va_G) (cA : Nat → ClassId) (q aK aV : Nat → Nat) (hq : injG 20 q) {a1 : Int32} {M M0 : Mem} {r0 : Int32} (h : f_X12_sits a1 M = some (r0, M0)) : Met l yX12_sits (.code yX12_sits cX12_sits 3 (some .int) :: BW) ({ frames := 7, cells := 0, slots := 0, locals := 151 } : Room) (va_Pc [.ref (q 0), .int a1] (CB 20 (ceR cA q) D cA q aK aV M)) (Qi 20 (ceR cA q) D q r0 M0) 0 0 (AqG 20 q) := by
  refine gMet RX12 (by decide +kernel) rfl hq (Nat.le_of_ble_eq_true rfl) ?_
  intro p e s m below meth c ls X hr hk hP hS hl
  have hx := X.1
  have hb := X.2.1
  have hl : lv_has ls 3 [(0, .ref (q 0)), (1, .int a1)] := hl
  rw [f_X12_sits] at h
  refine lv_aload_n hx hb dX12_sits_0 rfl (lv_at hl 0 rfl) ?_
  refine lv_iload_n hx hb dX12_sits_1 rfl (lv_at hl 1 rfl) ?_
  refine lv_aload_n hx hb dX12_sits_2 rfl (lv_at hl 0 rfl) ?_
  refine gfR_12_0 X hP sR_0 bw_1323 dX12_sits_3 ?_
  refine lv_bipush (v := 6) hx hb dX12_sits_6 (by decide) ?_
  refine ldR_ia X hP sR_1 zR_1 (by decide) dX12_sits_8 ?_
  refine topE (y := (gI M 1 6)) rfl ?_
  obtain ⟨r1, M2, hc3, h⟩ := bnd_inv h
  refine gV_i (As := [.int a1, .int (gI M 1 6)]) X hP hS hl.1 (c_X12_cueFor l D cA q aK aV hq hc3) sf_X12_cueFor bw_1739 sv_X12_cueFor (rcR_12 sR_0) rfl ⟨rfl, rfl⟩ ⟨Nat.le_of_ble_eq_true rfl, Nat.le_of_ble_eq_true rfl⟩ rfl rfl (Nat.le_of_ble_eq_true rfl) dX12_sits_9 (fun H locs hP hS => ?_)
  refine lv_istore_n (lv' := [(2, .int r1), (0, .ref (q 0)), (1, .int a1)]) hx hb dX12_sits_12 rfl hl (by decide) rfl (fun ls hl => ?_)
  refine lv_aload_n hx hb dX12_sits_13 rfl (lv_at hl 1 rfl) ?_
  refine gfR_12_0 X hP sR_0 bw_1323 dX12_sits_14 ?_
  refine lv_bipush (v := 6) hx hb dX12_sits_17 (by decide) ?_
  refine lv_bipush (v := 9) hx hb dX12_sits_19 (by decide) ?_
  refine lv_aload_n hx hb dX12_sits_21 rfl (lv_at hl 1 rfl) ?_
  refine gfR_12_0 X hP sR_0 bw_1323 dX12_sits_22 ?_
  refine lv_bipush (v := 6) hx hb dX12_sits_25 (by decide) ?_
  refine ldR_ia X hP sR_1 zR_1 (by decide) dX12_sits_27 ?_
  refine topE (y := (gI M2 1 6)) rfl ?_
  refine lv_iconst (v := 1) hx hb dX12_sits_28 (by decide) ?_
  refine lv_iadd hx hb dX12_sits_29 ?_
  obtain ⟨y4, ey4, h⟩ := lt_inv h
  refine va_mmin hx hb (by rw [X.2.2.1]; exact hl.1.symm) X.2.2.2.1 (X.2.2.2.2.1 _ bw_1529) (X.2.2.2.2.1 _ bw_888) (X.2.2.2.2.1 _ bw_18) (X.2.2.2.2.1 _ bw_889) (Nat.le_of_ble_eq_true rfl) (Nat.le_of_ble_eq_true rfl) (Nat.zero_le _) (Nat.zero_le _) dX12_sits_30 ?_
  refine topE ey4 ?_
  obtain ⟨M5, eM5, h⟩ := lt_inv h
  refine stR_ia X hP hS sR_1 zR_1 (by decide) eM5 dX12_sits_33 (fun H locs hP hS => ?_)
  refine lv_aload_n hx hb dX12_sits_34 rfl (lv_at hl 1 rfl) ?_
  refine gfR_12_0 X hP sR_0 bw_1323 dX12_sits_35 ?_
  refine lv_bipush (v := 7) hx hb dX12_sits_38 (by decide) ?_
  refine lv_dup2_11 hx hb dX12_sits_40 rfl rfl ?_
  refine ldR_ia X hP sR_1 zR_1 (by decide) dX12_sits_41 ?_
  refine topE (y := (gI M5 1 7)) rfl ?_
  refine lv_iconst (v := 1) hx hb dX12_sits_42 (by decide) ?_
  refine lv_iadd hx hb dX12_sits_43 ?_
  obtain ⟨M6, eM6, h⟩ := lt_inv h
  refine stR_ia X hP hS sR_1 zR_1 (by decide) eM6 dX12_sits_44 (fun H locs hP hS => ?_)
  refine lv_aload_n hx hb dX12_sits_45 rfl (lv_at hl 1 rfl) ?_
  refine gfR_12_0 X hP sR_0 bw_1323 dX12_sits_46 ?_
  refine lv_iload_n hx hb dX12_sits_49 rfl (lv_at hl 2 rfl) ?_
  obtain ⟨r7, M8, hc9, h⟩ := bnd_inv h
  refine gS_i (As := [.int a1]) X hP hS hl.1 (c_X12_personRow l D cA q aK aV hq hc9) sf_X12_personRow bw_1616 ss_X12_personRow ⟨rfl, rfl⟩ ⟨Nat.le_of_ble_eq_true rfl, Nat.le_of_ble_eq_true rfl⟩ rfl rfl (Nat.le_of_ble_eq_true rfl) dX12_sits_50 (fun H locs hP hS => ?_)
  refine lv_iconst (v := 4) hx hb dX12_sits_53 (by decide) ?_
  refine lv_iadd hx hb dX12_sits_54 ?_
  obtain ⟨y10, ey10, h⟩ := lt_inv h
  refine topE ey10 ?_
  refine lv_dup2_11 hx hb dX12_sits_55 rfl rfl ?_
  obtain ⟨g11, h⟩ := gd_inv h
  refine ldR_ia X hP sR_1 zR_1 g11 dX12_sits_56 ?_
  refine lv_iconst (v := 1) hx hb dX12_sits_57 (by decide) ?_
  refine lv_iadd hx hb dX12_sits_58 ?_
  obtain ⟨g12, h⟩ := gd_inv h
  obtain ⟨M13, eM13, h⟩ := lt_inv h
  refine stR_ia X hP hS sR_1 zR_1 g12 eM13 dX12_sits_59 (fun H locs hP hS => ?_)
  refine lv_iload_n hx hb dX12_sits_60 rfl (lv_at hl 0 rfl) ?_
  exact end_i X hr hk hP hS h dX12_sits_61
theorem dX12_sit_0 : decode cX12_sit 0 = .ok (.aload_n 0, 1) := by decide +kernel
theorem dX12_sit_1 : decode cX12_sit 1 = .ok (.iload_n 1, 1) := by decide +kernel
theorem dX12_sit_2 : decode cX12_sit 2 = .ok (.i2l, 1) := by decide +kernel
theorem dX12_sit_3 : decode cX12_sit 3 = .ok (.invokevirtual 305, 3) := by decide +kernel
theorem dX12_sit_6 : decode cX12_sit 6 = .ok (.ifCond .ne 9, 3) := by decide +kernel
theorem dX12_sit_9 : decode cX12_sit 9 = .ok (.aload_n 0, 1) := by decide +kernel
theorem dX12_sit_10 : decode cX12_sit 10 = .ok (.iconst 1, 1) := by decide +kernel
theorem dX12_sit_11 : decode cX12_sit 11 = .ok (.invokevirtual 91, 3) := by decide +kernel
theorem dX12_sit_14 : decode cX12_sit 14 = .ok (.ireturn, 1) := by decide +kernel
theorem dX12_sit_15 : decode cX12_sit 15 = .ok (.aload_n 0, 1) := by decide +kernel
theorem dX12_sit_16 : decode cX12_sit 16 = .ok (.getfield 7, 3) := by decide +kernel
theorem dX12_sit_19 : decode cX12_sit 19 = .ok (.bipush 7, 2) := by decide +kernel
theorem dX12_sit_21 : decode cX12_sit 21 = .ok (.iaload, 1) := by decide +kernel
theorem dX12_sit_22 : decode cX12_sit 22 = .ok (.sipush 9999, 3) := by decide +kernel
theorem dX12_sit_25 : decode cX12_sit 25 = .ok (.if_icmp .ne 9, 3) := by decide +kernel
theorem dX12_sit_28 : decode cX12_sit 28 = .ok (.aload_n 0, 1) := by decide +kernel
theorem dX12_sit_29 : decode cX12_sit 29 = .ok (.iconst 4, 1) := by decide +kernel
theorem dX12_sit_30 : decode cX12_sit 30 = .ok (.invokevirtual 91, 3) := by decide +kernel
theorem dX12_sit_33 : decode cX12_sit 33 = .ok (.ireturn, 1) := by decide +kernel
theorem dX12_sit_34 : decode cX12_sit 34 = .ok (.aload_n 0, 1) := by decide +kernel
theorem dX12_sit_35 : decode cX12_sit 35 = .ok (.iload_n 1, 1) := by decide +kernel
theorem dX12_sit_36 : decode cX12_sit 36 = .ok (.invokevirtual 341, 3) := by decide +kernel
theorem dX12_sit_39 : decode cX12_sit 39 = .ok (.istore_n 2, 1) := by decide +kernel
theorem dX12_sit_40 : decode cX12_sit 40 = .ok (.aload_n 0, 1) := by decide +kernel
theorem dX12_sit_41 : decode cX12_sit 41 = .ok (.iload_n 2, 1) := by decide +kernel
theorem dX12_sit_42 : decode cX12_sit 42 = .ok (.iconst (-1), 1) := by decide +kernel
theorem dX12_sit_43 : decode cX12_sit 43 = .ok (.if_icmp .ne 12, 3) := by decide +kernel
theorem dX12_sit_46 : decode cX12_sit 46 = .ok (.aload_n 0, 1) := by decide +kernel
theorem dX12_sit_47 : decode cX12_sit 47 = .ok (.getfield 7, 3) := by decide +kernel
theorem dX12_sit_50 : decode cX12_sit 50 = .ok (.iconst 1, 1) := by decide +kernel
theorem dX12_sit_51 : decode cX12_sit 51 = .ok (.iaload, 1) := by decide +kernel
theorem dX12_sit_52 : decode cX12_sit 52 = .ok (.goto 4, 3) := by decide +kernel
theorem dX12_sit_55 : decode cX12_sit 55 = .ok (.iload_n 2, 1) := by decide +kernel
theorem dX12_sit_56 : decode cX12_sit 56 = .ok (.invokevirtual 95, 3) := by decide +kernel
theorem dX12_sit_59 : decode cX12_sit 59 = .ok (.ireturn, 1) := by decide +kernel
set_option maxRecDepth 100000 in
set_option maxHeartbeats 8000000 in
theorem c_X12_sit (l : Launch) (D : va_G) (cA : Nat → ClassId) (q aK aV : Nat → Nat) (hq : injG 20 q) {a1 : Int32} {M M0 : Mem} {r0 : Int32} (h : f_X12_sit a1 M = some (r0, M0)) : Met l yX12_sit (.code yX12_sit cX12_sit 3 (some .int) :: BW) ({ frames := 8, cells := 0, slots := 0, locals := 173 } : Room) (va_Pc [.ref (q 0), .int a1] (CB 20 (ceR cA q) D cA q aK aV M)) (Qi 20 (ceR cA q) D q r0 M0) 0 0 (AqG 20 q) := by
  refine gMet RX12 (by decide +kernel) rfl hq (Nat.le_of_ble_eq_true rfl) ?_
  intro p e s m below meth c ls X hr hk hP hS hl
  have hx := X.1
  have hb := X.2.1
  have hl : lv_has ls 3 [(0, .ref (q 0)), (1, .int a1)] := hl
  rw [f_X12_sit] at h
  refine lv_aload_n hx hb dX12_sit_0 rfl (lv_at hl 0 rfl) ?_
  refine lv_iload_n hx hb dX12_sit_1 rfl (lv_at hl 1 rfl) ?_
  refine lv_i2l hx hb dX12_sit_2 rfl ?_
  obtain ⟨r1, M2, hc3, h⟩ := bnd_inv h
  refine gV_i (As := [.long (a1.toInt64)]) X hP hS hl.1 (c_X12_isPerson l D cA q aK aV hq hc3) sf_X12_isPerson bw_1715 sv_X12_isPerson (rcR_12 sR_0) rfl ⟨rfl, rfl⟩ ⟨Nat.le_of_ble_eq_true rfl, Nat.le_of_ble_eq_true rfl⟩ rfl rfl (Nat.le_of_ble_eq_true rfl) dX12_sit_3 (fun H locs hP hS => ?_)
  refine lv_if_ne (tgt := 15) hx hb dX12_sit_6 (by decide) (fun c4 => ?_) (fun c4 => ?_)
  · rw [if_neg c4] at h
    refine lv_aload_n hx hb dX12_sit_15 rfl (lv_at hl 0 rfl) ?_
    refine gfR_12_0 X hP sR_0 bw_1323 dX12_sit_16 ?_
    refine lv_bipush (v := 7) hx hb dX12_sit_19 (by decide) ?_
    refine ldR_ia X hP sR_1 zR_1 (by decide) dX12_sit_21 ?_
    refine topE (y := (gI M2 1 7)) rfl ?_
    refine lv_sipush (v := 9999) hx hb dX12_sit_22 (by decide) ?_
    refine lv_icmp_ne (tgt := 34) hx hb dX12_sit_25 (by decide) (fun c5 => ?_) (fun c5 => ?_)
    · rw [if_neg c5] at h
      refine lv_aload_n hx hb dX12_sit_34 rfl (lv_at hl 0 rfl) ?_
      refine lv_iload_n hx hb dX12_sit_35 rfl (lv_at hl 1 rfl) ?_
      obtain ⟨r6, M7, hc8, h⟩ := bnd_inv h
      refine gV_i (As := [.int a1]) X hP hS hl.1 (c_X12_sits l D cA q aK aV hq hc8) sf_X12_sits bw_1786 sv_X12_sits (rcR_12 sR_0) rfl ⟨rfl, rfl⟩ ⟨Nat.le_of_ble_eq_true rfl, Nat.le_of_ble_eq_true rfl⟩ rfl rfl (Nat.le_of_ble_eq_true rfl) dX12_sit_36 (fun H locs hP hS => ?_)
      refine lv_istore_n (lv' := [(2, .int r6), (0, .ref (q 0)), (1, .int a1)]) hx hb dX12_sit_39 rfl hl (by decide) rfl (fun ls hl => ?_)
      refine lv_aload_n hx hb dX12_sit_40 rfl (lv_at hl 1 rfl) ?_
      refine lv_iload_n hx hb dX12_sit_41 rfl (lv_at hl 0 rfl) ?_
      refine lv_iconst (v := -1) hx hb dX12_sit_42 (by decide) ?_
      refine lv_icmp_ne (tgt := 55) hx hb dX12_sit_43 (by decide) (fun c9 => ?_) (fun c9 => ?_)
      · rw [if_neg c9] at h
        refine lv_iload_n hx hb dX12_sit_55 rfl (lv_at hl 0 rfl) ?_
        obtain ⟨r10, M11, hc12, h⟩ := bnd_inv h
        refine gV_i (As := [.int r6]) X hP hS hl.1 (c_X12_gives l D cA q aK aV hq hc12) sf_X12_gives bw_1639 sv_X12_gives (rcR_12 sR_0) rfl ⟨rfl, rfl⟩ ⟨Nat.le_of_ble_eq_true rfl, Nat.le_of_ble_eq_true rfl⟩ rfl rfl (Nat.le_of_ble_eq_true rfl) dX12_sit_56 (fun H locs hP hS => ?_)
        exact end_i X hr hk hP hS h dX12_sit_59
      · rw [if_pos c9] at h
        refine lv_aload_n hx hb dX12_sit_46 rfl (lv_at hl 1 rfl) ?_
        refine gfR_12_0 X hP sR_0 bw_1323 dX12_sit_47 ?_
        refine lv_iconst (v := 1) hx hb dX12_sit_50 (by decide) ?_
        refine ldR_ia X hP sR_1 zR_1 (by decide) dX12_sit_51 ?_
        refine topE (y := (gI M7 1 1)) rfl ?_
        refine lv_goto (tgt := 56) hx hb dX12_sit_52 (by decide) ?_
        obtain ⟨r13, M14, hc15, h⟩ := bnd_inv h
        refine gV_i (As := [.int (gI M7 1 1)]) X hP hS hl.1 (c_X12_gives l D cA q aK aV hq hc15) sf_X12_gives bw_1639 sv_X12_gives (rcR_12 sR_0) rfl ⟨rfl, rfl⟩ ⟨Nat.le_of_ble_eq_true rfl, Nat.le_of_ble_eq_true rfl⟩ rfl rfl (Nat.le_of_ble_eq_true rfl) dX12_sit_56 (fun H locs hP hS => ?_)
        exact end_i X hr hk hP hS h dX12_sit_59
    · rw [if_pos c5] at h
      refine lv_aload_n hx hb dX12_sit_28 rfl (lv_at hl 0 rfl) ?_
      refine lv_iconst (v := 4) hx hb dX12_sit_29 (by decide) ?_
      obtain ⟨r16, M17, hc18, h⟩ := bnd_inv h
      refine gV_i (As := [.int (4 : Int32)]) X hP hS hl.1 (c_X12_refuse l D cA q aK aV hq hc18) sf_X12_refuse bw_1530 sv_X12_refuse (rcR_12 sR_0) rfl ⟨rfl, rfl⟩ ⟨Nat.le_of_ble_eq_true rfl, Nat.le_of_ble_eq_true rfl⟩ rfl rfl (Nat.le_of_ble_eq_true rfl) dX12_sit_30 (fun H locs hP hS => ?_)
      exact end_i X hr hk hP hS h dX12_sit_33
  · rw [if_pos c4] at h
    refine lv_aload_n hx hb dX12_sit_9 rfl (lv_at hl 0 rfl) ?_
    refine lv_iconst (v := 1) hx hb dX12_sit_10 (by decide) ?_
    obtain ⟨r19, M20, hc21, h⟩ := bnd_inv h
    refine gV_i (As := [.int (1 : Int32)]) X hP hS hl.1 (c_X12_refuse l D cA q aK aV hq hc21) sf_X12_refuse bw_1530 sv_X12_refuse (rcR_12 sR_0) rfl ⟨rfl, rfl⟩ ⟨Nat.le_of_ble_eq_true rfl, Nat.le_of_ble_eq_true rfl⟩ rfl rfl (Nat.le_of_ble_eq_true rfl) dX12_sit_11 (fun H locs hP hS => ?_)
    exact end_i X hr hk hP hS h dX12_sit_14
theorem dX12_terms_0 : decode cX12_terms 0 = .ok (.aload_n 0, 1) := by decide +kernel
theorem dX12_terms_1 : decode cX12_terms 1 = .ok (.iconst 0, 1) := by decide +kernel
theorem dX12_terms_2 : decode cX12_terms 2 = .ok (.invokevirtual 290, 3) := by decide +kernel
theorem dX12_terms_5 : decode cX12_terms 5 = .ok (.istore_n 1, 1) := by decide +kernel
theorem dX12_terms_6 : decode cX12_terms 6 = .ok (.iconst 0, 1) := by decide +kernel
theorem dX12_terms_7 : decode cX12_terms 7 = .ok (.istore_n 2, 1) := by decide +kernel
theorem dX12_terms_8 : decode cX12_terms 8 = .ok (.iconst 0, 1) := by decide +kernel
theorem dX12_terms_9 : decode cX12_terms 9 = .ok (.istore_n 3, 1) := by decide +kernel
theorem dX12_terms_10 : decode cX12_terms 10 = .ok (.iload_n 3, 1) := by decide +kernel
theorem dX12_terms_11 : decode cX12_terms 11 = .ok (.aload_n 0, 1) := by decide +kernel
theorem dX12_terms_12 : decode cX12_terms 12 = .ok (.getfield 7, 3) := by decide +kernel
theorem dX12_terms_15 : decode cX12_terms 15 = .ok (.iconst 3, 1) := by decide +kernel
theorem dX12_terms_16 : decode cX12_terms 16 = .ok (.iaload, 1) := by decide +kernel
theorem dX12_terms_17 : decode cX12_terms 17 = .ok (.if_icmp .ge 90, 3) := by decide +kernel
theorem dX12_terms_20 : decode cX12_terms 20 = .ok (.aload_n 0, 1) := by decide +kernel
theorem dX12_terms_21 : decode cX12_terms 21 = .ok (.iload_n 1, 1) := by decide +kernel
theorem dX12_terms_22 : decode cX12_terms 22 = .ok (.iload_n 3, 1) := by decide +kernel
theorem dX12_terms_23 : decode cX12_terms 23 = .ok (.invokevirtual 315, 3) := by decide +kernel
theorem dX12_terms_26 : decode cX12_terms 26 = .ok (.ifCond .ne 6, 3) := by decide +kernel
theorem dX12_terms_29 : decode cX12_terms 29 = .ok (.goto 72, 3) := by decide +kernel
theorem dX12_terms_32 : decode cX12_terms 32 = .ok (.aload_n 0, 1) := by decide +kernel
theorem dX12_terms_33 : decode cX12_terms 33 = .ok (.iload_n 3, 1) := by decide +kernel
theorem dX12_terms_34 : decode cX12_terms 34 = .ok (.invokevirtual 341, 3) := by decide +kernel
theorem dX12_terms_37 : decode cX12_terms 37 = .ok (.istore 4, 2) := by decide +kernel
theorem dX12_terms_39 : decode cX12_terms 39 = .ok (.iload 4, 2) := by decide +kernel
theorem dX12_terms_41 : decode cX12_terms 41 = .ok (.iconst (-1), 1) := by decide +kernel
theorem dX12_terms_42 : decode cX12_terms 42 = .ok (.if_icmp .ne 7, 3) := by decide +kernel
theorem dX12_terms_45 : decode cX12_terms 45 = .ok (.iconst 0, 1) := by decide +kernel
theorem dX12_terms_46 : decode cX12_terms 46 = .ok (.goto 13, 3) := by decide +kernel
theorem dX12_terms_49 : decode cX12_terms 49 = .ok (.aload_n 0, 1) := by decide +kernel
theorem dX12_terms_50 : decode cX12_terms 50 = .ok (.getfield 7, 3) := by decide +kernel
theorem dX12_terms_53 : decode cX12_terms 53 = .ok (.bipush 10, 2) := by decide +kernel
theorem dX12_terms_55 : decode cX12_terms 55 = .ok (.iload 4, 2) := by decide +kernel
theorem dX12_terms_57 : decode cX12_terms 57 = .ok (.iadd, 1) := by decide +kernel
theorem dX12_terms_58 : decode cX12_terms 58 = .ok (.iaload, 1) := by decide +kernel
theorem dX12_terms_59 : decode cX12_terms 59 = .ok (.istore 5, 2) := by decide +kernel
theorem dX12_terms_61 : decode cX12_terms 61 = .ok (.aload_n 0, 1) := by decide +kernel
theorem dX12_terms_62 : decode cX12_terms 62 = .ok (.getfield 7, 3) := by decide +kernel
theorem dX12_terms_65 : decode cX12_terms 65 = .ok (.iload_n 3, 1) := by decide +kernel
theorem dX12_terms_66 : decode cX12_terms 66 = .ok (.invokestatic 224, 3) := by decide +kernel
theorem dX12_terms_69 : decode cX12_terms 69 = .ok (.iconst 2, 1) := by decide +kernel
theorem dX12_terms_70 : decode cX12_terms 70 = .ok (.iadd, 1) := by decide +kernel
theorem dX12_terms_71 : decode cX12_terms 71 = .ok (.iload 5, 2) := by decide +kernel
theorem dX12_terms_73 : decode cX12_terms 73 = .ok (.ifCond .ne 7, 3) := by decide +kernel
theorem dX12_terms_76 : decode cX12_terms 76 = .ok (.iconst 0, 1) := by decide +kernel
theorem dX12_terms_77 : decode cX12_terms 77 = .ok (.goto 7, 3) := by decide +kernel
theorem dX12_terms_80 : decode cX12_terms 80 = .ok (.iconst 3, 1) := by decide +kernel
theorem dX12_terms_81 : decode cX12_terms 81 = .ok (.iload 5, 2) := by decide +kernel
theorem dX12_terms_83 : decode cX12_terms 83 = .ok (.isub, 1) := by decide +kernel
theorem dX12_terms_84 : decode cX12_terms 84 = .ok (.iastore, 1) := by decide +kernel
theorem dX12_terms_85 : decode cX12_terms 85 = .ok (.iload_n 2, 1) := by decide +kernel
theorem dX12_terms_86 : decode cX12_terms 86 = .ok (.iload 5, 2) := by decide +kernel
theorem dX12_terms_88 : decode cX12_terms 88 = .ok (.iconst 2, 1) := by decide +kernel
theorem dX12_terms_89 : decode cX12_terms 89 = .ok (.if_icmp .ne 9, 3) := by decide +kernel
theorem dX12_terms_92 : decode cX12_terms 92 = .ok (.iconst 1, 1) := by decide +kernel
theorem dX12_terms_93 : decode cX12_terms 93 = .ok (.iload_n 3, 1) := by decide +kernel
theorem dX12_terms_94 : decode cX12_terms 94 = .ok (.ishl, 1) := by decide +kernel
theorem dX12_terms_95 : decode cX12_terms 95 = .ok (.goto 4, 3) := by decide +kernel
theorem dX12_terms_98 : decode cX12_terms 98 = .ok (.iconst 0, 1) := by decide +kernel
theorem dX12_terms_99 : decode cX12_terms 99 = .ok (.ior, 1) := by decide +kernel
theorem dX12_terms_100 : decode cX12_terms 100 = .ok (.istore_n 2, 1) := by decide +kernel
theorem dX12_terms_101 : decode cX12_terms 101 = .ok (.iinc 3 1, 3) := by decide +kernel
theorem dX12_terms_104 : decode cX12_terms 104 = .ok (.goto (-94), 3) := by decide +kernel
theorem dX12_terms_107 : decode cX12_terms 107 = .ok (.iload_n 2, 1) := by decide +kernel
theorem dX12_terms_108 : decode cX12_terms 108 = .ok (.ireturn, 1) := by decide +kernel
set_option maxRecDepth 100000 in
set_option maxHeartbeats 8000000 in
theorem c_X12_terms (l : Launch) (D : va_G) (cA : Nat → ClassId) (q aK aV : Nat → Nat) (hq : injG 20 q) {M M0 : Mem} {r0 : Int32} (h : f_X12_terms M = some (r0, M0)) : Met l yX12_terms (.code yX12_terms cX12_terms 6 (some .int) :: BW) ({ frames := 8, cells := 0, slots := 0, locals := 173 } : Room) (va_Pc [.ref (q 0)] (CB 20 (ceR cA q) D cA q aK aV M)) (Qi 20 (ceR cA q) D q r0 M0) 0 0 (AqG 20 q) := by
  refine gMet RX12 (by decide +kernel) rfl hq (Nat.le_of_ble_eq_true rfl) ?_
  intro p e s m below meth c ls X hr hk hP hS hl
  have hx := X.1
  have hb := X.2.1
  have hl : lv_has ls 6 [(0, .ref (q 0))] := hl
  rw [f_X12_terms] at h
  have hL10 : ∀ (b1 : Int32) (fu : Nat) (b2 : Int32) (b3 : Int32) (M : Mem) (res : (Int32) × Mem) (H : Heap) (locs : List Loc) (ls : Array Slot), f_X12_terms_L10 b1 fu b2 b3 M = some res → va_P D vwCl (wsG 20 (ceR cA q) q M) H → va_S (AqG 20 q) s.heap H locs → lv_has ls 6 [(0, .ref (q 0)), (1, .int b1), (2, .int b2), (3, .int b3)] → (∀ (H : Heap) (locs : List Loc) (ls : Array Slot), va_P D vwCl (wsG 20 (ceR cA q) q res.2) H → va_S (AqG 20 q) s.heap H locs → lv_has ls 6 [(2, .int (res.1))] → W p l e ({ frames := 8, cells := 0, slots := 0, locals := 173 } : Room) s m [.ref (q 0)].toArray below meth c H locs 0 0 (MQ below (Qi 20 (ceR cA q) D q r0 M0) [.ref (q 0)].toArray s 0 0 (AqG 20 q)) (F0 m 107 ls [])) → W p l e ({ frames := 8, cells := 0, slots := 0, locals := 173 } : Room) s m [.ref (q 0)].toArray below meth c H locs 0 0 (MQ below (Qi 20 (ceR cA q) D q r0 M0) [.ref (q 0)].toArray s 0 0 (AqG 20 q)) (F0 m 10 ls []) := by
    intro b1 fu
    induction fu with
    | zero => intro b2 b3 M res H locs ls h; exact absurd h (by simp [f_X12_terms_L10])
    | succ fu ih =>
      intro b2 b3 M res H locs ls h hP hS hl K10_0
      rw [f_X12_terms_L10] at h
      have hJ84 : ∀ (b2 : Int32) (b3 : Int32) (b5 : Int32) (s1 : Int32) (s2 : Int32) (M : Mem) (H : Heap) (locs : List Loc) (ls : Array Slot), f_X12_terms_J84 (f_X12_terms_L10 b1 fu) b1 b2 b3 b5 s1 s2 M = some res → va_P D vwCl (wsG 20 (ceR cA q) q M) H → va_S (AqG 20 q) s.heap H locs → lv_has ls 6 [(0, .ref (q 0)), (1, .int b1), (2, .int b2), (3, .int b3), (5, .int b5)] → W p l e ({ frames := 8, cells := 0, slots := 0, locals := 173 } : Room) s m [.ref (q 0)].toArray below meth c H locs 0 0 (MQ below (Qi 20 (ceR cA q) D q r0 M0) [.ref (q 0)].toArray s 0 0 (AqG 20 q)) (F0 m 84 ls [.int s2, .int s1, .ref (q 1)]) := by
        intro b2 b3 b5 s1 s2 M H locs ls h hP hS hl
        rw [f_X12_terms_J84] at h
        obtain ⟨g23, h⟩ := gd_inv h
        obtain ⟨M24, eM24, h⟩ := lt_inv h
        refine stR_ia X hP hS sR_1 zR_1 g23 eM24 dX12_terms_84 (fun H locs hP hS => ?_)
        refine lv_iload_n hx hb dX12_terms_85 rfl (lv_at hl 2 rfl) ?_
        refine lv_iload hx hb dX12_terms_86 (lv_at hl 4 rfl) ?_
        refine lv_iconst (v := 2) hx hb dX12_terms_88 (by decide) ?_
        refine lv_icmp_ne (tgt := 98) hx hb dX12_terms_89 (by decide) (fun c25 => ?_) (fun c25 => ?_)
        · rw [if_neg c25] at h
          refine lv_iconst (v := 0) hx hb dX12_terms_98 (by decide) ?_
          refine lv_ior hx hb dX12_terms_99 ?_
          obtain ⟨y26, ey26, h⟩ := lt_inv h
          refine topE ey26 ?_
          refine lv_istore_n (lv' := [(2, .int y26), (0, .ref (q 0)), (1, .int b1), (3, .int b3), (5, .int b5)]) hx hb dX12_terms_100 rfl hl (by decide) rfl (fun ls hl => ?_)
          obtain ⟨y27, ey27, h⟩ := lt_inv h
          refine lv_iinc (v := y27) (lv' := [(3, .int y27), (2, .int y26), (0, .ref (q 0)), (1, .int b1), (5, .int b5)]) hx hb dX12_terms_101 hl (k := 3) rfl (by rw [ey27]; rfl) (by decide) rfl (fun ls hl => ?_)
          refine lv_goto (tgt := 10) hx hb dX12_terms_104 (by decide) ?_
          exact ih _ _ _ res _ _ _ h hP hS (lv_sub hl [2, 3, 1, 0] rfl) K10_0
        · rw [if_pos c25] at h
          refine lv_iconst (v := 1) hx hb dX12_terms_92 (by decide) ?_
          refine lv_iload_n hx hb dX12_terms_93 rfl (lv_at hl 3 rfl) ?_
          refine lv_ishl hx hb dX12_terms_94 ?_
          refine lv_goto (tgt := 99) hx hb dX12_terms_95 (by decide) ?_
          refine lv_ior hx hb dX12_terms_99 ?_
          obtain ⟨y28, ey28, h⟩ := lt_inv h
          refine topE ey28 ?_
          refine lv_istore_n (lv' := [(2, .int y28), (0, .ref (q 0)), (1, .int b1), (3, .int b3), (5, .int b5)]) hx hb dX12_terms_100 rfl hl (by decide) rfl (fun ls hl => ?_)
          obtain ⟨y29, ey29, h⟩ := lt_inv h
          refine lv_iinc (v := y29) (lv' := [(3, .int y29), (2, .int y28), (0, .ref (q 0)), (1, .int b1), (5, .int b5)]) hx hb dX12_terms_101 hl (k := 3) rfl (by rw [ey29]; rfl) (by decide) rfl (fun ls hl => ?_)
          refine lv_goto (tgt := 10) hx hb dX12_terms_104 (by decide) ?_
          exact ih _ _ _ res _ _ _ h hP hS (lv_sub hl [2, 3, 1, 0] rfl) K10_0
      have hJ59 : ∀ (b2 : Int32) (b3 : Int32) (s0 : Int32) (M : Mem) (H : Heap) (locs : List Loc) (ls : Array Slot), f_X12_terms_J59 (f_X12_terms_L10 b1 fu) b1 b2 b3 s0 M = some res → va_P D vwCl (wsG 20 (ceR cA q) q M) H → va_S (AqG 20 q) s.heap H locs → lv_has ls 6 [(0, .ref (q 0)), (1, .int b1), (2, .int b2), (3, .int b3)] → W p l e ({ frames := 8, cells := 0, slots := 0, locals := 173 } : Room) s m [.ref (q 0)].toArray below meth c H locs 0 0 (MQ below (Qi 20 (ceR cA q) D q r0 M0) [.ref (q 0)].toArray s 0 0 (AqG 20 q)) (F0 m 59 ls [.int s0]) := by
        intro b2 b3 s0 M H locs ls h hP hS hl
        rw [f_X12_terms_J59] at h
        refine lv_istore (lv' := [(5, .int s0), (0, .ref (q 0)), (1, .int b1), (2, .int b2), (3, .int b3)]) hx hb dX12_terms_59 hl (by decide) rfl (fun ls hl => ?_)
        refine lv_aload_n hx hb dX12_terms_61 rfl (lv_at hl 1 rfl) ?_
        refine gfR_12_0 X hP sR_0 bw_1323 dX12_terms_62 ?_
        refine lv_iload_n hx hb dX12_terms_65 rfl (lv_at hl 4 rfl) ?_
        obtain ⟨r19, M20, hc21, h⟩ := bnd_inv h
        refine gS_i (As := [.int b3]) X hP hS hl.1 (c_X12_personRow l D cA q aK aV hq hc21) sf_X12_personRow bw_1616 ss_X12_personRow ⟨rfl, rfl⟩ ⟨Nat.le_of_ble_eq_true rfl, Nat.le_of_ble_eq_true rfl⟩ rfl rfl (Nat.le_of_ble_eq_true rfl) dX12_terms_66 (fun H locs hP hS => ?_)
        refine lv_iconst (v := 2) hx hb dX12_terms_69 (by decide) ?_
        refine lv_iadd hx hb dX12_terms_70 ?_
        refine lv_iload hx hb dX12_terms_71 (lv_at hl 0 rfl) ?_
        refine lv_if_ne (tgt := 80) hx hb dX12_terms_73 (by decide) (fun c22 => ?_) (fun c22 => ?_)
        · rw [if_neg c22] at h
          refine lv_iconst (v := 3) hx hb dX12_terms_80 (by decide) ?_
          refine lv_iload hx hb dX12_terms_81 (lv_at hl 0 rfl) ?_
          refine lv_isub hx hb dX12_terms_83 ?_
          exact hJ84 _ _ _ _ _ _ _ _ _ h hP hS (lv_sub hl [1, 2, 3, 4, 0] rfl)
        · rw [if_pos c22] at h
          refine lv_iconst (v := 0) hx hb dX12_terms_76 (by decide) ?_
          refine lv_goto (tgt := 84) hx hb dX12_terms_77 (by decide) ?_
          exact hJ84 _ _ _ _ _ _ _ _ _ h hP hS (lv_sub hl [1, 2, 3, 4, 0] rfl)
      refine lv_iload_n hx hb dX12_terms_10 rfl (lv_at hl 3 rfl) ?_
      refine lv_aload_n hx hb dX12_terms_11 rfl (lv_at hl 0 rfl) ?_
      refine gfR_12_0 X hP sR_0 bw_1323 dX12_terms_12 ?_
      refine lv_iconst (v := 3) hx hb dX12_terms_15 (by decide) ?_
      refine ldR_ia X hP sR_1 zR_1 (by decide) dX12_terms_16 ?_
      refine topE (y := (gI M 1 3)) rfl ?_
      refine lv_icmp_ge (tgt := 107) hx hb dX12_terms_17 (by decide) (fun c8 => ?_) (fun c8 => ?_)
      · rw [if_pos c8] at h
        cases h
        exact K10_0 _ _ _ hP hS (lv_sub hl [2] rfl)
      · rw [if_neg c8] at h
        refine lv_aload_n hx hb dX12_terms_20 rfl (lv_at hl 0 rfl) ?_
        refine lv_iload_n hx hb dX12_terms_21 rfl (lv_at hl 1 rfl) ?_
        refine lv_iload_n hx hb dX12_terms_22 rfl (lv_at hl 3 rfl) ?_
        obtain ⟨r9, M10, hc11, h⟩ := bnd_inv h
        refine gV_i (As := [.int b1, .int b3]) X hP hS hl.1 (c_X12_isIn l D cA q aK aV hq hc11) sf_X12_isIn bw_1755 sv_X12_isIn (rcR_12 sR_0) rfl ⟨rfl, rfl⟩ ⟨Nat.le_of_ble_eq_true rfl, Nat.le_of_ble_eq_true rfl⟩ rfl rfl (Nat.le_of_ble_eq_true rfl) dX12_terms_23 (fun H locs hP hS => ?_)
        refine lv_if_ne (tgt := 32) hx hb dX12_terms_26 (by decide) (fun c12 => ?_) (fun c12 => ?_)
        · rw [if_neg c12] at h
          refine lv_aload_n hx hb dX12_terms_32 rfl (lv_at hl 0 rfl) ?_
          refine lv_iload_n hx hb dX12_terms_33 rfl (lv_at hl 3 rfl) ?_
          obtain ⟨r13, M14, hc15, h⟩ := bnd_inv h
          refine gV_i (As := [.int b3]) X hP hS hl.1 (c_X12_sits l D cA q aK aV hq hc15) sf_X12_sits bw_1786 sv_X12_sits (rcR_12 sR_0) rfl ⟨rfl, rfl⟩ ⟨Nat.le_of_ble_eq_true rfl, Nat.le_of_ble_eq_true rfl⟩ rfl rfl (Nat.le_of_ble_eq_true rfl) dX12_terms_34 (fun H locs hP hS => ?_)
          refine lv_istore (lv' := [(4, .int r13), (0, .ref (q 0)), (1, .int b1), (2, .int b2), (3, .int b3)]) hx hb dX12_terms_37 hl (by decide) rfl (fun ls hl => ?_)
          refine lv_iload hx hb dX12_terms_39 (lv_at hl 0 rfl) ?_
          refine lv_iconst (v := -1) hx hb dX12_terms_41 (by decide) ?_
          refine lv_icmp_ne (tgt := 49) hx hb dX12_terms_42 (by decide) (fun c16 => ?_) (fun c16 => ?_)
          · rw [if_neg c16] at h
            refine lv_aload_n hx hb dX12_terms_49 rfl (lv_at hl 1 rfl) ?_
            refine gfR_12_0 X hP sR_0 bw_1323 dX12_terms_50 ?_
            refine lv_bipush (v := 10) hx hb dX12_terms_53 (by decide) ?_
            refine lv_iload hx hb dX12_terms_55 (lv_at hl 0 rfl) ?_
            refine lv_iadd hx hb dX12_terms_57 ?_
            obtain ⟨g17, h⟩ := gd_inv h
            refine ldR_ia X hP sR_1 zR_1 g17 dX12_terms_58 ?_
            exact hJ59 _ _ _ _ _ _ _ h hP hS (lv_sub hl [1, 2, 3, 4] rfl)
          · rw [if_pos c16] at h
            refine lv_iconst (v := 0) hx hb dX12_terms_45 (by decide) ?_
            refine lv_goto (tgt := 59) hx hb dX12_terms_46 (by decide) ?_
            exact hJ59 _ _ _ _ _ _ _ h hP hS (lv_sub hl [1, 2, 3, 4] rfl)
        · rw [if_pos c12] at h
          refine lv_goto (tgt := 101) hx hb dX12_terms_29 (by decide) ?_
          obtain ⟨y18, ey18, h⟩ := lt_inv h
          refine lv_iinc (v := y18) (lv' := [(3, .int y18), (0, .ref (q 0)), (1, .int b1), (2, .int b2)]) hx hb dX12_terms_101 hl (k := 3) rfl (by rw [ey18]; rfl) (by decide) rfl (fun ls hl => ?_)
          refine lv_goto (tgt := 10) hx hb dX12_terms_104 (by decide) ?_
          exact ih _ _ _ res _ _ _ h hP hS (lv_sub hl [1, 2, 3, 0] rfl) K10_0
  refine lv_aload_n hx hb dX12_terms_0 rfl (lv_at hl 0 rfl) ?_
  refine lv_iconst (v := 0) hx hb dX12_terms_1 (by decide) ?_
  obtain ⟨r1, M2, hc3, h⟩ := bnd_inv h
  refine gV_i (As := [.int (0 : Int32)]) X hP hS hl.1 (c_X12_peopleThat l D cA q aK aV hq hc3) sf_X12_peopleThat bw_1679 sv_X12_peopleThat (rcR_12 sR_0) rfl ⟨rfl, rfl⟩ ⟨Nat.le_of_ble_eq_true rfl, Nat.le_of_ble_eq_true rfl⟩ rfl rfl (Nat.le_of_ble_eq_true rfl) dX12_terms_2 (fun H locs hP hS => ?_)
  refine lv_istore_n (lv' := [(1, .int r1), (0, .ref (q 0))]) hx hb dX12_terms_5 rfl hl (by decide) rfl (fun ls hl => ?_)
  refine lv_iconst (v := 0) hx hb dX12_terms_6 (by decide) ?_
  refine lv_istore_n (lv' := [(2, .int (0 : Int32)), (1, .int r1), (0, .ref (q 0))]) hx hb dX12_terms_7 rfl hl (by decide) rfl (fun ls hl => ?_)
  refine lv_iconst (v := 0) hx hb dX12_terms_8 (by decide) ?_
  refine lv_istore_n (lv' := [(3, .int (0 : Int32)), (2, .int (0 : Int32)), (1, .int r1), (0, .ref (q 0))]) hx hb dX12_terms_9 rfl hl (by decide) rfl (fun ls hl => ?_)
  obtain ⟨s4, M5, hc6, h⟩ := bnd_inv h
  obtain ⟨x7, rfl⟩ : ∃ z, z = s4 := ⟨_, rfl⟩
  try dsimp only at h
  refine hL10 _ fz _ _ _ _ _ _ _ hc6 hP hS (lv_sub hl [3, 2, 1, 0] rfl) (fun H locs ls hP hS hl => ?_)
  have hl : lv_has ls 6 [(2, .int x7)] := hl
  refine lv_iload_n hx hb dX12_terms_107 rfl (lv_at hl 0 rfl) ?_
  exact end_i X hr hk hP hS h dX12_terms_108
theorem dX12_isTooMuch_0 : decode cX12_isTooMuch 0 = .ok (.aload_n 0, 1) := by decide +kernel
theorem dX12_isTooMuch_1 : decode cX12_isTooMuch 1 = .ok (.getfield 7, 3) := by decide +kernel
theorem dX12_isTooMuch_4 : decode cX12_isTooMuch 4 = .ok (.bipush 7, 2) := by decide +kernel
theorem dX12_isTooMuch_6 : decode cX12_isTooMuch 6 = .ok (.iaload, 1) := by decide +kernel
theorem dX12_isTooMuch_7 : decode cX12_isTooMuch 7 = .ok (.aload_n 0, 1) := by decide +kernel
theorem dX12_isTooMuch_8 : decode cX12_isTooMuch 8 = .ok (.iconst 0, 1) := by decide +kernel
theorem dX12_isTooMuch_9 : decode cX12_isTooMuch 9 = .ok (.invokevirtual 290, 3) := by decide +kernel
theorem dX12_isTooMuch_12 : decode cX12_isTooMuch 12 = .ok (.invokestatic 344, 3) := by decide +kernel
theorem dX12_isTooMuch_15 : decode cX12_isTooMuch 15 = .ok (.iadd, 1) := by decide +kernel
theorem dX12_isTooMuch_16 : decode cX12_isTooMuch 16 = .ok (.sipush 9999, 3) := by decide +kernel
theorem dX12_isTooMuch_19 : decode cX12_isTooMuch 19 = .ok (.if_icmp .le 7, 3) := by decide +kernel
theorem dX12_isTooMuch_22 : decode cX12_isTooMuch 22 = .ok (.iconst 1, 1) := by decide +kernel
theorem dX12_isTooMuch_23 : decode cX12_isTooMuch 23 = .ok (.goto 4, 3) := by decide +kernel
theorem dX12_isTooMuch_26 : decode cX12_isTooMuch 26 = .ok (.iconst 0, 1) := by decide +kernel
theorem dX12_isTooMuch_27 : decode cX12_isTooMuch 27 = .ok (.ireturn, 1) := by decide +kernel
set_option maxRecDepth 100000 in
set_option maxHeartbeats 8000000 in
theorem c_X12_isTooMuch (l : Launch) (D : va_G) (cA : Nat → ClassId) (q aK aV : Nat → Nat) (hq : injG 20 q) {M M0 : Mem} {r0 : Int32} (h : f_X12_isTooMuch M = some (r0, M0)) : Met l yX12_isTooMuch (.code yX12_isTooMuch cX12_isTooMuch 1 (some .boolean) :: BW) ({ frames := 4, cells := 0, slots := 0, locals := 78 } : Room) (va_Pc [.ref (q 0)] (CB 20 (ceR cA q) D cA q aK aV M)) (Qi 20 (ceR cA q) D q r0 M0) 0 0 (AqG 20 q) := by
  refine gMet RX12 (by decide +kernel) rfl hq (Nat.le_of_ble_eq_true rfl) ?_
  intro p e s m below meth c ls X hr hk hP hS hl
  have hx := X.1
  have hb := X.2.1
  have hl : lv_has ls 1 [(0, .ref (q 0))] := hl
  rw [f_X12_isTooMuch] at h
  refine lv_aload_n hx hb dX12_isTooMuch_0 rfl (lv_at hl 0 rfl) ?_
  refine gfR_12_0 X hP sR_0 bw_1323 dX12_isTooMuch_1 ?_
  refine lv_bipush (v := 7) hx hb dX12_isTooMuch_4 (by decide) ?_
  refine ldR_ia X hP sR_1 zR_1 (by decide) dX12_isTooMuch_6 ?_
  refine topE (y := (gI M 1 7)) rfl ?_
  refine lv_aload_n hx hb dX12_isTooMuch_7 rfl (lv_at hl 0 rfl) ?_
  refine lv_iconst (v := 0) hx hb dX12_isTooMuch_8 (by decide) ?_
  obtain ⟨r1, M2, hc3, h⟩ := bnd_inv h
  refine gV_i (As := [.int (0 : Int32)]) X hP hS hl.1 (c_X12_peopleThat l D cA q aK aV hq hc3) sf_X12_peopleThat bw_1679 sv_X12_peopleThat (rcR_12 sR_0) rfl ⟨rfl, rfl⟩ ⟨Nat.le_of_ble_eq_true rfl, Nat.le_of_ble_eq_true rfl⟩ rfl rfl (Nat.le_of_ble_eq_true rfl) dX12_isTooMuch_9 (fun H locs hP hS => ?_)
  obtain ⟨r4, M5, hc6, h⟩ := bnd_inv h
  refine gS_i (As := [.int r1]) X hP hS hl.1 (c_X12_bits l D cA q aK aV hq hc6) sf_X12_bits bw_1798 ss_X12_bits ⟨rfl, rfl⟩ ⟨Nat.le_of_ble_eq_true rfl, Nat.le_of_ble_eq_true rfl⟩ rfl rfl (Nat.le_of_ble_eq_true rfl) dX12_isTooMuch_12 (fun H locs hP hS => ?_)
  refine lv_iadd hx hb dX12_isTooMuch_15 ?_
  refine lv_sipush (v := 9999) hx hb dX12_isTooMuch_16 (by decide) ?_
  refine lv_icmp_le (tgt := 26) hx hb dX12_isTooMuch_19 (by decide) (fun c7 => ?_) (fun c7 => ?_)
  · rw [if_pos c7] at h
    refine lv_iconst (v := 0) hx hb dX12_isTooMuch_26 (by decide) ?_
    exact end_z X hr hk hP hS (Or.inl rfl) h dX12_isTooMuch_27
  · rw [if_neg c7] at h
    refine lv_iconst (v := 1) hx hb dX12_isTooMuch_22 (by decide) ?_
    refine lv_goto (tgt := 27) hx hb dX12_isTooMuch_23 (by decide) ?_
    exact end_z X hr hk hP hS (Or.inr rfl) h dX12_isTooMuch_27
theorem dX12_term_0 : decode cX12_term 0 = .ok (.aload_n 0, 1) := by decide +kernel
theorem dX12_term_1 : decode cX12_term 1 = .ok (.invokevirtual 347, 3) := by decide +kernel
theorem dX12_term_4 : decode cX12_term 4 = .ok (.ifCond .eq 9, 3) := by decide +kernel
theorem dX12_term_7 : decode cX12_term 7 = .ok (.aload_n 0, 1) := by decide +kernel
theorem dX12_term_8 : decode cX12_term 8 = .ok (.iconst 4, 1) := by decide +kernel
theorem dX12_term_9 : decode cX12_term 9 = .ok (.invokevirtual 91, 3) := by decide +kernel
theorem dX12_term_12 : decode cX12_term 12 = .ok (.ireturn, 1) := by decide +kernel
theorem dX12_term_13 : decode cX12_term 13 = .ok (.aload_n 0, 1) := by decide +kernel
theorem dX12_term_14 : decode cX12_term 14 = .ok (.iconst 0, 1) := by decide +kernel
theorem dX12_term_15 : decode cX12_term 15 = .ok (.invokevirtual 290, 3) := by decide +kernel
theorem dX12_term_18 : decode cX12_term 18 = .ok (.ifCond .ne 12, 3) := by decide +kernel
theorem dX12_term_21 : decode cX12_term 21 = .ok (.aload_n 0, 1) := by decide +kernel
theorem dX12_term_22 : decode cX12_term 22 = .ok (.bipush 7, 2) := by decide +kernel
theorem dX12_term_24 : decode cX12_term 24 = .ok (.invokevirtual 91, 3) := by decide +kernel
theorem dX12_term_27 : decode cX12_term 27 = .ok (.goto 11, 3) := by decide +kernel
theorem dX12_term_30 : decode cX12_term 30 = .ok (.aload_n 0, 1) := by decide +kernel
theorem dX12_term_31 : decode cX12_term 31 = .ok (.aload_n 0, 1) := by decide +kernel
theorem dX12_term_32 : decode cX12_term 32 = .ok (.invokevirtual 350, 3) := by decide +kernel
theorem dX12_term_35 : decode cX12_term 35 = .ok (.invokevirtual 95, 3) := by decide +kernel
theorem dX12_term_38 : decode cX12_term 38 = .ok (.ireturn, 1) := by decide +kernel
set_option maxRecDepth 100000 in
set_option maxHeartbeats 8000000 in
theorem c_X12_term (l : Launch) (D : va_G) (cA : Nat → ClassId) (q aK aV : Nat → Nat) (hq : injG 20 q) {M M0 : Mem} {r0 : Int32} (h : f_X12_term M = some (r0, M0)) : Met l yX12_term (.code yX12_term cX12_term 1 (some .int) :: BW) ({ frames := 9, cells := 0, slots := 0, locals := 198 } : Room) (va_Pc [.ref (q 0)] (CB 20 (ceR cA q) D cA q aK aV M)) (Qi 20 (ceR cA q) D q r0 M0) 0 0 (AqG 20 q) := by
  refine gMet RX12 (by decide +kernel) rfl hq (Nat.le_of_ble_eq_true rfl) ?_
  intro p e s m below meth c ls X hr hk hP hS hl
  have hx := X.1
  have hb := X.2.1
  have hl : lv_has ls 1 [(0, .ref (q 0))] := hl
  rw [f_X12_term] at h
  refine lv_aload_n hx hb dX12_term_0 rfl (lv_at hl 0 rfl) ?_
  obtain ⟨r1, M2, hc3, h⟩ := bnd_inv h
  refine gV_i (As := []) X hP hS hl.1 (c_X12_isTooMuch l D cA q aK aV hq hc3) sf_X12_isTooMuch bw_1794 sv_X12_isTooMuch (rcR_12 sR_0) rfl ⟨rfl, rfl⟩ ⟨Nat.le_of_ble_eq_true rfl, Nat.le_of_ble_eq_true rfl⟩ rfl rfl (Nat.le_of_ble_eq_true rfl) dX12_term_1 (fun H locs hP hS => ?_)
  refine lv_if_eq (tgt := 13) hx hb dX12_term_4 (by decide) (fun c4 => ?_) (fun c4 => ?_)
  · rw [if_pos c4] at h
    refine lv_aload_n hx hb dX12_term_13 rfl (lv_at hl 0 rfl) ?_
    refine lv_iconst (v := 0) hx hb dX12_term_14 (by decide) ?_
    obtain ⟨r5, M6, hc7, h⟩ := bnd_inv h
    refine gV_i (As := [.int (0 : Int32)]) X hP hS hl.1 (c_X12_peopleThat l D cA q aK aV hq hc7) sf_X12_peopleThat bw_1679 sv_X12_peopleThat (rcR_12 sR_0) rfl ⟨rfl, rfl⟩ ⟨Nat.le_of_ble_eq_true rfl, Nat.le_of_ble_eq_true rfl⟩ rfl rfl (Nat.le_of_ble_eq_true rfl) dX12_term_15 (fun H locs hP hS => ?_)
    refine lv_if_ne (tgt := 30) hx hb dX12_term_18 (by decide) (fun c8 => ?_) (fun c8 => ?_)
    · rw [if_neg c8] at h
      refine lv_aload_n hx hb dX12_term_30 rfl (lv_at hl 0 rfl) ?_
      refine lv_aload_n hx hb dX12_term_31 rfl (lv_at hl 0 rfl) ?_
      obtain ⟨r9, M10, hc11, h⟩ := bnd_inv h
      refine gV_i (As := []) X hP hS hl.1 (c_X12_terms l D cA q aK aV hq hc11) sf_X12_terms bw_1801 sv_X12_terms (rcR_12 sR_0) rfl ⟨rfl, rfl⟩ ⟨Nat.le_of_ble_eq_true rfl, Nat.le_of_ble_eq_true rfl⟩ rfl rfl (Nat.le_of_ble_eq_true rfl) dX12_term_32 (fun H locs hP hS => ?_)
      obtain ⟨r12, M13, hc14, h⟩ := bnd_inv h
      refine gV_i (As := [.int r9]) X hP hS hl.1 (c_X12_gives l D cA q aK aV hq hc14) sf_X12_gives bw_1639 sv_X12_gives (rcR_12 sR_0) rfl ⟨rfl, rfl⟩ ⟨Nat.le_of_ble_eq_true rfl, Nat.le_of_ble_eq_true rfl⟩ rfl rfl (Nat.le_of_ble_eq_true rfl) dX12_term_35 (fun H locs hP hS => ?_)
      exact end_i X hr hk hP hS h dX12_term_38
    · rw [if_pos c8] at h
      refine lv_aload_n hx hb dX12_term_21 rfl (lv_at hl 0 rfl) ?_
      refine lv_bipush (v := 7) hx hb dX12_term_22 (by decide) ?_
      obtain ⟨r15, M16, hc17, h⟩ := bnd_inv h
      refine gV_i (As := [.int (7 : Int32)]) X hP hS hl.1 (c_X12_refuse l D cA q aK aV hq hc17) sf_X12_refuse bw_1530 sv_X12_refuse (rcR_12 sR_0) rfl ⟨rfl, rfl⟩ ⟨Nat.le_of_ble_eq_true rfl, Nat.le_of_ble_eq_true rfl⟩ rfl rfl (Nat.le_of_ble_eq_true rfl) dX12_term_24 (fun H locs hP hS => ?_)
      refine lv_goto (tgt := 38) hx hb dX12_term_27 (by decide) ?_
      exact end_i X hr hk hP hS h dX12_term_38
  · rw [if_neg c4] at h
    refine lv_aload_n hx hb dX12_term_7 rfl (lv_at hl 0 rfl) ?_
    refine lv_iconst (v := 4) hx hb dX12_term_8 (by decide) ?_
    obtain ⟨r18, M19, hc20, h⟩ := bnd_inv h
    refine gV_i (As := [.int (4 : Int32)]) X hP hS hl.1 (c_X12_refuse l D cA q aK aV hq hc20) sf_X12_refuse bw_1530 sv_X12_refuse (rcR_12 sR_0) rfl ⟨rfl, rfl⟩ ⟨Nat.le_of_ble_eq_true rfl, Nat.le_of_ble_eq_true rfl⟩ rfl rfl (Nat.le_of_ble_eq_true rfl) dX12_term_9 (fun H locs hP hS => ?_)
    exact end_i X hr hk hP hS h dX12_term_12
theorem dX12_meals_0 : decode cX12_meals 0 = .ok (.iload_n 1, 1) := by decide +kernel
theorem dX12_meals_1 : decode cX12_meals 1 = .ok (.invokestatic 224, 3) := by decide +kernel
theorem dX12_meals_4 : decode cX12_meals 4 = .ok (.istore_n 3, 1) := by decide +kernel
theorem dX12_meals_5 : decode cX12_meals 5 = .ok (.aload_n 0, 1) := by decide +kernel
theorem dX12_meals_6 : decode cX12_meals 6 = .ok (.getfield 7, 3) := by decide +kernel
theorem dX12_meals_9 : decode cX12_meals 9 = .ok (.iload_n 3, 1) := by decide +kernel
theorem dX12_meals_10 : decode cX12_meals 10 = .ok (.iaload, 1) := by decide +kernel
theorem dX12_meals_11 : decode cX12_meals 11 = .ok (.bipush 99, 2) := by decide +kernel
theorem dX12_meals_13 : decode cX12_meals 13 = .ok (.if_icmp .ne 5, 3) := by decide +kernel
theorem dX12_meals_16 : decode cX12_meals 16 = .ok (.iconst 0, 1) := by decide +kernel
theorem dX12_meals_17 : decode cX12_meals 17 = .ok (.ireturn, 1) := by decide +kernel
theorem dX12_meals_18 : decode cX12_meals 18 = .ok (.aload_n 0, 1) := by decide +kernel
theorem dX12_meals_19 : decode cX12_meals 19 = .ok (.getfield 7, 3) := by decide +kernel
theorem dX12_meals_22 : decode cX12_meals 22 = .ok (.iload_n 3, 1) := by decide +kernel
theorem dX12_meals_23 : decode cX12_meals 23 = .ok (.bipush 99, 2) := by decide +kernel
theorem dX12_meals_25 : decode cX12_meals 25 = .ok (.aload_n 0, 1) := by decide +kernel
theorem dX12_meals_26 : decode cX12_meals 26 = .ok (.getfield 7, 3) := by decide +kernel
theorem dX12_meals_29 : decode cX12_meals 29 = .ok (.iload_n 3, 1) := by decide +kernel
theorem dX12_meals_30 : decode cX12_meals 30 = .ok (.iaload, 1) := by decide +kernel
theorem dX12_meals_31 : decode cX12_meals 31 = .ok (.iload_n 2, 1) := by decide +kernel
theorem dX12_meals_32 : decode cX12_meals 32 = .ok (.iadd, 1) := by decide +kernel
theorem dX12_meals_33 : decode cX12_meals 33 = .ok (.invokestatic 146, 3) := by decide +kernel
theorem dX12_meals_36 : decode cX12_meals 36 = .ok (.iastore, 1) := by decide +kernel
theorem dX12_meals_37 : decode cX12_meals 37 = .ok (.iconst 1, 1) := by decide +kernel
theorem dX12_meals_38 : decode cX12_meals 38 = .ok (.ireturn, 1) := by decide +kernel
set_option maxRecDepth 100000 in
set_option maxHeartbeats 8000000 in
theorem c_X12_meals (l : Launch) (D : va_G) (cA : Nat → ClassId) (q aK aV : Nat → Nat) (hq : injG 20 q) {a1 : Int32} {a2 : Int32} {M M0 : Mem} {r0 : Int32} (h : f_X12_meals a1 a2 M = some (r0, M0)) : Met l yX12_meals (.code yX12_meals cX12_meals 4 (some .boolean) :: BW) ({ frames := 2, cells := 0, slots := 0, locals := 40 } : Room) (va_Pc [.ref (q 0), .int a1, .int a2] (CB 20 (ceR cA q) D cA q aK aV M)) (Qi 20 (ceR cA q) D q r0 M0) 0 0 (AqG 20 q) := by
  refine gMet RX12 (by decide +kernel) rfl hq (Nat.le_of_ble_eq_true rfl) ?_
  intro p e s m below meth c ls X hr hk hP hS hl
  have hx := X.1
  have hb := X.2.1
  have hl : lv_has ls 4 [(0, .ref (q 0)), (1, .int a1), (2, .int a2)] := hl
  rw [f_X12_meals] at h
  refine lv_iload_n hx hb dX12_meals_0 rfl (lv_at hl 1 rfl) ?_
  obtain ⟨r1, M2, hc3, h⟩ := bnd_inv h
  refine gS_i (As := [.int a1]) X hP hS hl.1 (c_X12_personRow l D cA q aK aV hq hc3) sf_X12_personRow bw_1616 ss_X12_personRow ⟨rfl, rfl⟩ ⟨Nat.le_of_ble_eq_true rfl, Nat.le_of_ble_eq_true rfl⟩ rfl rfl (Nat.le_of_ble_eq_true rfl) dX12_meals_1 (fun H locs hP hS => ?_)
  refine lv_istore_n (lv' := [(3, .int r1), (0, .ref (q 0)), (1, .int a1), (2, .int a2)]) hx hb dX12_meals_4 rfl hl (by decide) rfl (fun ls hl => ?_)
  refine lv_aload_n hx hb dX12_meals_5 rfl (lv_at hl 1 rfl) ?_
  refine gfR_12_0 X hP sR_0 bw_1323 dX12_meals_6 ?_
  refine lv_iload_n hx hb dX12_meals_9 rfl (lv_at hl 0 rfl) ?_
  obtain ⟨g4, h⟩ := gd_inv h
  refine ldR_ia X hP sR_1 zR_1 g4 dX12_meals_10 ?_
  refine lv_bipush (v := 99) hx hb dX12_meals_11 (by decide) ?_
  refine lv_icmp_ne (tgt := 18) hx hb dX12_meals_13 (by decide) (fun c5 => ?_) (fun c5 => ?_)
  · rw [if_neg c5] at h
    refine lv_aload_n hx hb dX12_meals_18 rfl (lv_at hl 1 rfl) ?_
    refine gfR_12_0 X hP sR_0 bw_1323 dX12_meals_19 ?_
    refine lv_iload_n hx hb dX12_meals_22 rfl (lv_at hl 0 rfl) ?_
    refine lv_bipush (v := 99) hx hb dX12_meals_23 (by decide) ?_
    refine lv_aload_n hx hb dX12_meals_25 rfl (lv_at hl 1 rfl) ?_
    refine gfR_12_0 X hP sR_0 bw_1323 dX12_meals_26 ?_
    refine lv_iload_n hx hb dX12_meals_29 rfl (lv_at hl 0 rfl) ?_
    obtain ⟨g6, h⟩ := gd_inv h
    refine ldR_ia X hP sR_1 zR_1 g6 dX12_meals_30 ?_
    refine lv_iload_n hx hb dX12_meals_31 rfl (lv_at hl 3 rfl) ?_
    refine lv_iadd hx hb dX12_meals_32 ?_
    obtain ⟨y7, ey7, h⟩ := lt_inv h
    refine va_mmin hx hb (by rw [X.2.2.1]; exact hl.1.symm) X.2.2.2.1 (X.2.2.2.2.1 _ bw_1529) (X.2.2.2.2.1 _ bw_888) (X.2.2.2.2.1 _ bw_18) (X.2.2.2.2.1 _ bw_889) (Nat.le_of_ble_eq_true rfl) (Nat.le_of_ble_eq_true rfl) (Nat.zero_le _) (Nat.zero_le _) dX12_meals_33 ?_
    refine topE ey7 ?_
    obtain ⟨g8, h⟩ := gd_inv h
    obtain ⟨M9, eM9, h⟩ := lt_inv h
    refine stR_ia X hP hS sR_1 zR_1 g8 eM9 dX12_meals_36 (fun H locs hP hS => ?_)
    refine lv_iconst (v := 1) hx hb dX12_meals_37 (by decide) ?_
    exact end_z X hr hk hP hS (Or.inr rfl) h dX12_meals_38
  · rw [if_pos c5] at h
    refine lv_iconst (v := 0) hx hb dX12_meals_16 (by decide) ?_
    exact end_z X hr hk hP hS (Or.inl rfl) h dX12_meals_17
theorem dX12_meal_0 : decode cX12_meal 0 = .ok (.aload_n 0, 1) := by decide +kernel
theorem dX12_meal_1 : decode cX12_meal 1 = .ok (.iload_n 1, 1) := by decide +kernel
theorem dX12_meal_2 : decode cX12_meal 2 = .ok (.i2l, 1) := by decide +kernel
theorem dX12_meal_3 : decode cX12_meal 3 = .ok (.invokevirtual 305, 3) := by decide +kernel
theorem dX12_meal_6 : decode cX12_meal 6 = .ok (.ifCond .eq 15, 3) := by decide +kernel
theorem dX12_meal_9 : decode cX12_meal 9 = .ok (.iload_n 2, 1) := by decide +kernel
theorem dX12_meal_10 : decode cX12_meal 10 = .ok (.i2l, 1) := by decide +kernel
theorem dX12_meal_11 : decode cX12_meal 11 = .ok (.lconst 1, 1) := by decide +kernel
theorem dX12_meal_12 : decode cX12_meal 12 = .ok (.ldc2_w 353, 3) := by decide +kernel
theorem dX12_meal_15 : decode cX12_meal 15 = .ok (.invokestatic 337, 3) := by decide +kernel
theorem dX12_meal_18 : decode cX12_meal 18 = .ok (.ifCond .ne 9, 3) := by decide +kernel
theorem dX12_meal_21 : decode cX12_meal 21 = .ok (.aload_n 0, 1) := by decide +kernel
theorem dX12_meal_22 : decode cX12_meal 22 = .ok (.iconst 1, 1) := by decide +kernel
theorem dX12_meal_23 : decode cX12_meal 23 = .ok (.invokevirtual 91, 3) := by decide +kernel
theorem dX12_meal_26 : decode cX12_meal 26 = .ok (.ireturn, 1) := by decide +kernel
theorem dX12_meal_27 : decode cX12_meal 27 = .ok (.aload_n 0, 1) := by decide +kernel
theorem dX12_meal_28 : decode cX12_meal 28 = .ok (.iload_n 1, 1) := by decide +kernel
theorem dX12_meal_29 : decode cX12_meal 29 = .ok (.iload_n 2, 1) := by decide +kernel
theorem dX12_meal_30 : decode cX12_meal 30 = .ok (.invokevirtual 355, 3) := by decide +kernel
theorem dX12_meal_33 : decode cX12_meal 33 = .ok (.ifCond .eq 16, 3) := by decide +kernel
theorem dX12_meal_36 : decode cX12_meal 36 = .ok (.aload_n 0, 1) := by decide +kernel
theorem dX12_meal_37 : decode cX12_meal 37 = .ok (.aload_n 0, 1) := by decide +kernel
theorem dX12_meal_38 : decode cX12_meal 38 = .ok (.iload_n 1, 1) := by decide +kernel
theorem dX12_meal_39 : decode cX12_meal 39 = .ok (.iconst 0, 1) := by decide +kernel
theorem dX12_meal_40 : decode cX12_meal 40 = .ok (.invokevirtual 281, 3) := by decide +kernel
theorem dX12_meal_43 : decode cX12_meal 43 = .ok (.invokevirtual 95, 3) := by decide +kernel
theorem dX12_meal_46 : decode cX12_meal 46 = .ok (.goto 9, 3) := by decide +kernel
theorem dX12_meal_49 : decode cX12_meal 49 = .ok (.aload_n 0, 1) := by decide +kernel
theorem dX12_meal_50 : decode cX12_meal 50 = .ok (.bipush 7, 2) := by decide +kernel
theorem dX12_meal_52 : decode cX12_meal 52 = .ok (.invokevirtual 91, 3) := by decide +kernel
theorem dX12_meal_55 : decode cX12_meal 55 = .ok (.ireturn, 1) := by decide +kernel
set_option maxRecDepth 100000 in
set_option maxHeartbeats 8000000 in
theorem c_X12_meal (l : Launch) (D : va_G) (cA : Nat → ClassId) (q aK aV : Nat → Nat) (hq : injG 20 q) {a1 : Int32} {a2 : Int32} {M M0 : Mem} {r0 : Int32} (h : f_X12_meal a1 a2 M = some (r0, M0)) : Met l yX12_meal (.code yX12_meal cX12_meal 3 (some .int) :: BW) ({ frames := 3, cells := 0, slots := 0, locals := 63 } : Room) (va_Pc [.ref (q 0), .int a1, .int a2] (CB 20 (ceR cA q) D cA q aK aV M)) (Qi 20 (ceR cA q) D q r0 M0) 0 0 (AqG 20 q) := by
  refine gMet RX12 (by decide +kernel) rfl hq (Nat.le_of_ble_eq_true rfl) ?_
  intro p e s m below meth c ls X hr hk hP hS hl
  have hx := X.1
  have hb := X.2.1
  have hl : lv_has ls 3 [(0, .ref (q 0)), (1, .int a1), (2, .int a2)] := hl
  rw [f_X12_meal] at h
  refine lv_aload_n hx hb dX12_meal_0 rfl (lv_at hl 0 rfl) ?_
  refine lv_iload_n hx hb dX12_meal_1 rfl (lv_at hl 1 rfl) ?_
  refine lv_i2l hx hb dX12_meal_2 rfl ?_
  obtain ⟨r1, M2, hc3, h⟩ := bnd_inv h
  refine gV_i (As := [.long (a1.toInt64)]) X hP hS hl.1 (c_X12_isPerson l D cA q aK aV hq hc3) sf_X12_isPerson bw_1715 sv_X12_isPerson (rcR_12 sR_0) rfl ⟨rfl, rfl⟩ ⟨Nat.le_of_ble_eq_true rfl, Nat.le_of_ble_eq_true rfl⟩ rfl rfl (Nat.le_of_ble_eq_true rfl) dX12_meal_3 (fun H locs hP hS => ?_)
  refine lv_if_eq (tgt := 21) hx hb dX12_meal_6 (by decide) (fun c4 => ?_) (fun c4 => ?_)
  · rw [if_pos c4] at h
    refine lv_aload_n hx hb dX12_meal_21 rfl (lv_at hl 0 rfl) ?_
    refine lv_iconst (v := 1) hx hb dX12_meal_22 (by decide) ?_
    obtain ⟨r5, M6, hc7, h⟩ := bnd_inv h
    refine gV_i (As := [.int (1 : Int32)]) X hP hS hl.1 (c_X12_refuse l D cA q aK aV hq hc7) sf_X12_refuse bw_1530 sv_X12_refuse (rcR_12 sR_0) rfl ⟨rfl, rfl⟩ ⟨Nat.le_of_ble_eq_true rfl, Nat.le_of_ble_eq_true rfl⟩ rfl rfl (Nat.le_of_ble_eq_true rfl) dX12_meal_23 (fun H locs hP hS => ?_)
    exact end_i X hr hk hP hS h dX12_meal_26
  · rw [if_neg c4] at h
    refine lv_iload_n hx hb dX12_meal_9 rfl (lv_at hl 2 rfl) ?_
    refine lv_i2l hx hb dX12_meal_10 rfl ?_
    refine lv_lconst (v := 1) hx hb dX12_meal_11 (by decide) ?_
    refine lv_ldc2 hx hb X.2.2.2.1 (X.2.2.2.2.1 _ bw_1809) dX12_meal_12 ?_
    obtain ⟨r8, M9, hc10, h⟩ := bnd_inv h
    refine gS_i (As := [.long (a2.toInt64), .long (1 : Int64), .long (99 : Int64)]) X hP hS hl.1 (c_X12_isFrom l D cA q aK aV hq hc10) sf_X12_isFrom bw_1767 ss_X12_isFrom ⟨rfl, rfl⟩ ⟨Nat.le_of_ble_eq_true rfl, Nat.le_of_ble_eq_true rfl⟩ rfl rfl (Nat.le_of_ble_eq_true rfl) dX12_meal_15 (fun H locs hP hS => ?_)
    refine lv_if_ne (tgt := 27) hx hb dX12_meal_18 (by decide) (fun c11 => ?_) (fun c11 => ?_)
    · rw [if_neg c11] at h
      refine lv_aload_n hx hb dX12_meal_27 rfl (lv_at hl 0 rfl) ?_
      refine lv_iload_n hx hb dX12_meal_28 rfl (lv_at hl 1 rfl) ?_
      refine lv_iload_n hx hb dX12_meal_29 rfl (lv_at hl 2 rfl) ?_
      obtain ⟨r12, M13, hc14, h⟩ := bnd_inv h
      refine gV_i (As := [.int a1, .int a2]) X hP hS hl.1 (c_X12_meals l D cA q aK aV hq hc14) sf_X12_meals bw_1810 sv_X12_meals (rcR_12 sR_0) rfl ⟨rfl, rfl⟩ ⟨Nat.le_of_ble_eq_true rfl, Nat.le_of_ble_eq_true rfl⟩ rfl rfl (Nat.le_of_ble_eq_true rfl) dX12_meal_30 (fun H locs hP hS => ?_)
      refine lv_if_eq (tgt := 49) hx hb dX12_meal_33 (by decide) (fun c15 => ?_) (fun c15 => ?_)
      · rw [if_pos c15] at h
        refine lv_aload_n hx hb dX12_meal_49 rfl (lv_at hl 0 rfl) ?_
        refine lv_bipush (v := 7) hx hb dX12_meal_50 (by decide) ?_
        obtain ⟨r16, M17, hc18, h⟩ := bnd_inv h
        refine gV_i (As := [.int (7 : Int32)]) X hP hS hl.1 (c_X12_refuse l D cA q aK aV hq hc18) sf_X12_refuse bw_1530 sv_X12_refuse (rcR_12 sR_0) rfl ⟨rfl, rfl⟩ ⟨Nat.le_of_ble_eq_true rfl, Nat.le_of_ble_eq_true rfl⟩ rfl rfl (Nat.le_of_ble_eq_true rfl) dX12_meal_52 (fun H locs hP hS => ?_)
        exact end_i X hr hk hP hS h dX12_meal_55
      · rw [if_neg c15] at h
        refine lv_aload_n hx hb dX12_meal_36 rfl (lv_at hl 0 rfl) ?_
        refine lv_aload_n hx hb dX12_meal_37 rfl (lv_at hl 0 rfl) ?_
        refine lv_iload_n hx hb dX12_meal_38 rfl (lv_at hl 1 rfl) ?_
        refine lv_iconst (v := 0) hx hb dX12_meal_39 (by decide) ?_
        obtain ⟨r19, M20, hc21, h⟩ := bnd_inv h
        refine gV_i (As := [.int a1, .int (0 : Int32)]) X hP hS hl.1 (c_X12_personOf l D cA q aK aV hq hc21) sf_X12_personOf bw_1683 sv_X12_personOf (rcR_12 sR_0) rfl ⟨rfl, rfl⟩ ⟨Nat.le_of_ble_eq_true rfl, Nat.le_of_ble_eq_true rfl⟩ rfl rfl (Nat.le_of_ble_eq_true rfl) dX12_meal_40 (fun H locs hP hS => ?_)
        obtain ⟨r22, M23, hc24, h⟩ := bnd_inv h
        refine gV_i (As := [.int r19]) X hP hS hl.1 (c_X12_gives l D cA q aK aV hq hc24) sf_X12_gives bw_1639 sv_X12_gives (rcR_12 sR_0) rfl ⟨rfl, rfl⟩ ⟨Nat.le_of_ble_eq_true rfl, Nat.le_of_ble_eq_true rfl⟩ rfl rfl (Nat.le_of_ble_eq_true rfl) dX12_meal_43 (fun H locs hP hS => ?_)
        refine lv_goto (tgt := 55) hx hb dX12_meal_46 (by decide) ?_
        exact end_i X hr hk hP hS h dX12_meal_55
    · rw [if_pos c11] at h
      refine lv_aload_n hx hb dX12_meal_21 rfl (lv_at hl 0 rfl) ?_
      refine lv_iconst (v := 1) hx hb dX12_meal_22 (by decide) ?_
      obtain ⟨r25, M26, hc27, h⟩ := bnd_inv h
      refine gV_i (As := [.int (1 : Int32)]) X hP hS hl.1 (c_X12_refuse l D cA q aK aV hq hc27) sf_X12_refuse bw_1530 sv_X12_refuse (rcR_12 sR_0) rfl ⟨rfl, rfl⟩ ⟨Nat.le_of_ble_eq_true rfl, Nat.le_of_ble_eq_true rfl⟩ rfl rfl (Nat.le_of_ble_eq_true rfl) dX12_meal_23 (fun H locs hP hS => ?_)
      exact end_i X hr hk hP hS h dX12_meal_26
theorem dX12_scents_0 : decode cX12_scents 0 = .ok (.aload_n 0, 1) := by decide +kernel
theorem dX12_scents_1 : decode cX12_scents 1 = .ok (.aload_n 0, 1) := by decide +kernel
theorem dX12_scents_2 : decode cX12_scents 2 = .ok (.iload_n 1, 1) := by decide +kernel
theorem dX12_scents_3 : decode cX12_scents 3 = .ok (.iconst 1, 1) := by decide +kernel
theorem dX12_scents_4 : decode cX12_scents 4 = .ok (.invokevirtual 281, 3) := by decide +kernel
theorem dX12_scents_7 : decode cX12_scents 7 = .ok (.iload_n 2, 1) := by decide +kernel
theorem dX12_scents_8 : decode cX12_scents 8 = .ok (.invokevirtual 315, 3) := by decide +kernel
theorem dX12_scents_11 : decode cX12_scents 11 = .ok (.iload_n 3, 1) := by decide +kernel
theorem dX12_scents_12 : decode cX12_scents 12 = .ok (.if_icmp .ne 5, 3) := by decide +kernel
theorem dX12_scents_15 : decode cX12_scents 15 = .ok (.iconst 0, 1) := by decide +kernel
theorem dX12_scents_16 : decode cX12_scents 16 = .ok (.ireturn, 1) := by decide +kernel
theorem dX12_scents_17 : decode cX12_scents 17 = .ok (.aload_n 0, 1) := by decide +kernel
theorem dX12_scents_18 : decode cX12_scents 18 = .ok (.getfield 7, 3) := by decide +kernel
theorem dX12_scents_21 : decode cX12_scents 21 = .ok (.iload_n 1, 1) := by decide +kernel
theorem dX12_scents_22 : decode cX12_scents 22 = .ok (.invokestatic 224, 3) := by decide +kernel
theorem dX12_scents_25 : decode cX12_scents 25 = .ok (.iconst 1, 1) := by decide +kernel
theorem dX12_scents_26 : decode cX12_scents 26 = .ok (.iadd, 1) := by decide +kernel
theorem dX12_scents_27 : decode cX12_scents 27 = .ok (.dup2, 1) := by decide +kernel
theorem dX12_scents_28 : decode cX12_scents 28 = .ok (.iaload, 1) := by decide +kernel
theorem dX12_scents_29 : decode cX12_scents 29 = .ok (.iconst 1, 1) := by decide +kernel
theorem dX12_scents_30 : decode cX12_scents 30 = .ok (.iload_n 2, 1) := by decide +kernel
theorem dX12_scents_31 : decode cX12_scents 31 = .ok (.ishl, 1) := by decide +kernel
theorem dX12_scents_32 : decode cX12_scents 32 = .ok (.ixor, 1) := by decide +kernel
theorem dX12_scents_33 : decode cX12_scents 33 = .ok (.iastore, 1) := by decide +kernel
theorem dX12_scents_34 : decode cX12_scents 34 = .ok (.iconst 1, 1) := by decide +kernel
theorem dX12_scents_35 : decode cX12_scents 35 = .ok (.ireturn, 1) := by decide +kernel
set_option maxRecDepth 100000 in
set_option maxHeartbeats 8000000 in
theorem c_X12_scents (l : Launch) (D : va_G) (cA : Nat → ClassId) (q aK aV : Nat → Nat) (hq : injG 20 q) {a1 : Int32} {a2 : Int32} {a3 : Int32} {M M0 : Mem} {r0 : Int32} (h : f_X12_scents a1 a2 a3 M = some (r0, M0)) : Met l yX12_scents (.code yX12_scents cX12_scents 4 (some .boolean) :: BW) ({ frames := 3, cells := 0, slots := 0, locals := 54 } : Room) (va_Pc [.ref (q 0), .int a1, .int a2, .int a3] (CB 20 (ceR cA q) D cA q aK aV M)) (Qi 20 (ceR cA q) D q r0 M0) 0 0 (AqG 20 q) := by
  refine gMet RX12 (by decide +kernel) rfl hq (Nat.le_of_ble_eq_true rfl) ?_
  intro p e s m below meth c ls X hr hk hP hS hl
  have hx := X.1
  have hb := X.2.1
  have hl : lv_has ls 4 [(0, .ref (q 0)), (1, .int a1), (2, .int a2), (3, .int a3)] := hl
  rw [f_X12_scents] at h
  refine lv_aload_n hx hb dX12_scents_0 rfl (lv_at hl 0 rfl) ?_
  refine lv_aload_n hx hb dX12_scents_1 rfl (lv_at hl 0 rfl) ?_
  refine lv_iload_n hx hb dX12_scents_2 rfl (lv_at hl 1 rfl) ?_
  refine lv_iconst (v := 1) hx hb dX12_scents_3 (by decide) ?_
  obtain ⟨r1, M2, hc3, h⟩ := bnd_inv h
  refine gV_i (As := [.int a1, .int (1 : Int32)]) X hP hS hl.1 (c_X12_personOf l D cA q aK aV hq hc3) sf_X12_personOf bw_1683 sv_X12_personOf (rcR_12 sR_0) rfl ⟨rfl, rfl⟩ ⟨Nat.le_of_ble_eq_true rfl, Nat.le_of_ble_eq_true rfl⟩ rfl rfl (Nat.le_of_ble_eq_true rfl) dX12_scents_4 (fun H locs hP hS => ?_)
  refine lv_iload_n hx hb dX12_scents_7 rfl (lv_at hl 2 rfl) ?_
  obtain ⟨r4, M5, hc6, h⟩ := bnd_inv h
  refine gV_i (As := [.int r1, .int a2]) X hP hS hl.1 (c_X12_isIn l D cA q aK aV hq hc6) sf_X12_isIn bw_1755 sv_X12_isIn (rcR_12 sR_0) rfl ⟨rfl, rfl⟩ ⟨Nat.le_of_ble_eq_true rfl, Nat.le_of_ble_eq_true rfl⟩ rfl rfl (Nat.le_of_ble_eq_true rfl) dX12_scents_8 (fun H locs hP hS => ?_)
  refine lv_iload_n hx hb dX12_scents_11 rfl (lv_at hl 3 rfl) ?_
  refine lv_icmp_ne (tgt := 17) hx hb dX12_scents_12 (by decide) (fun c7 => ?_) (fun c7 => ?_)
  · rw [if_neg c7] at h
    refine lv_aload_n hx hb dX12_scents_17 rfl (lv_at hl 0 rfl) ?_
    refine gfR_12_0 X hP sR_0 bw_1323 dX12_scents_18 ?_
    refine lv_iload_n hx hb dX12_scents_21 rfl (lv_at hl 1 rfl) ?_
    obtain ⟨r8, M9, hc10, h⟩ := bnd_inv h
    refine gS_i (As := [.int a1]) X hP hS hl.1 (c_X12_personRow l D cA q aK aV hq hc10) sf_X12_personRow bw_1616 ss_X12_personRow ⟨rfl, rfl⟩ ⟨Nat.le_of_ble_eq_true rfl, Nat.le_of_ble_eq_true rfl⟩ rfl rfl (Nat.le_of_ble_eq_true rfl) dX12_scents_22 (fun H locs hP hS => ?_)
    refine lv_iconst (v := 1) hx hb dX12_scents_25 (by decide) ?_
    refine lv_iadd hx hb dX12_scents_26 ?_
    obtain ⟨y11, ey11, h⟩ := lt_inv h
    refine topE ey11 ?_
    refine lv_dup2_11 hx hb dX12_scents_27 rfl rfl ?_
    obtain ⟨g12, h⟩ := gd_inv h
    refine ldR_ia X hP sR_1 zR_1 g12 dX12_scents_28 ?_
    refine lv_iconst (v := 1) hx hb dX12_scents_29 (by decide) ?_
    refine lv_iload_n hx hb dX12_scents_30 rfl (lv_at hl 2 rfl) ?_
    refine lv_ishl hx hb dX12_scents_31 ?_
    refine lv_ixor hx hb dX12_scents_32 ?_
    obtain ⟨g13, h⟩ := gd_inv h
    obtain ⟨M14, eM14, h⟩ := lt_inv h
    refine stR_ia X hP hS sR_1 zR_1 g13 eM14 dX12_scents_33 (fun H locs hP hS => ?_)
    refine lv_iconst (v := 1) hx hb dX12_scents_34 (by decide) ?_
    exact end_z X hr hk hP hS (Or.inr rfl) h dX12_scents_35
  · rw [if_pos c7] at h
    refine lv_iconst (v := 0) hx hb dX12_scents_15 (by decide) ?_
    exact end_z X hr hk hP hS (Or.inl rfl) h dX12_scents_16
theorem dX12_scent_0 : decode cX12_scent 0 = .ok (.aload_n 0, 1) := by decide +kernel
theorem dX12_scent_1 : decode cX12_scent 1 = .ok (.iload_n 1, 1) := by decide +kernel
theorem dX12_scent_2 : decode cX12_scent 2 = .ok (.i2l, 1) := by decide +kernel
theorem dX12_scent_3 : decode cX12_scent 3 = .ok (.invokevirtual 305, 3) := by decide +kernel
theorem dX12_scent_6 : decode cX12_scent 6 = .ok (.ifCond .eq 11, 3) := by decide +kernel
theorem dX12_scent_9 : decode cX12_scent 9 = .ok (.aload_n 0, 1) := by decide +kernel
theorem dX12_scent_10 : decode cX12_scent 10 = .ok (.iload_n 2, 1) := by decide +kernel
theorem dX12_scent_11 : decode cX12_scent 11 = .ok (.invokevirtual 358, 3) := by decide +kernel
theorem dX12_scent_14 : decode cX12_scent 14 = .ok (.ifCond .ne 9, 3) := by decide +kernel
theorem dX12_scent_17 : decode cX12_scent 17 = .ok (.aload_n 0, 1) := by decide +kernel
theorem dX12_scent_18 : decode cX12_scent 18 = .ok (.iconst 1, 1) := by decide +kernel
theorem dX12_scent_19 : decode cX12_scent 19 = .ok (.invokevirtual 98, 3) := by decide +kernel
theorem dX12_scent_22 : decode cX12_scent 22 = .ok (.ireturn, 1) := by decide +kernel
theorem dX12_scent_23 : decode cX12_scent 23 = .ok (.aload_n 0, 1) := by decide +kernel
theorem dX12_scent_24 : decode cX12_scent 24 = .ok (.aload_n 0, 1) := by decide +kernel
theorem dX12_scent_25 : decode cX12_scent 25 = .ok (.iload_n 1, 1) := by decide +kernel
theorem dX12_scent_26 : decode cX12_scent 26 = .ok (.iload_n 2, 1) := by decide +kernel
theorem dX12_scent_27 : decode cX12_scent 27 = .ok (.iload_n 3, 1) := by decide +kernel
theorem dX12_scent_28 : decode cX12_scent 28 = .ok (.invokevirtual 361, 3) := by decide +kernel
theorem dX12_scent_31 : decode cX12_scent 31 = .ok (.ifCond .eq 7, 3) := by decide +kernel
theorem dX12_scent_34 : decode cX12_scent 34 = .ok (.iconst 0, 1) := by decide +kernel
theorem dX12_scent_35 : decode cX12_scent 35 = .ok (.goto 5, 3) := by decide +kernel
theorem dX12_scent_38 : decode cX12_scent 38 = .ok (.bipush 7, 2) := by decide +kernel
theorem dX12_scent_40 : decode cX12_scent 40 = .ok (.invokevirtual 98, 3) := by decide +kernel
theorem dX12_scent_43 : decode cX12_scent 43 = .ok (.ireturn, 1) := by decide +kernel
set_option maxRecDepth 100000 in
set_option maxHeartbeats 8000000 in
theorem c_X12_scent (l : Launch) (D : va_G) (cA : Nat → ClassId) (q aK aV : Nat → Nat) (hq : injG 20 q) {a1 : Int32} {a2 : Int32} {a3 : Int32} {M M0 : Mem} {r0 : Int32} (h : f_X12_scent a1 a2 a3 M = some (r0, M0)) : Met l yX12_scent (.code yX12_scent cX12_scent 4 (some .boolean) :: BW) ({ frames := 4, cells := 0, slots := 0, locals := 77 } : Room) (va_Pc [.ref (q 0), .int a1, .int a2, .int a3] (CB 20 (ceR cA q) D cA q aK aV M)) (Qi 20 (ceR cA q) D q r0 M0) 0 0 (AqG 20 q) := by
  refine gMet RX12 (by decide +kernel) rfl hq (Nat.le_of_ble_eq_true rfl) ?_
  intro p e s m below meth c ls X hr hk hP hS hl
  have hx := X.1
  have hb := X.2.1
  have hl : lv_has ls 4 [(0, .ref (q 0)), (1, .int a1), (2, .int a2), (3, .int a3)] := hl
  rw [f_X12_scent] at h
  refine lv_aload_n hx hb dX12_scent_0 rfl (lv_at hl 0 rfl) ?_
  refine lv_iload_n hx hb dX12_scent_1 rfl (lv_at hl 1 rfl) ?_
  refine lv_i2l hx hb dX12_scent_2 rfl ?_
  obtain ⟨r1, M2, hc3, h⟩ := bnd_inv h
  refine gV_i (As := [.long (a1.toInt64)]) X hP hS hl.1 (c_X12_isPerson l D cA q aK aV hq hc3) sf_X12_isPerson bw_1715 sv_X12_isPerson (rcR_12 sR_0) rfl ⟨rfl, rfl⟩ ⟨Nat.le_of_ble_eq_true rfl, Nat.le_of_ble_eq_true rfl⟩ rfl rfl (Nat.le_of_ble_eq_true rfl) dX12_scent_3 (fun H locs hP hS => ?_)
  refine lv_if_eq (tgt := 17) hx hb dX12_scent_6 (by decide) (fun c4 => ?_) (fun c4 => ?_)
  · rw [if_pos c4] at h
    refine lv_aload_n hx hb dX12_scent_17 rfl (lv_at hl 0 rfl) ?_
    refine lv_iconst (v := 1) hx hb dX12_scent_18 (by decide) ?_
    obtain ⟨r5, M6, hc7, h⟩ := bnd_inv h
    refine gV_i (As := [.int (1 : Int32)]) X hP hS hl.1 (c_X12_is l D cA q aK aV hq hc7) sf_X12_is bw_1470 sv_X12_is (rcR_12 sR_0) rfl ⟨rfl, rfl⟩ ⟨Nat.le_of_ble_eq_true rfl, Nat.le_of_ble_eq_true rfl⟩ rfl rfl (Nat.le_of_ble_eq_true rfl) dX12_scent_19 (fun H locs hP hS => ?_)
    obtain ⟨g8, h⟩ := gd_inv h
    exact end_z X hr hk hP hS (Decidable.not_not.mp g8) h dX12_scent_22
  · rw [if_neg c4] at h
    refine lv_aload_n hx hb dX12_scent_9 rfl (lv_at hl 0 rfl) ?_
    refine lv_iload_n hx hb dX12_scent_10 rfl (lv_at hl 2 rfl) ?_
    obtain ⟨r9, M10, hc11, h⟩ := bnd_inv h
    refine gV_i (As := [.int a2]) X hP hS hl.1 (c_X12_isSmell l D cA q aK aV hq hc11) sf_X12_isSmell bw_1818 sv_X12_isSmell (rcR_12 sR_0) rfl ⟨rfl, rfl⟩ ⟨Nat.le_of_ble_eq_true rfl, Nat.le_of_ble_eq_true rfl⟩ rfl rfl (Nat.le_of_ble_eq_true rfl) dX12_scent_11 (fun H locs hP hS => ?_)
    refine lv_if_ne (tgt := 23) hx hb dX12_scent_14 (by decide) (fun c12 => ?_) (fun c12 => ?_)
    · rw [if_neg c12] at h
      refine lv_aload_n hx hb dX12_scent_23 rfl (lv_at hl 0 rfl) ?_
      refine lv_aload_n hx hb dX12_scent_24 rfl (lv_at hl 0 rfl) ?_
      refine lv_iload_n hx hb dX12_scent_25 rfl (lv_at hl 1 rfl) ?_
      refine lv_iload_n hx hb dX12_scent_26 rfl (lv_at hl 2 rfl) ?_
      refine lv_iload_n hx hb dX12_scent_27 rfl (lv_at hl 3 rfl) ?_
      obtain ⟨r13, M14, hc15, h⟩ := bnd_inv h
      refine gV_i (As := [.int a1, .int a2, .int a3]) X hP hS hl.1 (c_X12_scents l D cA q aK aV hq hc15) sf_X12_scents bw_1822 sv_X12_scents (rcR_12 sR_0) rfl ⟨rfl, rfl⟩ ⟨Nat.le_of_ble_eq_true rfl, Nat.le_of_ble_eq_true rfl⟩ rfl rfl (Nat.le_of_ble_eq_true rfl) dX12_scent_28 (fun H locs hP hS => ?_)
      refine lv_if_eq (tgt := 38) hx hb dX12_scent_31 (by decide) (fun c16 => ?_) (fun c16 => ?_)
      · rw [if_pos c16] at h
        refine lv_bipush (v := 7) hx hb dX12_scent_38 (by decide) ?_
        obtain ⟨r17, M18, hc19, h⟩ := bnd_inv h
        refine gV_i (As := [.int (7 : Int32)]) X hP hS hl.1 (c_X12_is l D cA q aK aV hq hc19) sf_X12_is bw_1470 sv_X12_is (rcR_12 sR_0) rfl ⟨rfl, rfl⟩ ⟨Nat.le_of_ble_eq_true rfl, Nat.le_of_ble_eq_true rfl⟩ rfl rfl (Nat.le_of_ble_eq_true rfl) dX12_scent_40 (fun H locs hP hS => ?_)
        obtain ⟨g20, h⟩ := gd_inv h
        exact end_z X hr hk hP hS (Decidable.not_not.mp g20) h dX12_scent_43
      · rw [if_neg c16] at h
        refine lv_iconst (v := 0) hx hb dX12_scent_34 (by decide) ?_
        refine lv_goto (tgt := 40) hx hb dX12_scent_35 (by decide) ?_
        obtain ⟨r21, M22, hc23, h⟩ := bnd_inv h
        refine gV_i (As := [.int (0 : Int32)]) X hP hS hl.1 (c_X12_is l D cA q aK aV hq hc23) sf_X12_is bw_1470 sv_X12_is (rcR_12 sR_0) rfl ⟨rfl, rfl⟩ ⟨Nat.le_of_ble_eq_true rfl, Nat.le_of_ble_eq_true rfl⟩ rfl rfl (Nat.le_of_ble_eq_true rfl) dX12_scent_40 (fun H locs hP hS => ?_)
        obtain ⟨g24, h⟩ := gd_inv h
        exact end_z X hr hk hP hS (Decidable.not_not.mp g24) h dX12_scent_43
    · rw [if_pos c12] at h
      refine lv_aload_n hx hb dX12_scent_17 rfl (lv_at hl 0 rfl) ?_
      refine lv_iconst (v := 1) hx hb dX12_scent_18 (by decide) ?_
      obtain ⟨r25, M26, hc27, h⟩ := bnd_inv h
      refine gV_i (As := [.int (1 : Int32)]) X hP hS hl.1 (c_X12_is l D cA q aK aV hq hc27) sf_X12_is bw_1470 sv_X12_is (rcR_12 sR_0) rfl ⟨rfl, rfl⟩ ⟨Nat.le_of_ble_eq_true rfl, Nat.le_of_ble_eq_true rfl⟩ rfl rfl (Nat.le_of_ble_eq_true rfl) dX12_scent_19 (fun H locs hP hS => ?_)
      obtain ⟨g28, h⟩ := gd_inv h
      exact end_z X hr hk hP hS (Decidable.not_not.mp g28) h dX12_scent_22
theorem dX12_nights_0 : decode cX12_nights 0 = .ok (.aload_n 0, 1) := by decide +kernel
theorem dX12_nights_1 : decode cX12_nights 1 = .ok (.getfield 7, 3) := by decide +kernel
theorem dX12_nights_4 : decode cX12_nights 4 = .ok (.bipush 6, 2) := by decide +kernel
theorem dX12_nights_6 : decode cX12_nights 6 = .ok (.iaload, 1) := by decide +kernel
theorem dX12_nights_7 : decode cX12_nights 7 = .ok (.ifCond .le 7, 3) := by decide +kernel
theorem dX12_nights_10 : decode cX12_nights 10 = .ok (.iconst 1, 1) := by decide +kernel
theorem dX12_nights_11 : decode cX12_nights 11 = .ok (.goto 4, 3) := by decide +kernel
theorem dX12_nights_14 : decode cX12_nights 14 = .ok (.iconst 0, 1) := by decide +kernel
theorem dX12_nights_15 : decode cX12_nights 15 = .ok (.istore_n 1, 1) := by decide +kernel
theorem dX12_nights_16 : decode cX12_nights 16 = .ok (.aload_n 0, 1) := by decide +kernel
theorem dX12_nights_17 : decode cX12_nights 17 = .ok (.getfield 7, 3) := by decide +kernel
theorem dX12_nights_20 : decode cX12_nights 20 = .ok (.bipush 6, 2) := by decide +kernel
theorem dX12_nights_22 : decode cX12_nights 22 = .ok (.iconst 0, 1) := by decide +kernel
theorem dX12_nights_23 : decode cX12_nights 23 = .ok (.iastore, 1) := by decide +kernel
theorem dX12_nights_24 : decode cX12_nights 24 = .ok (.iload_n 1, 1) := by decide +kernel
theorem dX12_nights_25 : decode cX12_nights 25 = .ok (.ireturn, 1) := by decide +kernel
set_option maxRecDepth 100000 in
set_option maxHeartbeats 8000000 in
theorem c_X12_nights (l : Launch) (D : va_G) (cA : Nat → ClassId) (q aK aV : Nat → Nat) (hq : injG 20 q) {M M0 : Mem} {r0 : Int32} (h : f_X12_nights M = some (r0, M0)) : Met l yX12_nights (.code yX12_nights cX12_nights 2 (some .boolean) :: BW) ({ frames := 1, cells := 0, slots := 0, locals := 13 } : Room) (va_Pc [.ref (q 0)] (CB 20 (ceR cA q) D cA q aK aV M)) (Qi 20 (ceR cA q) D q r0 M0) 0 0 (AqG 20 q) := by
  refine gMet RX12 (by decide +kernel) rfl hq (Nat.le_of_ble_eq_true rfl) ?_
  intro p e s m below meth c ls X hr hk hP hS hl
  have hx := X.1
  have hb := X.2.1
  have hl : lv_has ls 2 [(0, .ref (q 0))] := hl
  rw [f_X12_nights] at h
  have hJ15 : ∀ (s0 : Int32) (M : Mem) (H : Heap) (locs : List Loc) (ls : Array Slot), f_X12_nights_J15 s0 M = some (r0, M0) → va_P D vwCl (wsG 20 (ceR cA q) q M) H → va_S (AqG 20 q) s.heap H locs → lv_has ls 2 [(0, .ref (q 0))] → W p l e ({ frames := 1, cells := 0, slots := 0, locals := 13 } : Room) s m [.ref (q 0)].toArray below meth c H locs 0 0 (MQ below (Qi 20 (ceR cA q) D q r0 M0) [.ref (q 0)].toArray s 0 0 (AqG 20 q)) (F0 m 15 ls [.int s0]) := by
    intro s0 M H locs ls h hP hS hl
    rw [f_X12_nights_J15] at h
    refine lv_istore_n (lv' := [(1, .int s0), (0, .ref (q 0))]) hx hb dX12_nights_15 rfl hl (by decide) rfl (fun ls hl => ?_)
    refine lv_aload_n hx hb dX12_nights_16 rfl (lv_at hl 1 rfl) ?_
    refine gfR_12_0 X hP sR_0 bw_1323 dX12_nights_17 ?_
    refine lv_bipush (v := 6) hx hb dX12_nights_20 (by decide) ?_
    refine lv_iconst (v := 0) hx hb dX12_nights_22 (by decide) ?_
    obtain ⟨M2, eM2, h⟩ := lt_inv h
    refine stR_ia X hP hS sR_1 zR_1 (by decide) eM2 dX12_nights_23 (fun H locs hP hS => ?_)
    refine lv_iload_n hx hb dX12_nights_24 rfl (lv_at hl 0 rfl) ?_
    obtain ⟨g3, h⟩ := gd_inv h
    exact end_z X hr hk hP hS (Decidable.not_not.mp g3) h dX12_nights_25
  refine lv_aload_n hx hb dX12_nights_0 rfl (lv_at hl 0 rfl) ?_
  refine gfR_12_0 X hP sR_0 bw_1323 dX12_nights_1 ?_
  refine lv_bipush (v := 6) hx hb dX12_nights_4 (by decide) ?_
  refine ldR_ia X hP sR_1 zR_1 (by decide) dX12_nights_6 ?_
  refine topE (y := (gI M 1 6)) rfl ?_
  refine lv_if_le (tgt := 14) hx hb dX12_nights_7 (by decide) (fun c1 => ?_) (fun c1 => ?_)
  · rw [if_pos c1] at h
    refine lv_iconst (v := 0) hx hb dX12_nights_14 (by decide) ?_
    exact hJ15 _ _ _ _ _ h hP hS (lv_sub hl [0] rfl)
  · rw [if_neg c1] at h
    refine lv_iconst (v := 1) hx hb dX12_nights_10 (by decide) ?_
    refine lv_goto (tgt := 15) hx hb dX12_nights_11 (by decide) ?_
    exact hJ15 _ _ _ _ _ h hP hS (lv_sub hl [0] rfl)
theorem dX12_night_0 : decode cX12_night 0 = .ok (.aload_n 0, 1) := by decide +kernel
theorem dX12_night_1 : decode cX12_night 1 = .ok (.getfield 7, 3) := by decide +kernel
theorem dX12_night_4 : decode cX12_night 4 = .ok (.bipush 6, 2) := by decide +kernel
theorem dX12_night_6 : decode cX12_night 6 = .ok (.iaload, 1) := by decide +kernel
theorem dX12_night_7 : decode cX12_night 7 = .ok (.istore_n 1, 1) := by decide +kernel
theorem dX12_night_8 : decode cX12_night 8 = .ok (.aload_n 0, 1) := by decide +kernel
theorem dX12_night_9 : decode cX12_night 9 = .ok (.invokevirtual 365, 3) := by decide +kernel
theorem dX12_night_12 : decode cX12_night 12 = .ok (.ifCond .eq 11, 3) := by decide +kernel
theorem dX12_night_15 : decode cX12_night 15 = .ok (.aload_n 0, 1) := by decide +kernel
theorem dX12_night_16 : decode cX12_night 16 = .ok (.iload_n 1, 1) := by decide +kernel
theorem dX12_night_17 : decode cX12_night 17 = .ok (.invokevirtual 95, 3) := by decide +kernel
theorem dX12_night_20 : decode cX12_night 20 = .ok (.goto 9, 3) := by decide +kernel
theorem dX12_night_23 : decode cX12_night 23 = .ok (.aload_n 0, 1) := by decide +kernel
theorem dX12_night_24 : decode cX12_night 24 = .ok (.bipush 7, 2) := by decide +kernel
theorem dX12_night_26 : decode cX12_night 26 = .ok (.invokevirtual 91, 3) := by decide +kernel
theorem dX12_night_29 : decode cX12_night 29 = .ok (.ireturn, 1) := by decide +kernel
set_option maxRecDepth 100000 in
set_option maxHeartbeats 8000000 in
theorem c_X12_night (l : Launch) (D : va_G) (cA : Nat → ClassId) (q aK aV : Nat → Nat) (hq : injG 20 q) {M M0 : Mem} {r0 : Int32} (h : f_X12_night M = some (r0, M0)) : Met l yX12_night (.code yX12_night cX12_night 2 (some .int) :: BW) ({ frames := 2, cells := 0, slots := 0, locals := 34 } : Room) (va_Pc [.ref (q 0)] (CB 20 (ceR cA q) D cA q aK aV M)) (Qi 20 (ceR cA q) D q r0 M0) 0 0 (AqG 20 q) := by
  refine gMet RX12 (by decide +kernel) rfl hq (Nat.le_of_ble_eq_true rfl) ?_
  intro p e s m below meth c ls X hr hk hP hS hl
  have hx := X.1
  have hb := X.2.1
  have hl : lv_has ls 2 [(0, .ref (q 0))] := hl
  rw [f_X12_night] at h
  refine lv_aload_n hx hb dX12_night_0 rfl (lv_at hl 0 rfl) ?_
  refine gfR_12_0 X hP sR_0 bw_1323 dX12_night_1 ?_
  refine lv_bipush (v := 6) hx hb dX12_night_4 (by decide) ?_
  refine ldR_ia X hP sR_1 zR_1 (by decide) dX12_night_6 ?_
  refine topE (y := (gI M 1 6)) rfl ?_
  obtain ⟨y1, ey1, h⟩ := lt_inv h
  refine topE ey1 ?_
  refine lv_istore_n (lv' := [(1, .int y1), (0, .ref (q 0))]) hx hb dX12_night_7 rfl hl (by decide) rfl (fun ls hl => ?_)
  refine lv_aload_n hx hb dX12_night_8 rfl (lv_at hl 1 rfl) ?_
  obtain ⟨r2, M3, hc4, h⟩ := bnd_inv h
  refine gV_i (As := []) X hP hS hl.1 (c_X12_nights l D cA q aK aV hq hc4) sf_X12_nights bw_1830 sv_X12_nights (rcR_12 sR_0) rfl ⟨rfl, rfl⟩ ⟨Nat.le_of_ble_eq_true rfl, Nat.le_of_ble_eq_true rfl⟩ rfl rfl (Nat.le_of_ble_eq_true rfl) dX12_night_9 (fun H locs hP hS => ?_)
  refine lv_if_eq (tgt := 23) hx hb dX12_night_12 (by decide) (fun c5 => ?_) (fun c5 => ?_)
  · rw [if_pos c5] at h
    refine lv_aload_n hx hb dX12_night_23 rfl (lv_at hl 1 rfl) ?_
    refine lv_bipush (v := 7) hx hb dX12_night_24 (by decide) ?_
    obtain ⟨r6, M7, hc8, h⟩ := bnd_inv h
    refine gV_i (As := [.int (7 : Int32)]) X hP hS hl.1 (c_X12_refuse l D cA q aK aV hq hc8) sf_X12_refuse bw_1530 sv_X12_refuse (rcR_12 sR_0) rfl ⟨rfl, rfl⟩ ⟨Nat.le_of_ble_eq_true rfl, Nat.le_of_ble_eq_true rfl⟩ rfl rfl (Nat.le_of_ble_eq_true rfl) dX12_night_26 (fun H locs hP hS => ?_)
    exact end_i X hr hk hP hS h dX12_night_29
  · rw [if_neg c5] at h
    refine lv_aload_n hx hb dX12_night_15 rfl (lv_at hl 1 rfl) ?_
    refine lv_iload_n hx hb dX12_night_16 rfl (lv_at hl 0 rfl) ?_
    obtain ⟨r9, M10, hc11, h⟩ := bnd_inv h
    refine gV_i (As := [.int y1]) X hP hS hl.1 (c_X12_gives l D cA q aK aV hq hc11) sf_X12_gives bw_1639 sv_X12_gives (rcR_12 sR_0) rfl ⟨rfl, rfl⟩ ⟨Nat.le_of_ble_eq_true rfl, Nat.le_of_ble_eq_true rfl⟩ rfl rfl (Nat.le_of_ble_eq_true rfl) dX12_night_17 (fun H locs hP hS => ?_)
    refine lv_goto (tgt := 29) hx hb dX12_night_20 (by decide) ?_
    exact end_i X hr hk hP hS h dX12_night_29
theorem dX12_appeal_0 : decode cX12_appeal 0 = .ok (.aload_n 0, 1) := by decide +kernel
theorem dX12_appeal_1 : decode cX12_appeal 1 = .ok (.iload_n 1, 1) := by decide +kernel
theorem dX12_appeal_2 : decode cX12_appeal 2 = .ok (.i2l, 1) := by decide +kernel
theorem dX12_appeal_3 : decode cX12_appeal 3 = .ok (.invokevirtual 305, 3) := by decide +kernel
theorem dX12_appeal_6 : decode cX12_appeal 6 = .ok (.ifCond .ne 9, 3) := by decide +kernel
theorem dX12_appeal_9 : decode cX12_appeal 9 = .ok (.aload_n 0, 1) := by decide +kernel
theorem dX12_appeal_10 : decode cX12_appeal 10 = .ok (.iconst 1, 1) := by decide +kernel
theorem dX12_appeal_11 : decode cX12_appeal 11 = .ok (.invokevirtual 91, 3) := by decide +kernel
theorem dX12_appeal_14 : decode cX12_appeal 14 = .ok (.ireturn, 1) := by decide +kernel
theorem dX12_appeal_15 : decode cX12_appeal 15 = .ok (.aload_n 0, 1) := by decide +kernel
theorem dX12_appeal_16 : decode cX12_appeal 16 = .ok (.iload_n 1, 1) := by decide +kernel
theorem dX12_appeal_17 : decode cX12_appeal 17 = .ok (.iconst 2, 1) := by decide +kernel
theorem dX12_appeal_18 : decode cX12_appeal 18 = .ok (.invokevirtual 281, 3) := by decide +kernel
theorem dX12_appeal_21 : decode cX12_appeal 21 = .ok (.istore_n 2, 1) := by decide +kernel
theorem dX12_appeal_22 : decode cX12_appeal 22 = .ok (.iload_n 2, 1) := by decide +kernel
theorem dX12_appeal_23 : decode cX12_appeal 23 = .ok (.ifCond .ne 10, 3) := by decide +kernel
theorem dX12_appeal_26 : decode cX12_appeal 26 = .ok (.aload_n 0, 1) := by decide +kernel
theorem dX12_appeal_27 : decode cX12_appeal 27 = .ok (.bipush 7, 2) := by decide +kernel
theorem dX12_appeal_29 : decode cX12_appeal 29 = .ok (.invokevirtual 91, 3) := by decide +kernel
theorem dX12_appeal_32 : decode cX12_appeal 32 = .ok (.ireturn, 1) := by decide +kernel
theorem dX12_appeal_33 : decode cX12_appeal 33 = .ok (.aload_n 0, 1) := by decide +kernel
theorem dX12_appeal_34 : decode cX12_appeal 34 = .ok (.getfield 7, 3) := by decide +kernel
theorem dX12_appeal_37 : decode cX12_appeal 37 = .ok (.iload_n 1, 1) := by decide +kernel
theorem dX12_appeal_38 : decode cX12_appeal 38 = .ok (.invokestatic 224, 3) := by decide +kernel
theorem dX12_appeal_41 : decode cX12_appeal 41 = .ok (.iconst 2, 1) := by decide +kernel
theorem dX12_appeal_42 : decode cX12_appeal 42 = .ok (.iadd, 1) := by decide +kernel
theorem dX12_appeal_43 : decode cX12_appeal 43 = .ok (.iconst 0, 1) := by decide +kernel
theorem dX12_appeal_44 : decode cX12_appeal 44 = .ok (.iastore, 1) := by decide +kernel
theorem dX12_appeal_45 : decode cX12_appeal 45 = .ok (.aload_n 0, 1) := by decide +kernel
theorem dX12_appeal_46 : decode cX12_appeal 46 = .ok (.iload_n 2, 1) := by decide +kernel
theorem dX12_appeal_47 : decode cX12_appeal 47 = .ok (.invokevirtual 95, 3) := by decide +kernel
theorem dX12_appeal_50 : decode cX12_appeal 50 = .ok (.ireturn, 1) := by decide +kernel
set_option maxRecDepth 100000 in
set_option maxHeartbeats 8000000 in
theorem c_X12_appeal (l : Launch) (D : va_G) (cA : Nat → ClassId) (q aK aV : Nat → Nat) (hq : injG 20 q) {a1 : Int32} {M M0 : Mem} {r0 : Int32} (h : f_X12_appeal a1 M = some (r0, M0)) : Met l yX12_appeal (.code yX12_appeal cX12_appeal 3 (some .int) :: BW) ({ frames := 3, cells := 0, slots := 0, locals := 54 } : Room) (va_Pc [.ref (q 0), .int a1] (CB 20 (ceR cA q) D cA q aK aV M)) (Qi 20 (ceR cA q) D q r0 M0) 0 0 (AqG 20 q) := by
  refine gMet RX12 (by decide +kernel) rfl hq (Nat.le_of_ble_eq_true rfl) ?_
  intro p e s m below meth c ls X hr hk hP hS hl
  have hx := X.1
  have hb := X.2.1
  have hl : lv_has ls 3 [(0, .ref (q 0)), (1, .int a1)] := hl
  rw [f_X12_appeal] at h
  refine lv_aload_n hx hb dX12_appeal_0 rfl (lv_at hl 0 rfl) ?_
  refine lv_iload_n hx hb dX12_appeal_1 rfl (lv_at hl 1 rfl) ?_
  refine lv_i2l hx hb dX12_appeal_2 rfl ?_
  obtain ⟨r1, M2, hc3, h⟩ := bnd_inv h
  refine gV_i (As := [.long (a1.toInt64)]) X hP hS hl.1 (c_X12_isPerson l D cA q aK aV hq hc3) sf_X12_isPerson bw_1715 sv_X12_isPerson (rcR_12 sR_0) rfl ⟨rfl, rfl⟩ ⟨Nat.le_of_ble_eq_true rfl, Nat.le_of_ble_eq_true rfl⟩ rfl rfl (Nat.le_of_ble_eq_true rfl) dX12_appeal_3 (fun H locs hP hS => ?_)
  refine lv_if_ne (tgt := 15) hx hb dX12_appeal_6 (by decide) (fun c4 => ?_) (fun c4 => ?_)
  · rw [if_neg c4] at h
    refine lv_aload_n hx hb dX12_appeal_15 rfl (lv_at hl 0 rfl) ?_
    refine lv_iload_n hx hb dX12_appeal_16 rfl (lv_at hl 1 rfl) ?_
    refine lv_iconst (v := 2) hx hb dX12_appeal_17 (by decide) ?_
    obtain ⟨r5, M6, hc7, h⟩ := bnd_inv h
    refine gV_i (As := [.int a1, .int (2 : Int32)]) X hP hS hl.1 (c_X12_personOf l D cA q aK aV hq hc7) sf_X12_personOf bw_1683 sv_X12_personOf (rcR_12 sR_0) rfl ⟨rfl, rfl⟩ ⟨Nat.le_of_ble_eq_true rfl, Nat.le_of_ble_eq_true rfl⟩ rfl rfl (Nat.le_of_ble_eq_true rfl) dX12_appeal_18 (fun H locs hP hS => ?_)
    refine lv_istore_n (lv' := [(2, .int r5), (0, .ref (q 0)), (1, .int a1)]) hx hb dX12_appeal_21 rfl hl (by decide) rfl (fun ls hl => ?_)
    refine lv_iload_n hx hb dX12_appeal_22 rfl (lv_at hl 0 rfl) ?_
    refine lv_if_ne (tgt := 33) hx hb dX12_appeal_23 (by decide) (fun c8 => ?_) (fun c8 => ?_)
    · rw [if_neg c8] at h
      refine lv_aload_n hx hb dX12_appeal_33 rfl (lv_at hl 1 rfl) ?_
      refine gfR_12_0 X hP sR_0 bw_1323 dX12_appeal_34 ?_
      refine lv_iload_n hx hb dX12_appeal_37 rfl (lv_at hl 2 rfl) ?_
      obtain ⟨r9, M10, hc11, h⟩ := bnd_inv h
      refine gS_i (As := [.int a1]) X hP hS hl.1 (c_X12_personRow l D cA q aK aV hq hc11) sf_X12_personRow bw_1616 ss_X12_personRow ⟨rfl, rfl⟩ ⟨Nat.le_of_ble_eq_true rfl, Nat.le_of_ble_eq_true rfl⟩ rfl rfl (Nat.le_of_ble_eq_true rfl) dX12_appeal_38 (fun H locs hP hS => ?_)
      refine lv_iconst (v := 2) hx hb dX12_appeal_41 (by decide) ?_
      refine lv_iadd hx hb dX12_appeal_42 ?_
      refine lv_iconst (v := 0) hx hb dX12_appeal_43 (by decide) ?_
      obtain ⟨g12, h⟩ := gd_inv h
      obtain ⟨M13, eM13, h⟩ := lt_inv h
      refine stR_ia X hP hS sR_1 zR_1 g12 eM13 dX12_appeal_44 (fun H locs hP hS => ?_)
      refine lv_aload_n hx hb dX12_appeal_45 rfl (lv_at hl 1 rfl) ?_
      refine lv_iload_n hx hb dX12_appeal_46 rfl (lv_at hl 0 rfl) ?_
      obtain ⟨r14, M15, hc16, h⟩ := bnd_inv h
      refine gV_i (As := [.int r5]) X hP hS hl.1 (c_X12_gives l D cA q aK aV hq hc16) sf_X12_gives bw_1639 sv_X12_gives (rcR_12 sR_0) rfl ⟨rfl, rfl⟩ ⟨Nat.le_of_ble_eq_true rfl, Nat.le_of_ble_eq_true rfl⟩ rfl rfl (Nat.le_of_ble_eq_true rfl) dX12_appeal_47 (fun H locs hP hS => ?_)
      exact end_i X hr hk hP hS h dX12_appeal_50
    · rw [if_pos c8] at h
      refine lv_aload_n hx hb dX12_appeal_26 rfl (lv_at hl 1 rfl) ?_
      refine lv_bipush (v := 7) hx hb dX12_appeal_27 (by decide) ?_
      obtain ⟨r17, M18, hc19, h⟩ := bnd_inv h
      refine gV_i (As := [.int (7 : Int32)]) X hP hS hl.1 (c_X12_refuse l D cA q aK aV hq hc19) sf_X12_refuse bw_1530 sv_X12_refuse (rcR_12 sR_0) rfl ⟨rfl, rfl⟩ ⟨Nat.le_of_ble_eq_true rfl, Nat.le_of_ble_eq_true rfl⟩ rfl rfl (Nat.le_of_ble_eq_true rfl) dX12_appeal_29 (fun H locs hP hS => ?_)
      exact end_i X hr hk hP hS h dX12_appeal_32
  · rw [if_pos c4] at h
    refine lv_aload_n hx hb dX12_appeal_9 rfl (lv_at hl 0 rfl) ?_
    refine lv_iconst (v := 1) hx hb dX12_appeal_10 (by decide) ?_
    obtain ⟨r20, M21, hc22, h⟩ := bnd_inv h
    refine gV_i (As := [.int (1 : Int32)]) X hP hS hl.1 (c_X12_refuse l D cA q aK aV hq hc22) sf_X12_refuse bw_1530 sv_X12_refuse (rcR_12 sR_0) rfl ⟨rfl, rfl⟩ ⟨Nat.le_of_ble_eq_true rfl, Nat.le_of_ble_eq_true rfl⟩ rfl rfl (Nat.le_of_ble_eq_true rfl) dX12_appeal_11 (fun H locs hP hS => ?_)
    exact end_i X hr hk hP hS h dX12_appeal_14
theorem dX12_blame_0 : decode cX12_blame 0 = .ok (.aload_n 0, 1) := by decide +kernel
theorem dX12_blame_1 : decode cX12_blame 1 = .ok (.iload_n 1, 1) := by decide +kernel
theorem dX12_blame_2 : decode cX12_blame 2 = .ok (.i2l, 1) := by decide +kernel
theorem dX12_blame_3 : decode cX12_blame 3 = .ok (.invokevirtual 305, 3) := by decide +kernel
theorem dX12_blame_6 : decode cX12_blame 6 = .ok (.ifCond .ne 9, 3) := by decide +kernel
theorem dX12_blame_9 : decode cX12_blame 9 = .ok (.aload_n 0, 1) := by decide +kernel
theorem dX12_blame_10 : decode cX12_blame 10 = .ok (.iconst 1, 1) := by decide +kernel
theorem dX12_blame_11 : decode cX12_blame 11 = .ok (.invokevirtual 98, 3) := by decide +kernel
theorem dX12_blame_14 : decode cX12_blame 14 = .ok (.ireturn, 1) := by decide +kernel
theorem dX12_blame_15 : decode cX12_blame 15 = .ok (.iload_n 2, 1) := by decide +kernel
theorem dX12_blame_16 : decode cX12_blame 16 = .ok (.ifCond .eq 7, 3) := by decide +kernel
theorem dX12_blame_19 : decode cX12_blame 19 = .ok (.iconst 1, 1) := by decide +kernel
theorem dX12_blame_20 : decode cX12_blame 20 = .ok (.goto 4, 3) := by decide +kernel
theorem dX12_blame_23 : decode cX12_blame 23 = .ok (.iconst 0, 1) := by decide +kernel
theorem dX12_blame_24 : decode cX12_blame 24 = .ok (.istore_n 3, 1) := by decide +kernel
theorem dX12_blame_25 : decode cX12_blame 25 = .ok (.aload_n 0, 1) := by decide +kernel
theorem dX12_blame_26 : decode cX12_blame 26 = .ok (.iload_n 1, 1) := by decide +kernel
theorem dX12_blame_27 : decode cX12_blame 27 = .ok (.iconst 3, 1) := by decide +kernel
theorem dX12_blame_28 : decode cX12_blame 28 = .ok (.invokevirtual 281, 3) := by decide +kernel
theorem dX12_blame_31 : decode cX12_blame 31 = .ok (.iload_n 3, 1) := by decide +kernel
theorem dX12_blame_32 : decode cX12_blame 32 = .ok (.if_icmp .ne 10, 3) := by decide +kernel
theorem dX12_blame_35 : decode cX12_blame 35 = .ok (.aload_n 0, 1) := by decide +kernel
theorem dX12_blame_36 : decode cX12_blame 36 = .ok (.bipush 7, 2) := by decide +kernel
theorem dX12_blame_38 : decode cX12_blame 38 = .ok (.invokevirtual 98, 3) := by decide +kernel
theorem dX12_blame_41 : decode cX12_blame 41 = .ok (.ireturn, 1) := by decide +kernel
theorem dX12_blame_42 : decode cX12_blame 42 = .ok (.aload_n 0, 1) := by decide +kernel
theorem dX12_blame_43 : decode cX12_blame 43 = .ok (.getfield 7, 3) := by decide +kernel
theorem dX12_blame_46 : decode cX12_blame 46 = .ok (.iload_n 1, 1) := by decide +kernel
theorem dX12_blame_47 : decode cX12_blame 47 = .ok (.invokestatic 224, 3) := by decide +kernel
theorem dX12_blame_50 : decode cX12_blame 50 = .ok (.iconst 3, 1) := by decide +kernel
theorem dX12_blame_51 : decode cX12_blame 51 = .ok (.iadd, 1) := by decide +kernel
theorem dX12_blame_52 : decode cX12_blame 52 = .ok (.iload_n 3, 1) := by decide +kernel
theorem dX12_blame_53 : decode cX12_blame 53 = .ok (.iastore, 1) := by decide +kernel
theorem dX12_blame_54 : decode cX12_blame 54 = .ok (.aload_n 0, 1) := by decide +kernel
theorem dX12_blame_55 : decode cX12_blame 55 = .ok (.iconst 0, 1) := by decide +kernel
theorem dX12_blame_56 : decode cX12_blame 56 = .ok (.invokevirtual 98, 3) := by decide +kernel
theorem dX12_blame_59 : decode cX12_blame 59 = .ok (.ireturn, 1) := by decide +kernel
set_option maxRecDepth 100000 in
set_option maxHeartbeats 8000000 in
theorem c_X12_blame (l : Launch) (D : va_G) (cA : Nat → ClassId) (q aK aV : Nat → Nat) (hq : injG 20 q) {a1 : Int32} {a2 : Int32} {M M0 : Mem} {r0 : Int32} (h : f_X12_blame a1 a2 M = some (r0, M0)) : Met l yX12_blame (.code yX12_blame cX12_blame 4 (some .boolean) :: BW) ({ frames := 3, cells := 0, slots := 0, locals := 54 } : Room) (va_Pc [.ref (q 0), .int a1, .int a2] (CB 20 (ceR cA q) D cA q aK aV M)) (Qi 20 (ceR cA q) D q r0 M0) 0 0 (AqG 20 q) := by
  refine gMet RX12 (by decide +kernel) rfl hq (Nat.le_of_ble_eq_true rfl) ?_
  intro p e s m below meth c ls X hr hk hP hS hl
  have hx := X.1
  have hb := X.2.1
  have hl : lv_has ls 4 [(0, .ref (q 0)), (1, .int a1), (2, .int a2)] := hl
  rw [f_X12_blame] at h
  have hJ24 : ∀ (s0 : Int32) (M : Mem) (H : Heap) (locs : List Loc) (ls : Array Slot), f_X12_blame_J24 a1 s0 M = some (r0, M0) → va_P D vwCl (wsG 20 (ceR cA q) q M) H → va_S (AqG 20 q) s.heap H locs → lv_has ls 4 [(0, .ref (q 0)), (1, .int a1)] → W p l e ({ frames := 3, cells := 0, slots := 0, locals := 54 } : Room) s m [.ref (q 0), .int a1, .int a2].toArray below meth c H locs 0 0 (MQ below (Qi 20 (ceR cA q) D q r0 M0) [.ref (q 0), .int a1, .int a2].toArray s 0 0 (AqG 20 q)) (F0 m 24 ls [.int s0]) := by
    intro s0 M H locs ls h hP hS hl
    rw [f_X12_blame_J24] at h
    refine lv_istore_n (lv' := [(3, .int s0), (0, .ref (q 0)), (1, .int a1)]) hx hb dX12_blame_24 rfl hl (by decide) rfl (fun ls hl => ?_)
    refine lv_aload_n hx hb dX12_blame_25 rfl (lv_at hl 1 rfl) ?_
    refine lv_iload_n hx hb dX12_blame_26 rfl (lv_at hl 2 rfl) ?_
    refine lv_iconst (v := 3) hx hb dX12_blame_27 (by decide) ?_
    obtain ⟨r10, M11, hc12, h⟩ := bnd_inv h
    refine gV_i (As := [.int a1, .int (3 : Int32)]) X hP hS hl.1 (c_X12_personOf l D cA q aK aV hq hc12) sf_X12_personOf bw_1683 sv_X12_personOf (rcR_12 sR_0) rfl ⟨rfl, rfl⟩ ⟨Nat.le_of_ble_eq_true rfl, Nat.le_of_ble_eq_true rfl⟩ rfl rfl (Nat.le_of_ble_eq_true rfl) dX12_blame_28 (fun H locs hP hS => ?_)
    refine lv_iload_n hx hb dX12_blame_31 rfl (lv_at hl 0 rfl) ?_
    refine lv_icmp_ne (tgt := 42) hx hb dX12_blame_32 (by decide) (fun c13 => ?_) (fun c13 => ?_)
    · rw [if_neg c13] at h
      refine lv_aload_n hx hb dX12_blame_42 rfl (lv_at hl 1 rfl) ?_
      refine gfR_12_0 X hP sR_0 bw_1323 dX12_blame_43 ?_
      refine lv_iload_n hx hb dX12_blame_46 rfl (lv_at hl 2 rfl) ?_
      obtain ⟨r14, M15, hc16, h⟩ := bnd_inv h
      refine gS_i (As := [.int a1]) X hP hS hl.1 (c_X12_personRow l D cA q aK aV hq hc16) sf_X12_personRow bw_1616 ss_X12_personRow ⟨rfl, rfl⟩ ⟨Nat.le_of_ble_eq_true rfl, Nat.le_of_ble_eq_true rfl⟩ rfl rfl (Nat.le_of_ble_eq_true rfl) dX12_blame_47 (fun H locs hP hS => ?_)
      refine lv_iconst (v := 3) hx hb dX12_blame_50 (by decide) ?_
      refine lv_iadd hx hb dX12_blame_51 ?_
      refine lv_iload_n hx hb dX12_blame_52 rfl (lv_at hl 0 rfl) ?_
      obtain ⟨g17, h⟩ := gd_inv h
      obtain ⟨M18, eM18, h⟩ := lt_inv h
      refine stR_ia X hP hS sR_1 zR_1 g17 eM18 dX12_blame_53 (fun H locs hP hS => ?_)
      refine lv_aload_n hx hb dX12_blame_54 rfl (lv_at hl 1 rfl) ?_
      refine lv_iconst (v := 0) hx hb dX12_blame_55 (by decide) ?_
      obtain ⟨r19, M20, hc21, h⟩ := bnd_inv h
      refine gV_i (As := [.int (0 : Int32)]) X hP hS hl.1 (c_X12_is l D cA q aK aV hq hc21) sf_X12_is bw_1470 sv_X12_is (rcR_12 sR_0) rfl ⟨rfl, rfl⟩ ⟨Nat.le_of_ble_eq_true rfl, Nat.le_of_ble_eq_true rfl⟩ rfl rfl (Nat.le_of_ble_eq_true rfl) dX12_blame_56 (fun H locs hP hS => ?_)
      obtain ⟨g22, h⟩ := gd_inv h
      exact end_z X hr hk hP hS (Decidable.not_not.mp g22) h dX12_blame_59
    · rw [if_pos c13] at h
      refine lv_aload_n hx hb dX12_blame_35 rfl (lv_at hl 1 rfl) ?_
      refine lv_bipush (v := 7) hx hb dX12_blame_36 (by decide) ?_
      obtain ⟨r23, M24, hc25, h⟩ := bnd_inv h
      refine gV_i (As := [.int (7 : Int32)]) X hP hS hl.1 (c_X12_is l D cA q aK aV hq hc25) sf_X12_is bw_1470 sv_X12_is (rcR_12 sR_0) rfl ⟨rfl, rfl⟩ ⟨Nat.le_of_ble_eq_true rfl, Nat.le_of_ble_eq_true rfl⟩ rfl rfl (Nat.le_of_ble_eq_true rfl) dX12_blame_38 (fun H locs hP hS => ?_)
      obtain ⟨g26, h⟩ := gd_inv h
      exact end_z X hr hk hP hS (Decidable.not_not.mp g26) h dX12_blame_41
  refine lv_aload_n hx hb dX12_blame_0 rfl (lv_at hl 0 rfl) ?_
  refine lv_iload_n hx hb dX12_blame_1 rfl (lv_at hl 1 rfl) ?_
  refine lv_i2l hx hb dX12_blame_2 rfl ?_
  obtain ⟨r1, M2, hc3, h⟩ := bnd_inv h
  refine gV_i (As := [.long (a1.toInt64)]) X hP hS hl.1 (c_X12_isPerson l D cA q aK aV hq hc3) sf_X12_isPerson bw_1715 sv_X12_isPerson (rcR_12 sR_0) rfl ⟨rfl, rfl⟩ ⟨Nat.le_of_ble_eq_true rfl, Nat.le_of_ble_eq_true rfl⟩ rfl rfl (Nat.le_of_ble_eq_true rfl) dX12_blame_3 (fun H locs hP hS => ?_)
  refine lv_if_ne (tgt := 15) hx hb dX12_blame_6 (by decide) (fun c4 => ?_) (fun c4 => ?_)
  · rw [if_neg c4] at h
    refine lv_iload_n hx hb dX12_blame_15 rfl (lv_at hl 2 rfl) ?_
    refine lv_if_eq (tgt := 23) hx hb dX12_blame_16 (by decide) (fun c5 => ?_) (fun c5 => ?_)
    · rw [if_pos c5] at h
      refine lv_iconst (v := 0) hx hb dX12_blame_23 (by decide) ?_
      exact hJ24 _ _ _ _ _ h hP hS (lv_sub hl [0, 1] rfl)
    · rw [if_neg c5] at h
      refine lv_iconst (v := 1) hx hb dX12_blame_19 (by decide) ?_
      refine lv_goto (tgt := 24) hx hb dX12_blame_20 (by decide) ?_
      exact hJ24 _ _ _ _ _ h hP hS (lv_sub hl [0, 1] rfl)
  · rw [if_pos c4] at h
    refine lv_aload_n hx hb dX12_blame_9 rfl (lv_at hl 0 rfl) ?_
    refine lv_iconst (v := 1) hx hb dX12_blame_10 (by decide) ?_
    obtain ⟨r6, M7, hc8, h⟩ := bnd_inv h
    refine gV_i (As := [.int (1 : Int32)]) X hP hS hl.1 (c_X12_is l D cA q aK aV hq hc8) sf_X12_is bw_1470 sv_X12_is (rcR_12 sR_0) rfl ⟨rfl, rfl⟩ ⟨Nat.le_of_ble_eq_true rfl, Nat.le_of_ble_eq_true rfl⟩ rfl rfl (Nat.le_of_ble_eq_true rfl) dX12_blame_11 (fun H locs hP hS => ?_)
    obtain ⟨g9, h⟩ := gd_inv h
    exact end_z X hr hk hP hS (Decidable.not_not.mp g9) h dX12_blame_14
theorem dX12_reread_0 : decode cX12_reread 0 = .ok (.aload_n 0, 1) := by decide +kernel
theorem dX12_reread_1 : decode cX12_reread 1 = .ok (.iload_n 1, 1) := by decide +kernel
theorem dX12_reread_2 : decode cX12_reread 2 = .ok (.invokevirtual 293, 3) := by decide +kernel
theorem dX12_reread_5 : decode cX12_reread 5 = .ok (.ifCond .eq 15, 3) := by decide +kernel
theorem dX12_reread_8 : decode cX12_reread 8 = .ok (.iload_n 2, 1) := by decide +kernel
theorem dX12_reread_9 : decode cX12_reread 9 = .ok (.i2l, 1) := by decide +kernel
theorem dX12_reread_10 : decode cX12_reread 10 = .ok (.lconst 0, 1) := by decide +kernel
theorem dX12_reread_11 : decode cX12_reread 11 = .ok (.ldc2_w 368, 3) := by decide +kernel
theorem dX12_reread_14 : decode cX12_reread 14 = .ok (.invokestatic 337, 3) := by decide +kernel
theorem dX12_reread_17 : decode cX12_reread 17 = .ok (.ifCond .ne 9, 3) := by decide +kernel
theorem dX12_reread_20 : decode cX12_reread 20 = .ok (.aload_n 0, 1) := by decide +kernel
theorem dX12_reread_21 : decode cX12_reread 21 = .ok (.iconst 1, 1) := by decide +kernel
theorem dX12_reread_22 : decode cX12_reread 22 = .ok (.invokevirtual 98, 3) := by decide +kernel
theorem dX12_reread_25 : decode cX12_reread 25 = .ok (.ireturn, 1) := by decide +kernel
theorem dX12_reread_26 : decode cX12_reread 26 = .ok (.aload_n 0, 1) := by decide +kernel
theorem dX12_reread_27 : decode cX12_reread 27 = .ok (.getfield 7, 3) := by decide +kernel
theorem dX12_reread_30 : decode cX12_reread 30 = .ok (.bipush 10, 2) := by decide +kernel
theorem dX12_reread_32 : decode cX12_reread 32 = .ok (.iload_n 1, 1) := by decide +kernel
theorem dX12_reread_33 : decode cX12_reread 33 = .ok (.iadd, 1) := by decide +kernel
theorem dX12_reread_34 : decode cX12_reread 34 = .ok (.iload_n 2, 1) := by decide +kernel
theorem dX12_reread_35 : decode cX12_reread 35 = .ok (.iastore, 1) := by decide +kernel
theorem dX12_reread_36 : decode cX12_reread 36 = .ok (.aload_n 0, 1) := by decide +kernel
theorem dX12_reread_37 : decode cX12_reread 37 = .ok (.iconst 0, 1) := by decide +kernel
theorem dX12_reread_38 : decode cX12_reread 38 = .ok (.invokevirtual 98, 3) := by decide +kernel
theorem dX12_reread_41 : decode cX12_reread 41 = .ok (.ireturn, 1) := by decide +kernel
set_option maxRecDepth 100000 in
set_option maxHeartbeats 8000000 in
theorem c_X12_reread (l : Launch) (D : va_G) (cA : Nat → ClassId) (q aK aV : Nat → Nat) (hq : injG 20 q) {a1 : Int32} {a2 : Int32} {M M0 : Mem} {r0 : Int32} (h : f_X12_reread a1 a2 M = some (r0, M0)) : Met l yX12_reread (.code yX12_reread cX12_reread 3 (some .boolean) :: BW) ({ frames := 2, cells := 0, slots := 0, locals := 42 } : Room) (va_Pc [.ref (q 0), .int a1, .int a2] (CB 20 (ceR cA q) D cA q aK aV M)) (Qi 20 (ceR cA q) D q r0 M0) 0 0 (AqG 20 q) := by
  refine gMet RX12 (by decide +kernel) rfl hq (Nat.le_of_ble_eq_true rfl) ?_
  intro p e s m below meth c ls X hr hk hP hS hl
  have hx := X.1
  have hb := X.2.1
  have hl : lv_has ls 3 [(0, .ref (q 0)), (1, .int a1), (2, .int a2)] := hl
  rw [f_X12_reread] at h
  refine lv_aload_n hx hb dX12_reread_0 rfl (lv_at hl 0 rfl) ?_
  refine lv_iload_n hx hb dX12_reread_1 rfl (lv_at hl 1 rfl) ?_
  obtain ⟨r1, M2, hc3, h⟩ := bnd_inv h
  refine gV_i (As := [.int a1]) X hP hS hl.1 (c_X12_isCue l D cA q aK aV hq hc3) sf_X12_isCue bw_1691 sv_X12_isCue (rcR_12 sR_0) rfl ⟨rfl, rfl⟩ ⟨Nat.le_of_ble_eq_true rfl, Nat.le_of_ble_eq_true rfl⟩ rfl rfl (Nat.le_of_ble_eq_true rfl) dX12_reread_2 (fun H locs hP hS => ?_)
  refine lv_if_eq (tgt := 20) hx hb dX12_reread_5 (by decide) (fun c4 => ?_) (fun c4 => ?_)
  · rw [if_pos c4] at h
    refine lv_aload_n hx hb dX12_reread_20 rfl (lv_at hl 0 rfl) ?_
    refine lv_iconst (v := 1) hx hb dX12_reread_21 (by decide) ?_
    obtain ⟨r5, M6, hc7, h⟩ := bnd_inv h
    refine gV_i (As := [.int (1 : Int32)]) X hP hS hl.1 (c_X12_is l D cA q aK aV hq hc7) sf_X12_is bw_1470 sv_X12_is (rcR_12 sR_0) rfl ⟨rfl, rfl⟩ ⟨Nat.le_of_ble_eq_true rfl, Nat.le_of_ble_eq_true rfl⟩ rfl rfl (Nat.le_of_ble_eq_true rfl) dX12_reread_22 (fun H locs hP hS => ?_)
    obtain ⟨g8, h⟩ := gd_inv h
    exact end_z X hr hk hP hS (Decidable.not_not.mp g8) h dX12_reread_25
  · rw [if_neg c4] at h
    refine lv_iload_n hx hb dX12_reread_8 rfl (lv_at hl 2 rfl) ?_
    refine lv_i2l hx hb dX12_reread_9 rfl ?_
    refine lv_lconst (v := 0) hx hb dX12_reread_10 (by decide) ?_
    refine lv_ldc2 hx hb X.2.2.2.1 (X.2.2.2.2.1 _ bw_1846) dX12_reread_11 ?_
    obtain ⟨r9, M10, hc11, h⟩ := bnd_inv h
    refine gS_i (As := [.long (a2.toInt64), .long (0 : Int64), .long (2 : Int64)]) X hP hS hl.1 (c_X12_isFrom l D cA q aK aV hq hc11) sf_X12_isFrom bw_1767 ss_X12_isFrom ⟨rfl, rfl⟩ ⟨Nat.le_of_ble_eq_true rfl, Nat.le_of_ble_eq_true rfl⟩ rfl rfl (Nat.le_of_ble_eq_true rfl) dX12_reread_14 (fun H locs hP hS => ?_)
    refine lv_if_ne (tgt := 26) hx hb dX12_reread_17 (by decide) (fun c12 => ?_) (fun c12 => ?_)
    · rw [if_neg c12] at h
      refine lv_aload_n hx hb dX12_reread_26 rfl (lv_at hl 0 rfl) ?_
      refine gfR_12_0 X hP sR_0 bw_1323 dX12_reread_27 ?_
      refine lv_bipush (v := 10) hx hb dX12_reread_30 (by decide) ?_
      refine lv_iload_n hx hb dX12_reread_32 rfl (lv_at hl 1 rfl) ?_
      refine lv_iadd hx hb dX12_reread_33 ?_
      refine lv_iload_n hx hb dX12_reread_34 rfl (lv_at hl 2 rfl) ?_
      obtain ⟨g13, h⟩ := gd_inv h
      obtain ⟨M14, eM14, h⟩ := lt_inv h
      refine stR_ia X hP hS sR_1 zR_1 g13 eM14 dX12_reread_35 (fun H locs hP hS => ?_)
      refine lv_aload_n hx hb dX12_reread_36 rfl (lv_at hl 0 rfl) ?_
      refine lv_iconst (v := 0) hx hb dX12_reread_37 (by decide) ?_
      obtain ⟨r15, M16, hc17, h⟩ := bnd_inv h
      refine gV_i (As := [.int (0 : Int32)]) X hP hS hl.1 (c_X12_is l D cA q aK aV hq hc17) sf_X12_is bw_1470 sv_X12_is (rcR_12 sR_0) rfl ⟨rfl, rfl⟩ ⟨Nat.le_of_ble_eq_true rfl, Nat.le_of_ble_eq_true rfl⟩ rfl rfl (Nat.le_of_ble_eq_true rfl) dX12_reread_38 (fun H locs hP hS => ?_)
      obtain ⟨g18, h⟩ := gd_inv h
      exact end_z X hr hk hP hS (Decidable.not_not.mp g18) h dX12_reread_41
    · rw [if_pos c12] at h
      refine lv_aload_n hx hb dX12_reread_20 rfl (lv_at hl 0 rfl) ?_
      refine lv_iconst (v := 1) hx hb dX12_reread_21 (by decide) ?_
      obtain ⟨r19, M20, hc21, h⟩ := bnd_inv h
      refine gV_i (As := [.int (1 : Int32)]) X hP hS hl.1 (c_X12_is l D cA q aK aV hq hc21) sf_X12_is bw_1470 sv_X12_is (rcR_12 sR_0) rfl ⟨rfl, rfl⟩ ⟨Nat.le_of_ble_eq_true rfl, Nat.le_of_ble_eq_true rfl⟩ rfl rfl (Nat.le_of_ble_eq_true rfl) dX12_reread_22 (fun H locs hP hS => ?_)
      obtain ⟨g22, h⟩ := gd_inv h
      exact end_z X hr hk hP hS (Decidable.not_not.mp g22) h dX12_reread_25
theorem dX12_enact_0 : decode cX12_enact 0 = .ok (.aload_n 0, 1) := by decide +kernel
theorem dX12_enact_1 : decode cX12_enact 1 = .ok (.iload_n 1, 1) := by decide +kernel
theorem dX12_enact_2 : decode cX12_enact 2 = .ok (.invokevirtual 293, 3) := by decide +kernel
theorem dX12_enact_5 : decode cX12_enact 5 = .ok (.ifCond .eq 28, 3) := by decide +kernel
theorem dX12_enact_8 : decode cX12_enact 8 = .ok (.iload_n 2, 1) := by decide +kernel
theorem dX12_enact_9 : decode cX12_enact 9 = .ok (.i2l, 1) := by decide +kernel
theorem dX12_enact_10 : decode cX12_enact 10 = .ok (.lconst 0, 1) := by decide +kernel
theorem dX12_enact_11 : decode cX12_enact 11 = .ok (.ldc2_w 368, 3) := by decide +kernel
theorem dX12_enact_14 : decode cX12_enact 14 = .ok (.invokestatic 337, 3) := by decide +kernel
theorem dX12_enact_17 : decode cX12_enact 17 = .ok (.ifCond .eq 16, 3) := by decide +kernel
theorem dX12_enact_20 : decode cX12_enact 20 = .ok (.iload_n 3, 1) := by decide +kernel
theorem dX12_enact_21 : decode cX12_enact 21 = .ok (.iconst 5, 1) := by decide +kernel
theorem dX12_enact_22 : decode cX12_enact 22 = .ok (.if_icmp .eq 17, 3) := by decide +kernel
theorem dX12_enact_25 : decode cX12_enact 25 = .ok (.aload_n 0, 1) := by decide +kernel
theorem dX12_enact_26 : decode cX12_enact 26 = .ok (.iload_n 3, 1) := by decide +kernel
theorem dX12_enact_27 : decode cX12_enact 27 = .ok (.invokevirtual 358, 3) := by decide +kernel
theorem dX12_enact_30 : decode cX12_enact 30 = .ok (.ifCond .ne 9, 3) := by decide +kernel
theorem dX12_enact_33 : decode cX12_enact 33 = .ok (.aload_n 0, 1) := by decide +kernel
theorem dX12_enact_34 : decode cX12_enact 34 = .ok (.iconst 1, 1) := by decide +kernel
theorem dX12_enact_35 : decode cX12_enact 35 = .ok (.invokevirtual 91, 3) := by decide +kernel
theorem dX12_enact_38 : decode cX12_enact 38 = .ok (.ireturn, 1) := by decide +kernel
theorem dX12_enact_39 : decode cX12_enact 39 = .ok (.aload_n 0, 1) := by decide +kernel
theorem dX12_enact_40 : decode cX12_enact 40 = .ok (.getfield 7, 3) := by decide +kernel
theorem dX12_enact_43 : decode cX12_enact 43 = .ok (.iconst 2, 1) := by decide +kernel
theorem dX12_enact_44 : decode cX12_enact 44 = .ok (.iaload, 1) := by decide +kernel
theorem dX12_enact_45 : decode cX12_enact 45 = .ok (.istore 4, 2) := by decide +kernel
theorem dX12_enact_47 : decode cX12_enact 47 = .ok (.iload 4, 2) := by decide +kernel
theorem dX12_enact_49 : decode cX12_enact 49 = .ok (.bipush 8, 2) := by decide +kernel
theorem dX12_enact_51 : decode cX12_enact 51 = .ok (.if_icmp .ne 9, 3) := by decide +kernel
theorem dX12_enact_54 : decode cX12_enact 54 = .ok (.aload_n 0, 1) := by decide +kernel
theorem dX12_enact_55 : decode cX12_enact 55 = .ok (.iconst 4, 1) := by decide +kernel
theorem dX12_enact_56 : decode cX12_enact 56 = .ok (.invokevirtual 91, 3) := by decide +kernel
theorem dX12_enact_59 : decode cX12_enact 59 = .ok (.ireturn, 1) := by decide +kernel
theorem dX12_enact_60 : decode cX12_enact 60 = .ok (.aload_n 0, 1) := by decide +kernel
theorem dX12_enact_61 : decode cX12_enact 61 = .ok (.getfield 7, 3) := by decide +kernel
theorem dX12_enact_64 : decode cX12_enact 64 = .ok (.iconst 2, 1) := by decide +kernel
theorem dX12_enact_65 : decode cX12_enact 65 = .ok (.dup2, 1) := by decide +kernel
theorem dX12_enact_66 : decode cX12_enact 66 = .ok (.iaload, 1) := by decide +kernel
theorem dX12_enact_67 : decode cX12_enact 67 = .ok (.iconst 1, 1) := by decide +kernel
theorem dX12_enact_68 : decode cX12_enact 68 = .ok (.iadd, 1) := by decide +kernel
theorem dX12_enact_69 : decode cX12_enact 69 = .ok (.iastore, 1) := by decide +kernel
theorem dX12_enact_70 : decode cX12_enact 70 = .ok (.iconst 0, 1) := by decide +kernel
theorem dX12_enact_71 : decode cX12_enact 71 = .ok (.istore 5, 2) := by decide +kernel
theorem dX12_enact_73 : decode cX12_enact 73 = .ok (.iload 5, 2) := by decide +kernel
theorem dX12_enact_75 : decode cX12_enact 75 = .ok (.bipush 7, 2) := by decide +kernel
theorem dX12_enact_77 : decode cX12_enact 77 = .ok (.if_icmp .ge 23, 3) := by decide +kernel
theorem dX12_enact_80 : decode cX12_enact 80 = .ok (.aload_n 0, 1) := by decide +kernel
theorem dX12_enact_81 : decode cX12_enact 81 = .ok (.getfield 7, 3) := by decide +kernel
theorem dX12_enact_84 : decode cX12_enact 84 = .ok (.iload 4, 2) := by decide +kernel
theorem dX12_enact_86 : decode cX12_enact 86 = .ok (.invokestatic 215, 3) := by decide +kernel
theorem dX12_enact_89 : decode cX12_enact 89 = .ok (.iload 5, 2) := by decide +kernel
theorem dX12_enact_91 : decode cX12_enact 91 = .ok (.iadd, 1) := by decide +kernel
theorem dX12_enact_92 : decode cX12_enact 92 = .ok (.iconst 0, 1) := by decide +kernel
theorem dX12_enact_93 : decode cX12_enact 93 = .ok (.iastore, 1) := by decide +kernel
theorem dX12_enact_94 : decode cX12_enact 94 = .ok (.iinc 5 1, 3) := by decide +kernel
theorem dX12_enact_97 : decode cX12_enact 97 = .ok (.goto (-24), 3) := by decide +kernel
theorem dX12_enact_100 : decode cX12_enact 100 = .ok (.aload_n 0, 1) := by decide +kernel
theorem dX12_enact_101 : decode cX12_enact 101 = .ok (.getfield 7, 3) := by decide +kernel
theorem dX12_enact_104 : decode cX12_enact 104 = .ok (.iload 4, 2) := by decide +kernel
theorem dX12_enact_106 : decode cX12_enact 106 = .ok (.invokestatic 215, 3) := by decide +kernel
theorem dX12_enact_109 : decode cX12_enact 109 = .ok (.iload_n 1, 1) := by decide +kernel
theorem dX12_enact_110 : decode cX12_enact 110 = .ok (.iastore, 1) := by decide +kernel
theorem dX12_enact_111 : decode cX12_enact 111 = .ok (.aload_n 0, 1) := by decide +kernel
theorem dX12_enact_112 : decode cX12_enact 112 = .ok (.getfield 7, 3) := by decide +kernel
theorem dX12_enact_115 : decode cX12_enact 115 = .ok (.iload 4, 2) := by decide +kernel
theorem dX12_enact_117 : decode cX12_enact 117 = .ok (.invokestatic 215, 3) := by decide +kernel
theorem dX12_enact_120 : decode cX12_enact 120 = .ok (.iconst 1, 1) := by decide +kernel
theorem dX12_enact_121 : decode cX12_enact 121 = .ok (.iadd, 1) := by decide +kernel
theorem dX12_enact_122 : decode cX12_enact 122 = .ok (.iload_n 2, 1) := by decide +kernel
theorem dX12_enact_123 : decode cX12_enact 123 = .ok (.iastore, 1) := by decide +kernel
theorem dX12_enact_124 : decode cX12_enact 124 = .ok (.aload_n 0, 1) := by decide +kernel
theorem dX12_enact_125 : decode cX12_enact 125 = .ok (.getfield 7, 3) := by decide +kernel
theorem dX12_enact_128 : decode cX12_enact 128 = .ok (.iload 4, 2) := by decide +kernel
theorem dX12_enact_130 : decode cX12_enact 130 = .ok (.invokestatic 215, 3) := by decide +kernel
theorem dX12_enact_133 : decode cX12_enact 133 = .ok (.bipush 6, 2) := by decide +kernel
theorem dX12_enact_135 : decode cX12_enact 135 = .ok (.iadd, 1) := by decide +kernel
theorem dX12_enact_136 : decode cX12_enact 136 = .ok (.iload_n 3, 1) := by decide +kernel
theorem dX12_enact_137 : decode cX12_enact 137 = .ok (.iconst 5, 1) := by decide +kernel
theorem dX12_enact_138 : decode cX12_enact 138 = .ok (.if_icmp .ne 7, 3) := by decide +kernel
theorem dX12_enact_141 : decode cX12_enact 141 = .ok (.iconst (-1), 1) := by decide +kernel
theorem dX12_enact_142 : decode cX12_enact 142 = .ok (.goto 4, 3) := by decide +kernel
theorem dX12_enact_145 : decode cX12_enact 145 = .ok (.iload_n 3, 1) := by decide +kernel
theorem dX12_enact_146 : decode cX12_enact 146 = .ok (.iastore, 1) := by decide +kernel
theorem dX12_enact_147 : decode cX12_enact 147 = .ok (.aload_n 0, 1) := by decide +kernel
theorem dX12_enact_148 : decode cX12_enact 148 = .ok (.iload 4, 2) := by decide +kernel
theorem dX12_enact_150 : decode cX12_enact 150 = .ok (.invokevirtual 95, 3) := by decide +kernel
theorem dX12_enact_153 : decode cX12_enact 153 = .ok (.ireturn, 1) := by decide +kernel
set_option maxRecDepth 100000 in
set_option maxHeartbeats 8000000 in
theorem c_X12_enact (l : Launch) (D : va_G) (cA : Nat → ClassId) (q aK aV : Nat → Nat) (hq : injG 20 q) {a1 : Int32} {a2 : Int32} {a3 : Int32} {M M0 : Mem} {r0 : Int32} (h : f_X12_enact a1 a2 a3 M = some (r0, M0)) : Met l yX12_enact (.code yX12_enact cX12_enact 6 (some .int) :: BW) ({ frames := 2, cells := 0, slots := 0, locals := 42 } : Room) (va_Pc [.ref (q 0), .int a1, .int a2, .int a3] (CB 20 (ceR cA q) D cA q aK aV M)) (Qi 20 (ceR cA q) D q r0 M0) 0 0 (AqG 20 q) := by
  refine gMet RX12 (by decide +kernel) rfl hq (Nat.le_of_ble_eq_true rfl) ?_
  intro p e s m below meth c ls X hr hk hP hS hl
  have hx := X.1
  have hb := X.2.1
  have hl : lv_has ls 6 [(0, .ref (q 0)), (1, .int a1), (2, .int a2), (3, .int a3)] := hl
  rw [f_X12_enact] at h
  have hL73 : ∀ (b4 : Int32) (fu : Nat) (b5 : Int32) (M : Mem) (res : (Unit) × Mem) (H : Heap) (locs : List Loc) (ls : Array Slot), f_X12_enact_L73 a1 a2 a3 b4 fu b5 M = some res → va_P D vwCl (wsG 20 (ceR cA q) q M) H → va_S (AqG 20 q) s.heap H locs → lv_has ls 6 [(0, .ref (q 0)), (1, .int a1), (2, .int a2), (3, .int a3), (4, .int b4), (5, .int b5)] → (∀ (H : Heap) (locs : List Loc) (ls : Array Slot), va_P D vwCl (wsG 20 (ceR cA q) q res.2) H → va_S (AqG 20 q) s.heap H locs → lv_has ls 6 [(0, .ref (q 0)), (1, .int a1), (2, .int a2), (3, .int a3), (4, .int b4)] → W p l e ({ frames := 2, cells := 0, slots := 0, locals := 42 } : Room) s m [.ref (q 0), .int a1, .int a2, .int a3].toArray below meth c H locs 0 0 (MQ below (Qi 20 (ceR cA q) D q r0 M0) [.ref (q 0), .int a1, .int a2, .int a3].toArray s 0 0 (AqG 20 q)) (F0 m 100 ls [])) → W p l e ({ frames := 2, cells := 0, slots := 0, locals := 42 } : Room) s m [.ref (q 0), .int a1, .int a2, .int a3].toArray below meth c H locs 0 0 (MQ below (Qi 20 (ceR cA q) D q r0 M0) [.ref (q 0), .int a1, .int a2, .int a3].toArray s 0 0 (AqG 20 q)) (F0 m 73 ls []) := by
    intro b4 fu
    induction fu with
    | zero => intro b5 M res H locs ls h; exact absurd h (by simp [f_X12_enact_L73])
    | succ fu ih =>
      intro b5 M res H locs ls h hP hS hl K73_0
      rw [f_X12_enact_L73] at h
      refine lv_iload hx hb dX12_enact_73 (lv_at hl 5 rfl) ?_
      refine lv_bipush (v := 7) hx hb dX12_enact_75 (by decide) ?_
      refine lv_icmp_ge (tgt := 100) hx hb dX12_enact_77 (by decide) (fun c56 => ?_) (fun c56 => ?_)
      · rw [if_pos c56] at h
        cases h
        exact K73_0 _ _ _ hP hS (lv_sub hl [0, 1, 2, 3, 4] rfl)
      · rw [if_neg c56] at h
        refine lv_aload_n hx hb dX12_enact_80 rfl (lv_at hl 0 rfl) ?_
        refine gfR_12_0 X hP sR_0 bw_1323 dX12_enact_81 ?_
        refine lv_iload hx hb dX12_enact_84 (lv_at hl 4 rfl) ?_
        obtain ⟨r57, M58, hc59, h⟩ := bnd_inv h
        refine gS_i (As := [.int b4]) X hP hS hl.1 (c_X12_ruleRow l D cA q aK aV hq hc59) sf_X12_ruleRow bw_1589 ss_X12_ruleRow ⟨rfl, rfl⟩ ⟨Nat.le_of_ble_eq_true rfl, Nat.le_of_ble_eq_true rfl⟩ rfl rfl (Nat.le_of_ble_eq_true rfl) dX12_enact_86 (fun H locs hP hS => ?_)
        refine lv_iload hx hb dX12_enact_89 (lv_at hl 5 rfl) ?_
        refine lv_iadd hx hb dX12_enact_91 ?_
        refine lv_iconst (v := 0) hx hb dX12_enact_92 (by decide) ?_
        obtain ⟨g60, h⟩ := gd_inv h
        obtain ⟨M61, eM61, h⟩ := lt_inv h
        refine stR_ia X hP hS sR_1 zR_1 g60 eM61 dX12_enact_93 (fun H locs hP hS => ?_)
        obtain ⟨y62, ey62, h⟩ := lt_inv h
        refine lv_iinc (v := y62) (lv' := [(5, .int y62), (0, .ref (q 0)), (1, .int a1), (2, .int a2), (3, .int a3), (4, .int b4)]) hx hb dX12_enact_94 hl (k := 5) rfl (by rw [ey62]; rfl) (by decide) rfl (fun ls hl => ?_)
        refine lv_goto (tgt := 73) hx hb dX12_enact_97 (by decide) ?_
        exact ih _ _ res _ _ _ h hP hS (lv_sub hl [1, 2, 3, 4, 5, 0] rfl) K73_0
  have hJ39 : ∀ (M : Mem) (H : Heap) (locs : List Loc) (ls : Array Slot), f_X12_enact_J39 a1 a2 a3 M = some (r0, M0) → va_P D vwCl (wsG 20 (ceR cA q) q M) H → va_S (AqG 20 q) s.heap H locs → lv_has ls 6 [(0, .ref (q 0)), (1, .int a1), (2, .int a2), (3, .int a3)] → W p l e ({ frames := 2, cells := 0, slots := 0, locals := 42 } : Room) s m [.ref (q 0), .int a1, .int a2, .int a3].toArray below meth c H locs 0 0 (MQ below (Qi 20 (ceR cA q) D q r0 M0) [.ref (q 0), .int a1, .int a2, .int a3].toArray s 0 0 (AqG 20 q)) (F0 m 39 ls []) := by
    intro M H locs ls h hP hS hl
    rw [f_X12_enact_J39] at h
    refine lv_aload_n hx hb dX12_enact_39 rfl (lv_at hl 0 rfl) ?_
    refine gfR_12_0 X hP sR_0 bw_1323 dX12_enact_40 ?_
    refine lv_iconst (v := 2) hx hb dX12_enact_43 (by decide) ?_
    refine ldR_ia X hP sR_1 zR_1 (by decide) dX12_enact_44 ?_
    refine topE (y := (gI M 1 2)) rfl ?_
    obtain ⟨y23, ey23, h⟩ := lt_inv h
    refine topE ey23 ?_
    refine lv_istore (lv' := [(4, .int y23), (0, .ref (q 0)), (1, .int a1), (2, .int a2), (3, .int a3)]) hx hb dX12_enact_45 hl (by decide) rfl (fun ls hl => ?_)
    refine lv_iload hx hb dX12_enact_47 (lv_at hl 0 rfl) ?_
    refine lv_bipush (v := 8) hx hb dX12_enact_49 (by decide) ?_
    refine lv_icmp_ne (tgt := 60) hx hb dX12_enact_51 (by decide) (fun c24 => ?_) (fun c24 => ?_)
    · rw [if_neg c24] at h
      refine lv_aload_n hx hb dX12_enact_60 rfl (lv_at hl 1 rfl) ?_
      refine gfR_12_0 X hP sR_0 bw_1323 dX12_enact_61 ?_
      refine lv_iconst (v := 2) hx hb dX12_enact_64 (by decide) ?_
      refine lv_dup2_11 hx hb dX12_enact_65 rfl rfl ?_
      refine ldR_ia X hP sR_1 zR_1 (by decide) dX12_enact_66 ?_
      refine topE (y := (gI M 1 2)) rfl ?_
      refine lv_iconst (v := 1) hx hb dX12_enact_67 (by decide) ?_
      refine lv_iadd hx hb dX12_enact_68 ?_
      obtain ⟨M25, eM25, h⟩ := lt_inv h
      refine stR_ia X hP hS sR_1 zR_1 (by decide) eM25 dX12_enact_69 (fun H locs hP hS => ?_)
      refine lv_iconst (v := 0) hx hb dX12_enact_70 (by decide) ?_
      refine lv_istore (lv' := [(5, .int (0 : Int32)), (4, .int y23), (0, .ref (q 0)), (1, .int a1), (2, .int a2), (3, .int a3)]) hx hb dX12_enact_71 hl (by decide) rfl (fun ls hl => ?_)
      obtain ⟨s26, M27, hc28, h⟩ := bnd_inv h
      try dsimp only at h
      refine hL73 _ fz _ _ _ _ _ _ hc28 hP hS (lv_sub hl [2, 3, 4, 5, 1, 0] rfl) (fun H locs ls hP hS hl => ?_)
      have hl : lv_has ls 6 [(0, .ref (q 0)), (1, .int a1), (2, .int a2), (3, .int a3), (4, .int y23)] := hl
      refine lv_aload_n hx hb dX12_enact_100 rfl (lv_at hl 0 rfl) ?_
      refine gfR_12_0 X hP sR_0 bw_1323 dX12_enact_101 ?_
      refine lv_iload hx hb dX12_enact_104 (lv_at hl 4 rfl) ?_
      obtain ⟨r29, M30, hc31, h⟩ := bnd_inv h
      refine gS_i (As := [.int y23]) X hP hS hl.1 (c_X12_ruleRow l D cA q aK aV hq hc31) sf_X12_ruleRow bw_1589 ss_X12_ruleRow ⟨rfl, rfl⟩ ⟨Nat.le_of_ble_eq_true rfl, Nat.le_of_ble_eq_true rfl⟩ rfl rfl (Nat.le_of_ble_eq_true rfl) dX12_enact_106 (fun H locs hP hS => ?_)
      refine lv_iload_n hx hb dX12_enact_109 rfl (lv_at hl 1 rfl) ?_
      obtain ⟨g32, h⟩ := gd_inv h
      obtain ⟨M33, eM33, h⟩ := lt_inv h
      refine stR_ia X hP hS sR_1 zR_1 g32 eM33 dX12_enact_110 (fun H locs hP hS => ?_)
      refine lv_aload_n hx hb dX12_enact_111 rfl (lv_at hl 0 rfl) ?_
      refine gfR_12_0 X hP sR_0 bw_1323 dX12_enact_112 ?_
      refine lv_iload hx hb dX12_enact_115 (lv_at hl 4 rfl) ?_
      obtain ⟨r34, M35, hc36, h⟩ := bnd_inv h
      refine gS_i (As := [.int y23]) X hP hS hl.1 (c_X12_ruleRow l D cA q aK aV hq hc36) sf_X12_ruleRow bw_1589 ss_X12_ruleRow ⟨rfl, rfl⟩ ⟨Nat.le_of_ble_eq_true rfl, Nat.le_of_ble_eq_true rfl⟩ rfl rfl (Nat.le_of_ble_eq_true rfl) dX12_enact_117 (fun H locs hP hS => ?_)
      refine lv_iconst (v := 1) hx hb dX12_enact_120 (by decide) ?_
      refine lv_iadd hx hb dX12_enact_121 ?_
      refine lv_iload_n hx hb dX12_enact_122 rfl (lv_at hl 2 rfl) ?_
      obtain ⟨g37, h⟩ := gd_inv h
      obtain ⟨M38, eM38, h⟩ := lt_inv h
      refine stR_ia X hP hS sR_1 zR_1 g37 eM38 dX12_enact_123 (fun H locs hP hS => ?_)
      refine lv_aload_n hx hb dX12_enact_124 rfl (lv_at hl 0 rfl) ?_
      refine gfR_12_0 X hP sR_0 bw_1323 dX12_enact_125 ?_
      refine lv_iload hx hb dX12_enact_128 (lv_at hl 4 rfl) ?_
      obtain ⟨r39, M40, hc41, h⟩ := bnd_inv h
      refine gS_i (As := [.int y23]) X hP hS hl.1 (c_X12_ruleRow l D cA q aK aV hq hc41) sf_X12_ruleRow bw_1589 ss_X12_ruleRow ⟨rfl, rfl⟩ ⟨Nat.le_of_ble_eq_true rfl, Nat.le_of_ble_eq_true rfl⟩ rfl rfl (Nat.le_of_ble_eq_true rfl) dX12_enact_130 (fun H locs hP hS => ?_)
      refine lv_bipush (v := 6) hx hb dX12_enact_133 (by decide) ?_
      refine lv_iadd hx hb dX12_enact_135 ?_
      refine lv_iload_n hx hb dX12_enact_136 rfl (lv_at hl 3 rfl) ?_
      refine lv_iconst (v := 5) hx hb dX12_enact_137 (by decide) ?_
      refine lv_icmp_ne (tgt := 145) hx hb dX12_enact_138 (by decide) (fun c42 => ?_) (fun c42 => ?_)
      · rw [if_neg c42] at h
        refine lv_iload_n hx hb dX12_enact_145 rfl (lv_at hl 3 rfl) ?_
        obtain ⟨g43, h⟩ := gd_inv h
        obtain ⟨M44, eM44, h⟩ := lt_inv h
        refine stR_ia X hP hS sR_1 zR_1 g43 eM44 dX12_enact_146 (fun H locs hP hS => ?_)
        refine lv_aload_n hx hb dX12_enact_147 rfl (lv_at hl 0 rfl) ?_
        refine lv_iload hx hb dX12_enact_148 (lv_at hl 4 rfl) ?_
        obtain ⟨r45, M46, hc47, h⟩ := bnd_inv h
        refine gV_i (As := [.int y23]) X hP hS hl.1 (c_X12_gives l D cA q aK aV hq hc47) sf_X12_gives bw_1639 sv_X12_gives (rcR_12 sR_0) rfl ⟨rfl, rfl⟩ ⟨Nat.le_of_ble_eq_true rfl, Nat.le_of_ble_eq_true rfl⟩ rfl rfl (Nat.le_of_ble_eq_true rfl) dX12_enact_150 (fun H locs hP hS => ?_)
        exact end_i X hr hk hP hS h dX12_enact_153
      · rw [if_pos c42] at h
        refine lv_iconst (v := -1) hx hb dX12_enact_141 (by decide) ?_
        refine lv_goto (tgt := 146) hx hb dX12_enact_142 (by decide) ?_
        obtain ⟨g48, h⟩ := gd_inv h
        obtain ⟨M49, eM49, h⟩ := lt_inv h
        refine stR_ia X hP hS sR_1 zR_1 g48 eM49 dX12_enact_146 (fun H locs hP hS => ?_)
        refine lv_aload_n hx hb dX12_enact_147 rfl (lv_at hl 0 rfl) ?_
        refine lv_iload hx hb dX12_enact_148 (lv_at hl 4 rfl) ?_
        obtain ⟨r50, M51, hc52, h⟩ := bnd_inv h
        refine gV_i (As := [.int y23]) X hP hS hl.1 (c_X12_gives l D cA q aK aV hq hc52) sf_X12_gives bw_1639 sv_X12_gives (rcR_12 sR_0) rfl ⟨rfl, rfl⟩ ⟨Nat.le_of_ble_eq_true rfl, Nat.le_of_ble_eq_true rfl⟩ rfl rfl (Nat.le_of_ble_eq_true rfl) dX12_enact_150 (fun H locs hP hS => ?_)
        exact end_i X hr hk hP hS h dX12_enact_153
    · rw [if_pos c24] at h
      refine lv_aload_n hx hb dX12_enact_54 rfl (lv_at hl 1 rfl) ?_
      refine lv_iconst (v := 4) hx hb dX12_enact_55 (by decide) ?_
      obtain ⟨r53, M54, hc55, h⟩ := bnd_inv h
      refine gV_i (As := [.int (4 : Int32)]) X hP hS hl.1 (c_X12_refuse l D cA q aK aV hq hc55) sf_X12_refuse bw_1530 sv_X12_refuse (rcR_12 sR_0) rfl ⟨rfl, rfl⟩ ⟨Nat.le_of_ble_eq_true rfl, Nat.le_of_ble_eq_true rfl⟩ rfl rfl (Nat.le_of_ble_eq_true rfl) dX12_enact_56 (fun H locs hP hS => ?_)
      exact end_i X hr hk hP hS h dX12_enact_59
  refine lv_aload_n hx hb dX12_enact_0 rfl (lv_at hl 0 rfl) ?_
  refine lv_iload_n hx hb dX12_enact_1 rfl (lv_at hl 1 rfl) ?_
  obtain ⟨r1, M2, hc3, h⟩ := bnd_inv h
  refine gV_i (As := [.int a1]) X hP hS hl.1 (c_X12_isCue l D cA q aK aV hq hc3) sf_X12_isCue bw_1691 sv_X12_isCue (rcR_12 sR_0) rfl ⟨rfl, rfl⟩ ⟨Nat.le_of_ble_eq_true rfl, Nat.le_of_ble_eq_true rfl⟩ rfl rfl (Nat.le_of_ble_eq_true rfl) dX12_enact_2 (fun H locs hP hS => ?_)
  refine lv_if_eq (tgt := 33) hx hb dX12_enact_5 (by decide) (fun c4 => ?_) (fun c4 => ?_)
  · rw [if_pos c4] at h
    refine lv_aload_n hx hb dX12_enact_33 rfl (lv_at hl 0 rfl) ?_
    refine lv_iconst (v := 1) hx hb dX12_enact_34 (by decide) ?_
    obtain ⟨r5, M6, hc7, h⟩ := bnd_inv h
    refine gV_i (As := [.int (1 : Int32)]) X hP hS hl.1 (c_X12_refuse l D cA q aK aV hq hc7) sf_X12_refuse bw_1530 sv_X12_refuse (rcR_12 sR_0) rfl ⟨rfl, rfl⟩ ⟨Nat.le_of_ble_eq_true rfl, Nat.le_of_ble_eq_true rfl⟩ rfl rfl (Nat.le_of_ble_eq_true rfl) dX12_enact_35 (fun H locs hP hS => ?_)
    exact end_i X hr hk hP hS h dX12_enact_38
  · rw [if_neg c4] at h
    refine lv_iload_n hx hb dX12_enact_8 rfl (lv_at hl 2 rfl) ?_
    refine lv_i2l hx hb dX12_enact_9 rfl ?_
    refine lv_lconst (v := 0) hx hb dX12_enact_10 (by decide) ?_
    refine lv_ldc2 hx hb X.2.2.2.1 (X.2.2.2.2.1 _ bw_1846) dX12_enact_11 ?_
    obtain ⟨r8, M9, hc10, h⟩ := bnd_inv h
    refine gS_i (As := [.long (a2.toInt64), .long (0 : Int64), .long (2 : Int64)]) X hP hS hl.1 (c_X12_isFrom l D cA q aK aV hq hc10) sf_X12_isFrom bw_1767 ss_X12_isFrom ⟨rfl, rfl⟩ ⟨Nat.le_of_ble_eq_true rfl, Nat.le_of_ble_eq_true rfl⟩ rfl rfl (Nat.le_of_ble_eq_true rfl) dX12_enact_14 (fun H locs hP hS => ?_)
    refine lv_if_eq (tgt := 33) hx hb dX12_enact_17 (by decide) (fun c11 => ?_) (fun c11 => ?_)
    · rw [if_pos c11] at h
      refine lv_aload_n hx hb dX12_enact_33 rfl (lv_at hl 0 rfl) ?_
      refine lv_iconst (v := 1) hx hb dX12_enact_34 (by decide) ?_
      obtain ⟨r12, M13, hc14, h⟩ := bnd_inv h
      refine gV_i (As := [.int (1 : Int32)]) X hP hS hl.1 (c_X12_refuse l D cA q aK aV hq hc14) sf_X12_refuse bw_1530 sv_X12_refuse (rcR_12 sR_0) rfl ⟨rfl, rfl⟩ ⟨Nat.le_of_ble_eq_true rfl, Nat.le_of_ble_eq_true rfl⟩ rfl rfl (Nat.le_of_ble_eq_true rfl) dX12_enact_35 (fun H locs hP hS => ?_)
      exact end_i X hr hk hP hS h dX12_enact_38
    · rw [if_neg c11] at h
      refine lv_iload_n hx hb dX12_enact_20 rfl (lv_at hl 3 rfl) ?_
      refine lv_iconst (v := 5) hx hb dX12_enact_21 (by decide) ?_
      refine lv_icmp_eq (tgt := 39) hx hb dX12_enact_22 (by decide) (fun c15 => ?_) (fun c15 => ?_)
      · rw [if_pos c15] at h
        exact hJ39  _ _ _ _ h hP hS (lv_sub hl [0, 1, 2, 3] rfl)
      · rw [if_neg c15] at h
        refine lv_aload_n hx hb dX12_enact_25 rfl (lv_at hl 0 rfl) ?_
        refine lv_iload_n hx hb dX12_enact_26 rfl (lv_at hl 3 rfl) ?_
        obtain ⟨r16, M17, hc18, h⟩ := bnd_inv h
        refine gV_i (As := [.int a3]) X hP hS hl.1 (c_X12_isSmell l D cA q aK aV hq hc18) sf_X12_isSmell bw_1818 sv_X12_isSmell (rcR_12 sR_0) rfl ⟨rfl, rfl⟩ ⟨Nat.le_of_ble_eq_true rfl, Nat.le_of_ble_eq_true rfl⟩ rfl rfl (Nat.le_of_ble_eq_true rfl) dX12_enact_27 (fun H locs hP hS => ?_)
        refine lv_if_ne (tgt := 39) hx hb dX12_enact_30 (by decide) (fun c19 => ?_) (fun c19 => ?_)
        · rw [if_neg c19] at h
          exact hJ39  _ _ _ _ h hP hS (lv_sub hl [0, 1, 2, 3] rfl)
        · rw [if_pos c19] at h
          refine lv_aload_n hx hb dX12_enact_33 rfl (lv_at hl 0 rfl) ?_
          refine lv_iconst (v := 1) hx hb dX12_enact_34 (by decide) ?_
          obtain ⟨r20, M21, hc22, h⟩ := bnd_inv h
          refine gV_i (As := [.int (1 : Int32)]) X hP hS hl.1 (c_X12_refuse l D cA q aK aV hq hc22) sf_X12_refuse bw_1530 sv_X12_refuse (rcR_12 sR_0) rfl ⟨rfl, rfl⟩ ⟨Nat.le_of_ble_eq_true rfl, Nat.le_of_ble_eq_true rfl⟩ rfl rfl (Nat.le_of_ble_eq_true rfl) dX12_enact_35 (fun H locs hP hS => ?_)
          exact end_i X hr hk hP hS h dX12_enact_38
theorem dX12_repeal_0 : decode cX12_repeal 0 = .ok (.aload_n 0, 1) := by decide +kernel
theorem dX12_repeal_1 : decode cX12_repeal 1 = .ok (.iload_n 1, 1) := by decide +kernel
theorem dX12_repeal_2 : decode cX12_repeal 2 = .ok (.invokevirtual 296, 3) := by decide +kernel
theorem dX12_repeal_5 : decode cX12_repeal 5 = .ok (.ifCond .ne 9, 3) := by decide +kernel
theorem dX12_repeal_8 : decode cX12_repeal 8 = .ok (.aload_n 0, 1) := by decide +kernel
theorem dX12_repeal_9 : decode cX12_repeal 9 = .ok (.iconst 1, 1) := by decide +kernel
theorem dX12_repeal_10 : decode cX12_repeal 10 = .ok (.invokevirtual 91, 3) := by decide +kernel
theorem dX12_repeal_13 : decode cX12_repeal 13 = .ok (.ireturn, 1) := by decide +kernel
theorem dX12_repeal_14 : decode cX12_repeal 14 = .ok (.aload_n 0, 1) := by decide +kernel
theorem dX12_repeal_15 : decode cX12_repeal 15 = .ok (.getfield 7, 3) := by decide +kernel
theorem dX12_repeal_18 : decode cX12_repeal 18 = .ok (.iconst 2, 1) := by decide +kernel
theorem dX12_repeal_19 : decode cX12_repeal 19 = .ok (.dup2, 1) := by decide +kernel
theorem dX12_repeal_20 : decode cX12_repeal 20 = .ok (.iaload, 1) := by decide +kernel
theorem dX12_repeal_21 : decode cX12_repeal 21 = .ok (.iconst 1, 1) := by decide +kernel
theorem dX12_repeal_22 : decode cX12_repeal 22 = .ok (.isub, 1) := by decide +kernel
theorem dX12_repeal_23 : decode cX12_repeal 23 = .ok (.iastore, 1) := by decide +kernel
theorem dX12_repeal_24 : decode cX12_repeal 24 = .ok (.iload_n 1, 1) := by decide +kernel
theorem dX12_repeal_25 : decode cX12_repeal 25 = .ok (.invokestatic 215, 3) := by decide +kernel
theorem dX12_repeal_28 : decode cX12_repeal 28 = .ok (.istore_n 2, 1) := by decide +kernel
theorem dX12_repeal_29 : decode cX12_repeal 29 = .ok (.iload_n 2, 1) := by decide +kernel
theorem dX12_repeal_30 : decode cX12_repeal 30 = .ok (.aload_n 0, 1) := by decide +kernel
theorem dX12_repeal_31 : decode cX12_repeal 31 = .ok (.getfield 7, 3) := by decide +kernel
theorem dX12_repeal_34 : decode cX12_repeal 34 = .ok (.iconst 2, 1) := by decide +kernel
theorem dX12_repeal_35 : decode cX12_repeal 35 = .ok (.iaload, 1) := by decide +kernel
theorem dX12_repeal_36 : decode cX12_repeal 36 = .ok (.invokestatic 215, 3) := by decide +kernel
theorem dX12_repeal_39 : decode cX12_repeal 39 = .ok (.if_icmp .ge 24, 3) := by decide +kernel
theorem dX12_repeal_42 : decode cX12_repeal 42 = .ok (.aload_n 0, 1) := by decide +kernel
theorem dX12_repeal_43 : decode cX12_repeal 43 = .ok (.getfield 7, 3) := by decide +kernel
theorem dX12_repeal_46 : decode cX12_repeal 46 = .ok (.iload_n 2, 1) := by decide +kernel
theorem dX12_repeal_47 : decode cX12_repeal 47 = .ok (.aload_n 0, 1) := by decide +kernel
theorem dX12_repeal_48 : decode cX12_repeal 48 = .ok (.getfield 7, 3) := by decide +kernel
theorem dX12_repeal_51 : decode cX12_repeal 51 = .ok (.iload_n 2, 1) := by decide +kernel
theorem dX12_repeal_52 : decode cX12_repeal 52 = .ok (.bipush 7, 2) := by decide +kernel
theorem dX12_repeal_54 : decode cX12_repeal 54 = .ok (.iadd, 1) := by decide +kernel
theorem dX12_repeal_55 : decode cX12_repeal 55 = .ok (.iaload, 1) := by decide +kernel
theorem dX12_repeal_56 : decode cX12_repeal 56 = .ok (.iastore, 1) := by decide +kernel
theorem dX12_repeal_57 : decode cX12_repeal 57 = .ok (.iinc 2 1, 3) := by decide +kernel
theorem dX12_repeal_60 : decode cX12_repeal 60 = .ok (.goto (-31), 3) := by decide +kernel
theorem dX12_repeal_63 : decode cX12_repeal 63 = .ok (.aload_n 0, 1) := by decide +kernel
theorem dX12_repeal_64 : decode cX12_repeal 64 = .ok (.aload_n 0, 1) := by decide +kernel
theorem dX12_repeal_65 : decode cX12_repeal 65 = .ok (.getfield 7, 3) := by decide +kernel
theorem dX12_repeal_68 : decode cX12_repeal 68 = .ok (.iconst 2, 1) := by decide +kernel
theorem dX12_repeal_69 : decode cX12_repeal 69 = .ok (.iaload, 1) := by decide +kernel
theorem dX12_repeal_70 : decode cX12_repeal 70 = .ok (.invokevirtual 95, 3) := by decide +kernel
theorem dX12_repeal_73 : decode cX12_repeal 73 = .ok (.ireturn, 1) := by decide +kernel
set_option maxRecDepth 100000 in
set_option maxHeartbeats 8000000 in
theorem c_X12_repeal (l : Launch) (D : va_G) (cA : Nat → ClassId) (q aK aV : Nat → Nat) (hq : injG 20 q) {a1 : Int32} {M M0 : Mem} {r0 : Int32} (h : f_X12_repeal a1 M = some (r0, M0)) : Met l yX12_repeal (.code yX12_repeal cX12_repeal 3 (some .int) :: BW) ({ frames := 2, cells := 0, slots := 0, locals := 34 } : Room) (va_Pc [.ref (q 0), .int a1] (CB 20 (ceR cA q) D cA q aK aV M)) (Qi 20 (ceR cA q) D q r0 M0) 0 0 (AqG 20 q) := by
  refine gMet RX12 (by decide +kernel) rfl hq (Nat.le_of_ble_eq_true rfl) ?_
  intro p e s m below meth c ls X hr hk hP hS hl
  have hx := X.1
  have hb := X.2.1
  have hl : lv_has ls 3 [(0, .ref (q 0)), (1, .int a1)] := hl
  rw [f_X12_repeal] at h
  have hL29 : ∀ (fu : Nat) (b2 : Int32) (M : Mem) (res : (Unit) × Mem) (H : Heap) (locs : List Loc) (ls : Array Slot), f_X12_repeal_L29 fu b2 M = some res → va_P D vwCl (wsG 20 (ceR cA q) q M) H → va_S (AqG 20 q) s.heap H locs → lv_has ls 3 [(0, .ref (q 0)), (2, .int b2)] → (∀ (H : Heap) (locs : List Loc) (ls : Array Slot), va_P D vwCl (wsG 20 (ceR cA q) q res.2) H → va_S (AqG 20 q) s.heap H locs → lv_has ls 3 [(0, .ref (q 0))] → W p l e ({ frames := 2, cells := 0, slots := 0, locals := 34 } : Room) s m [.ref (q 0), .int a1].toArray below meth c H locs 0 0 (MQ below (Qi 20 (ceR cA q) D q r0 M0) [.ref (q 0), .int a1].toArray s 0 0 (AqG 20 q)) (F0 m 63 ls [])) → W p l e ({ frames := 2, cells := 0, slots := 0, locals := 34 } : Room) s m [.ref (q 0), .int a1].toArray below meth c H locs 0 0 (MQ below (Qi 20 (ceR cA q) D q r0 M0) [.ref (q 0), .int a1].toArray s 0 0 (AqG 20 q)) (F0 m 29 ls []) := by
    intro fu
    induction fu with
    | zero => intro b2 M res H locs ls h; exact absurd h (by simp [f_X12_repeal_L29])
    | succ fu ih =>
      intro b2 M res H locs ls h hP hS hl K29_0
      rw [f_X12_repeal_L29] at h
      refine lv_iload_n hx hb dX12_repeal_29 rfl (lv_at hl 1 rfl) ?_
      refine lv_aload_n hx hb dX12_repeal_30 rfl (lv_at hl 0 rfl) ?_
      refine gfR_12_0 X hP sR_0 bw_1323 dX12_repeal_31 ?_
      refine lv_iconst (v := 2) hx hb dX12_repeal_34 (by decide) ?_
      refine ldR_ia X hP sR_1 zR_1 (by decide) dX12_repeal_35 ?_
      refine topE (y := (gI M 1 2)) rfl ?_
      obtain ⟨r18, M19, hc20, h⟩ := bnd_inv h
      refine gS_i (As := [.int (gI M 1 2)]) X hP hS hl.1 (c_X12_ruleRow l D cA q aK aV hq hc20) sf_X12_ruleRow bw_1589 ss_X12_ruleRow ⟨rfl, rfl⟩ ⟨Nat.le_of_ble_eq_true rfl, Nat.le_of_ble_eq_true rfl⟩ rfl rfl (Nat.le_of_ble_eq_true rfl) dX12_repeal_36 (fun H locs hP hS => ?_)
      refine lv_icmp_ge (tgt := 63) hx hb dX12_repeal_39 (by decide) (fun c21 => ?_) (fun c21 => ?_)
      · rw [if_pos c21] at h
        cases h
        exact K29_0 _ _ _ hP hS (lv_sub hl [0] rfl)
      · rw [if_neg c21] at h
        refine lv_aload_n hx hb dX12_repeal_42 rfl (lv_at hl 0 rfl) ?_
        refine gfR_12_0 X hP sR_0 bw_1323 dX12_repeal_43 ?_
        refine lv_iload_n hx hb dX12_repeal_46 rfl (lv_at hl 1 rfl) ?_
        refine lv_aload_n hx hb dX12_repeal_47 rfl (lv_at hl 0 rfl) ?_
        refine gfR_12_0 X hP sR_0 bw_1323 dX12_repeal_48 ?_
        refine lv_iload_n hx hb dX12_repeal_51 rfl (lv_at hl 1 rfl) ?_
        refine lv_bipush (v := 7) hx hb dX12_repeal_52 (by decide) ?_
        refine lv_iadd hx hb dX12_repeal_54 ?_
        obtain ⟨g22, h⟩ := gd_inv h
        refine ldR_ia X hP sR_1 zR_1 g22 dX12_repeal_55 ?_
        obtain ⟨g23, h⟩ := gd_inv h
        obtain ⟨M24, eM24, h⟩ := lt_inv h
        refine stR_ia X hP hS sR_1 zR_1 g23 eM24 dX12_repeal_56 (fun H locs hP hS => ?_)
        obtain ⟨y25, ey25, h⟩ := lt_inv h
        refine lv_iinc (v := y25) (lv' := [(2, .int y25), (0, .ref (q 0))]) hx hb dX12_repeal_57 hl (k := 1) rfl (by rw [ey25]; rfl) (by decide) rfl (fun ls hl => ?_)
        refine lv_goto (tgt := 29) hx hb dX12_repeal_60 (by decide) ?_
        exact ih _ _ res _ _ _ h hP hS (lv_sub hl [1, 0] rfl) K29_0
  refine lv_aload_n hx hb dX12_repeal_0 rfl (lv_at hl 0 rfl) ?_
  refine lv_iload_n hx hb dX12_repeal_1 rfl (lv_at hl 1 rfl) ?_
  obtain ⟨r1, M2, hc3, h⟩ := bnd_inv h
  refine gV_i (As := [.int a1]) X hP hS hl.1 (c_X12_isRule l D cA q aK aV hq hc3) sf_X12_isRule bw_1699 sv_X12_isRule (rcR_12 sR_0) rfl ⟨rfl, rfl⟩ ⟨Nat.le_of_ble_eq_true rfl, Nat.le_of_ble_eq_true rfl⟩ rfl rfl (Nat.le_of_ble_eq_true rfl) dX12_repeal_2 (fun H locs hP hS => ?_)
  refine lv_if_ne (tgt := 14) hx hb dX12_repeal_5 (by decide) (fun c4 => ?_) (fun c4 => ?_)
  · rw [if_neg c4] at h
    refine lv_aload_n hx hb dX12_repeal_14 rfl (lv_at hl 0 rfl) ?_
    refine gfR_12_0 X hP sR_0 bw_1323 dX12_repeal_15 ?_
    refine lv_iconst (v := 2) hx hb dX12_repeal_18 (by decide) ?_
    refine lv_dup2_11 hx hb dX12_repeal_19 rfl rfl ?_
    refine ldR_ia X hP sR_1 zR_1 (by decide) dX12_repeal_20 ?_
    refine topE (y := (gI M2 1 2)) rfl ?_
    refine lv_iconst (v := 1) hx hb dX12_repeal_21 (by decide) ?_
    refine lv_isub hx hb dX12_repeal_22 ?_
    obtain ⟨M5, eM5, h⟩ := lt_inv h
    refine stR_ia X hP hS sR_1 zR_1 (by decide) eM5 dX12_repeal_23 (fun H locs hP hS => ?_)
    refine lv_iload_n hx hb dX12_repeal_24 rfl (lv_at hl 1 rfl) ?_
    obtain ⟨r6, M7, hc8, h⟩ := bnd_inv h
    refine gS_i (As := [.int a1]) X hP hS hl.1 (c_X12_ruleRow l D cA q aK aV hq hc8) sf_X12_ruleRow bw_1589 ss_X12_ruleRow ⟨rfl, rfl⟩ ⟨Nat.le_of_ble_eq_true rfl, Nat.le_of_ble_eq_true rfl⟩ rfl rfl (Nat.le_of_ble_eq_true rfl) dX12_repeal_25 (fun H locs hP hS => ?_)
    refine lv_istore_n (lv' := [(2, .int r6), (0, .ref (q 0)), (1, .int a1)]) hx hb dX12_repeal_28 rfl hl (by decide) rfl (fun ls hl => ?_)
    obtain ⟨s9, M10, hc11, h⟩ := bnd_inv h
    try dsimp only at h
    refine hL29  fz _ _ _ _ _ _ hc11 hP hS (lv_sub hl [1, 0] rfl) (fun H locs ls hP hS hl => ?_)
    have hl : lv_has ls 3 [(0, .ref (q 0))] := hl
    refine lv_aload_n hx hb dX12_repeal_63 rfl (lv_at hl 0 rfl) ?_
    refine lv_aload_n hx hb dX12_repeal_64 rfl (lv_at hl 0 rfl) ?_
    refine gfR_12_0 X hP sR_0 bw_1323 dX12_repeal_65 ?_
    refine lv_iconst (v := 2) hx hb dX12_repeal_68 (by decide) ?_
    refine ldR_ia X hP sR_1 zR_1 (by decide) dX12_repeal_69 ?_
    refine topE (y := (gI M10 1 2)) rfl ?_
    obtain ⟨r12, M13, hc14, h⟩ := bnd_inv h
    refine gV_i (As := [.int (gI M10 1 2)]) X hP hS hl.1 (c_X12_gives l D cA q aK aV hq hc14) sf_X12_gives bw_1639 sv_X12_gives (rcR_12 sR_0) rfl ⟨rfl, rfl⟩ ⟨Nat.le_of_ble_eq_true rfl, Nat.le_of_ble_eq_true rfl⟩ rfl rfl (Nat.le_of_ble_eq_true rfl) dX12_repeal_70 (fun H locs hP hS => ?_)
    exact end_i X hr hk hP hS h dX12_repeal_73
  · rw [if_pos c4] at h
    refine lv_aload_n hx hb dX12_repeal_8 rfl (lv_at hl 0 rfl) ?_
    refine lv_iconst (v := 1) hx hb dX12_repeal_9 (by decide) ?_
    obtain ⟨r15, M16, hc17, h⟩ := bnd_inv h
    refine gV_i (As := [.int (1 : Int32)]) X hP hS hl.1 (c_X12_refuse l D cA q aK aV hq hc17) sf_X12_refuse bw_1530 sv_X12_refuse (rcR_12 sR_0) rfl ⟨rfl, rfl⟩ ⟨Nat.le_of_ble_eq_true rfl, Nat.le_of_ble_eq_true rfl⟩ rfl rfl (Nat.le_of_ble_eq_true rfl) dX12_repeal_10 (fun H locs hP hS => ?_)
    exact end_i X hr hk hP hS h dX12_repeal_13
theorem dX12_strain_0 : decode cX12_strain 0 = .ok (.aload_n 0, 1) := by decide +kernel
theorem dX12_strain_1 : decode cX12_strain 1 = .ok (.iload_n 1, 1) := by decide +kernel
theorem dX12_strain_2 : decode cX12_strain 2 = .ok (.invokevirtual 309, 3) := by decide +kernel
theorem dX12_strain_5 : decode cX12_strain 5 = .ok (.ifCond .eq 15, 3) := by decide +kernel
theorem dX12_strain_8 : decode cX12_strain 8 = .ok (.iload_n 2, 1) := by decide +kernel
theorem dX12_strain_9 : decode cX12_strain 9 = .ok (.i2l, 1) := by decide +kernel
theorem dX12_strain_10 : decode cX12_strain 10 = .ok (.lconst 0, 1) := by decide +kernel
theorem dX12_strain_11 : decode cX12_strain 11 = .ok (.ldc2_w 370, 3) := by decide +kernel
theorem dX12_strain_14 : decode cX12_strain 14 = .ok (.invokestatic 337, 3) := by decide +kernel
theorem dX12_strain_17 : decode cX12_strain 17 = .ok (.ifCond .ne 9, 3) := by decide +kernel
theorem dX12_strain_20 : decode cX12_strain 20 = .ok (.aload_n 0, 1) := by decide +kernel
theorem dX12_strain_21 : decode cX12_strain 21 = .ok (.iconst 1, 1) := by decide +kernel
theorem dX12_strain_22 : decode cX12_strain 22 = .ok (.invokevirtual 98, 3) := by decide +kernel
theorem dX12_strain_25 : decode cX12_strain 25 = .ok (.ireturn, 1) := by decide +kernel
theorem dX12_strain_26 : decode cX12_strain 26 = .ok (.aload_n 0, 1) := by decide +kernel
theorem dX12_strain_27 : decode cX12_strain 27 = .ok (.getfield 7, 3) := by decide +kernel
theorem dX12_strain_30 : decode cX12_strain 30 = .ok (.bipush 102, 2) := by decide +kernel
theorem dX12_strain_32 : decode cX12_strain 32 = .ok (.iconst 2, 1) := by decide +kernel
theorem dX12_strain_33 : decode cX12_strain 33 = .ok (.iload_n 1, 1) := by decide +kernel
theorem dX12_strain_34 : decode cX12_strain 34 = .ok (.imul, 1) := by decide +kernel
theorem dX12_strain_35 : decode cX12_strain 35 = .ok (.iadd, 1) := by decide +kernel
theorem dX12_strain_36 : decode cX12_strain 36 = .ok (.iload_n 2, 1) := by decide +kernel
theorem dX12_strain_37 : decode cX12_strain 37 = .ok (.iastore, 1) := by decide +kernel
theorem dX12_strain_38 : decode cX12_strain 38 = .ok (.aload_n 0, 1) := by decide +kernel
theorem dX12_strain_39 : decode cX12_strain 39 = .ok (.iconst 0, 1) := by decide +kernel
theorem dX12_strain_40 : decode cX12_strain 40 = .ok (.invokevirtual 98, 3) := by decide +kernel
theorem dX12_strain_43 : decode cX12_strain 43 = .ok (.ireturn, 1) := by decide +kernel
set_option maxRecDepth 100000 in
set_option maxHeartbeats 8000000 in
theorem c_X12_strain (l : Launch) (D : va_G) (cA : Nat → ClassId) (q aK aV : Nat → Nat) (hq : injG 20 q) {a1 : Int32} {a2 : Int32} {M M0 : Mem} {r0 : Int32} (h : f_X12_strain a1 a2 M = some (r0, M0)) : Met l yX12_strain (.code yX12_strain cX12_strain 3 (some .boolean) :: BW) ({ frames := 2, cells := 0, slots := 0, locals := 42 } : Room) (va_Pc [.ref (q 0), .int a1, .int a2] (CB 20 (ceR cA q) D cA q aK aV M)) (Qi 20 (ceR cA q) D q r0 M0) 0 0 (AqG 20 q) := by
  refine gMet RX12 (by decide +kernel) rfl hq (Nat.le_of_ble_eq_true rfl) ?_
  intro p e s m below meth c ls X hr hk hP hS hl
  have hx := X.1
  have hb := X.2.1
  have hl : lv_has ls 3 [(0, .ref (q 0)), (1, .int a1), (2, .int a2)] := hl
  rw [f_X12_strain] at h
  refine lv_aload_n hx hb dX12_strain_0 rfl (lv_at hl 0 rfl) ?_
  refine lv_iload_n hx hb dX12_strain_1 rfl (lv_at hl 1 rfl) ?_
  obtain ⟨r1, M2, hc3, h⟩ := bnd_inv h
  refine gV_i (As := [.int a1]) X hP hS hl.1 (c_X12_isReader l D cA q aK aV hq hc3) sf_X12_isReader bw_1723 sv_X12_isReader (rcR_12 sR_0) rfl ⟨rfl, rfl⟩ ⟨Nat.le_of_ble_eq_true rfl, Nat.le_of_ble_eq_true rfl⟩ rfl rfl (Nat.le_of_ble_eq_true rfl) dX12_strain_2 (fun H locs hP hS => ?_)
  refine lv_if_eq (tgt := 20) hx hb dX12_strain_5 (by decide) (fun c4 => ?_) (fun c4 => ?_)
  · rw [if_pos c4] at h
    refine lv_aload_n hx hb dX12_strain_20 rfl (lv_at hl 0 rfl) ?_
    refine lv_iconst (v := 1) hx hb dX12_strain_21 (by decide) ?_
    obtain ⟨r5, M6, hc7, h⟩ := bnd_inv h
    refine gV_i (As := [.int (1 : Int32)]) X hP hS hl.1 (c_X12_is l D cA q aK aV hq hc7) sf_X12_is bw_1470 sv_X12_is (rcR_12 sR_0) rfl ⟨rfl, rfl⟩ ⟨Nat.le_of_ble_eq_true rfl, Nat.le_of_ble_eq_true rfl⟩ rfl rfl (Nat.le_of_ble_eq_true rfl) dX12_strain_22 (fun H locs hP hS => ?_)
    obtain ⟨g8, h⟩ := gd_inv h
    exact end_z X hr hk hP hS (Decidable.not_not.mp g8) h dX12_strain_25
  · rw [if_neg c4] at h
    refine lv_iload_n hx hb dX12_strain_8 rfl (lv_at hl 2 rfl) ?_
    refine lv_i2l hx hb dX12_strain_9 rfl ?_
    refine lv_lconst (v := 0) hx hb dX12_strain_10 (by decide) ?_
    refine lv_ldc2 hx hb X.2.2.2.1 (X.2.2.2.2.1 _ bw_1859) dX12_strain_11 ?_
    obtain ⟨r9, M10, hc11, h⟩ := bnd_inv h
    refine gS_i (As := [.long (a2.toInt64), .long (0 : Int64), .long (16 : Int64)]) X hP hS hl.1 (c_X12_isFrom l D cA q aK aV hq hc11) sf_X12_isFrom bw_1767 ss_X12_isFrom ⟨rfl, rfl⟩ ⟨Nat.le_of_ble_eq_true rfl, Nat.le_of_ble_eq_true rfl⟩ rfl rfl (Nat.le_of_ble_eq_true rfl) dX12_strain_14 (fun H locs hP hS => ?_)
    refine lv_if_ne (tgt := 26) hx hb dX12_strain_17 (by decide) (fun c12 => ?_) (fun c12 => ?_)
    · rw [if_neg c12] at h
      refine lv_aload_n hx hb dX12_strain_26 rfl (lv_at hl 0 rfl) ?_
      refine gfR_12_0 X hP sR_0 bw_1323 dX12_strain_27 ?_
      refine lv_bipush (v := 102) hx hb dX12_strain_30 (by decide) ?_
      refine lv_iconst (v := 2) hx hb dX12_strain_32 (by decide) ?_
      refine lv_iload_n hx hb dX12_strain_33 rfl (lv_at hl 1 rfl) ?_
      refine lv_imul hx hb dX12_strain_34 ?_
      refine lv_iadd hx hb dX12_strain_35 ?_
      refine lv_iload_n hx hb dX12_strain_36 rfl (lv_at hl 2 rfl) ?_
      obtain ⟨g13, h⟩ := gd_inv h
      obtain ⟨M14, eM14, h⟩ := lt_inv h
      refine stR_ia X hP hS sR_1 zR_1 g13 eM14 dX12_strain_37 (fun H locs hP hS => ?_)
      refine lv_aload_n hx hb dX12_strain_38 rfl (lv_at hl 0 rfl) ?_
      refine lv_iconst (v := 0) hx hb dX12_strain_39 (by decide) ?_
      obtain ⟨r15, M16, hc17, h⟩ := bnd_inv h
      refine gV_i (As := [.int (0 : Int32)]) X hP hS hl.1 (c_X12_is l D cA q aK aV hq hc17) sf_X12_is bw_1470 sv_X12_is (rcR_12 sR_0) rfl ⟨rfl, rfl⟩ ⟨Nat.le_of_ble_eq_true rfl, Nat.le_of_ble_eq_true rfl⟩ rfl rfl (Nat.le_of_ble_eq_true rfl) dX12_strain_40 (fun H locs hP hS => ?_)
      obtain ⟨g18, h⟩ := gd_inv h
      exact end_z X hr hk hP hS (Decidable.not_not.mp g18) h dX12_strain_43
    · rw [if_pos c12] at h
      refine lv_aload_n hx hb dX12_strain_20 rfl (lv_at hl 0 rfl) ?_
      refine lv_iconst (v := 1) hx hb dX12_strain_21 (by decide) ?_
      obtain ⟨r19, M20, hc21, h⟩ := bnd_inv h
      refine gV_i (As := [.int (1 : Int32)]) X hP hS hl.1 (c_X12_is l D cA q aK aV hq hc21) sf_X12_is bw_1470 sv_X12_is (rcR_12 sR_0) rfl ⟨rfl, rfl⟩ ⟨Nat.le_of_ble_eq_true rfl, Nat.le_of_ble_eq_true rfl⟩ rfl rfl (Nat.le_of_ble_eq_true rfl) dX12_strain_22 (fun H locs hP hS => ?_)
      obtain ⟨g22, h⟩ := gd_inv h
      exact end_z X hr hk hP hS (Decidable.not_not.mp g22) h dX12_strain_25
theorem dX12_levelAt_0 : decode cX12_levelAt 0 = .ok (.sipush 3012, 3) := by decide +kernel
theorem dX12_levelAt_3 : decode cX12_levelAt 3 = .ok (.sipush 134, 3) := by decide +kernel
theorem dX12_levelAt_6 : decode cX12_levelAt 6 = .ok (.iload_n 0, 1) := by decide +kernel
theorem dX12_levelAt_7 : decode cX12_levelAt 7 = .ok (.imul, 1) := by decide +kernel
theorem dX12_levelAt_8 : decode cX12_levelAt 8 = .ok (.iadd, 1) := by decide +kernel
theorem dX12_levelAt_9 : decode cX12_levelAt 9 = .ok (.ireturn, 1) := by decide +kernel
set_option maxRecDepth 100000 in
set_option maxHeartbeats 8000000 in
theorem c_X12_levelAt (l : Launch) (D : va_G) (cA : Nat → ClassId) (q aK aV : Nat → Nat) (hq : injG 20 q) {a0 : Int32} {M M0 : Mem} {r0 : Int32} (h : f_X12_levelAt a0 M = some (r0, M0)) : Met l yX12_levelAt (.code yX12_levelAt cX12_levelAt 1 (some .int) :: BW) ({ frames := 1, cells := 0, slots := 0, locals := 12 } : Room) (va_Pc [.int a0] (CB 20 (ceR cA q) D cA q aK aV M)) (Qi 20 (ceR cA q) D q r0 M0) 0 0 (AqG 20 q) := by
  refine gMet RX12 (by decide +kernel) rfl hq (Nat.le_of_ble_eq_true rfl) ?_
  intro p e s m below meth c ls X hr hk hP hS hl
  have hx := X.1
  have hb := X.2.1
  have hl : lv_has ls 1 [(0, .int a0)] := hl
  rw [f_X12_levelAt] at h
  refine lv_sipush (v := 3012) hx hb dX12_levelAt_0 (by decide) ?_
  refine lv_sipush (v := 134) hx hb dX12_levelAt_3 (by decide) ?_
  refine lv_iload_n hx hb dX12_levelAt_6 rfl (lv_at hl 0 rfl) ?_
  refine lv_imul hx hb dX12_levelAt_7 ?_
  refine lv_iadd hx hb dX12_levelAt_8 ?_
  exact end_i X hr hk hP hS h dX12_levelAt_9
theorem dX12_keeps_0 : decode cX12_keeps 0 = .ok (.iconst 0, 1) := by decide +kernel
theorem dX12_keeps_1 : decode cX12_keeps 1 = .ok (.istore_n 2, 1) := by decide +kernel
theorem dX12_keeps_2 : decode cX12_keeps 2 = .ok (.iload_n 2, 1) := by decide +kernel
theorem dX12_keeps_3 : decode cX12_keeps 3 = .ok (.sipush 134, 3) := by decide +kernel
theorem dX12_keeps_6 : decode cX12_keeps 6 = .ok (.if_icmp .ge 23, 3) := by decide +kernel
theorem dX12_keeps_9 : decode cX12_keeps 9 = .ok (.aload_n 0, 1) := by decide +kernel
theorem dX12_keeps_10 : decode cX12_keeps 10 = .ok (.getfield 7, 3) := by decide +kernel
theorem dX12_keeps_13 : decode cX12_keeps 13 = .ok (.iload_n 1, 1) := by decide +kernel
theorem dX12_keeps_14 : decode cX12_keeps 14 = .ok (.iload_n 2, 1) := by decide +kernel
theorem dX12_keeps_15 : decode cX12_keeps 15 = .ok (.iadd, 1) := by decide +kernel
theorem dX12_keeps_16 : decode cX12_keeps 16 = .ok (.aload_n 0, 1) := by decide +kernel
theorem dX12_keeps_17 : decode cX12_keeps 17 = .ok (.getfield 7, 3) := by decide +kernel
theorem dX12_keeps_20 : decode cX12_keeps 20 = .ok (.iload_n 2, 1) := by decide +kernel
theorem dX12_keeps_21 : decode cX12_keeps 21 = .ok (.iaload, 1) := by decide +kernel
theorem dX12_keeps_22 : decode cX12_keeps 22 = .ok (.iastore, 1) := by decide +kernel
theorem dX12_keeps_23 : decode cX12_keeps 23 = .ok (.iinc 2 1, 3) := by decide +kernel
theorem dX12_keeps_26 : decode cX12_keeps 26 = .ok (.goto (-24), 3) := by decide +kernel
theorem dX12_keeps_29 : decode cX12_keeps 29 = .ok (.return_, 1) := by decide +kernel
set_option maxRecDepth 100000 in
set_option maxHeartbeats 8000000 in
theorem c_X12_keeps (l : Launch) (D : va_G) (cA : Nat → ClassId) (q aK aV : Nat → Nat) (hq : injG 20 q) {a1 : Int32} {M M0 : Mem} (h : f_X12_keeps a1 M = some ((), M0)) : Met l yX12_keeps (.code yX12_keeps cX12_keeps 3 none :: BW) ({ frames := 1, cells := 0, slots := 0, locals := 14 } : Room) (va_Pc [.ref (q 0), .int a1] (CB 20 (ceR cA q) D cA q aK aV M)) (Qv 20 (ceR cA q) D q M0) 0 0 (AqG 20 q) := by
  refine gMet RX12 (by decide +kernel) rfl hq (Nat.le_of_ble_eq_true rfl) ?_
  intro p e s m below meth c ls X hr hk hP hS hl
  have hx := X.1
  have hb := X.2.1
  have hl : lv_has ls 3 [(0, .ref (q 0)), (1, .int a1)] := hl
  rw [f_X12_keeps] at h
  have hL2 : ∀ (fu : Nat) (b2 : Int32) (M : Mem) (res : (Unit) × Mem) (H : Heap) (locs : List Loc) (ls : Array Slot), f_X12_keeps_L2 a1 fu b2 M = some res → va_P D vwCl (wsG 20 (ceR cA q) q M) H → va_S (AqG 20 q) s.heap H locs → lv_has ls 3 [(0, .ref (q 0)), (1, .int a1), (2, .int b2)] → (∀ (H : Heap) (locs : List Loc) (ls : Array Slot), va_P D vwCl (wsG 20 (ceR cA q) q res.2) H → va_S (AqG 20 q) s.heap H locs → lv_has ls 3 [] → W p l e ({ frames := 1, cells := 0, slots := 0, locals := 14 } : Room) s m [.ref (q 0), .int a1].toArray below meth c H locs 0 0 (MQ below (Qv 20 (ceR cA q) D q M0) [.ref (q 0), .int a1].toArray s 0 0 (AqG 20 q)) (F0 m 29 ls [])) → W p l e ({ frames := 1, cells := 0, slots := 0, locals := 14 } : Room) s m [.ref (q 0), .int a1].toArray below meth c H locs 0 0 (MQ below (Qv 20 (ceR cA q) D q M0) [.ref (q 0), .int a1].toArray s 0 0 (AqG 20 q)) (F0 m 2 ls []) := by
    intro fu
    induction fu with
    | zero => intro b2 M res H locs ls h; exact absurd h (by simp [f_X12_keeps_L2])
    | succ fu ih =>
      intro b2 M res H locs ls h hP hS hl K2_0
      rw [f_X12_keeps_L2] at h
      refine lv_iload_n hx hb dX12_keeps_2 rfl (lv_at hl 2 rfl) ?_
      refine lv_sipush (v := 134) hx hb dX12_keeps_3 (by decide) ?_
      refine lv_icmp_ge (tgt := 29) hx hb dX12_keeps_6 (by decide) (fun c4 => ?_) (fun c4 => ?_)
      · rw [if_pos c4] at h
        cases h
        exact K2_0 _ _ _ hP hS (lv_sub hl [] rfl)
      · rw [if_neg c4] at h
        refine lv_aload_n hx hb dX12_keeps_9 rfl (lv_at hl 0 rfl) ?_
        refine gfR_12_0 X hP sR_0 bw_1323 dX12_keeps_10 ?_
        refine lv_iload_n hx hb dX12_keeps_13 rfl (lv_at hl 1 rfl) ?_
        refine lv_iload_n hx hb dX12_keeps_14 rfl (lv_at hl 2 rfl) ?_
        refine lv_iadd hx hb dX12_keeps_15 ?_
        refine lv_aload_n hx hb dX12_keeps_16 rfl (lv_at hl 0 rfl) ?_
        refine gfR_12_0 X hP sR_0 bw_1323 dX12_keeps_17 ?_
        refine lv_iload_n hx hb dX12_keeps_20 rfl (lv_at hl 2 rfl) ?_
        obtain ⟨g5, h⟩ := gd_inv h
        refine ldR_ia X hP sR_1 zR_1 g5 dX12_keeps_21 ?_
        obtain ⟨g6, h⟩ := gd_inv h
        obtain ⟨M7, eM7, h⟩ := lt_inv h
        refine stR_ia X hP hS sR_1 zR_1 g6 eM7 dX12_keeps_22 (fun H locs hP hS => ?_)
        obtain ⟨y8, ey8, h⟩ := lt_inv h
        refine lv_iinc (v := y8) (lv' := [(2, .int y8), (0, .ref (q 0)), (1, .int a1)]) hx hb dX12_keeps_23 hl (k := 2) rfl (by rw [ey8]; rfl) (by decide) rfl (fun ls hl => ?_)
        refine lv_goto (tgt := 2) hx hb dX12_keeps_26 (by decide) ?_
        exact ih _ _ res _ _ _ h hP hS (lv_sub hl [1, 2, 0] rfl) K2_0
  refine lv_iconst (v := 0) hx hb dX12_keeps_0 (by decide) ?_
  refine lv_istore_n (lv' := [(2, .int (0 : Int32)), (0, .ref (q 0)), (1, .int a1)]) hx hb dX12_keeps_1 rfl hl (by decide) rfl (fun ls hl => ?_)
  obtain ⟨s1, M2, hc3, h⟩ := bnd_inv h
  try dsimp only at h
  refine hL2  fz _ _ _ _ _ _ hc3 hP hS (lv_sub hl [1, 2, 0] rfl) (fun H locs ls hP hS hl => ?_)
  have hl : lv_has ls 3 [] := hl
  exact end_v X hr hk hP hS h dX12_keeps_29
theorem dX12_restores_0 : decode cX12_restores 0 = .ok (.iconst 0, 1) := by decide +kernel
theorem dX12_restores_1 : decode cX12_restores 1 = .ok (.istore_n 2, 1) := by decide +kernel
theorem dX12_restores_2 : decode cX12_restores 2 = .ok (.iload_n 2, 1) := by decide +kernel
theorem dX12_restores_3 : decode cX12_restores 3 = .ok (.sipush 134, 3) := by decide +kernel
theorem dX12_restores_6 : decode cX12_restores 6 = .ok (.if_icmp .ge 23, 3) := by decide +kernel
theorem dX12_restores_9 : decode cX12_restores 9 = .ok (.aload_n 0, 1) := by decide +kernel
theorem dX12_restores_10 : decode cX12_restores 10 = .ok (.getfield 7, 3) := by decide +kernel
theorem dX12_restores_13 : decode cX12_restores 13 = .ok (.iload_n 2, 1) := by decide +kernel
theorem dX12_restores_14 : decode cX12_restores 14 = .ok (.aload_n 0, 1) := by decide +kernel
theorem dX12_restores_15 : decode cX12_restores 15 = .ok (.getfield 7, 3) := by decide +kernel
theorem dX12_restores_18 : decode cX12_restores 18 = .ok (.iload_n 1, 1) := by decide +kernel
theorem dX12_restores_19 : decode cX12_restores 19 = .ok (.iload_n 2, 1) := by decide +kernel
theorem dX12_restores_20 : decode cX12_restores 20 = .ok (.iadd, 1) := by decide +kernel
theorem dX12_restores_21 : decode cX12_restores 21 = .ok (.iaload, 1) := by decide +kernel
theorem dX12_restores_22 : decode cX12_restores 22 = .ok (.iastore, 1) := by decide +kernel
theorem dX12_restores_23 : decode cX12_restores 23 = .ok (.iinc 2 1, 3) := by decide +kernel
theorem dX12_restores_26 : decode cX12_restores 26 = .ok (.goto (-24), 3) := by decide +kernel
theorem dX12_restores_29 : decode cX12_restores 29 = .ok (.return_, 1) := by decide +kernel
set_option maxRecDepth 100000 in
set_option maxHeartbeats 8000000 in
theorem c_X12_restores (l : Launch) (D : va_G) (cA : Nat → ClassId) (q aK aV : Nat → Nat) (hq : injG 20 q) {a1 : Int32} {M M0 : Mem} (h : f_X12_restores a1 M = some ((), M0)) : Met l yX12_restores (.code yX12_restores cX12_restores 3 none :: BW) ({ frames := 1, cells := 0, slots := 0, locals := 14 } : Room) (va_Pc [.ref (q 0), .int a1] (CB 20 (ceR cA q) D cA q aK aV M)) (Qv 20 (ceR cA q) D q M0) 0 0 (AqG 20 q) := by
  refine gMet RX12 (by decide +kernel) rfl hq (Nat.le_of_ble_eq_true rfl) ?_
  intro p e s m below meth c ls X hr hk hP hS hl
  have hx := X.1
  have hb := X.2.1
  have hl : lv_has ls 3 [(0, .ref (q 0)), (1, .int a1)] := hl
  rw [f_X12_restores] at h
  have hL2 : ∀ (fu : Nat) (b2 : Int32) (M : Mem) (res : (Unit) × Mem) (H : Heap) (locs : List Loc) (ls : Array Slot), f_X12_restores_L2 a1 fu b2 M = some res → va_P D vwCl (wsG 20 (ceR cA q) q M) H → va_S (AqG 20 q) s.heap H locs → lv_has ls 3 [(0, .ref (q 0)), (1, .int a1), (2, .int b2)] → (∀ (H : Heap) (locs : List Loc) (ls : Array Slot), va_P D vwCl (wsG 20 (ceR cA q) q res.2) H → va_S (AqG 20 q) s.heap H locs → lv_has ls 3 [] → W p l e ({ frames := 1, cells := 0, slots := 0, locals := 14 } : Room) s m [.ref (q 0), .int a1].toArray below meth c H locs 0 0 (MQ below (Qv 20 (ceR cA q) D q M0) [.ref (q 0), .int a1].toArray s 0 0 (AqG 20 q)) (F0 m 29 ls [])) → W p l e ({ frames := 1, cells := 0, slots := 0, locals := 14 } : Room) s m [.ref (q 0), .int a1].toArray below meth c H locs 0 0 (MQ below (Qv 20 (ceR cA q) D q M0) [.ref (q 0), .int a1].toArray s 0 0 (AqG 20 q)) (F0 m 2 ls []) := by
    intro fu
    induction fu with
    | zero => intro b2 M res H locs ls h; exact absurd h (by simp [f_X12_restores_L2])
    | succ fu ih =>
      intro b2 M res H locs ls h hP hS hl K2_0
      rw [f_X12_restores_L2] at h
      refine lv_iload_n hx hb dX12_restores_2 rfl (lv_at hl 2 rfl) ?_
      refine lv_sipush (v := 134) hx hb dX12_restores_3 (by decide) ?_
      refine lv_icmp_ge (tgt := 29) hx hb dX12_restores_6 (by decide) (fun c4 => ?_) (fun c4 => ?_)
      · rw [if_pos c4] at h
        cases h
        exact K2_0 _ _ _ hP hS (lv_sub hl [] rfl)
      · rw [if_neg c4] at h
        refine lv_aload_n hx hb dX12_restores_9 rfl (lv_at hl 0 rfl) ?_
        refine gfR_12_0 X hP sR_0 bw_1323 dX12_restores_10 ?_
        refine lv_iload_n hx hb dX12_restores_13 rfl (lv_at hl 2 rfl) ?_
        refine lv_aload_n hx hb dX12_restores_14 rfl (lv_at hl 0 rfl) ?_
        refine gfR_12_0 X hP sR_0 bw_1323 dX12_restores_15 ?_
        refine lv_iload_n hx hb dX12_restores_18 rfl (lv_at hl 1 rfl) ?_
        refine lv_iload_n hx hb dX12_restores_19 rfl (lv_at hl 2 rfl) ?_
        refine lv_iadd hx hb dX12_restores_20 ?_
        obtain ⟨g5, h⟩ := gd_inv h
        refine ldR_ia X hP sR_1 zR_1 g5 dX12_restores_21 ?_
        obtain ⟨g6, h⟩ := gd_inv h
        obtain ⟨M7, eM7, h⟩ := lt_inv h
        refine stR_ia X hP hS sR_1 zR_1 g6 eM7 dX12_restores_22 (fun H locs hP hS => ?_)
        obtain ⟨y8, ey8, h⟩ := lt_inv h
        refine lv_iinc (v := y8) (lv' := [(2, .int y8), (0, .ref (q 0)), (1, .int a1)]) hx hb dX12_restores_23 hl (k := 2) rfl (by rw [ey8]; rfl) (by decide) rfl (fun ls hl => ?_)
        refine lv_goto (tgt := 2) hx hb dX12_restores_26 (by decide) ?_
        exact ih _ _ res _ _ _ h hP hS (lv_sub hl [1, 2, 0] rfl) K2_0
  refine lv_iconst (v := 0) hx hb dX12_restores_0 (by decide) ?_
  refine lv_istore_n (lv' := [(2, .int (0 : Int32)), (0, .ref (q 0)), (1, .int a1)]) hx hb dX12_restores_1 rfl hl (by decide) rfl (fun ls hl => ?_)
  obtain ⟨s1, M2, hc3, h⟩ := bnd_inv h
  try dsimp only at h
  refine hL2  fz _ _ _ _ _ _ hc3 hP hS (lv_sub hl [1, 2, 0] rfl) (fun H locs ls hP hS hl => ?_)
  have hl : lv_has ls 3 [] := hl
  exact end_v X hr hk hP hS h dX12_restores_29
theorem dX12_freeIn_0 : decode cX12_freeIn 0 = .ok (.iload_n 1, 1) := by decide +kernel
theorem dX12_freeIn_1 : decode cX12_freeIn 1 = .ok (.i2l, 1) := by decide +kernel
theorem dX12_freeIn_2 : decode cX12_freeIn 2 = .ok (.lconst 0, 1) := by decide +kernel
theorem dX12_freeIn_3 : decode cX12_freeIn 3 = .ok (.ldc2_w 372, 3) := by decide +kernel
theorem dX12_freeIn_6 : decode cX12_freeIn 6 = .ok (.invokestatic 337, 3) := by decide +kernel
theorem dX12_freeIn_9 : decode cX12_freeIn 9 = .ok (.ifCond .ne 9, 3) := by decide +kernel
theorem dX12_freeIn_12 : decode cX12_freeIn 12 = .ok (.aload_n 0, 1) := by decide +kernel
theorem dX12_freeIn_13 : decode cX12_freeIn 13 = .ok (.iconst 1, 1) := by decide +kernel
theorem dX12_freeIn_14 : decode cX12_freeIn 14 = .ok (.invokevirtual 91, 3) := by decide +kernel
theorem dX12_freeIn_17 : decode cX12_freeIn 17 = .ok (.ireturn, 1) := by decide +kernel
theorem dX12_freeIn_18 : decode cX12_freeIn 18 = .ok (.aload_n 0, 1) := by decide +kernel
theorem dX12_freeIn_19 : decode cX12_freeIn 19 = .ok (.sipush 3012, 3) := by decide +kernel
theorem dX12_freeIn_22 : decode cX12_freeIn 22 = .ok (.invokevirtual 374, 3) := by decide +kernel
theorem dX12_freeIn_25 : decode cX12_freeIn 25 = .ok (.iconst 0, 1) := by decide +kernel
theorem dX12_freeIn_26 : decode cX12_freeIn 26 = .ok (.istore_n 2, 1) := by decide +kernel
theorem dX12_freeIn_27 : decode cX12_freeIn 27 = .ok (.iload_n 2, 1) := by decide +kernel
theorem dX12_freeIn_28 : decode cX12_freeIn 28 = .ok (.iload_n 1, 1) := by decide +kernel
theorem dX12_freeIn_29 : decode cX12_freeIn 29 = .ok (.if_icmp .ge 14, 3) := by decide +kernel
theorem dX12_freeIn_32 : decode cX12_freeIn 32 = .ok (.aload_n 0, 1) := by decide +kernel
theorem dX12_freeIn_33 : decode cX12_freeIn 33 = .ok (.invokevirtual 350, 3) := by decide +kernel
theorem dX12_freeIn_36 : decode cX12_freeIn 36 = .ok (.pop, 1) := by decide +kernel
theorem dX12_freeIn_37 : decode cX12_freeIn 37 = .ok (.iinc 2 1, 3) := by decide +kernel
theorem dX12_freeIn_40 : decode cX12_freeIn 40 = .ok (.goto (-13), 3) := by decide +kernel
theorem dX12_freeIn_43 : decode cX12_freeIn 43 = .ok (.aload_n 0, 1) := by decide +kernel
theorem dX12_freeIn_44 : decode cX12_freeIn 44 = .ok (.iconst 1, 1) := by decide +kernel
theorem dX12_freeIn_45 : decode cX12_freeIn 45 = .ok (.invokevirtual 290, 3) := by decide +kernel
theorem dX12_freeIn_48 : decode cX12_freeIn 48 = .ok (.istore_n 2, 1) := by decide +kernel
theorem dX12_freeIn_49 : decode cX12_freeIn 49 = .ok (.aload_n 0, 1) := by decide +kernel
theorem dX12_freeIn_50 : decode cX12_freeIn 50 = .ok (.sipush 3012, 3) := by decide +kernel
theorem dX12_freeIn_53 : decode cX12_freeIn 53 = .ok (.invokevirtual 377, 3) := by decide +kernel
theorem dX12_freeIn_56 : decode cX12_freeIn 56 = .ok (.aload_n 0, 1) := by decide +kernel
theorem dX12_freeIn_57 : decode cX12_freeIn 57 = .ok (.iload_n 2, 1) := by decide +kernel
theorem dX12_freeIn_58 : decode cX12_freeIn 58 = .ok (.invokevirtual 95, 3) := by decide +kernel
theorem dX12_freeIn_61 : decode cX12_freeIn 61 = .ok (.ireturn, 1) := by decide +kernel
set_option maxRecDepth 100000 in
set_option maxHeartbeats 8000000 in
theorem c_X12_freeIn (l : Launch) (D : va_G) (cA : Nat → ClassId) (q aK aV : Nat → Nat) (hq : injG 20 q) {a1 : Int32} {M M0 : Mem} {r0 : Int32} (h : f_X12_freeIn a1 M = some (r0, M0)) : Met l yX12_freeIn (.code yX12_freeIn cX12_freeIn 3 (some .int) :: BW) ({ frames := 9, cells := 0, slots := 0, locals := 198 } : Room) (va_Pc [.ref (q 0), .int a1] (CB 20 (ceR cA q) D cA q aK aV M)) (Qi 20 (ceR cA q) D q r0 M0) 0 0 (AqG 20 q) := by
  refine gMet RX12 (by decide +kernel) rfl hq (Nat.le_of_ble_eq_true rfl) ?_
  intro p e s m below meth c ls X hr hk hP hS hl
  have hx := X.1
  have hb := X.2.1
  have hl : lv_has ls 3 [(0, .ref (q 0)), (1, .int a1)] := hl
  rw [f_X12_freeIn] at h
  have hL27 : ∀ (fu : Nat) (b2 : Int32) (M : Mem) (res : (Unit) × Mem) (H : Heap) (locs : List Loc) (ls : Array Slot), f_X12_freeIn_L27 a1 fu b2 M = some res → va_P D vwCl (wsG 20 (ceR cA q) q M) H → va_S (AqG 20 q) s.heap H locs → lv_has ls 3 [(0, .ref (q 0)), (1, .int a1), (2, .int b2)] → (∀ (H : Heap) (locs : List Loc) (ls : Array Slot), va_P D vwCl (wsG 20 (ceR cA q) q res.2) H → va_S (AqG 20 q) s.heap H locs → lv_has ls 3 [(0, .ref (q 0))] → W p l e ({ frames := 9, cells := 0, slots := 0, locals := 198 } : Room) s m [.ref (q 0), .int a1].toArray below meth c H locs 0 0 (MQ below (Qi 20 (ceR cA q) D q r0 M0) [.ref (q 0), .int a1].toArray s 0 0 (AqG 20 q)) (F0 m 43 ls [])) → W p l e ({ frames := 9, cells := 0, slots := 0, locals := 198 } : Room) s m [.ref (q 0), .int a1].toArray below meth c H locs 0 0 (MQ below (Qi 20 (ceR cA q) D q r0 M0) [.ref (q 0), .int a1].toArray s 0 0 (AqG 20 q)) (F0 m 27 ls []) := by
    intro fu
    induction fu with
    | zero => intro b2 M res H locs ls h; exact absurd h (by simp [f_X12_freeIn_L27])
    | succ fu ih =>
      intro b2 M res H locs ls h hP hS hl K27_0
      rw [f_X12_freeIn_L27] at h
      refine lv_iload_n hx hb dX12_freeIn_27 rfl (lv_at hl 2 rfl) ?_
      refine lv_iload_n hx hb dX12_freeIn_28 rfl (lv_at hl 1 rfl) ?_
      refine lv_icmp_ge (tgt := 43) hx hb dX12_freeIn_29 (by decide) (fun c23 => ?_) (fun c23 => ?_)
      · rw [if_pos c23] at h
        cases h
        exact K27_0 _ _ _ hP hS (lv_sub hl [0] rfl)
      · rw [if_neg c23] at h
        refine lv_aload_n hx hb dX12_freeIn_32 rfl (lv_at hl 0 rfl) ?_
        obtain ⟨r24, M25, hc26, h⟩ := bnd_inv h
        refine gV_i (As := []) X hP hS hl.1 (c_X12_terms l D cA q aK aV hq hc26) sf_X12_terms bw_1801 sv_X12_terms (rcR_12 sR_0) rfl ⟨rfl, rfl⟩ ⟨Nat.le_of_ble_eq_true rfl, Nat.le_of_ble_eq_true rfl⟩ rfl rfl (Nat.le_of_ble_eq_true rfl) dX12_freeIn_33 (fun H locs hP hS => ?_)
        refine lv_pop hx hb dX12_freeIn_36 rfl ?_
        obtain ⟨y27, ey27, h⟩ := lt_inv h
        refine lv_iinc (v := y27) (lv' := [(2, .int y27), (0, .ref (q 0)), (1, .int a1)]) hx hb dX12_freeIn_37 hl (k := 2) rfl (by rw [ey27]; rfl) (by decide) rfl (fun ls hl => ?_)
        refine lv_goto (tgt := 27) hx hb dX12_freeIn_40 (by decide) ?_
        exact ih _ _ res _ _ _ h hP hS (lv_sub hl [1, 2, 0] rfl) K27_0
  refine lv_iload_n hx hb dX12_freeIn_0 rfl (lv_at hl 1 rfl) ?_
  refine lv_i2l hx hb dX12_freeIn_1 rfl ?_
  refine lv_lconst (v := 0) hx hb dX12_freeIn_2 (by decide) ?_
  refine lv_ldc2 hx hb X.2.2.2.1 (X.2.2.2.2.1 _ bw_1864) dX12_freeIn_3 ?_
  obtain ⟨r1, M2, hc3, h⟩ := bnd_inv h
  refine gS_i (As := [.long (a1.toInt64), .long (0 : Int64), .long (40 : Int64)]) X hP hS hl.1 (c_X12_isFrom l D cA q aK aV hq hc3) sf_X12_isFrom bw_1767 ss_X12_isFrom ⟨rfl, rfl⟩ ⟨Nat.le_of_ble_eq_true rfl, Nat.le_of_ble_eq_true rfl⟩ rfl rfl (Nat.le_of_ble_eq_true rfl) dX12_freeIn_6 (fun H locs hP hS => ?_)
  refine lv_if_ne (tgt := 18) hx hb dX12_freeIn_9 (by decide) (fun c4 => ?_) (fun c4 => ?_)
  · rw [if_neg c4] at h
    refine lv_aload_n hx hb dX12_freeIn_18 rfl (lv_at hl 0 rfl) ?_
    refine lv_sipush (v := 3012) hx hb dX12_freeIn_19 (by decide) ?_
    obtain ⟨_, M6, hc7, h⟩ := bnd_inv h
    refine gV_v (As := [.int (3012 : Int32)]) X hP hS hl.1 (c_X12_keeps l D cA q aK aV hq hc7) sf_X12_keeps bw_1865 sv_X12_keeps (rcR_12 sR_0) rfl ⟨rfl, rfl⟩ ⟨Nat.le_of_ble_eq_true rfl, Nat.le_of_ble_eq_true rfl⟩ rfl rfl (Nat.le_of_ble_eq_true rfl) dX12_freeIn_22 (fun H locs hP hS => ?_)
    refine lv_iconst (v := 0) hx hb dX12_freeIn_25 (by decide) ?_
    refine lv_istore_n (lv' := [(2, .int (0 : Int32)), (0, .ref (q 0)), (1, .int a1)]) hx hb dX12_freeIn_26 rfl hl (by decide) rfl (fun ls hl => ?_)
    obtain ⟨s8, M9, hc10, h⟩ := bnd_inv h
    try dsimp only at h
    refine hL27  fz _ _ _ _ _ _ hc10 hP hS (lv_sub hl [1, 2, 0] rfl) (fun H locs ls hP hS hl => ?_)
    have hl : lv_has ls 3 [(0, .ref (q 0))] := hl
    refine lv_aload_n hx hb dX12_freeIn_43 rfl (lv_at hl 0 rfl) ?_
    refine lv_iconst (v := 1) hx hb dX12_freeIn_44 (by decide) ?_
    obtain ⟨r11, M12, hc13, h⟩ := bnd_inv h
    refine gV_i (As := [.int (1 : Int32)]) X hP hS hl.1 (c_X12_peopleThat l D cA q aK aV hq hc13) sf_X12_peopleThat bw_1679 sv_X12_peopleThat (rcR_12 sR_0) rfl ⟨rfl, rfl⟩ ⟨Nat.le_of_ble_eq_true rfl, Nat.le_of_ble_eq_true rfl⟩ rfl rfl (Nat.le_of_ble_eq_true rfl) dX12_freeIn_45 (fun H locs hP hS => ?_)
    refine lv_istore_n (lv' := [(2, .int r11), (0, .ref (q 0))]) hx hb dX12_freeIn_48 rfl hl (by decide) rfl (fun ls hl => ?_)
    refine lv_aload_n hx hb dX12_freeIn_49 rfl (lv_at hl 1 rfl) ?_
    refine lv_sipush (v := 3012) hx hb dX12_freeIn_50 (by decide) ?_
    obtain ⟨_, M15, hc16, h⟩ := bnd_inv h
    refine gV_v (As := [.int (3012 : Int32)]) X hP hS hl.1 (c_X12_restores l D cA q aK aV hq hc16) sf_X12_restores bw_1869 sv_X12_restores (rcR_12 sR_0) rfl ⟨rfl, rfl⟩ ⟨Nat.le_of_ble_eq_true rfl, Nat.le_of_ble_eq_true rfl⟩ rfl rfl (Nat.le_of_ble_eq_true rfl) dX12_freeIn_53 (fun H locs hP hS => ?_)
    refine lv_aload_n hx hb dX12_freeIn_56 rfl (lv_at hl 1 rfl) ?_
    refine lv_iload_n hx hb dX12_freeIn_57 rfl (lv_at hl 0 rfl) ?_
    obtain ⟨r17, M18, hc19, h⟩ := bnd_inv h
    refine gV_i (As := [.int r11]) X hP hS hl.1 (c_X12_gives l D cA q aK aV hq hc19) sf_X12_gives bw_1639 sv_X12_gives (rcR_12 sR_0) rfl ⟨rfl, rfl⟩ ⟨Nat.le_of_ble_eq_true rfl, Nat.le_of_ble_eq_true rfl⟩ rfl rfl (Nat.le_of_ble_eq_true rfl) dX12_freeIn_58 (fun H locs hP hS => ?_)
    exact end_i X hr hk hP hS h dX12_freeIn_61
  · rw [if_pos c4] at h
    refine lv_aload_n hx hb dX12_freeIn_12 rfl (lv_at hl 0 rfl) ?_
    refine lv_iconst (v := 1) hx hb dX12_freeIn_13 (by decide) ?_
    obtain ⟨r20, M21, hc22, h⟩ := bnd_inv h
    refine gV_i (As := [.int (1 : Int32)]) X hP hS hl.1 (c_X12_refuse l D cA q aK aV hq hc22) sf_X12_refuse bw_1530 sv_X12_refuse (rcR_12 sR_0) rfl ⟨rfl, rfl⟩ ⟨Nat.le_of_ble_eq_true rfl, Nat.le_of_ble_eq_true rfl⟩ rfl rfl (Nat.le_of_ble_eq_true rfl) dX12_freeIn_14 (fun H locs hP hS => ?_)
    exact end_i X hr hk hP hS h dX12_freeIn_17
theorem dX12_judgedIn_0 : decode cX12_judgedIn 0 = .ok (.aload_n 0, 1) := by decide +kernel
theorem dX12_judgedIn_1 : decode cX12_judgedIn 1 = .ok (.iload_n 1, 1) := by decide +kernel
theorem dX12_judgedIn_2 : decode cX12_judgedIn 2 = .ok (.i2l, 1) := by decide +kernel
theorem dX12_judgedIn_3 : decode cX12_judgedIn 3 = .ok (.invokevirtual 305, 3) := by decide +kernel
theorem dX12_judgedIn_6 : decode cX12_judgedIn 6 = .ok (.ifCond .ne 9, 3) := by decide +kernel
theorem dX12_judgedIn_9 : decode cX12_judgedIn 9 = .ok (.aload_n 0, 1) := by decide +kernel
theorem dX12_judgedIn_10 : decode cX12_judgedIn 10 = .ok (.iconst 1, 1) := by decide +kernel
theorem dX12_judgedIn_11 : decode cX12_judgedIn 11 = .ok (.invokevirtual 91, 3) := by decide +kernel
theorem dX12_judgedIn_14 : decode cX12_judgedIn 14 = .ok (.ireturn, 1) := by decide +kernel
theorem dX12_judgedIn_15 : decode cX12_judgedIn 15 = .ok (.aload_n 0, 1) := by decide +kernel
theorem dX12_judgedIn_16 : decode cX12_judgedIn 16 = .ok (.iload_n 1, 1) := by decide +kernel
theorem dX12_judgedIn_17 : decode cX12_judgedIn 17 = .ok (.iconst 2, 1) := by decide +kernel
theorem dX12_judgedIn_18 : decode cX12_judgedIn 18 = .ok (.invokevirtual 281, 3) := by decide +kernel
theorem dX12_judgedIn_21 : decode cX12_judgedIn 21 = .ok (.ifCond .eq 10, 3) := by decide +kernel
theorem dX12_judgedIn_24 : decode cX12_judgedIn 24 = .ok (.aload_n 0, 1) := by decide +kernel
theorem dX12_judgedIn_25 : decode cX12_judgedIn 25 = .ok (.bipush 7, 2) := by decide +kernel
theorem dX12_judgedIn_27 : decode cX12_judgedIn 27 = .ok (.invokevirtual 91, 3) := by decide +kernel
theorem dX12_judgedIn_30 : decode cX12_judgedIn 30 = .ok (.ireturn, 1) := by decide +kernel
theorem dX12_judgedIn_31 : decode cX12_judgedIn 31 = .ok (.aload_n 0, 1) := by decide +kernel
theorem dX12_judgedIn_32 : decode cX12_judgedIn 32 = .ok (.sipush 3012, 3) := by decide +kernel
theorem dX12_judgedIn_35 : decode cX12_judgedIn 35 = .ok (.invokevirtual 374, 3) := by decide +kernel
theorem dX12_judgedIn_38 : decode cX12_judgedIn 38 = .ok (.iconst 0, 1) := by decide +kernel
theorem dX12_judgedIn_39 : decode cX12_judgedIn 39 = .ok (.istore_n 2, 1) := by decide +kernel
theorem dX12_judgedIn_40 : decode cX12_judgedIn 40 = .ok (.iload_n 2, 1) := by decide +kernel
theorem dX12_judgedIn_41 : decode cX12_judgedIn 41 = .ok (.bipush 40, 2) := by decide +kernel
theorem dX12_judgedIn_43 : decode cX12_judgedIn 43 = .ok (.if_icmp .ge 23, 3) := by decide +kernel
theorem dX12_judgedIn_46 : decode cX12_judgedIn 46 = .ok (.aload_n 0, 1) := by decide +kernel
theorem dX12_judgedIn_47 : decode cX12_judgedIn 47 = .ok (.iload_n 1, 1) := by decide +kernel
theorem dX12_judgedIn_48 : decode cX12_judgedIn 48 = .ok (.iconst 2, 1) := by decide +kernel
theorem dX12_judgedIn_49 : decode cX12_judgedIn 49 = .ok (.invokevirtual 281, 3) := by decide +kernel
theorem dX12_judgedIn_52 : decode cX12_judgedIn 52 = .ok (.ifCond .ne 14, 3) := by decide +kernel
theorem dX12_judgedIn_55 : decode cX12_judgedIn 55 = .ok (.aload_n 0, 1) := by decide +kernel
theorem dX12_judgedIn_56 : decode cX12_judgedIn 56 = .ok (.invokevirtual 350, 3) := by decide +kernel
theorem dX12_judgedIn_59 : decode cX12_judgedIn 59 = .ok (.pop, 1) := by decide +kernel
theorem dX12_judgedIn_60 : decode cX12_judgedIn 60 = .ok (.iinc 2 1, 3) := by decide +kernel
theorem dX12_judgedIn_63 : decode cX12_judgedIn 63 = .ok (.goto (-23), 3) := by decide +kernel
theorem dX12_judgedIn_66 : decode cX12_judgedIn 66 = .ok (.aload_n 0, 1) := by decide +kernel
theorem dX12_judgedIn_67 : decode cX12_judgedIn 67 = .ok (.iload_n 1, 1) := by decide +kernel
theorem dX12_judgedIn_68 : decode cX12_judgedIn 68 = .ok (.iconst 2, 1) := by decide +kernel
theorem dX12_judgedIn_69 : decode cX12_judgedIn 69 = .ok (.invokevirtual 281, 3) := by decide +kernel
theorem dX12_judgedIn_72 : decode cX12_judgedIn 72 = .ok (.ifCond .eq 7, 3) := by decide +kernel
theorem dX12_judgedIn_75 : decode cX12_judgedIn 75 = .ok (.iconst 1, 1) := by decide +kernel
theorem dX12_judgedIn_76 : decode cX12_judgedIn 76 = .ok (.goto 4, 3) := by decide +kernel
theorem dX12_judgedIn_79 : decode cX12_judgedIn 79 = .ok (.iconst 0, 1) := by decide +kernel
theorem dX12_judgedIn_80 : decode cX12_judgedIn 80 = .ok (.istore_n 3, 1) := by decide +kernel
theorem dX12_judgedIn_81 : decode cX12_judgedIn 81 = .ok (.aload_n 0, 1) := by decide +kernel
theorem dX12_judgedIn_82 : decode cX12_judgedIn 82 = .ok (.sipush 3012, 3) := by decide +kernel
theorem dX12_judgedIn_85 : decode cX12_judgedIn 85 = .ok (.invokevirtual 377, 3) := by decide +kernel
theorem dX12_judgedIn_88 : decode cX12_judgedIn 88 = .ok (.iload_n 3, 1) := by decide +kernel
theorem dX12_judgedIn_89 : decode cX12_judgedIn 89 = .ok (.ifCond .eq 11, 3) := by decide +kernel
theorem dX12_judgedIn_92 : decode cX12_judgedIn 92 = .ok (.aload_n 0, 1) := by decide +kernel
theorem dX12_judgedIn_93 : decode cX12_judgedIn 93 = .ok (.iload_n 2, 1) := by decide +kernel
theorem dX12_judgedIn_94 : decode cX12_judgedIn 94 = .ok (.invokevirtual 95, 3) := by decide +kernel
theorem dX12_judgedIn_97 : decode cX12_judgedIn 97 = .ok (.goto 9, 3) := by decide +kernel
theorem dX12_judgedIn_100 : decode cX12_judgedIn 100 = .ok (.aload_n 0, 1) := by decide +kernel
theorem dX12_judgedIn_101 : decode cX12_judgedIn 101 = .ok (.bipush 6, 2) := by decide +kernel
theorem dX12_judgedIn_103 : decode cX12_judgedIn 103 = .ok (.invokevirtual 91, 3) := by decide +kernel
theorem dX12_judgedIn_106 : decode cX12_judgedIn 106 = .ok (.ireturn, 1) := by decide +kernel
set_option maxRecDepth 100000 in
set_option maxHeartbeats 8000000 in
theorem c_X12_judgedIn (l : Launch) (D : va_G) (cA : Nat → ClassId) (q aK aV : Nat → Nat) (hq : injG 20 q) {a1 : Int32} {M M0 : Mem} {r0 : Int32} (h : f_X12_judgedIn a1 M = some (r0, M0)) : Met l yX12_judgedIn (.code yX12_judgedIn cX12_judgedIn 4 (some .int) :: BW) ({ frames := 9, cells := 0, slots := 0, locals := 198 } : Room) (va_Pc [.ref (q 0), .int a1] (CB 20 (ceR cA q) D cA q aK aV M)) (Qi 20 (ceR cA q) D q r0 M0) 0 0 (AqG 20 q) := by
  refine gMet RX12 (by decide +kernel) rfl hq (Nat.le_of_ble_eq_true rfl) ?_
  intro p e s m below meth c ls X hr hk hP hS hl
  have hx := X.1
  have hb := X.2.1
  have hl : lv_has ls 4 [(0, .ref (q 0)), (1, .int a1)] := hl
  rw [f_X12_judgedIn] at h
  have hJ80 : ∀ (b2 : Int32) (s0 : Int32) (M : Mem) (H : Heap) (locs : List Loc) (ls : Array Slot), f_X12_judgedIn_J80 b2 s0 M = some (r0, M0) → va_P D vwCl (wsG 20 (ceR cA q) q M) H → va_S (AqG 20 q) s.heap H locs → lv_has ls 4 [(0, .ref (q 0)), (2, .int b2)] → W p l e ({ frames := 9, cells := 0, slots := 0, locals := 198 } : Room) s m [.ref (q 0), .int a1].toArray below meth c H locs 0 0 (MQ below (Qi 20 (ceR cA q) D q r0 M0) [.ref (q 0), .int a1].toArray s 0 0 (AqG 20 q)) (F0 m 80 ls [.int s0]) := by
    intro b2 s0 M H locs ls h hP hS hl
    rw [f_X12_judgedIn_J80] at h
    refine lv_istore_n (lv' := [(3, .int s0), (0, .ref (q 0)), (2, .int b2)]) hx hb dX12_judgedIn_80 rfl hl (by decide) rfl (fun ls hl => ?_)
    refine lv_aload_n hx hb dX12_judgedIn_81 rfl (lv_at hl 1 rfl) ?_
    refine lv_sipush (v := 3012) hx hb dX12_judgedIn_82 (by decide) ?_
    obtain ⟨_, M36, hc37, h⟩ := bnd_inv h
    refine gV_v (As := [.int (3012 : Int32)]) X hP hS hl.1 (c_X12_restores l D cA q aK aV hq hc37) sf_X12_restores bw_1869 sv_X12_restores (rcR_12 sR_0) rfl ⟨rfl, rfl⟩ ⟨Nat.le_of_ble_eq_true rfl, Nat.le_of_ble_eq_true rfl⟩ rfl rfl (Nat.le_of_ble_eq_true rfl) dX12_judgedIn_85 (fun H locs hP hS => ?_)
    refine lv_iload_n hx hb dX12_judgedIn_88 rfl (lv_at hl 0 rfl) ?_
    refine lv_if_eq (tgt := 100) hx hb dX12_judgedIn_89 (by decide) (fun c38 => ?_) (fun c38 => ?_)
    · rw [if_pos c38] at h
      refine lv_aload_n hx hb dX12_judgedIn_100 rfl (lv_at hl 1 rfl) ?_
      refine lv_bipush (v := 6) hx hb dX12_judgedIn_101 (by decide) ?_
      obtain ⟨r39, M40, hc41, h⟩ := bnd_inv h
      refine gV_i (As := [.int (6 : Int32)]) X hP hS hl.1 (c_X12_refuse l D cA q aK aV hq hc41) sf_X12_refuse bw_1530 sv_X12_refuse (rcR_12 sR_0) rfl ⟨rfl, rfl⟩ ⟨Nat.le_of_ble_eq_true rfl, Nat.le_of_ble_eq_true rfl⟩ rfl rfl (Nat.le_of_ble_eq_true rfl) dX12_judgedIn_103 (fun H locs hP hS => ?_)
      exact end_i X hr hk hP hS h dX12_judgedIn_106
    · rw [if_neg c38] at h
      refine lv_aload_n hx hb dX12_judgedIn_92 rfl (lv_at hl 1 rfl) ?_
      refine lv_iload_n hx hb dX12_judgedIn_93 rfl (lv_at hl 2 rfl) ?_
      obtain ⟨r42, M43, hc44, h⟩ := bnd_inv h
      refine gV_i (As := [.int b2]) X hP hS hl.1 (c_X12_gives l D cA q aK aV hq hc44) sf_X12_gives bw_1639 sv_X12_gives (rcR_12 sR_0) rfl ⟨rfl, rfl⟩ ⟨Nat.le_of_ble_eq_true rfl, Nat.le_of_ble_eq_true rfl⟩ rfl rfl (Nat.le_of_ble_eq_true rfl) dX12_judgedIn_94 (fun H locs hP hS => ?_)
      refine lv_goto (tgt := 106) hx hb dX12_judgedIn_97 (by decide) ?_
      exact end_i X hr hk hP hS h dX12_judgedIn_106
  have hL40 : ∀ (fu : Nat) (b2 : Int32) (M : Mem) (res : (Int32) × Mem) (H : Heap) (locs : List Loc) (ls : Array Slot), f_X12_judgedIn_L40 a1 fu b2 M = some res → va_P D vwCl (wsG 20 (ceR cA q) q M) H → va_S (AqG 20 q) s.heap H locs → lv_has ls 4 [(0, .ref (q 0)), (1, .int a1), (2, .int b2)] → (∀ (H : Heap) (locs : List Loc) (ls : Array Slot), va_P D vwCl (wsG 20 (ceR cA q) q res.2) H → va_S (AqG 20 q) s.heap H locs → lv_has ls 4 [(0, .ref (q 0)), (1, .int a1), (2, .int (res.1))] → W p l e ({ frames := 9, cells := 0, slots := 0, locals := 198 } : Room) s m [.ref (q 0), .int a1].toArray below meth c H locs 0 0 (MQ below (Qi 20 (ceR cA q) D q r0 M0) [.ref (q 0), .int a1].toArray s 0 0 (AqG 20 q)) (F0 m 66 ls [])) → W p l e ({ frames := 9, cells := 0, slots := 0, locals := 198 } : Room) s m [.ref (q 0), .int a1].toArray below meth c H locs 0 0 (MQ below (Qi 20 (ceR cA q) D q r0 M0) [.ref (q 0), .int a1].toArray s 0 0 (AqG 20 q)) (F0 m 40 ls []) := by
    intro fu
    induction fu with
    | zero => intro b2 M res H locs ls h; exact absurd h (by simp [f_X12_judgedIn_L40])
    | succ fu ih =>
      intro b2 M res H locs ls h hP hS hl K40_0
      rw [f_X12_judgedIn_L40] at h
      refine lv_iload_n hx hb dX12_judgedIn_40 rfl (lv_at hl 2 rfl) ?_
      refine lv_bipush (v := 40) hx hb dX12_judgedIn_41 (by decide) ?_
      refine lv_icmp_ge (tgt := 66) hx hb dX12_judgedIn_43 (by decide) (fun c26 => ?_) (fun c26 => ?_)
      · rw [if_pos c26] at h
        cases h
        exact K40_0 _ _ _ hP hS (lv_sub hl [0, 1, 2] rfl)
      · rw [if_neg c26] at h
        refine lv_aload_n hx hb dX12_judgedIn_46 rfl (lv_at hl 0 rfl) ?_
        refine lv_iload_n hx hb dX12_judgedIn_47 rfl (lv_at hl 1 rfl) ?_
        refine lv_iconst (v := 2) hx hb dX12_judgedIn_48 (by decide) ?_
        obtain ⟨r27, M28, hc29, h⟩ := bnd_inv h
        refine gV_i (As := [.int a1, .int (2 : Int32)]) X hP hS hl.1 (c_X12_personOf l D cA q aK aV hq hc29) sf_X12_personOf bw_1683 sv_X12_personOf (rcR_12 sR_0) rfl ⟨rfl, rfl⟩ ⟨Nat.le_of_ble_eq_true rfl, Nat.le_of_ble_eq_true rfl⟩ rfl rfl (Nat.le_of_ble_eq_true rfl) dX12_judgedIn_49 (fun H locs hP hS => ?_)
        refine lv_if_ne (tgt := 66) hx hb dX12_judgedIn_52 (by decide) (fun c30 => ?_) (fun c30 => ?_)
        · rw [if_neg c30] at h
          cases h
          exact K40_0 _ _ _ hP hS (lv_sub hl [0, 1, 2] rfl)
        · rw [if_pos c30] at h
          refine lv_aload_n hx hb dX12_judgedIn_55 rfl (lv_at hl 0 rfl) ?_
          obtain ⟨r31, M32, hc33, h⟩ := bnd_inv h
          refine gV_i (As := []) X hP hS hl.1 (c_X12_terms l D cA q aK aV hq hc33) sf_X12_terms bw_1801 sv_X12_terms (rcR_12 sR_0) rfl ⟨rfl, rfl⟩ ⟨Nat.le_of_ble_eq_true rfl, Nat.le_of_ble_eq_true rfl⟩ rfl rfl (Nat.le_of_ble_eq_true rfl) dX12_judgedIn_56 (fun H locs hP hS => ?_)
          refine lv_pop hx hb dX12_judgedIn_59 rfl ?_
          obtain ⟨y34, ey34, h⟩ := lt_inv h
          refine lv_iinc (v := y34) (lv' := [(2, .int y34), (0, .ref (q 0)), (1, .int a1)]) hx hb dX12_judgedIn_60 hl (k := 2) rfl (by rw [ey34]; rfl) (by decide) rfl (fun ls hl => ?_)
          refine lv_goto (tgt := 40) hx hb dX12_judgedIn_63 (by decide) ?_
          exact ih _ _ res _ _ _ h hP hS (lv_sub hl [1, 2, 0] rfl) K40_0
  refine lv_aload_n hx hb dX12_judgedIn_0 rfl (lv_at hl 0 rfl) ?_
  refine lv_iload_n hx hb dX12_judgedIn_1 rfl (lv_at hl 1 rfl) ?_
  refine lv_i2l hx hb dX12_judgedIn_2 rfl ?_
  obtain ⟨r1, M2, hc3, h⟩ := bnd_inv h
  refine gV_i (As := [.long (a1.toInt64)]) X hP hS hl.1 (c_X12_isPerson l D cA q aK aV hq hc3) sf_X12_isPerson bw_1715 sv_X12_isPerson (rcR_12 sR_0) rfl ⟨rfl, rfl⟩ ⟨Nat.le_of_ble_eq_true rfl, Nat.le_of_ble_eq_true rfl⟩ rfl rfl (Nat.le_of_ble_eq_true rfl) dX12_judgedIn_3 (fun H locs hP hS => ?_)
  refine lv_if_ne (tgt := 15) hx hb dX12_judgedIn_6 (by decide) (fun c4 => ?_) (fun c4 => ?_)
  · rw [if_neg c4] at h
    refine lv_aload_n hx hb dX12_judgedIn_15 rfl (lv_at hl 0 rfl) ?_
    refine lv_iload_n hx hb dX12_judgedIn_16 rfl (lv_at hl 1 rfl) ?_
    refine lv_iconst (v := 2) hx hb dX12_judgedIn_17 (by decide) ?_
    obtain ⟨r5, M6, hc7, h⟩ := bnd_inv h
    refine gV_i (As := [.int a1, .int (2 : Int32)]) X hP hS hl.1 (c_X12_personOf l D cA q aK aV hq hc7) sf_X12_personOf bw_1683 sv_X12_personOf (rcR_12 sR_0) rfl ⟨rfl, rfl⟩ ⟨Nat.le_of_ble_eq_true rfl, Nat.le_of_ble_eq_true rfl⟩ rfl rfl (Nat.le_of_ble_eq_true rfl) dX12_judgedIn_18 (fun H locs hP hS => ?_)
    refine lv_if_eq (tgt := 31) hx hb dX12_judgedIn_21 (by decide) (fun c8 => ?_) (fun c8 => ?_)
    · rw [if_pos c8] at h
      refine lv_aload_n hx hb dX12_judgedIn_31 rfl (lv_at hl 0 rfl) ?_
      refine lv_sipush (v := 3012) hx hb dX12_judgedIn_32 (by decide) ?_
      obtain ⟨_, M10, hc11, h⟩ := bnd_inv h
      refine gV_v (As := [.int (3012 : Int32)]) X hP hS hl.1 (c_X12_keeps l D cA q aK aV hq hc11) sf_X12_keeps bw_1865 sv_X12_keeps (rcR_12 sR_0) rfl ⟨rfl, rfl⟩ ⟨Nat.le_of_ble_eq_true rfl, Nat.le_of_ble_eq_true rfl⟩ rfl rfl (Nat.le_of_ble_eq_true rfl) dX12_judgedIn_35 (fun H locs hP hS => ?_)
      refine lv_iconst (v := 0) hx hb dX12_judgedIn_38 (by decide) ?_
      refine lv_istore_n (lv' := [(2, .int (0 : Int32)), (0, .ref (q 0)), (1, .int a1)]) hx hb dX12_judgedIn_39 rfl hl (by decide) rfl (fun ls hl => ?_)
      obtain ⟨s12, M13, hc14, h⟩ := bnd_inv h
      obtain ⟨x15, rfl⟩ : ∃ z, z = s12 := ⟨_, rfl⟩
      try dsimp only at h
      refine hL40  fz _ _ _ _ _ _ hc14 hP hS (lv_sub hl [1, 2, 0] rfl) (fun H locs ls hP hS hl => ?_)
      have hl : lv_has ls 4 [(0, .ref (q 0)), (1, .int a1), (2, .int x15)] := hl
      refine lv_aload_n hx hb dX12_judgedIn_66 rfl (lv_at hl 0 rfl) ?_
      refine lv_iload_n hx hb dX12_judgedIn_67 rfl (lv_at hl 1 rfl) ?_
      refine lv_iconst (v := 2) hx hb dX12_judgedIn_68 (by decide) ?_
      obtain ⟨r16, M17, hc18, h⟩ := bnd_inv h
      refine gV_i (As := [.int a1, .int (2 : Int32)]) X hP hS hl.1 (c_X12_personOf l D cA q aK aV hq hc18) sf_X12_personOf bw_1683 sv_X12_personOf (rcR_12 sR_0) rfl ⟨rfl, rfl⟩ ⟨Nat.le_of_ble_eq_true rfl, Nat.le_of_ble_eq_true rfl⟩ rfl rfl (Nat.le_of_ble_eq_true rfl) dX12_judgedIn_69 (fun H locs hP hS => ?_)
      refine lv_if_eq (tgt := 79) hx hb dX12_judgedIn_72 (by decide) (fun c19 => ?_) (fun c19 => ?_)
      · rw [if_pos c19] at h
        refine lv_iconst (v := 0) hx hb dX12_judgedIn_79 (by decide) ?_
        exact hJ80 _ _ _ _ _ _ h hP hS (lv_sub hl [0, 2] rfl)
      · rw [if_neg c19] at h
        refine lv_iconst (v := 1) hx hb dX12_judgedIn_75 (by decide) ?_
        refine lv_goto (tgt := 80) hx hb dX12_judgedIn_76 (by decide) ?_
        exact hJ80 _ _ _ _ _ _ h hP hS (lv_sub hl [0, 2] rfl)
    · rw [if_neg c8] at h
      refine lv_aload_n hx hb dX12_judgedIn_24 rfl (lv_at hl 0 rfl) ?_
      refine lv_bipush (v := 7) hx hb dX12_judgedIn_25 (by decide) ?_
      obtain ⟨r20, M21, hc22, h⟩ := bnd_inv h
      refine gV_i (As := [.int (7 : Int32)]) X hP hS hl.1 (c_X12_refuse l D cA q aK aV hq hc22) sf_X12_refuse bw_1530 sv_X12_refuse (rcR_12 sR_0) rfl ⟨rfl, rfl⟩ ⟨Nat.le_of_ble_eq_true rfl, Nat.le_of_ble_eq_true rfl⟩ rfl rfl (Nat.le_of_ble_eq_true rfl) dX12_judgedIn_27 (fun H locs hP hS => ?_)
      exact end_i X hr hk hP hS h dX12_judgedIn_30
  · rw [if_pos c4] at h
    refine lv_aload_n hx hb dX12_judgedIn_9 rfl (lv_at hl 0 rfl) ?_
    refine lv_iconst (v := 1) hx hb dX12_judgedIn_10 (by decide) ?_
    obtain ⟨r23, M24, hc25, h⟩ := bnd_inv h
    refine gV_i (As := [.int (1 : Int32)]) X hP hS hl.1 (c_X12_refuse l D cA q aK aV hq hc25) sf_X12_refuse bw_1530 sv_X12_refuse (rcR_12 sR_0) rfl ⟨rfl, rfl⟩ ⟨Nat.le_of_ble_eq_true rfl, Nat.le_of_ble_eq_true rfl⟩ rfl rfl (Nat.le_of_ble_eq_true rfl) dX12_judgedIn_11 (fun H locs hP hS => ?_)
    exact end_i X hr hk hP hS h dX12_judgedIn_14
