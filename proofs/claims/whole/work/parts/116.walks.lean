theorem dX12_live_0 : decode cX12_live 0 = .ok (.iload_n 1, 1) := by decide +kernel
theorem dX12_live_1 : decode cX12_live 1 = .ok (.i2l, 1) := by decide +kernel
theorem dX12_live_2 : decode cX12_live 2 = .ok (.lconst 0, 1) := by decide +kernel
theorem dX12_live_3 : decode cX12_live 3 = .ok (.ldc2_w 506, 3) := by decide +kernel
theorem dX12_live_6 : decode cX12_live 6 = .ok (.invokestatic 337, 3) := by decide +kernel
theorem dX12_live_9 : decode cX12_live 9 = .ok (.ifCond .ne 9, 3) := by decide +kernel
theorem dX12_live_12 : decode cX12_live 12 = .ok (.aload_n 0, 1) := by decide +kernel
theorem dX12_live_13 : decode cX12_live 13 = .ok (.iconst 1, 1) := by decide +kernel
theorem dX12_live_14 : decode cX12_live 14 = .ok (.invokevirtual 91, 3) := by decide +kernel
theorem dX12_live_17 : decode cX12_live 17 = .ok (.ireturn, 1) := by decide +kernel
theorem dX12_live_18 : decode cX12_live 18 = .ok (.aload_n 0, 1) := by decide +kernel
theorem dX12_live_19 : decode cX12_live 19 = .ok (.getfield 7, 3) := by decide +kernel
theorem dX12_live_22 : decode cX12_live 22 = .ok (.bipush 8, 2) := by decide +kernel
theorem dX12_live_24 : decode cX12_live 24 = .ok (.iaload, 1) := by decide +kernel
theorem dX12_live_25 : decode cX12_live 25 = .ok (.iconst (-1), 1) := by decide +kernel
theorem dX12_live_26 : decode cX12_live 26 = .ok (.if_icmp .ne 10, 3) := by decide +kernel
theorem dX12_live_29 : decode cX12_live 29 = .ok (.aload_n 0, 1) := by decide +kernel
theorem dX12_live_30 : decode cX12_live 30 = .ok (.bipush 6, 2) := by decide +kernel
theorem dX12_live_32 : decode cX12_live 32 = .ok (.invokevirtual 91, 3) := by decide +kernel
theorem dX12_live_35 : decode cX12_live 35 = .ok (.ireturn, 1) := by decide +kernel
theorem dX12_live_36 : decode cX12_live 36 = .ok (.aload_n 0, 1) := by decide +kernel
theorem dX12_live_37 : decode cX12_live 37 = .ok (.iload_n 1, 1) := by decide +kernel
theorem dX12_live_38 : decode cX12_live 38 = .ok (.invokevirtual 508, 3) := by decide +kernel
theorem dX12_live_41 : decode cX12_live 41 = .ok (.iconst 0, 1) := by decide +kernel
theorem dX12_live_42 : decode cX12_live 42 = .ok (.istore_n 2, 1) := by decide +kernel
theorem dX12_live_43 : decode cX12_live 43 = .ok (.iload_n 2, 1) := by decide +kernel
theorem dX12_live_44 : decode cX12_live 44 = .ok (.iconst 5, 1) := by decide +kernel
theorem dX12_live_45 : decode cX12_live 45 = .ok (.if_icmp .ge 21, 3) := by decide +kernel
theorem dX12_live_48 : decode cX12_live 48 = .ok (.aload_n 0, 1) := by decide +kernel
theorem dX12_live_49 : decode cX12_live 49 = .ok (.getfield 78, 3) := by decide +kernel
theorem dX12_live_52 : decode cX12_live 52 = .ok (.iload_n 2, 1) := by decide +kernel
theorem dX12_live_53 : decode cX12_live 53 = .ok (.aload_n 0, 1) := by decide +kernel
theorem dX12_live_54 : decode cX12_live 54 = .ok (.getfield 75, 3) := by decide +kernel
theorem dX12_live_57 : decode cX12_live 57 = .ok (.iload_n 2, 1) := by decide +kernel
theorem dX12_live_58 : decode cX12_live 58 = .ok (.iaload, 1) := by decide +kernel
theorem dX12_live_59 : decode cX12_live 59 = .ok (.iastore, 1) := by decide +kernel
theorem dX12_live_60 : decode cX12_live 60 = .ok (.iinc 2 1, 3) := by decide +kernel
theorem dX12_live_63 : decode cX12_live 63 = .ok (.goto (-20), 3) := by decide +kernel
theorem dX12_live_66 : decode cX12_live 66 = .ok (.aload_n 0, 1) := by decide +kernel
theorem dX12_live_67 : decode cX12_live 67 = .ok (.iconst 1, 1) := by decide +kernel
theorem dX12_live_68 : decode cX12_live 68 = .ok (.putfield 511, 3) := by decide +kernel
theorem dX12_live_71 : decode cX12_live 71 = .ok (.aload_n 0, 1) := by decide +kernel
theorem dX12_live_72 : decode cX12_live 72 = .ok (.aload_n 0, 1) := by decide +kernel
theorem dX12_live_73 : decode cX12_live 73 = .ok (.getfield 494, 3) := by decide +kernel
theorem dX12_live_76 : decode cX12_live 76 = .ok (.invokevirtual 95, 3) := by decide +kernel
theorem dX12_live_79 : decode cX12_live 79 = .ok (.ireturn, 1) := by decide +kernel
set_option maxRecDepth 100000 in
set_option maxHeartbeats 8000000 in
theorem c_X12_live (l : Launch) (D : va_G) (cA : Nat → ClassId) (q aK aV : Nat → Nat) (hq : injG 20 q) {a1 : Int32} {M M0 : Mem} {r0 : Int32} (h : f_X12_live a1 M = some (r0, M0)) : Met l yX12_live (.code yX12_live cX12_live 3 (some .int) :: BW) ({ frames := 12, cells := 0, slots := 0, locals := 265 } : Room) (va_Pc [.ref (q 0), .int a1] (CB 20 (ceR cA q) D cA q aK aV M)) (Qi 20 (ceR cA q) D q r0 M0) 0 0 (AqG 20 q) := by
  refine gMet RX12 (by decide +kernel) rfl hq (Nat.le_of_ble_eq_true rfl) ?_
  intro p e s m below meth c ls X hr hk hP hS hl
  have hx := X.1
  have hb := X.2.1
  have hl : lv_has ls 3 [(0, .ref (q 0)), (1, .int a1)] := hl
  rw [f_X12_live] at h
  have hL43 : ∀ (fu : Nat) (b2 : Int32) (M : Mem) (res : (Unit) × Mem) (H : Heap) (locs : List Loc) (ls : Array Slot), f_X12_live_L43 fu b2 M = some res → va_P D vwCl (wsG 20 (ceR cA q) q M) H → va_S (AqG 20 q) s.heap H locs → lv_has ls 3 [(0, .ref (q 0)), (2, .int b2)] → (∀ (H : Heap) (locs : List Loc) (ls : Array Slot), va_P D vwCl (wsG 20 (ceR cA q) q res.2) H → va_S (AqG 20 q) s.heap H locs → lv_has ls 3 [(0, .ref (q 0))] → W p l e ({ frames := 12, cells := 0, slots := 0, locals := 265 } : Room) s m [.ref (q 0), .int a1].toArray below meth c H locs 0 0 (MQ below (Qi 20 (ceR cA q) D q r0 M0) [.ref (q 0), .int a1].toArray s 0 0 (AqG 20 q)) (F0 m 66 ls [])) → W p l e ({ frames := 12, cells := 0, slots := 0, locals := 265 } : Room) s m [.ref (q 0), .int a1].toArray below meth c H locs 0 0 (MQ below (Qi 20 (ceR cA q) D q r0 M0) [.ref (q 0), .int a1].toArray s 0 0 (AqG 20 q)) (F0 m 43 ls []) := by
    intro fu
    induction fu with
    | zero => intro b2 M res H locs ls h; exact absurd h (by simp [f_X12_live_L43])
    | succ fu ih =>
      intro b2 M res H locs ls h hP hS hl K43_0
      rw [f_X12_live_L43] at h
      refine lv_iload_n hx hb dX12_live_43 rfl (lv_at hl 1 rfl) ?_
      refine lv_iconst (v := 5) hx hb dX12_live_44 (by decide) ?_
      refine lv_icmp_ge (tgt := 66) hx hb dX12_live_45 (by decide) (fun c22 => ?_) (fun c22 => ?_)
      · rw [if_pos c22] at h
        cases h
        exact K43_0 _ _ _ hP hS (lv_sub hl [0] rfl)
      · rw [if_neg c22] at h
        refine lv_aload_n hx hb dX12_live_48 rfl (lv_at hl 0 rfl) ?_
        refine gfR_12_39 X hP sR_0 bw_1362 dX12_live_49 ?_
        refine lv_iload_n hx hb dX12_live_52 rfl (lv_at hl 1 rfl) ?_
        refine lv_aload_n hx hb dX12_live_53 rfl (lv_at hl 0 rfl) ?_
        refine gfR_12_38 X hP sR_0 bw_1361 dX12_live_54 ?_
        refine lv_iload_n hx hb dX12_live_57 rfl (lv_at hl 1 rfl) ?_
        obtain ⟨g23, h⟩ := gd_inv h
        refine ldR_ia X hP sR_18 zR_18 g23 dX12_live_58 ?_
        obtain ⟨g24, h⟩ := gd_inv h
        obtain ⟨M25, eM25, h⟩ := lt_inv h
        refine stR_ia X hP hS sR_19 zR_19 g24 eM25 dX12_live_59 (fun H locs hP hS => ?_)
        obtain ⟨y26, ey26, h⟩ := lt_inv h
        refine lv_iinc (v := y26) (lv' := [(2, .int y26), (0, .ref (q 0))]) hx hb dX12_live_60 hl (k := 1) rfl (by rw [ey26]; rfl) (by decide) rfl (fun ls hl => ?_)
        refine lv_goto (tgt := 43) hx hb dX12_live_63 (by decide) ?_
        exact ih _ _ res _ _ _ h hP hS (lv_sub hl [1, 0] rfl) K43_0
  refine lv_iload_n hx hb dX12_live_0 rfl (lv_at hl 1 rfl) ?_
  refine lv_i2l hx hb dX12_live_1 rfl ?_
  refine lv_lconst (v := 0) hx hb dX12_live_2 (by decide) ?_
  refine lv_ldc2 hx hb X.2.2.2.1 (X.2.2.2.2.1 _ bw_2064) dX12_live_3 ?_
  obtain ⟨r1, M2, hc3, h⟩ := bnd_inv h
  refine gS_i (As := [.long (a1.toInt64), .long (0 : Int64), .long (9999 : Int64)]) X hP hS hl.1 (c_X12_isFrom l D cA q aK aV hq hc3) sf_X12_isFrom bw_1767 ss_X12_isFrom ⟨rfl, rfl⟩ ⟨Nat.le_of_ble_eq_true rfl, Nat.le_of_ble_eq_true rfl⟩ rfl rfl (Nat.le_of_ble_eq_true rfl) dX12_live_6 (fun H locs hP hS => ?_)
  refine lv_if_ne (tgt := 18) hx hb dX12_live_9 (by decide) (fun c4 => ?_) (fun c4 => ?_)
  · rw [if_neg c4] at h
    refine lv_aload_n hx hb dX12_live_18 rfl (lv_at hl 0 rfl) ?_
    refine gfR_12_0 X hP sR_0 bw_1323 dX12_live_19 ?_
    refine lv_bipush (v := 8) hx hb dX12_live_22 (by decide) ?_
    refine ldR_ia X hP sR_1 zR_1 (by decide) dX12_live_24 ?_
    refine topE (y := (gI M2 1 8)) rfl ?_
    refine lv_iconst (v := -1) hx hb dX12_live_25 (by decide) ?_
    refine lv_icmp_ne (tgt := 36) hx hb dX12_live_26 (by decide) (fun c5 => ?_) (fun c5 => ?_)
    · rw [if_neg c5] at h
      refine lv_aload_n hx hb dX12_live_36 rfl (lv_at hl 0 rfl) ?_
      refine lv_iload_n hx hb dX12_live_37 rfl (lv_at hl 1 rfl) ?_
      obtain ⟨_, M7, hc8, h⟩ := bnd_inv h
      refine gV_v (As := [.int a1]) X hP hS hl.1 (c_X12_lives l D cA q aK aV hq hc8) sf_X12_lives bw_2065 sv_X12_lives (rcR_12 sR_0) rfl ⟨rfl, rfl⟩ ⟨Nat.le_of_ble_eq_true rfl, Nat.le_of_ble_eq_true rfl⟩ rfl rfl (Nat.le_of_ble_eq_true rfl) dX12_live_38 (fun H locs hP hS => ?_)
      refine lv_iconst (v := 0) hx hb dX12_live_41 (by decide) ?_
      refine lv_istore_n (lv' := [(2, .int (0 : Int32)), (0, .ref (q 0)), (1, .int a1)]) hx hb dX12_live_42 rfl hl (by decide) rfl (fun ls hl => ?_)
      obtain ⟨s9, M10, hc11, h⟩ := bnd_inv h
      try dsimp only at h
      refine hL43  fz _ _ _ _ _ _ hc11 hP hS (lv_sub hl [1, 0] rfl) (fun H locs ls hP hS hl => ?_)
      have hl : lv_has ls 3 [(0, .ref (q 0))] := hl
      refine lv_aload_n hx hb dX12_live_66 rfl (lv_at hl 0 rfl) ?_
      refine lv_iconst (v := 1) hx hb dX12_live_67 (by decide) ?_
      obtain ⟨M12, eM12, h⟩ := lt_inv h
      refine pfR_12_40 X hP hS sR_0 bw_1363 (Or.inr rfl) eM12 dX12_live_68 (fun H locs hP hS => ?_)
      refine lv_aload_n hx hb dX12_live_71 rfl (lv_at hl 0 rfl) ?_
      refine lv_aload_n hx hb dX12_live_72 rfl (lv_at hl 0 rfl) ?_
      refine gfR_12_36 X hP sR_0 bw_1359 dX12_live_73 ?_
      obtain ⟨r13, M14, hc15, h⟩ := bnd_inv h
      refine gV_i (As := [.int (gI M12 0 36)]) X hP hS hl.1 (c_X12_gives l D cA q aK aV hq hc15) sf_X12_gives bw_1639 sv_X12_gives (rcR_12 sR_0) rfl ⟨rfl, rfl⟩ ⟨Nat.le_of_ble_eq_true rfl, Nat.le_of_ble_eq_true rfl⟩ rfl rfl (Nat.le_of_ble_eq_true rfl) dX12_live_76 (fun H locs hP hS => ?_)
      exact end_i X hr hk hP hS h dX12_live_79
    · rw [if_pos c5] at h
      refine lv_aload_n hx hb dX12_live_29 rfl (lv_at hl 0 rfl) ?_
      refine lv_bipush (v := 6) hx hb dX12_live_30 (by decide) ?_
      obtain ⟨r16, M17, hc18, h⟩ := bnd_inv h
      refine gV_i (As := [.int (6 : Int32)]) X hP hS hl.1 (c_X12_refuse l D cA q aK aV hq hc18) sf_X12_refuse bw_1530 sv_X12_refuse (rcR_12 sR_0) rfl ⟨rfl, rfl⟩ ⟨Nat.le_of_ble_eq_true rfl, Nat.le_of_ble_eq_true rfl⟩ rfl rfl (Nat.le_of_ble_eq_true rfl) dX12_live_32 (fun H locs hP hS => ?_)
      exact end_i X hr hk hP hS h dX12_live_35
  · rw [if_pos c4] at h
    refine lv_aload_n hx hb dX12_live_12 rfl (lv_at hl 0 rfl) ?_
    refine lv_iconst (v := 1) hx hb dX12_live_13 (by decide) ?_
    obtain ⟨r19, M20, hc21, h⟩ := bnd_inv h
    refine gV_i (As := [.int (1 : Int32)]) X hP hS hl.1 (c_X12_refuse l D cA q aK aV hq hc21) sf_X12_refuse bw_1530 sv_X12_refuse (rcR_12 sR_0) rfl ⟨rfl, rfl⟩ ⟨Nat.le_of_ble_eq_true rfl, Nat.le_of_ble_eq_true rfl⟩ rfl rfl (Nat.le_of_ble_eq_true rfl) dX12_live_14 (fun H locs hP hS => ?_)
    exact end_i X hr hk hP hS h dX12_live_17
theorem dX12_lived_0 : decode cX12_lived 0 = .ok (.iload_n 1, 1) := by decide +kernel
theorem dX12_lived_1 : decode cX12_lived 1 = .ok (.ifCond .lt 8, 3) := by decide +kernel
theorem dX12_lived_4 : decode cX12_lived 4 = .ok (.iload_n 1, 1) := by decide +kernel
theorem dX12_lived_5 : decode cX12_lived 5 = .ok (.iconst 4, 1) := by decide +kernel
theorem dX12_lived_6 : decode cX12_lived 6 = .ok (.if_icmp .le 11, 3) := by decide +kernel
theorem dX12_lived_9 : decode cX12_lived 9 = .ok (.aload_n 0, 1) := by decide +kernel
theorem dX12_lived_10 : decode cX12_lived 10 = .ok (.iconst 1, 1) := by decide +kernel
theorem dX12_lived_11 : decode cX12_lived 11 = .ok (.invokevirtual 91, 3) := by decide +kernel
theorem dX12_lived_14 : decode cX12_lived 14 = .ok (.goto 29, 3) := by decide +kernel
theorem dX12_lived_17 : decode cX12_lived 17 = .ok (.aload_n 0, 1) := by decide +kernel
theorem dX12_lived_18 : decode cX12_lived 18 = .ok (.getfield 511, 3) := by decide +kernel
theorem dX12_lived_21 : decode cX12_lived 21 = .ok (.ifCond .eq 16, 3) := by decide +kernel
theorem dX12_lived_24 : decode cX12_lived 24 = .ok (.aload_n 0, 1) := by decide +kernel
theorem dX12_lived_25 : decode cX12_lived 25 = .ok (.aload_n 0, 1) := by decide +kernel
theorem dX12_lived_26 : decode cX12_lived 26 = .ok (.getfield 78, 3) := by decide +kernel
theorem dX12_lived_29 : decode cX12_lived 29 = .ok (.iload_n 1, 1) := by decide +kernel
theorem dX12_lived_30 : decode cX12_lived 30 = .ok (.iaload, 1) := by decide +kernel
theorem dX12_lived_31 : decode cX12_lived 31 = .ok (.invokevirtual 95, 3) := by decide +kernel
theorem dX12_lived_34 : decode cX12_lived 34 = .ok (.goto 9, 3) := by decide +kernel
theorem dX12_lived_37 : decode cX12_lived 37 = .ok (.aload_n 0, 1) := by decide +kernel
theorem dX12_lived_38 : decode cX12_lived 38 = .ok (.bipush 6, 2) := by decide +kernel
theorem dX12_lived_40 : decode cX12_lived 40 = .ok (.invokevirtual 91, 3) := by decide +kernel
theorem dX12_lived_43 : decode cX12_lived 43 = .ok (.ireturn, 1) := by decide +kernel
set_option maxRecDepth 100000 in
set_option maxHeartbeats 8000000 in
theorem c_X12_lived (l : Launch) (D : va_G) (cA : Nat → ClassId) (q aK aV : Nat → Nat) (hq : injG 20 q) {a1 : Int32} {M M0 : Mem} {r0 : Int32} (h : f_X12_lived a1 M = some (r0, M0)) : Met l yX12_lived (.code yX12_lived cX12_lived 2 (some .int) :: BW) ({ frames := 2, cells := 0, slots := 0, locals := 34 } : Room) (va_Pc [.ref (q 0), .int a1] (CB 20 (ceR cA q) D cA q aK aV M)) (Qi 20 (ceR cA q) D q r0 M0) 0 0 (AqG 20 q) := by
  refine gMet RX12 (by decide +kernel) rfl hq (Nat.le_of_ble_eq_true rfl) ?_
  intro p e s m below meth c ls X hr hk hP hS hl
  have hx := X.1
  have hb := X.2.1
  have hl : lv_has ls 2 [(0, .ref (q 0)), (1, .int a1)] := hl
  rw [f_X12_lived] at h
  refine lv_iload_n hx hb dX12_lived_0 rfl (lv_at hl 1 rfl) ?_
  refine lv_if_lt (tgt := 9) hx hb dX12_lived_1 (by decide) (fun c1 => ?_) (fun c1 => ?_)
  · rw [if_pos c1] at h
    refine lv_aload_n hx hb dX12_lived_9 rfl (lv_at hl 0 rfl) ?_
    refine lv_iconst (v := 1) hx hb dX12_lived_10 (by decide) ?_
    obtain ⟨r2, M3, hc4, h⟩ := bnd_inv h
    refine gV_i (As := [.int (1 : Int32)]) X hP hS hl.1 (c_X12_refuse l D cA q aK aV hq hc4) sf_X12_refuse bw_1530 sv_X12_refuse (rcR_12 sR_0) rfl ⟨rfl, rfl⟩ ⟨Nat.le_of_ble_eq_true rfl, Nat.le_of_ble_eq_true rfl⟩ rfl rfl (Nat.le_of_ble_eq_true rfl) dX12_lived_11 (fun H locs hP hS => ?_)
    refine lv_goto (tgt := 43) hx hb dX12_lived_14 (by decide) ?_
    exact end_i X hr hk hP hS h dX12_lived_43
  · rw [if_neg c1] at h
    refine lv_iload_n hx hb dX12_lived_4 rfl (lv_at hl 1 rfl) ?_
    refine lv_iconst (v := 4) hx hb dX12_lived_5 (by decide) ?_
    refine lv_icmp_le (tgt := 17) hx hb dX12_lived_6 (by decide) (fun c5 => ?_) (fun c5 => ?_)
    · rw [if_pos c5] at h
      refine lv_aload_n hx hb dX12_lived_17 rfl (lv_at hl 0 rfl) ?_
      refine gfR_12_40 X hP sR_0 bw_1363 dX12_lived_18 ?_
      refine lv_if_eq (tgt := 37) hx hb dX12_lived_21 (by decide) (fun c6 => ?_) (fun c6 => ?_)
      · rw [if_pos c6] at h
        refine lv_aload_n hx hb dX12_lived_37 rfl (lv_at hl 0 rfl) ?_
        refine lv_bipush (v := 6) hx hb dX12_lived_38 (by decide) ?_
        obtain ⟨r7, M8, hc9, h⟩ := bnd_inv h
        refine gV_i (As := [.int (6 : Int32)]) X hP hS hl.1 (c_X12_refuse l D cA q aK aV hq hc9) sf_X12_refuse bw_1530 sv_X12_refuse (rcR_12 sR_0) rfl ⟨rfl, rfl⟩ ⟨Nat.le_of_ble_eq_true rfl, Nat.le_of_ble_eq_true rfl⟩ rfl rfl (Nat.le_of_ble_eq_true rfl) dX12_lived_40 (fun H locs hP hS => ?_)
        exact end_i X hr hk hP hS h dX12_lived_43
      · rw [if_neg c6] at h
        refine lv_aload_n hx hb dX12_lived_24 rfl (lv_at hl 0 rfl) ?_
        refine lv_aload_n hx hb dX12_lived_25 rfl (lv_at hl 0 rfl) ?_
        refine gfR_12_39 X hP sR_0 bw_1362 dX12_lived_26 ?_
        refine lv_iload_n hx hb dX12_lived_29 rfl (lv_at hl 1 rfl) ?_
        obtain ⟨g10, h⟩ := gd_inv h
        refine ldR_ia X hP sR_19 zR_19 g10 dX12_lived_30 ?_
        obtain ⟨r11, M12, hc13, h⟩ := bnd_inv h
        refine gV_i (As := [.int (gI M 19 a1.toNatClampNeg)]) X hP hS hl.1 (c_X12_gives l D cA q aK aV hq hc13) sf_X12_gives bw_1639 sv_X12_gives (rcR_12 sR_0) rfl ⟨rfl, rfl⟩ ⟨Nat.le_of_ble_eq_true rfl, Nat.le_of_ble_eq_true rfl⟩ rfl rfl (Nat.le_of_ble_eq_true rfl) dX12_lived_31 (fun H locs hP hS => ?_)
        refine lv_goto (tgt := 43) hx hb dX12_lived_34 (by decide) ?_
        exact end_i X hr hk hP hS h dX12_lived_43
    · rw [if_neg c5] at h
      refine lv_aload_n hx hb dX12_lived_9 rfl (lv_at hl 0 rfl) ?_
      refine lv_iconst (v := 1) hx hb dX12_lived_10 (by decide) ?_
      obtain ⟨r14, M15, hc16, h⟩ := bnd_inv h
      refine gV_i (As := [.int (1 : Int32)]) X hP hS hl.1 (c_X12_refuse l D cA q aK aV hq hc16) sf_X12_refuse bw_1530 sv_X12_refuse (rcR_12 sR_0) rfl ⟨rfl, rfl⟩ ⟨Nat.le_of_ble_eq_true rfl, Nat.le_of_ble_eq_true rfl⟩ rfl rfl (Nat.le_of_ble_eq_true rfl) dX12_lived_11 (fun H locs hP hS => ?_)
      refine lv_goto (tgt := 43) hx hb dX12_lived_14 (by decide) ?_
      exact end_i X hr hk hP hS h dX12_lived_43
theorem dX12_mean_0 : decode cX12_mean 0 = .ok (.iload_n 1, 1) := by decide +kernel
theorem dX12_mean_1 : decode cX12_mean 1 = .ok (.i2l, 1) := by decide +kernel
theorem dX12_mean_2 : decode cX12_mean 2 = .ok (.lconst 0, 1) := by decide +kernel
theorem dX12_mean_3 : decode cX12_mean 3 = .ok (.ldc2_w 506, 3) := by decide +kernel
theorem dX12_mean_6 : decode cX12_mean 6 = .ok (.invokestatic 337, 3) := by decide +kernel
theorem dX12_mean_9 : decode cX12_mean 9 = .ok (.ifCond .eq 26, 3) := by decide +kernel
theorem dX12_mean_12 : decode cX12_mean 12 = .ok (.iload_n 2, 1) := by decide +kernel
theorem dX12_mean_13 : decode cX12_mean 13 = .ok (.i2l, 1) := by decide +kernel
theorem dX12_mean_14 : decode cX12_mean 14 = .ok (.lconst 1, 1) := by decide +kernel
theorem dX12_mean_15 : decode cX12_mean 15 = .ok (.ldc2_w 380, 3) := by decide +kernel
theorem dX12_mean_18 : decode cX12_mean 18 = .ok (.invokestatic 337, 3) := by decide +kernel
theorem dX12_mean_21 : decode cX12_mean 21 = .ok (.ifCond .eq 14, 3) := by decide +kernel
theorem dX12_mean_24 : decode cX12_mean 24 = .ok (.iload_n 1, 1) := by decide +kernel
theorem dX12_mean_25 : decode cX12_mean 25 = .ok (.iload_n 2, 1) := by decide +kernel
theorem dX12_mean_26 : decode cX12_mean 26 = .ok (.iadd, 1) := by decide +kernel
theorem dX12_mean_27 : decode cX12_mean 27 = .ok (.iconst 1, 1) := by decide +kernel
theorem dX12_mean_28 : decode cX12_mean 28 = .ok (.isub, 1) := by decide +kernel
theorem dX12_mean_29 : decode cX12_mean 29 = .ok (.sipush 9999, 3) := by decide +kernel
theorem dX12_mean_32 : decode cX12_mean 32 = .ok (.if_icmp .le 9, 3) := by decide +kernel
theorem dX12_mean_35 : decode cX12_mean 35 = .ok (.aload_n 0, 1) := by decide +kernel
theorem dX12_mean_36 : decode cX12_mean 36 = .ok (.iconst 1, 1) := by decide +kernel
theorem dX12_mean_37 : decode cX12_mean 37 = .ok (.invokevirtual 98, 3) := by decide +kernel
theorem dX12_mean_40 : decode cX12_mean 40 = .ok (.ireturn, 1) := by decide +kernel
theorem dX12_mean_41 : decode cX12_mean 41 = .ok (.aload_n 0, 1) := by decide +kernel
theorem dX12_mean_42 : decode cX12_mean 42 = .ok (.getfield 7, 3) := by decide +kernel
theorem dX12_mean_45 : decode cX12_mean 45 = .ok (.bipush 8, 2) := by decide +kernel
theorem dX12_mean_47 : decode cX12_mean 47 = .ok (.iaload, 1) := by decide +kernel
theorem dX12_mean_48 : decode cX12_mean 48 = .ok (.iconst (-1), 1) := by decide +kernel
theorem dX12_mean_49 : decode cX12_mean 49 = .ok (.if_icmp .ne 10, 3) := by decide +kernel
theorem dX12_mean_52 : decode cX12_mean 52 = .ok (.aload_n 0, 1) := by decide +kernel
theorem dX12_mean_53 : decode cX12_mean 53 = .ok (.bipush 6, 2) := by decide +kernel
theorem dX12_mean_55 : decode cX12_mean 55 = .ok (.invokevirtual 98, 3) := by decide +kernel
theorem dX12_mean_58 : decode cX12_mean 58 = .ok (.ireturn, 1) := by decide +kernel
theorem dX12_mean_59 : decode cX12_mean 59 = .ok (.aload_n 0, 1) := by decide +kernel
theorem dX12_mean_60 : decode cX12_mean 60 = .ok (.sipush 2510, 3) := by decide +kernel
theorem dX12_mean_63 : decode cX12_mean 63 = .ok (.invokevirtual 374, 3) := by decide +kernel
theorem dX12_mean_66 : decode cX12_mean 66 = .ok (.lconst 0, 1) := by decide +kernel
theorem dX12_mean_67 : decode cX12_mean 67 = .ok (.lstore_n 3, 1) := by decide +kernel
theorem dX12_mean_68 : decode cX12_mean 68 = .ok (.iconst 0, 1) := by decide +kernel
theorem dX12_mean_69 : decode cX12_mean 69 = .ok (.istore 5, 2) := by decide +kernel
theorem dX12_mean_71 : decode cX12_mean 71 = .ok (.iload 5, 2) := by decide +kernel
theorem dX12_mean_73 : decode cX12_mean 73 = .ok (.iload_n 2, 1) := by decide +kernel
theorem dX12_mean_74 : decode cX12_mean 74 = .ok (.if_icmp .ge 55, 3) := by decide +kernel
theorem dX12_mean_77 : decode cX12_mean 77 = .ok (.aload_n 0, 1) := by decide +kernel
theorem dX12_mean_78 : decode cX12_mean 78 = .ok (.iload_n 1, 1) := by decide +kernel
theorem dX12_mean_79 : decode cX12_mean 79 = .ok (.iload 5, 2) := by decide +kernel
theorem dX12_mean_81 : decode cX12_mean 81 = .ok (.iadd, 1) := by decide +kernel
theorem dX12_mean_82 : decode cX12_mean 82 = .ok (.invokevirtual 508, 3) := by decide +kernel
theorem dX12_mean_85 : decode cX12_mean 85 = .ok (.iconst 0, 1) := by decide +kernel
theorem dX12_mean_86 : decode cX12_mean 86 = .ok (.istore 6, 2) := by decide +kernel
theorem dX12_mean_88 : decode cX12_mean 88 = .ok (.iload 6, 2) := by decide +kernel
theorem dX12_mean_90 : decode cX12_mean 90 = .ok (.aload_n 0, 1) := by decide +kernel
theorem dX12_mean_91 : decode cX12_mean 91 = .ok (.getfield 7, 3) := by decide +kernel
theorem dX12_mean_94 : decode cX12_mean 94 = .ok (.iconst 3, 1) := by decide +kernel
theorem dX12_mean_95 : decode cX12_mean 95 = .ok (.iaload, 1) := by decide +kernel
theorem dX12_mean_96 : decode cX12_mean 96 = .ok (.if_icmp .ge 20, 3) := by decide +kernel
theorem dX12_mean_99 : decode cX12_mean 99 = .ok (.lload_n 3, 1) := by decide +kernel
theorem dX12_mean_100 : decode cX12_mean 100 = .ok (.aload_n 0, 1) := by decide +kernel
theorem dX12_mean_101 : decode cX12_mean 101 = .ok (.iload 6, 2) := by decide +kernel
theorem dX12_mean_103 : decode cX12_mean 103 = .ok (.iconst 0, 1) := by decide +kernel
theorem dX12_mean_104 : decode cX12_mean 104 = .ok (.invokevirtual 281, 3) := by decide +kernel
theorem dX12_mean_107 : decode cX12_mean 107 = .ok (.i2l, 1) := by decide +kernel
theorem dX12_mean_108 : decode cX12_mean 108 = .ok (.ladd, 1) := by decide +kernel
theorem dX12_mean_109 : decode cX12_mean 109 = .ok (.lstore_n 3, 1) := by decide +kernel
theorem dX12_mean_110 : decode cX12_mean 110 = .ok (.iinc 6 1, 3) := by decide +kernel
theorem dX12_mean_113 : decode cX12_mean 113 = .ok (.goto (-25), 3) := by decide +kernel
theorem dX12_mean_116 : decode cX12_mean 116 = .ok (.aload_n 0, 1) := by decide +kernel
theorem dX12_mean_117 : decode cX12_mean 117 = .ok (.sipush 2510, 3) := by decide +kernel
theorem dX12_mean_120 : decode cX12_mean 120 = .ok (.invokevirtual 377, 3) := by decide +kernel
theorem dX12_mean_123 : decode cX12_mean 123 = .ok (.iinc 5 1, 3) := by decide +kernel
theorem dX12_mean_126 : decode cX12_mean 126 = .ok (.goto (-55), 3) := by decide +kernel
theorem dX12_mean_129 : decode cX12_mean 129 = .ok (.aload_n 0, 1) := by decide +kernel
theorem dX12_mean_130 : decode cX12_mean 130 = .ok (.lload_n 3, 1) := by decide +kernel
theorem dX12_mean_131 : decode cX12_mean 131 = .ok (.iload_n 2, 1) := by decide +kernel
theorem dX12_mean_132 : decode cX12_mean 132 = .ok (.i2l, 1) := by decide +kernel
theorem dX12_mean_133 : decode cX12_mean 133 = .ok (.invokevirtual 405, 3) := by decide +kernel
theorem dX12_mean_136 : decode cX12_mean 136 = .ok (.ireturn, 1) := by decide +kernel
set_option maxRecDepth 100000 in
set_option maxHeartbeats 8000000 in
theorem c_X12_mean (l : Launch) (D : va_G) (cA : Nat → ClassId) (q aK aV : Nat → Nat) (hq : injG 20 q) {a1 : Int32} {a2 : Int32} {M M0 : Mem} {r0 : Int32} (h : f_X12_mean a1 a2 M = some (r0, M0)) : Met l yX12_mean (.code yX12_mean cX12_mean 7 (some .boolean) :: BW) ({ frames := 12, cells := 0, slots := 0, locals := 265 } : Room) (va_Pc [.ref (q 0), .int a1, .int a2] (CB 20 (ceR cA q) D cA q aK aV M)) (Qi 20 (ceR cA q) D q r0 M0) 0 0 (AqG 20 q) := by
  refine gMet RX12 (by decide +kernel) rfl hq (Nat.le_of_ble_eq_true rfl) ?_
  intro p e s m below meth c ls X hr hk hP hS hl
  have hx := X.1
  have hb := X.2.1
  have hl : lv_has ls 7 [(0, .ref (q 0)), (1, .int a1), (2, .int a2)] := hl
  rw [f_X12_mean] at h
  have hL71 : ∀ (fu : Nat) (b3 : Int64) (b5 : Int32) (M : Mem) (res : (Int64) × Mem) (H : Heap) (locs : List Loc) (ls : Array Slot), f_X12_mean_L71 a1 a2 fu b3 b5 M = some res → va_P D vwCl (wsG 20 (ceR cA q) q M) H → va_S (AqG 20 q) s.heap H locs → lv_has ls 7 [(0, .ref (q 0)), (1, .int a1), (2, .int a2), (3, .long b3), (5, .int b5)] → (∀ (H : Heap) (locs : List Loc) (ls : Array Slot), va_P D vwCl (wsG 20 (ceR cA q) q res.2) H → va_S (AqG 20 q) s.heap H locs → lv_has ls 7 [(0, .ref (q 0)), (2, .int a2), (3, .long (res.1))] → W p l e ({ frames := 12, cells := 0, slots := 0, locals := 265 } : Room) s m [.ref (q 0), .int a1, .int a2].toArray below meth c H locs 0 0 (MQ below (Qi 20 (ceR cA q) D q r0 M0) [.ref (q 0), .int a1, .int a2].toArray s 0 0 (AqG 20 q)) (F0 m 129 ls [])) → W p l e ({ frames := 12, cells := 0, slots := 0, locals := 265 } : Room) s m [.ref (q 0), .int a1, .int a2].toArray below meth c H locs 0 0 (MQ below (Qi 20 (ceR cA q) D q r0 M0) [.ref (q 0), .int a1, .int a2].toArray s 0 0 (AqG 20 q)) (F0 m 71 ls []) := by
    intro fu
    induction fu with
    | zero => intro b3 b5 M res H locs ls h; exact absurd h (by simp [f_X12_mean_L71])
    | succ fu ih =>
      intro b3 b5 M res H locs ls h hP hS hl K71_0
      rw [f_X12_mean_L71] at h
      have hL88 : ∀ (b5 : Int32) (fu : Nat) (b3 : Int64) (b6 : Int32) (M : Mem) (res : (Int64) × Mem) (H : Heap) (locs : List Loc) (ls : Array Slot), f_X12_mean_L88 a1 a2 b5 fu b3 b6 M = some res → va_P D vwCl (wsG 20 (ceR cA q) q M) H → va_S (AqG 20 q) s.heap H locs → lv_has ls 7 [(0, .ref (q 0)), (1, .int a1), (2, .int a2), (3, .long b3), (5, .int b5), (6, .int b6)] → (∀ (H : Heap) (locs : List Loc) (ls : Array Slot), va_P D vwCl (wsG 20 (ceR cA q) q res.2) H → va_S (AqG 20 q) s.heap H locs → lv_has ls 7 [(0, .ref (q 0)), (1, .int a1), (2, .int a2), (3, .long (res.1)), (5, .int b5)] → W p l e ({ frames := 12, cells := 0, slots := 0, locals := 265 } : Room) s m [.ref (q 0), .int a1, .int a2].toArray below meth c H locs 0 0 (MQ below (Qi 20 (ceR cA q) D q r0 M0) [.ref (q 0), .int a1, .int a2].toArray s 0 0 (AqG 20 q)) (F0 m 116 ls [])) → W p l e ({ frames := 12, cells := 0, slots := 0, locals := 265 } : Room) s m [.ref (q 0), .int a1, .int a2].toArray below meth c H locs 0 0 (MQ below (Qi 20 (ceR cA q) D q r0 M0) [.ref (q 0), .int a1, .int a2].toArray s 0 0 (AqG 20 q)) (F0 m 88 ls []) := by
        intro b5 fu
        induction fu with
        | zero => intro b3 b6 M res H locs ls h; exact absurd h (by simp [f_X12_mean_L88])
        | succ fu ih =>
          intro b3 b6 M res H locs ls h hP hS hl K88_0
          rw [f_X12_mean_L88] at h
          refine lv_iload hx hb dX12_mean_88 (lv_at hl 5 rfl) ?_
          refine lv_aload_n hx hb dX12_mean_90 rfl (lv_at hl 0 rfl) ?_
          refine gfR_12_0 X hP sR_0 bw_1323 dX12_mean_91 ?_
          refine lv_iconst (v := 3) hx hb dX12_mean_94 (by decide) ?_
          refine ldR_ia X hP sR_1 zR_1 (by decide) dX12_mean_95 ?_
          refine topE (y := (gI M 1 3)) rfl ?_
          refine lv_icmp_ge (tgt := 116) hx hb dX12_mean_96 (by decide) (fun c50 => ?_) (fun c50 => ?_)
          · rw [if_pos c50] at h
            cases h
            exact K88_0 _ _ _ hP hS (lv_sub hl [0, 1, 2, 3, 4] rfl)
          · rw [if_neg c50] at h
            refine lv_lload_n hx hb dX12_mean_99 rfl (lv_at hl 3 rfl) ?_
            refine lv_aload_n hx hb dX12_mean_100 rfl (lv_at hl 0 rfl) ?_
            refine lv_iload hx hb dX12_mean_101 (lv_at hl 5 rfl) ?_
            refine lv_iconst (v := 0) hx hb dX12_mean_103 (by decide) ?_
            obtain ⟨r51, M52, hc53, h⟩ := bnd_inv h
            refine gV_i (As := [.int b6, .int (0 : Int32)]) X hP hS hl.1 (c_X12_personOf l D cA q aK aV hq hc53) sf_X12_personOf bw_1683 sv_X12_personOf (rcR_12 sR_0) rfl ⟨rfl, rfl⟩ ⟨Nat.le_of_ble_eq_true rfl, Nat.le_of_ble_eq_true rfl⟩ rfl rfl (Nat.le_of_ble_eq_true rfl) dX12_mean_104 (fun H locs hP hS => ?_)
            refine lv_i2l hx hb dX12_mean_107 rfl ?_
            refine lv_ladd hx hb dX12_mean_108 ?_
            obtain ⟨y54, ey54, h⟩ := lt_inv h
            refine topL ey54 ?_
            refine lv_lstore_n (lv' := [(3, .long y54), (0, .ref (q 0)), (1, .int a1), (2, .int a2), (5, .int b5), (6, .int b6)]) hx hb dX12_mean_109 rfl hl (by decide) rfl (fun ls hl => ?_)
            obtain ⟨y55, ey55, h⟩ := lt_inv h
            refine lv_iinc (v := y55) (lv' := [(6, .int y55), (3, .long y54), (0, .ref (q 0)), (1, .int a1), (2, .int a2), (5, .int b5)]) hx hb dX12_mean_110 hl (k := 5) rfl (by rw [ey55]; rfl) (by decide) rfl (fun ls hl => ?_)
            refine lv_goto (tgt := 88) hx hb dX12_mean_113 (by decide) ?_
            exact ih _ _ _ res _ _ _ h hP hS (lv_sub hl [2, 3, 4, 1, 5, 0] rfl) K88_0
      refine lv_iload hx hb dX12_mean_71 (lv_at hl 4 rfl) ?_
      refine lv_iload_n hx hb dX12_mean_73 rfl (lv_at hl 2 rfl) ?_
      refine lv_icmp_ge (tgt := 129) hx hb dX12_mean_74 (by decide) (fun c38 => ?_) (fun c38 => ?_)
      · rw [if_pos c38] at h
        cases h
        exact K71_0 _ _ _ hP hS (lv_sub hl [0, 2, 3] rfl)
      · rw [if_neg c38] at h
        refine lv_aload_n hx hb dX12_mean_77 rfl (lv_at hl 0 rfl) ?_
        refine lv_iload_n hx hb dX12_mean_78 rfl (lv_at hl 1 rfl) ?_
        refine lv_iload hx hb dX12_mean_79 (lv_at hl 4 rfl) ?_
        refine lv_iadd hx hb dX12_mean_81 ?_
        obtain ⟨_, M40, hc41, h⟩ := bnd_inv h
        refine gV_v (As := [.int (a1 + b5)]) X hP hS hl.1 (c_X12_lives l D cA q aK aV hq hc41) sf_X12_lives bw_2065 sv_X12_lives (rcR_12 sR_0) rfl ⟨rfl, rfl⟩ ⟨Nat.le_of_ble_eq_true rfl, Nat.le_of_ble_eq_true rfl⟩ rfl rfl (Nat.le_of_ble_eq_true rfl) dX12_mean_82 (fun H locs hP hS => ?_)
        refine lv_iconst (v := 0) hx hb dX12_mean_85 (by decide) ?_
        refine lv_istore (lv' := [(6, .int (0 : Int32)), (0, .ref (q 0)), (1, .int a1), (2, .int a2), (3, .long b3), (5, .int b5)]) hx hb dX12_mean_86 hl (by decide) rfl (fun ls hl => ?_)
        obtain ⟨s42, M43, hc44, h⟩ := bnd_inv h
        obtain ⟨x45, rfl⟩ : ∃ z, z = s42 := ⟨_, rfl⟩
        try dsimp only at h
        refine hL88 _ fz _ _ _ _ _ _ _ hc44 hP hS (lv_sub hl [1, 2, 3, 4, 5, 0] rfl) (fun H locs ls hP hS hl => ?_)
        have hl : lv_has ls 7 [(0, .ref (q 0)), (1, .int a1), (2, .int a2), (3, .long x45), (5, .int b5)] := hl
        refine lv_aload_n hx hb dX12_mean_116 rfl (lv_at hl 0 rfl) ?_
        refine lv_sipush (v := 2510) hx hb dX12_mean_117 (by decide) ?_
        obtain ⟨_, M47, hc48, h⟩ := bnd_inv h
        refine gV_v (As := [.int (2510 : Int32)]) X hP hS hl.1 (c_X12_restores l D cA q aK aV hq hc48) sf_X12_restores bw_1869 sv_X12_restores (rcR_12 sR_0) rfl ⟨rfl, rfl⟩ ⟨Nat.le_of_ble_eq_true rfl, Nat.le_of_ble_eq_true rfl⟩ rfl rfl (Nat.le_of_ble_eq_true rfl) dX12_mean_120 (fun H locs hP hS => ?_)
        obtain ⟨y49, ey49, h⟩ := lt_inv h
        refine lv_iinc (v := y49) (lv' := [(5, .int y49), (0, .ref (q 0)), (1, .int a1), (2, .int a2), (3, .long x45)]) hx hb dX12_mean_123 hl (k := 4) rfl (by rw [ey49]; rfl) (by decide) rfl (fun ls hl => ?_)
        refine lv_goto (tgt := 71) hx hb dX12_mean_126 (by decide) ?_
        exact ih _ _ _ res _ _ _ h hP hS (lv_sub hl [1, 2, 3, 4, 0] rfl) K71_0
  refine lv_iload_n hx hb dX12_mean_0 rfl (lv_at hl 1 rfl) ?_
  refine lv_i2l hx hb dX12_mean_1 rfl ?_
  refine lv_lconst (v := 0) hx hb dX12_mean_2 (by decide) ?_
  refine lv_ldc2 hx hb X.2.2.2.1 (X.2.2.2.2.1 _ bw_2064) dX12_mean_3 ?_
  obtain ⟨r1, M2, hc3, h⟩ := bnd_inv h
  refine gS_i (As := [.long (a1.toInt64), .long (0 : Int64), .long (9999 : Int64)]) X hP hS hl.1 (c_X12_isFrom l D cA q aK aV hq hc3) sf_X12_isFrom bw_1767 ss_X12_isFrom ⟨rfl, rfl⟩ ⟨Nat.le_of_ble_eq_true rfl, Nat.le_of_ble_eq_true rfl⟩ rfl rfl (Nat.le_of_ble_eq_true rfl) dX12_mean_6 (fun H locs hP hS => ?_)
  refine lv_if_eq (tgt := 35) hx hb dX12_mean_9 (by decide) (fun c4 => ?_) (fun c4 => ?_)
  · rw [if_pos c4] at h
    refine lv_aload_n hx hb dX12_mean_35 rfl (lv_at hl 0 rfl) ?_
    refine lv_iconst (v := 1) hx hb dX12_mean_36 (by decide) ?_
    obtain ⟨r5, M6, hc7, h⟩ := bnd_inv h
    refine gV_i (As := [.int (1 : Int32)]) X hP hS hl.1 (c_X12_is l D cA q aK aV hq hc7) sf_X12_is bw_1470 sv_X12_is (rcR_12 sR_0) rfl ⟨rfl, rfl⟩ ⟨Nat.le_of_ble_eq_true rfl, Nat.le_of_ble_eq_true rfl⟩ rfl rfl (Nat.le_of_ble_eq_true rfl) dX12_mean_37 (fun H locs hP hS => ?_)
    obtain ⟨g8, h⟩ := gd_inv h
    exact end_z X hr hk hP hS (Decidable.not_not.mp g8) h dX12_mean_40
  · rw [if_neg c4] at h
    refine lv_iload_n hx hb dX12_mean_12 rfl (lv_at hl 2 rfl) ?_
    refine lv_i2l hx hb dX12_mean_13 rfl ?_
    refine lv_lconst (v := 1) hx hb dX12_mean_14 (by decide) ?_
    refine lv_ldc2 hx hb X.2.2.2.1 (X.2.2.2.2.1 _ bw_1885) dX12_mean_15 ?_
    obtain ⟨r9, M10, hc11, h⟩ := bnd_inv h
    refine gS_i (As := [.long (a2.toInt64), .long (1 : Int64), .long (20 : Int64)]) X hP hS hl.1 (c_X12_isFrom l D cA q aK aV hq hc11) sf_X12_isFrom bw_1767 ss_X12_isFrom ⟨rfl, rfl⟩ ⟨Nat.le_of_ble_eq_true rfl, Nat.le_of_ble_eq_true rfl⟩ rfl rfl (Nat.le_of_ble_eq_true rfl) dX12_mean_18 (fun H locs hP hS => ?_)
    refine lv_if_eq (tgt := 35) hx hb dX12_mean_21 (by decide) (fun c12 => ?_) (fun c12 => ?_)
    · rw [if_pos c12] at h
      refine lv_aload_n hx hb dX12_mean_35 rfl (lv_at hl 0 rfl) ?_
      refine lv_iconst (v := 1) hx hb dX12_mean_36 (by decide) ?_
      obtain ⟨r13, M14, hc15, h⟩ := bnd_inv h
      refine gV_i (As := [.int (1 : Int32)]) X hP hS hl.1 (c_X12_is l D cA q aK aV hq hc15) sf_X12_is bw_1470 sv_X12_is (rcR_12 sR_0) rfl ⟨rfl, rfl⟩ ⟨Nat.le_of_ble_eq_true rfl, Nat.le_of_ble_eq_true rfl⟩ rfl rfl (Nat.le_of_ble_eq_true rfl) dX12_mean_37 (fun H locs hP hS => ?_)
      obtain ⟨g16, h⟩ := gd_inv h
      exact end_z X hr hk hP hS (Decidable.not_not.mp g16) h dX12_mean_40
    · rw [if_neg c12] at h
      refine lv_iload_n hx hb dX12_mean_24 rfl (lv_at hl 1 rfl) ?_
      refine lv_iload_n hx hb dX12_mean_25 rfl (lv_at hl 2 rfl) ?_
      refine lv_iadd hx hb dX12_mean_26 ?_
      refine lv_iconst (v := 1) hx hb dX12_mean_27 (by decide) ?_
      refine lv_isub hx hb dX12_mean_28 ?_
      refine lv_sipush (v := 9999) hx hb dX12_mean_29 (by decide) ?_
      refine lv_icmp_le (tgt := 41) hx hb dX12_mean_32 (by decide) (fun c17 => ?_) (fun c17 => ?_)
      · rw [if_pos c17] at h
        refine lv_aload_n hx hb dX12_mean_41 rfl (lv_at hl 0 rfl) ?_
        refine gfR_12_0 X hP sR_0 bw_1323 dX12_mean_42 ?_
        refine lv_bipush (v := 8) hx hb dX12_mean_45 (by decide) ?_
        refine ldR_ia X hP sR_1 zR_1 (by decide) dX12_mean_47 ?_
        refine topE (y := (gI M10 1 8)) rfl ?_
        refine lv_iconst (v := -1) hx hb dX12_mean_48 (by decide) ?_
        refine lv_icmp_ne (tgt := 59) hx hb dX12_mean_49 (by decide) (fun c18 => ?_) (fun c18 => ?_)
        · rw [if_neg c18] at h
          refine lv_aload_n hx hb dX12_mean_59 rfl (lv_at hl 0 rfl) ?_
          refine lv_sipush (v := 2510) hx hb dX12_mean_60 (by decide) ?_
          obtain ⟨_, M20, hc21, h⟩ := bnd_inv h
          refine gV_v (As := [.int (2510 : Int32)]) X hP hS hl.1 (c_X12_keeps l D cA q aK aV hq hc21) sf_X12_keeps bw_1865 sv_X12_keeps (rcR_12 sR_0) rfl ⟨rfl, rfl⟩ ⟨Nat.le_of_ble_eq_true rfl, Nat.le_of_ble_eq_true rfl⟩ rfl rfl (Nat.le_of_ble_eq_true rfl) dX12_mean_63 (fun H locs hP hS => ?_)
          refine lv_lconst (v := 0) hx hb dX12_mean_66 (by decide) ?_
          refine lv_lstore_n (lv' := [(3, .long (0 : Int64)), (0, .ref (q 0)), (1, .int a1), (2, .int a2)]) hx hb dX12_mean_67 rfl hl (by decide) rfl (fun ls hl => ?_)
          refine lv_iconst (v := 0) hx hb dX12_mean_68 (by decide) ?_
          refine lv_istore (lv' := [(5, .int (0 : Int32)), (3, .long (0 : Int64)), (0, .ref (q 0)), (1, .int a1), (2, .int a2)]) hx hb dX12_mean_69 hl (by decide) rfl (fun ls hl => ?_)
          obtain ⟨s22, M23, hc24, h⟩ := bnd_inv h
          obtain ⟨x25, rfl⟩ : ∃ z, z = s22 := ⟨_, rfl⟩
          try dsimp only at h
          refine hL71  fz _ _ _ _ _ _ _ hc24 hP hS (lv_sub hl [2, 3, 4, 1, 0] rfl) (fun H locs ls hP hS hl => ?_)
          have hl : lv_has ls 7 [(0, .ref (q 0)), (2, .int a2), (3, .long x25)] := hl
          refine lv_aload_n hx hb dX12_mean_129 rfl (lv_at hl 0 rfl) ?_
          refine lv_lload_n hx hb dX12_mean_130 rfl (lv_at hl 2 rfl) ?_
          refine lv_iload_n hx hb dX12_mean_131 rfl (lv_at hl 1 rfl) ?_
          refine lv_i2l hx hb dX12_mean_132 rfl ?_
          obtain ⟨r26, M27, hc28, h⟩ := bnd_inv h
          refine gV_i (As := [.long x25, .long (a2.toInt64)]) X hP hS hl.1 (c_X12_tellsBy l D cA q aK aV hq hc28) sf_X12_tellsBy bw_1914 sv_X12_tellsBy (rcR_12 sR_0) rfl ⟨rfl, rfl⟩ ⟨Nat.le_of_ble_eq_true rfl, Nat.le_of_ble_eq_true rfl⟩ rfl rfl (Nat.le_of_ble_eq_true rfl) dX12_mean_133 (fun H locs hP hS => ?_)
          obtain ⟨g29, h⟩ := gd_inv h
          exact end_z X hr hk hP hS (Decidable.not_not.mp g29) h dX12_mean_136
        · rw [if_pos c18] at h
          refine lv_aload_n hx hb dX12_mean_52 rfl (lv_at hl 0 rfl) ?_
          refine lv_bipush (v := 6) hx hb dX12_mean_53 (by decide) ?_
          obtain ⟨r30, M31, hc32, h⟩ := bnd_inv h
          refine gV_i (As := [.int (6 : Int32)]) X hP hS hl.1 (c_X12_is l D cA q aK aV hq hc32) sf_X12_is bw_1470 sv_X12_is (rcR_12 sR_0) rfl ⟨rfl, rfl⟩ ⟨Nat.le_of_ble_eq_true rfl, Nat.le_of_ble_eq_true rfl⟩ rfl rfl (Nat.le_of_ble_eq_true rfl) dX12_mean_55 (fun H locs hP hS => ?_)
          obtain ⟨g33, h⟩ := gd_inv h
          exact end_z X hr hk hP hS (Decidable.not_not.mp g33) h dX12_mean_58
      · rw [if_neg c17] at h
        refine lv_aload_n hx hb dX12_mean_35 rfl (lv_at hl 0 rfl) ?_
        refine lv_iconst (v := 1) hx hb dX12_mean_36 (by decide) ?_
        obtain ⟨r34, M35, hc36, h⟩ := bnd_inv h
        refine gV_i (As := [.int (1 : Int32)]) X hP hS hl.1 (c_X12_is l D cA q aK aV hq hc36) sf_X12_is bw_1470 sv_X12_is (rcR_12 sR_0) rfl ⟨rfl, rfl⟩ ⟨Nat.le_of_ble_eq_true rfl, Nat.le_of_ble_eq_true rfl⟩ rfl rfl (Nat.le_of_ble_eq_true rfl) dX12_mean_37 (fun H locs hP hS => ?_)
        obtain ⟨g37, h⟩ := gd_inv h
        exact end_z X hr hk hP hS (Decidable.not_not.mp g37) h dX12_mean_40
theorem dX12_copies_0 : decode cX12_copies 0 = .ok (.iconst 0, 1) := by decide +kernel
theorem dX12_copies_1 : decode cX12_copies 1 = .ok (.istore_n 3, 1) := by decide +kernel
theorem dX12_copies_2 : decode cX12_copies 2 = .ok (.iload_n 3, 1) := by decide +kernel
theorem dX12_copies_3 : decode cX12_copies 3 = .ok (.sipush 502, 3) := by decide +kernel
theorem dX12_copies_6 : decode cX12_copies 6 = .ok (.if_icmp .ge 33, 3) := by decide +kernel
theorem dX12_copies_9 : decode cX12_copies 9 = .ok (.aload_n 0, 1) := by decide +kernel
theorem dX12_copies_10 : decode cX12_copies 10 = .ok (.getfield 7, 3) := by decide +kernel
theorem dX12_copies_13 : decode cX12_copies 13 = .ok (.sipush 502, 3) := by decide +kernel
theorem dX12_copies_16 : decode cX12_copies 16 = .ok (.iload_n 2, 1) := by decide +kernel
theorem dX12_copies_17 : decode cX12_copies 17 = .ok (.imul, 1) := by decide +kernel
theorem dX12_copies_18 : decode cX12_copies 18 = .ok (.iload_n 3, 1) := by decide +kernel
theorem dX12_copies_19 : decode cX12_copies 19 = .ok (.iadd, 1) := by decide +kernel
theorem dX12_copies_20 : decode cX12_copies 20 = .ok (.aload_n 0, 1) := by decide +kernel
theorem dX12_copies_21 : decode cX12_copies 21 = .ok (.getfield 7, 3) := by decide +kernel
theorem dX12_copies_24 : decode cX12_copies 24 = .ok (.sipush 502, 3) := by decide +kernel
theorem dX12_copies_27 : decode cX12_copies 27 = .ok (.iload_n 1, 1) := by decide +kernel
theorem dX12_copies_28 : decode cX12_copies 28 = .ok (.imul, 1) := by decide +kernel
theorem dX12_copies_29 : decode cX12_copies 29 = .ok (.iload_n 3, 1) := by decide +kernel
theorem dX12_copies_30 : decode cX12_copies 30 = .ok (.iadd, 1) := by decide +kernel
theorem dX12_copies_31 : decode cX12_copies 31 = .ok (.iaload, 1) := by decide +kernel
theorem dX12_copies_32 : decode cX12_copies 32 = .ok (.iastore, 1) := by decide +kernel
theorem dX12_copies_33 : decode cX12_copies 33 = .ok (.iinc 3 1, 3) := by decide +kernel
theorem dX12_copies_36 : decode cX12_copies 36 = .ok (.goto (-34), 3) := by decide +kernel
theorem dX12_copies_39 : decode cX12_copies 39 = .ok (.iconst 0, 1) := by decide +kernel
theorem dX12_copies_40 : decode cX12_copies 40 = .ok (.istore_n 3, 1) := by decide +kernel
theorem dX12_copies_41 : decode cX12_copies 41 = .ok (.iload_n 3, 1) := by decide +kernel
theorem dX12_copies_42 : decode cX12_copies 42 = .ok (.bipush 23, 2) := by decide +kernel
theorem dX12_copies_44 : decode cX12_copies 44 = .ok (.if_icmp .ge 31, 3) := by decide +kernel
theorem dX12_copies_47 : decode cX12_copies 47 = .ok (.aload_n 0, 1) := by decide +kernel
theorem dX12_copies_48 : decode cX12_copies 48 = .ok (.getfield 13, 3) := by decide +kernel
theorem dX12_copies_51 : decode cX12_copies 51 = .ok (.bipush 23, 2) := by decide +kernel
theorem dX12_copies_53 : decode cX12_copies 53 = .ok (.iload_n 2, 1) := by decide +kernel
theorem dX12_copies_54 : decode cX12_copies 54 = .ok (.imul, 1) := by decide +kernel
theorem dX12_copies_55 : decode cX12_copies 55 = .ok (.iload_n 3, 1) := by decide +kernel
theorem dX12_copies_56 : decode cX12_copies 56 = .ok (.iadd, 1) := by decide +kernel
theorem dX12_copies_57 : decode cX12_copies 57 = .ok (.aload_n 0, 1) := by decide +kernel
theorem dX12_copies_58 : decode cX12_copies 58 = .ok (.getfield 13, 3) := by decide +kernel
theorem dX12_copies_61 : decode cX12_copies 61 = .ok (.bipush 23, 2) := by decide +kernel
theorem dX12_copies_63 : decode cX12_copies 63 = .ok (.iload_n 1, 1) := by decide +kernel
theorem dX12_copies_64 : decode cX12_copies 64 = .ok (.imul, 1) := by decide +kernel
theorem dX12_copies_65 : decode cX12_copies 65 = .ok (.iload_n 3, 1) := by decide +kernel
theorem dX12_copies_66 : decode cX12_copies 66 = .ok (.iadd, 1) := by decide +kernel
theorem dX12_copies_67 : decode cX12_copies 67 = .ok (.laload, 1) := by decide +kernel
theorem dX12_copies_68 : decode cX12_copies 68 = .ok (.lastore, 1) := by decide +kernel
theorem dX12_copies_69 : decode cX12_copies 69 = .ok (.iinc 3 1, 3) := by decide +kernel
theorem dX12_copies_72 : decode cX12_copies 72 = .ok (.goto (-31), 3) := by decide +kernel
theorem dX12_copies_75 : decode cX12_copies 75 = .ok (.return_, 1) := by decide +kernel
set_option maxRecDepth 100000 in
set_option maxHeartbeats 8000000 in
theorem c_X12_copies (l : Launch) (D : va_G) (cA : Nat → ClassId) (q aK aV : Nat → Nat) (hq : injG 20 q) {a1 : Int32} {a2 : Int32} {M M0 : Mem} (h : f_X12_copies a1 a2 M = some ((), M0)) : Met l yX12_copies (.code yX12_copies cX12_copies 4 none :: BW) ({ frames := 1, cells := 0, slots := 0, locals := 15 } : Room) (va_Pc [.ref (q 0), .int a1, .int a2] (CB 20 (ceR cA q) D cA q aK aV M)) (Qv 20 (ceR cA q) D q M0) 0 0 (AqG 20 q) := by
  refine gMet RX12 (by decide +kernel) rfl hq (Nat.le_of_ble_eq_true rfl) ?_
  intro p e s m below meth c ls X hr hk hP hS hl
  have hx := X.1
  have hb := X.2.1
  have hl : lv_has ls 4 [(0, .ref (q 0)), (1, .int a1), (2, .int a2)] := hl
  rw [f_X12_copies] at h
  have hL41 : ∀ (fu : Nat) (b3 : Int32) (M : Mem) (res : (Unit) × Mem) (H : Heap) (locs : List Loc) (ls : Array Slot), f_X12_copies_L41 a1 a2 fu b3 M = some res → va_P D vwCl (wsG 20 (ceR cA q) q M) H → va_S (AqG 20 q) s.heap H locs → lv_has ls 4 [(0, .ref (q 0)), (1, .int a1), (2, .int a2), (3, .int b3)] → (∀ (H : Heap) (locs : List Loc) (ls : Array Slot), va_P D vwCl (wsG 20 (ceR cA q) q res.2) H → va_S (AqG 20 q) s.heap H locs → lv_has ls 4 [] → W p l e ({ frames := 1, cells := 0, slots := 0, locals := 15 } : Room) s m [.ref (q 0), .int a1, .int a2].toArray below meth c H locs 0 0 (MQ below (Qv 20 (ceR cA q) D q M0) [.ref (q 0), .int a1, .int a2].toArray s 0 0 (AqG 20 q)) (F0 m 75 ls [])) → W p l e ({ frames := 1, cells := 0, slots := 0, locals := 15 } : Room) s m [.ref (q 0), .int a1, .int a2].toArray below meth c H locs 0 0 (MQ below (Qv 20 (ceR cA q) D q M0) [.ref (q 0), .int a1, .int a2].toArray s 0 0 (AqG 20 q)) (F0 m 41 ls []) := by
    intro fu
    induction fu with
    | zero => intro b3 M res H locs ls h; exact absurd h (by simp [f_X12_copies_L41])
    | succ fu ih =>
      intro b3 M res H locs ls h hP hS hl K41_0
      rw [f_X12_copies_L41] at h
      refine lv_iload_n hx hb dX12_copies_41 rfl (lv_at hl 3 rfl) ?_
      refine lv_bipush (v := 23) hx hb dX12_copies_42 (by decide) ?_
      refine lv_icmp_ge (tgt := 75) hx hb dX12_copies_44 (by decide) (fun c12 => ?_) (fun c12 => ?_)
      · rw [if_pos c12] at h
        cases h
        exact K41_0 _ _ _ hP hS (lv_sub hl [] rfl)
      · rw [if_neg c12] at h
        refine lv_aload_n hx hb dX12_copies_47 rfl (lv_at hl 0 rfl) ?_
        refine gfR_12_1 X hP sR_0 bw_1324 dX12_copies_48 ?_
        refine lv_bipush (v := 23) hx hb dX12_copies_51 (by decide) ?_
        refine lv_iload_n hx hb dX12_copies_53 rfl (lv_at hl 2 rfl) ?_
        refine lv_imul hx hb dX12_copies_54 ?_
        refine lv_iload_n hx hb dX12_copies_55 rfl (lv_at hl 3 rfl) ?_
        refine lv_iadd hx hb dX12_copies_56 ?_
        refine lv_aload_n hx hb dX12_copies_57 rfl (lv_at hl 0 rfl) ?_
        refine gfR_12_1 X hP sR_0 bw_1324 dX12_copies_58 ?_
        refine lv_bipush (v := 23) hx hb dX12_copies_61 (by decide) ?_
        refine lv_iload_n hx hb dX12_copies_63 rfl (lv_at hl 1 rfl) ?_
        refine lv_imul hx hb dX12_copies_64 ?_
        refine lv_iload_n hx hb dX12_copies_65 rfl (lv_at hl 3 rfl) ?_
        refine lv_iadd hx hb dX12_copies_66 ?_
        obtain ⟨g13, h⟩ := gd_inv h
        refine ldR_la X hP sR_2 zR_2 g13 dX12_copies_67 ?_
        obtain ⟨g14, h⟩ := gd_inv h
        obtain ⟨M15, eM15, h⟩ := lt_inv h
        refine stR_la X hP hS sR_2 zR_2 g14 eM15 dX12_copies_68 (fun H locs hP hS => ?_)
        obtain ⟨y16, ey16, h⟩ := lt_inv h
        refine lv_iinc (v := y16) (lv' := [(3, .int y16), (0, .ref (q 0)), (1, .int a1), (2, .int a2)]) hx hb dX12_copies_69 hl (k := 3) rfl (by rw [ey16]; rfl) (by decide) rfl (fun ls hl => ?_)
        refine lv_goto (tgt := 41) hx hb dX12_copies_72 (by decide) ?_
        exact ih _ _ res _ _ _ h hP hS (lv_sub hl [1, 2, 3, 0] rfl) K41_0
  have hL2 : ∀ (fu : Nat) (b3 : Int32) (M : Mem) (res : (Unit) × Mem) (H : Heap) (locs : List Loc) (ls : Array Slot), f_X12_copies_L2 a1 a2 fu b3 M = some res → va_P D vwCl (wsG 20 (ceR cA q) q M) H → va_S (AqG 20 q) s.heap H locs → lv_has ls 4 [(0, .ref (q 0)), (1, .int a1), (2, .int a2), (3, .int b3)] → (∀ (H : Heap) (locs : List Loc) (ls : Array Slot), va_P D vwCl (wsG 20 (ceR cA q) q res.2) H → va_S (AqG 20 q) s.heap H locs → lv_has ls 4 [(0, .ref (q 0)), (1, .int a1), (2, .int a2)] → W p l e ({ frames := 1, cells := 0, slots := 0, locals := 15 } : Room) s m [.ref (q 0), .int a1, .int a2].toArray below meth c H locs 0 0 (MQ below (Qv 20 (ceR cA q) D q M0) [.ref (q 0), .int a1, .int a2].toArray s 0 0 (AqG 20 q)) (F0 m 39 ls [])) → W p l e ({ frames := 1, cells := 0, slots := 0, locals := 15 } : Room) s m [.ref (q 0), .int a1, .int a2].toArray below meth c H locs 0 0 (MQ below (Qv 20 (ceR cA q) D q M0) [.ref (q 0), .int a1, .int a2].toArray s 0 0 (AqG 20 q)) (F0 m 2 ls []) := by
    intro fu
    induction fu with
    | zero => intro b3 M res H locs ls h; exact absurd h (by simp [f_X12_copies_L2])
    | succ fu ih =>
      intro b3 M res H locs ls h hP hS hl K2_0
      rw [f_X12_copies_L2] at h
      refine lv_iload_n hx hb dX12_copies_2 rfl (lv_at hl 3 rfl) ?_
      refine lv_sipush (v := 502) hx hb dX12_copies_3 (by decide) ?_
      refine lv_icmp_ge (tgt := 39) hx hb dX12_copies_6 (by decide) (fun c7 => ?_) (fun c7 => ?_)
      · rw [if_pos c7] at h
        cases h
        exact K2_0 _ _ _ hP hS (lv_sub hl [0, 1, 2] rfl)
      · rw [if_neg c7] at h
        refine lv_aload_n hx hb dX12_copies_9 rfl (lv_at hl 0 rfl) ?_
        refine gfR_12_0 X hP sR_0 bw_1323 dX12_copies_10 ?_
        refine lv_sipush (v := 502) hx hb dX12_copies_13 (by decide) ?_
        refine lv_iload_n hx hb dX12_copies_16 rfl (lv_at hl 2 rfl) ?_
        refine lv_imul hx hb dX12_copies_17 ?_
        refine lv_iload_n hx hb dX12_copies_18 rfl (lv_at hl 3 rfl) ?_
        refine lv_iadd hx hb dX12_copies_19 ?_
        refine lv_aload_n hx hb dX12_copies_20 rfl (lv_at hl 0 rfl) ?_
        refine gfR_12_0 X hP sR_0 bw_1323 dX12_copies_21 ?_
        refine lv_sipush (v := 502) hx hb dX12_copies_24 (by decide) ?_
        refine lv_iload_n hx hb dX12_copies_27 rfl (lv_at hl 1 rfl) ?_
        refine lv_imul hx hb dX12_copies_28 ?_
        refine lv_iload_n hx hb dX12_copies_29 rfl (lv_at hl 3 rfl) ?_
        refine lv_iadd hx hb dX12_copies_30 ?_
        obtain ⟨g8, h⟩ := gd_inv h
        refine ldR_ia X hP sR_1 zR_1 g8 dX12_copies_31 ?_
        obtain ⟨g9, h⟩ := gd_inv h
        obtain ⟨M10, eM10, h⟩ := lt_inv h
        refine stR_ia X hP hS sR_1 zR_1 g9 eM10 dX12_copies_32 (fun H locs hP hS => ?_)
        obtain ⟨y11, ey11, h⟩ := lt_inv h
        refine lv_iinc (v := y11) (lv' := [(3, .int y11), (0, .ref (q 0)), (1, .int a1), (2, .int a2)]) hx hb dX12_copies_33 hl (k := 3) rfl (by rw [ey11]; rfl) (by decide) rfl (fun ls hl => ?_)
        refine lv_goto (tgt := 2) hx hb dX12_copies_36 (by decide) ?_
        exact ih _ _ res _ _ _ h hP hS (lv_sub hl [1, 2, 3, 0] rfl) K2_0
  refine lv_iconst (v := 0) hx hb dX12_copies_0 (by decide) ?_
  refine lv_istore_n (lv' := [(3, .int (0 : Int32)), (0, .ref (q 0)), (1, .int a1), (2, .int a2)]) hx hb dX12_copies_1 rfl hl (by decide) rfl (fun ls hl => ?_)
  obtain ⟨s1, M2, hc3, h⟩ := bnd_inv h
  try dsimp only at h
  refine hL2  fz _ _ _ _ _ _ hc3 hP hS (lv_sub hl [1, 2, 3, 0] rfl) (fun H locs ls hP hS hl => ?_)
  have hl : lv_has ls 4 [(0, .ref (q 0)), (1, .int a1), (2, .int a2)] := hl
  refine lv_iconst (v := 0) hx hb dX12_copies_39 (by decide) ?_
  refine lv_istore_n (lv' := [(3, .int (0 : Int32)), (0, .ref (q 0)), (1, .int a1), (2, .int a2)]) hx hb dX12_copies_40 rfl hl (by decide) rfl (fun ls hl => ?_)
  obtain ⟨s4, M5, hc6, h⟩ := bnd_inv h
  try dsimp only at h
  refine hL41  fz _ _ _ _ _ _ hc6 hP hS (lv_sub hl [1, 2, 3, 0] rfl) (fun H locs ls hP hS hl => ?_)
  have hl : lv_has ls 4 [] := hl
  exact end_v X hr hk hP hS h dX12_copies_75
theorem dX12_mark_0 : decode cX12_mark 0 = .ok (.aload_n 0, 1) := by decide +kernel
theorem dX12_mark_1 : decode cX12_mark 1 = .ok (.getfield 515, 3) := by decide +kernel
theorem dX12_mark_4 : decode cX12_mark 4 = .ok (.iconst 3, 1) := by decide +kernel
theorem dX12_mark_5 : decode cX12_mark 5 = .ok (.if_icmp .ne 9, 3) := by decide +kernel
theorem dX12_mark_8 : decode cX12_mark 8 = .ok (.aload_n 0, 1) := by decide +kernel
theorem dX12_mark_9 : decode cX12_mark 9 = .ok (.iconst 4, 1) := by decide +kernel
theorem dX12_mark_10 : decode cX12_mark 10 = .ok (.invokevirtual 91, 3) := by decide +kernel
theorem dX12_mark_13 : decode cX12_mark 13 = .ok (.ireturn, 1) := by decide +kernel
theorem dX12_mark_14 : decode cX12_mark 14 = .ok (.aload_n 0, 1) := by decide +kernel
theorem dX12_mark_15 : decode cX12_mark 15 = .ok (.dup, 1) := by decide +kernel
theorem dX12_mark_16 : decode cX12_mark 16 = .ok (.getfield 515, 3) := by decide +kernel
theorem dX12_mark_19 : decode cX12_mark 19 = .ok (.iconst 1, 1) := by decide +kernel
theorem dX12_mark_20 : decode cX12_mark 20 = .ok (.iadd, 1) := by decide +kernel
theorem dX12_mark_21 : decode cX12_mark 21 = .ok (.putfield 515, 3) := by decide +kernel
theorem dX12_mark_24 : decode cX12_mark 24 = .ok (.aload_n 0, 1) := by decide +kernel
theorem dX12_mark_25 : decode cX12_mark 25 = .ok (.iconst 0, 1) := by decide +kernel
theorem dX12_mark_26 : decode cX12_mark 26 = .ok (.aload_n 0, 1) := by decide +kernel
theorem dX12_mark_27 : decode cX12_mark 27 = .ok (.getfield 515, 3) := by decide +kernel
theorem dX12_mark_30 : decode cX12_mark 30 = .ok (.invokevirtual 518, 3) := by decide +kernel
theorem dX12_mark_33 : decode cX12_mark 33 = .ok (.aload_n 0, 1) := by decide +kernel
theorem dX12_mark_34 : decode cX12_mark 34 = .ok (.aload_n 0, 1) := by decide +kernel
theorem dX12_mark_35 : decode cX12_mark 35 = .ok (.getfield 515, 3) := by decide +kernel
theorem dX12_mark_38 : decode cX12_mark 38 = .ok (.invokevirtual 95, 3) := by decide +kernel
theorem dX12_mark_41 : decode cX12_mark 41 = .ok (.ireturn, 1) := by decide +kernel
set_option maxRecDepth 100000 in
set_option maxHeartbeats 8000000 in
theorem c_X12_mark (l : Launch) (D : va_G) (cA : Nat → ClassId) (q aK aV : Nat → Nat) (hq : injG 20 q) {M M0 : Mem} {r0 : Int32} (h : f_X12_mark M = some (r0, M0)) : Met l yX12_mark (.code yX12_mark cX12_mark 1 (some .int) :: BW) ({ frames := 2, cells := 0, slots := 0, locals := 38 } : Room) (va_Pc [.ref (q 0)] (CB 20 (ceR cA q) D cA q aK aV M)) (Qi 20 (ceR cA q) D q r0 M0) 0 0 (AqG 20 q) := by
  refine gMet RX12 (by decide +kernel) rfl hq (Nat.le_of_ble_eq_true rfl) ?_
  intro p e s m below meth c ls X hr hk hP hS hl
  have hx := X.1
  have hb := X.2.1
  have hl : lv_has ls 1 [(0, .ref (q 0))] := hl
  rw [f_X12_mark] at h
  refine lv_aload_n hx hb dX12_mark_0 rfl (lv_at hl 0 rfl) ?_
  refine gfR_12_41 X hP sR_0 bw_1364 dX12_mark_1 ?_
  refine lv_iconst (v := 3) hx hb dX12_mark_4 (by decide) ?_
  refine lv_icmp_ne (tgt := 14) hx hb dX12_mark_5 (by decide) (fun c1 => ?_) (fun c1 => ?_)
  · rw [if_neg c1] at h
    refine lv_aload_n hx hb dX12_mark_14 rfl (lv_at hl 0 rfl) ?_
    refine lv_dup hx hb dX12_mark_15 rfl ?_
    refine gfR_12_41 X hP sR_0 bw_1364 dX12_mark_16 ?_
    refine lv_iconst (v := 1) hx hb dX12_mark_19 (by decide) ?_
    refine lv_iadd hx hb dX12_mark_20 ?_
    obtain ⟨M2, eM2, h⟩ := lt_inv h
    refine pfR_12_41 X hP hS sR_0 bw_1364 eM2 dX12_mark_21 (fun H locs hP hS => ?_)
    refine lv_aload_n hx hb dX12_mark_24 rfl (lv_at hl 0 rfl) ?_
    refine lv_iconst (v := 0) hx hb dX12_mark_25 (by decide) ?_
    refine lv_aload_n hx hb dX12_mark_26 rfl (lv_at hl 0 rfl) ?_
    refine gfR_12_41 X hP sR_0 bw_1364 dX12_mark_27 ?_
    obtain ⟨_, M4, hc5, h⟩ := bnd_inv h
    refine gV_v (As := [.int (0 : Int32), .int (gI M2 0 41)]) X hP hS hl.1 (c_X12_copies l D cA q aK aV hq hc5) sf_X12_copies bw_2110 sv_X12_copies (rcR_12 sR_0) rfl ⟨rfl, rfl⟩ ⟨Nat.le_of_ble_eq_true rfl, Nat.le_of_ble_eq_true rfl⟩ rfl rfl (Nat.le_of_ble_eq_true rfl) dX12_mark_30 (fun H locs hP hS => ?_)
    refine lv_aload_n hx hb dX12_mark_33 rfl (lv_at hl 0 rfl) ?_
    refine lv_aload_n hx hb dX12_mark_34 rfl (lv_at hl 0 rfl) ?_
    refine gfR_12_41 X hP sR_0 bw_1364 dX12_mark_35 ?_
    obtain ⟨r6, M7, hc8, h⟩ := bnd_inv h
    refine gV_i (As := [.int (gI M4 0 41)]) X hP hS hl.1 (c_X12_gives l D cA q aK aV hq hc8) sf_X12_gives bw_1639 sv_X12_gives (rcR_12 sR_0) rfl ⟨rfl, rfl⟩ ⟨Nat.le_of_ble_eq_true rfl, Nat.le_of_ble_eq_true rfl⟩ rfl rfl (Nat.le_of_ble_eq_true rfl) dX12_mark_38 (fun H locs hP hS => ?_)
    exact end_i X hr hk hP hS h dX12_mark_41
  · rw [if_pos c1] at h
    refine lv_aload_n hx hb dX12_mark_8 rfl (lv_at hl 0 rfl) ?_
    refine lv_iconst (v := 4) hx hb dX12_mark_9 (by decide) ?_
    obtain ⟨r9, M10, hc11, h⟩ := bnd_inv h
    refine gV_i (As := [.int (4 : Int32)]) X hP hS hl.1 (c_X12_refuse l D cA q aK aV hq hc11) sf_X12_refuse bw_1530 sv_X12_refuse (rcR_12 sR_0) rfl ⟨rfl, rfl⟩ ⟨Nat.le_of_ble_eq_true rfl, Nat.le_of_ble_eq_true rfl⟩ rfl rfl (Nat.le_of_ble_eq_true rfl) dX12_mark_10 (fun H locs hP hS => ?_)
    exact end_i X hr hk hP hS h dX12_mark_13
theorem dX12_undo_0 : decode cX12_undo 0 = .ok (.aload_n 0, 1) := by decide +kernel
theorem dX12_undo_1 : decode cX12_undo 1 = .ok (.getfield 515, 3) := by decide +kernel
theorem dX12_undo_4 : decode cX12_undo 4 = .ok (.ifCond .ne 10, 3) := by decide +kernel
theorem dX12_undo_7 : decode cX12_undo 7 = .ok (.aload_n 0, 1) := by decide +kernel
theorem dX12_undo_8 : decode cX12_undo 8 = .ok (.bipush 6, 2) := by decide +kernel
theorem dX12_undo_10 : decode cX12_undo 10 = .ok (.invokevirtual 91, 3) := by decide +kernel
theorem dX12_undo_13 : decode cX12_undo 13 = .ok (.ireturn, 1) := by decide +kernel
theorem dX12_undo_14 : decode cX12_undo 14 = .ok (.aload_n 0, 1) := by decide +kernel
theorem dX12_undo_15 : decode cX12_undo 15 = .ok (.aload_n 0, 1) := by decide +kernel
theorem dX12_undo_16 : decode cX12_undo 16 = .ok (.getfield 515, 3) := by decide +kernel
theorem dX12_undo_19 : decode cX12_undo 19 = .ok (.iconst 0, 1) := by decide +kernel
theorem dX12_undo_20 : decode cX12_undo 20 = .ok (.invokevirtual 518, 3) := by decide +kernel
theorem dX12_undo_23 : decode cX12_undo 23 = .ok (.aload_n 0, 1) := by decide +kernel
theorem dX12_undo_24 : decode cX12_undo 24 = .ok (.dup, 1) := by decide +kernel
theorem dX12_undo_25 : decode cX12_undo 25 = .ok (.getfield 515, 3) := by decide +kernel
theorem dX12_undo_28 : decode cX12_undo 28 = .ok (.iconst 1, 1) := by decide +kernel
theorem dX12_undo_29 : decode cX12_undo 29 = .ok (.isub, 1) := by decide +kernel
theorem dX12_undo_30 : decode cX12_undo 30 = .ok (.putfield 515, 3) := by decide +kernel
theorem dX12_undo_33 : decode cX12_undo 33 = .ok (.aload_n 0, 1) := by decide +kernel
theorem dX12_undo_34 : decode cX12_undo 34 = .ok (.aload_n 0, 1) := by decide +kernel
theorem dX12_undo_35 : decode cX12_undo 35 = .ok (.getfield 515, 3) := by decide +kernel
theorem dX12_undo_38 : decode cX12_undo 38 = .ok (.invokevirtual 95, 3) := by decide +kernel
theorem dX12_undo_41 : decode cX12_undo 41 = .ok (.ireturn, 1) := by decide +kernel
set_option maxRecDepth 100000 in
set_option maxHeartbeats 8000000 in
theorem c_X12_undo (l : Launch) (D : va_G) (cA : Nat → ClassId) (q aK aV : Nat → Nat) (hq : injG 20 q) {M M0 : Mem} {r0 : Int32} (h : f_X12_undo M = some (r0, M0)) : Met l yX12_undo (.code yX12_undo cX12_undo 1 (some .int) :: BW) ({ frames := 2, cells := 0, slots := 0, locals := 38 } : Room) (va_Pc [.ref (q 0)] (CB 20 (ceR cA q) D cA q aK aV M)) (Qi 20 (ceR cA q) D q r0 M0) 0 0 (AqG 20 q) := by
  refine gMet RX12 (by decide +kernel) rfl hq (Nat.le_of_ble_eq_true rfl) ?_
  intro p e s m below meth c ls X hr hk hP hS hl
  have hx := X.1
  have hb := X.2.1
  have hl : lv_has ls 1 [(0, .ref (q 0))] := hl
  rw [f_X12_undo] at h
  refine lv_aload_n hx hb dX12_undo_0 rfl (lv_at hl 0 rfl) ?_
  refine gfR_12_41 X hP sR_0 bw_1364 dX12_undo_1 ?_
  refine lv_if_ne (tgt := 14) hx hb dX12_undo_4 (by decide) (fun c1 => ?_) (fun c1 => ?_)
  · rw [if_neg c1] at h
    refine lv_aload_n hx hb dX12_undo_14 rfl (lv_at hl 0 rfl) ?_
    refine lv_aload_n hx hb dX12_undo_15 rfl (lv_at hl 0 rfl) ?_
    refine gfR_12_41 X hP sR_0 bw_1364 dX12_undo_16 ?_
    refine lv_iconst (v := 0) hx hb dX12_undo_19 (by decide) ?_
    obtain ⟨_, M3, hc4, h⟩ := bnd_inv h
    refine gV_v (As := [.int (gI M 0 41), .int (0 : Int32)]) X hP hS hl.1 (c_X12_copies l D cA q aK aV hq hc4) sf_X12_copies bw_2110 sv_X12_copies (rcR_12 sR_0) rfl ⟨rfl, rfl⟩ ⟨Nat.le_of_ble_eq_true rfl, Nat.le_of_ble_eq_true rfl⟩ rfl rfl (Nat.le_of_ble_eq_true rfl) dX12_undo_20 (fun H locs hP hS => ?_)
    refine lv_aload_n hx hb dX12_undo_23 rfl (lv_at hl 0 rfl) ?_
    refine lv_dup hx hb dX12_undo_24 rfl ?_
    refine gfR_12_41 X hP sR_0 bw_1364 dX12_undo_25 ?_
    refine lv_iconst (v := 1) hx hb dX12_undo_28 (by decide) ?_
    refine lv_isub hx hb dX12_undo_29 ?_
    obtain ⟨M5, eM5, h⟩ := lt_inv h
    refine pfR_12_41 X hP hS sR_0 bw_1364 eM5 dX12_undo_30 (fun H locs hP hS => ?_)
    refine lv_aload_n hx hb dX12_undo_33 rfl (lv_at hl 0 rfl) ?_
    refine lv_aload_n hx hb dX12_undo_34 rfl (lv_at hl 0 rfl) ?_
    refine gfR_12_41 X hP sR_0 bw_1364 dX12_undo_35 ?_
    obtain ⟨r6, M7, hc8, h⟩ := bnd_inv h
    refine gV_i (As := [.int (gI M5 0 41)]) X hP hS hl.1 (c_X12_gives l D cA q aK aV hq hc8) sf_X12_gives bw_1639 sv_X12_gives (rcR_12 sR_0) rfl ⟨rfl, rfl⟩ ⟨Nat.le_of_ble_eq_true rfl, Nat.le_of_ble_eq_true rfl⟩ rfl rfl (Nat.le_of_ble_eq_true rfl) dX12_undo_38 (fun H locs hP hS => ?_)
    exact end_i X hr hk hP hS h dX12_undo_41
  · rw [if_pos c1] at h
    refine lv_aload_n hx hb dX12_undo_7 rfl (lv_at hl 0 rfl) ?_
    refine lv_bipush (v := 6) hx hb dX12_undo_8 (by decide) ?_
    obtain ⟨r9, M10, hc11, h⟩ := bnd_inv h
    refine gV_i (As := [.int (6 : Int32)]) X hP hS hl.1 (c_X12_refuse l D cA q aK aV hq hc11) sf_X12_refuse bw_1530 sv_X12_refuse (rcR_12 sR_0) rfl ⟨rfl, rfl⟩ ⟨Nat.le_of_ble_eq_true rfl, Nat.le_of_ble_eq_true rfl⟩ rfl rfl (Nat.le_of_ble_eq_true rfl) dX12_undo_10 (fun H locs hP hS => ?_)
    exact end_i X hr hk hP hS h dX12_undo_13
