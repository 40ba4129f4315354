theorem dX11_status_0 : decode cX11_status 0 = .ok (.aload_n 0, 1) := by decide +kernel
theorem dX11_status_1 : decode cX11_status 1 = .ok (.getfield 82, 3) := by decide +kernel
theorem dX11_status_4 : decode cX11_status 4 = .ok (.ireturn, 1) := by decide +kernel
set_option maxRecDepth 100000 in
set_option maxHeartbeats 8000000 in
theorem c_X11_status (l : Launch) (D : va_G) (cA : Nat → ClassId) (q aK aV : Nat → Nat) (hq : injG 167 q) {M M0 : Mem} {r0 : Int32} (h : f_X11_status M = some (r0, M0)) : Met l yX11_status (.code yX11_status cX11_status 1 (some .int) :: BW) ({ frames := 1, cells := 0, slots := 0, locals := 12 } : Room) (va_Pc [.ref (q 0)] (CB 167 (ceC cA q) D cA q aK aV M)) (Qi 167 (ceC cA q) D q r0 M0) 0 0 (AqG 167 q) := by
  refine gMet RX11 (by decide +kernel) rfl hq (Nat.le_of_ble_eq_true rfl) ?_
  intro p e s m below meth c ls X hr hk hP hS hl
  have hx := X.1
  have hb := X.2.1
  have hl : lv_has ls 1 [(0, .ref (q 0))] := hl
  rw [f_X11_status] at h
  refine lv_aload_n hx hb dX11_status_0 rfl (lv_at hl 0 rfl) ?_
  refine gfC_11_12 X hP sC_0 bw_442 dX11_status_1 ?_
  exact end_i X hr hk hP hS h dX11_status_4
theorem dX11_top_0 : decode cX11_top 0 = .ok (.aload_n 0, 1) := by decide +kernel
theorem dX11_top_1 : decode cX11_top 1 = .ok (.getfield 85, 3) := by decide +kernel
theorem dX11_top_4 : decode cX11_top 4 = .ok (.lreturn, 1) := by decide +kernel
set_option maxRecDepth 100000 in
set_option maxHeartbeats 8000000 in
theorem c_X11_top (l : Launch) (D : va_G) (cA : Nat → ClassId) (q aK aV : Nat → Nat) (hq : injG 167 q) {M M0 : Mem} {r0 : Int64} (h : f_X11_top M = some (r0, M0)) : Met l yX11_top (.code yX11_top cX11_top 1 (some .long) :: BW) ({ frames := 1, cells := 0, slots := 0, locals := 12 } : Room) (va_Pc [.ref (q 0)] (CB 167 (ceC cA q) D cA q aK aV M)) (Ql 167 (ceC cA q) D q r0 M0) 0 0 (AqG 167 q) := by
  refine gMet RX11 (by decide +kernel) rfl hq (Nat.le_of_ble_eq_true rfl) ?_
  intro p e s m below meth c ls X hr hk hP hS hl
  have hx := X.1
  have hb := X.2.1
  have hl : lv_has ls 1 [(0, .ref (q 0))] := hl
  rw [f_X11_top] at h
  refine lv_aload_n hx hb dX11_top_0 rfl (lv_at hl 0 rfl) ?_
  refine gfC_11_13 X hP sC_0 bw_443 dX11_top_1 ?_
  exact end_l X hr hk hP hS h dX11_top_4
theorem dX11_bottom_0 : decode cX11_bottom 0 = .ok (.aload_n 0, 1) := by decide +kernel
theorem dX11_bottom_1 : decode cX11_bottom 1 = .ok (.getfield 89, 3) := by decide +kernel
theorem dX11_bottom_4 : decode cX11_bottom 4 = .ok (.lreturn, 1) := by decide +kernel
set_option maxRecDepth 100000 in
set_option maxHeartbeats 8000000 in
theorem c_X11_bottom (l : Launch) (D : va_G) (cA : Nat → ClassId) (q aK aV : Nat → Nat) (hq : injG 167 q) {M M0 : Mem} {r0 : Int64} (h : f_X11_bottom M = some (r0, M0)) : Met l yX11_bottom (.code yX11_bottom cX11_bottom 1 (some .long) :: BW) ({ frames := 1, cells := 0, slots := 0, locals := 12 } : Room) (va_Pc [.ref (q 0)] (CB 167 (ceC cA q) D cA q aK aV M)) (Ql 167 (ceC cA q) D q r0 M0) 0 0 (AqG 167 q) := by
  refine gMet RX11 (by decide +kernel) rfl hq (Nat.le_of_ble_eq_true rfl) ?_
  intro p e s m below meth c ls X hr hk hP hS hl
  have hx := X.1
  have hb := X.2.1
  have hl : lv_has ls 1 [(0, .ref (q 0))] := hl
  rw [f_X11_bottom] at h
  refine lv_aload_n hx hb dX11_bottom_0 rfl (lv_at hl 0 rfl) ?_
  refine gfC_11_14 X hP sC_0 bw_444 dX11_bottom_1 ?_
  exact end_l X hr hk hP hS h dX11_bottom_4
theorem dX11_within_0 : decode cX11_within 0 = .ok (.iload_n 0, 1) := by decide +kernel
theorem dX11_within_1 : decode cX11_within 1 = .ok (.ifCond .lt 12, 3) := by decide +kernel
theorem dX11_within_4 : decode cX11_within 4 = .ok (.iload_n 0, 1) := by decide +kernel
theorem dX11_within_5 : decode cX11_within 5 = .ok (.iload_n 1, 1) := by decide +kernel
theorem dX11_within_6 : decode cX11_within 6 = .ok (.if_icmp .ge 7, 3) := by decide +kernel
theorem dX11_within_9 : decode cX11_within 9 = .ok (.iconst 1, 1) := by decide +kernel
theorem dX11_within_10 : decode cX11_within 10 = .ok (.goto 4, 3) := by decide +kernel
theorem dX11_within_13 : decode cX11_within 13 = .ok (.iconst 0, 1) := by decide +kernel
theorem dX11_within_14 : decode cX11_within 14 = .ok (.ireturn, 1) := by decide +kernel
set_option maxRecDepth 100000 in
set_option maxHeartbeats 8000000 in
theorem c_X11_within (l : Launch) (D : va_G) (cA : Nat → ClassId) (q aK aV : Nat → Nat) (hq : injG 167 q) {a0 : Int32} {a1 : Int32} {M M0 : Mem} {r0 : Int32} (h : f_X11_within a0 a1 M = some (r0, M0)) : Met l yX11_within (.code yX11_within cX11_within 2 (some .boolean) :: BW) ({ frames := 1, cells := 0, slots := 0, locals := 13 } : Room) (va_Pc [.int a0, .int a1] (CB 167 (ceC cA q) D cA q aK aV M)) (Qi 167 (ceC cA q) D q r0 M0) 0 0 (AqG 167 q) := by
  refine gMet RX11 (by decide +kernel) rfl hq (Nat.le_of_ble_eq_true rfl) ?_
  intro p e s m below meth c ls X hr hk hP hS hl
  have hx := X.1
  have hb := X.2.1
  have hl : lv_has ls 2 [(0, .int a0), (1, .int a1)] := hl
  rw [f_X11_within] at h
  refine lv_iload_n hx hb dX11_within_0 rfl (lv_at hl 0 rfl) ?_
  refine lv_if_lt (tgt := 13) hx hb dX11_within_1 (by decide) (fun c1 => ?_) (fun c1 => ?_)
  · rw [if_pos c1] at h
    refine lv_iconst (v := 0) hx hb dX11_within_13 (by decide) ?_
    exact end_z X hr hk hP hS (Or.inl rfl) h dX11_within_14
  · rw [if_neg c1] at h
    refine lv_iload_n hx hb dX11_within_4 rfl (lv_at hl 0 rfl) ?_
    refine lv_iload_n hx hb dX11_within_5 rfl (lv_at hl 1 rfl) ?_
    refine lv_icmp_ge (tgt := 13) hx hb dX11_within_6 (by decide) (fun c2 => ?_) (fun c2 => ?_)
    · rw [if_pos c2] at h
      refine lv_iconst (v := 0) hx hb dX11_within_13 (by decide) ?_
      exact end_z X hr hk hP hS (Or.inl rfl) h dX11_within_14
    · rw [if_neg c2] at h
      refine lv_iconst (v := 1) hx hb dX11_within_9 (by decide) ?_
      refine lv_goto (tgt := 14) hx hb dX11_within_10 (by decide) ?_
      exact end_z X hr hk hP hS (Or.inr rfl) h dX11_within_14
theorem dX11_denied_0 : decode cX11_denied 0 = .ok (.aload_n 0, 1) := by decide +kernel
theorem dX11_denied_1 : decode cX11_denied 1 = .ok (.iload_n 1, 1) := by decide +kernel
theorem dX11_denied_2 : decode cX11_denied 2 = .ok (.putfield 82, 3) := by decide +kernel
theorem dX11_denied_5 : decode cX11_denied 5 = .ok (.iconst 0, 1) := by decide +kernel
theorem dX11_denied_6 : decode cX11_denied 6 = .ok (.ireturn, 1) := by decide +kernel
set_option maxRecDepth 100000 in
set_option maxHeartbeats 8000000 in
theorem c_X11_denied (l : Launch) (D : va_G) (cA : Nat → ClassId) (q aK aV : Nat → Nat) (hq : injG 167 q) {a1 : Int32} {M M0 : Mem} {r0 : Int32} (h : f_X11_denied a1 M = some (r0, M0)) : Met l yX11_denied (.code yX11_denied cX11_denied 2 (some .boolean) :: BW) ({ frames := 1, cells := 0, slots := 0, locals := 13 } : Room) (va_Pc [.ref (q 0), .int a1] (CB 167 (ceC cA q) D cA q aK aV M)) (Qi 167 (ceC cA q) D q r0 M0) 0 0 (AqG 167 q) := by
  refine gMet RX11 (by decide +kernel) rfl hq (Nat.le_of_ble_eq_true rfl) ?_
  intro p e s m below meth c ls X hr hk hP hS hl
  have hx := X.1
  have hb := X.2.1
  have hl : lv_has ls 2 [(0, .ref (q 0)), (1, .int a1)] := hl
  rw [f_X11_denied] at h
  refine lv_aload_n hx hb dX11_denied_0 rfl (lv_at hl 0 rfl) ?_
  refine lv_iload_n hx hb dX11_denied_1 rfl (lv_at hl 1 rfl) ?_
  obtain ⟨M1, eM1, h⟩ := lt_inv h
  refine pfC_11_12 X hP hS sC_0 bw_442 eM1 dX11_denied_2 (fun H locs hP hS => ?_)
  refine lv_iconst (v := 0) hx hb dX11_denied_5 (by decide) ?_
  exact end_z X hr hk hP hS (Or.inl rfl) h dX11_denied_6
theorem dX11_trayAt_0 : decode cX11_trayAt 0 = .ok (.iload_n 1, 1) := by decide +kernel
theorem dX11_trayAt_1 : decode cX11_trayAt 1 = .ok (.aload_n 0, 1) := by decide +kernel
theorem dX11_trayAt_2 : decode cX11_trayAt 2 = .ok (.getfield 29, 3) := by decide +kernel
theorem dX11_trayAt_5 : decode cX11_trayAt 5 = .ok (.arraylength, 1) := by decide +kernel
theorem dX11_trayAt_6 : decode cX11_trayAt 6 = .ok (.invokestatic 104, 3) := by decide +kernel
theorem dX11_trayAt_9 : decode cX11_trayAt 9 = .ok (.ifCond .eq 12, 3) := by decide +kernel
theorem dX11_trayAt_12 : decode cX11_trayAt 12 = .ok (.aload_n 0, 1) := by decide +kernel
theorem dX11_trayAt_13 : decode cX11_trayAt 13 = .ok (.getfield 29, 3) := by decide +kernel
theorem dX11_trayAt_16 : decode cX11_trayAt 16 = .ok (.iload_n 1, 1) := by decide +kernel
theorem dX11_trayAt_17 : decode cX11_trayAt 17 = .ok (.aaload, 1) := by decide +kernel
theorem dX11_trayAt_18 : decode cX11_trayAt 18 = .ok (.goto 7, 3) := by decide +kernel
theorem dX11_trayAt_21 : decode cX11_trayAt 21 = .ok (.aload_n 0, 1) := by decide +kernel
theorem dX11_trayAt_22 : decode cX11_trayAt 22 = .ok (.getfield 34, 3) := by decide +kernel
theorem dX11_trayAt_25 : decode cX11_trayAt 25 = .ok (.astore_n 2, 1) := by decide +kernel
theorem dX11_trayAt_26 : decode cX11_trayAt 26 = .ok (.aload_n 2, 1) := by decide +kernel
theorem dX11_trayAt_27 : decode cX11_trayAt 27 = .ok (.ifnull 7, 3) := by decide +kernel
theorem dX11_trayAt_30 : decode cX11_trayAt 30 = .ok (.aload_n 2, 1) := by decide +kernel
theorem dX11_trayAt_31 : decode cX11_trayAt 31 = .ok (.goto 7, 3) := by decide +kernel
theorem dX11_trayAt_34 : decode cX11_trayAt 34 = .ok (.aload_n 0, 1) := by decide +kernel
theorem dX11_trayAt_35 : decode cX11_trayAt 35 = .ok (.getfield 34, 3) := by decide +kernel
theorem dX11_trayAt_38 : decode cX11_trayAt 38 = .ok (.areturn, 1) := by decide +kernel
set_option maxRecDepth 100000 in
set_option maxHeartbeats 8000000 in
theorem c_X11_trayAt (l : Launch) (D : va_G) (cA : Nat → ClassId) (q aK aV : Nat → Nat) (hq : injG 167 q) {a1 : Int32} {M M0 : Mem} {r0 : Nat} (h : f_X11_trayAt a1 M = some (r0, M0)) : Met l yX11_trayAt (.code yX11_trayAt cX11_trayAt 3 (some (.object "CatWitness$Tray")) :: BW) ({ frames := 2, cells := 0, slots := 0, locals := 34 } : Room) (va_Pc [.ref (q 0), .int a1] (CB 167 (ceC cA q) D cA q aK aV M)) (Qr 167 (ceC cA q) D q r0 M0) 0 0 (AqG 167 q) := by
  refine gMet RX11 (by decide +kernel) rfl hq (Nat.le_of_ble_eq_true rfl) ?_
  intro p e s m below meth c ls X hr hk hP hS hl
  have hx := X.1
  have hb := X.2.1
  have hl : lv_has ls 3 [(0, .ref (q 0)), (1, .int a1)] := hl
  rw [f_X11_trayAt] at h
  have hJ25 : ∀ (s0 : Nat) (hs0 : shC s0 = 8) (M : Mem) (H : Heap) (locs : List Loc) (ls : Array Slot), f_X11_trayAt_J25 s0 M = some (r0, M0) → va_P D vwCl (wsG 167 (ceC cA q) q M) H → va_S (AqG 167 q) s.heap H locs → lv_has ls 3 [(0, .ref (q 0))] → W p l e ({ frames := 2, cells := 0, slots := 0, locals := 34 } : Room) s m [.ref (q 0), .int a1].toArray below meth c H locs 0 0 (MQ below (Qr 167 (ceC cA q) D q r0 M0) [.ref (q 0), .int a1].toArray s 0 0 (AqG 167 q)) (F0 m 25 ls [.ref (q s0)]) := by
    intro s0 hs0 M H locs ls h hP hS hl
    rw [f_X11_trayAt_J25] at h
    refine lv_astore_n (lv' := [(2, .ref (q s0)), (0, .ref (q 0))]) hx hb dX11_trayAt_25 rfl hl (by decide) rfl (fun ls hl => ?_)
    refine lv_aload_n hx hb dX11_trayAt_26 rfl (lv_at hl 0 rfl) ?_
    refine lv_ifnull hx hb dX11_trayAt_27 ?_
    refine lv_aload_n hx hb dX11_trayAt_30 rfl (lv_at hl 0 rfl) ?_
    refine lv_goto (tgt := 38) hx hb dX11_trayAt_31 (by decide) ?_
    exact end_r X hr (Or.inl ⟨_, rfl⟩) hk hP hS h dX11_trayAt_38
  refine lv_iload_n hx hb dX11_trayAt_0 rfl (lv_at hl 1 rfl) ?_
  refine lv_aload_n hx hb dX11_trayAt_1 rfl (lv_at hl 0 rfl) ?_
  refine gfC_11_4 X hP sC_0 bw_434 dX11_trayAt_2 ?_
  refine alC_27 X hP sC_2 zC_2 (v := 4) rfl dX11_trayAt_5 ?_
  obtain ⟨r1, M2, hc3, h⟩ := bnd_inv h
  refine gS_i (As := [.int a1, .int (4 : Int32)]) X hP hS hl.1 (c_X11_within l D cA q aK aV hq hc3) sf_X11_within bw_504 ss_X11_within ⟨rfl, rfl⟩ ⟨Nat.le_of_ble_eq_true rfl, Nat.le_of_ble_eq_true rfl⟩ rfl rfl (Nat.le_of_ble_eq_true rfl) dX11_trayAt_6 (fun H locs hP hS => ?_)
  refine lv_if_eq (tgt := 21) hx hb dX11_trayAt_9 (by decide) (fun c4 => ?_) (fun c4 => ?_)
  · rw [if_pos c4] at h
    refine lv_aload_n hx hb dX11_trayAt_21 rfl (lv_at hl 0 rfl) ?_
    refine gfC_11_5 X hP sC_0 bw_435 dX11_trayAt_22 ?_
    exact hJ25 _ sC_3 _ _ _ _ h hP hS (lv_sub hl [0] rfl)
  · rw [if_neg c4] at h
    refine lv_aload_n hx hb dX11_trayAt_12 rfl (lv_at hl 0 rfl) ?_
    refine gfC_11_4 X hP sC_0 bw_434 dX11_trayAt_13 ?_
    refine lv_iload_n hx hb dX11_trayAt_16 rfl (lv_at hl 1 rfl) ?_
    obtain ⟨g5, h⟩ := gd_inv h
    refine ldC_r27 X hP sC_2 zC_2 g5 dX11_trayAt_17 ?_
    refine lv_goto (tgt := 25) hx hb dX11_trayAt_18 (by decide) ?_
    exact hJ25 _ (kC_27 sC_2 g5) _ _ _ _ h hP hS (lv_sub hl [0] rfl)
theorem dX8_renew_0 : decode cX8_renew 0 = .ok (.aload_n 0, 1) := by decide +kernel
theorem dX8_renew_1 : decode cX8_renew 1 = .ok (.iload_n 1, 1) := by decide +kernel
theorem dX8_renew_2 : decode cX8_renew 2 = .ok (.putfield 9, 3) := by decide +kernel
theorem dX8_renew_5 : decode cX8_renew 5 = .ok (.aload_n 0, 1) := by decide +kernel
theorem dX8_renew_6 : decode cX8_renew 6 = .ok (.iload_n 2, 1) := by decide +kernel
theorem dX8_renew_7 : decode cX8_renew 7 = .ok (.putfield 15, 3) := by decide +kernel
theorem dX8_renew_10 : decode cX8_renew 10 = .ok (.iconst 0, 1) := by decide +kernel
theorem dX8_renew_11 : decode cX8_renew 11 = .ok (.istore_n 3, 1) := by decide +kernel
theorem dX8_renew_12 : decode cX8_renew 12 = .ok (.iload_n 3, 1) := by decide +kernel
theorem dX8_renew_13 : decode cX8_renew 13 = .ok (.aload_n 0, 1) := by decide +kernel
theorem dX8_renew_14 : decode cX8_renew 14 = .ok (.getfield 18, 3) := by decide +kernel
theorem dX8_renew_17 : decode cX8_renew 17 = .ok (.arraylength, 1) := by decide +kernel
theorem dX8_renew_18 : decode cX8_renew 18 = .ok (.if_icmp .ge 16, 3) := by decide +kernel
theorem dX8_renew_21 : decode cX8_renew 21 = .ok (.aload_n 0, 1) := by decide +kernel
theorem dX8_renew_22 : decode cX8_renew 22 = .ok (.getfield 18, 3) := by decide +kernel
theorem dX8_renew_25 : decode cX8_renew 25 = .ok (.iload_n 3, 1) := by decide +kernel
theorem dX8_renew_26 : decode cX8_renew 26 = .ok (.lconst 0, 1) := by decide +kernel
theorem dX8_renew_27 : decode cX8_renew 27 = .ok (.lastore, 1) := by decide +kernel
theorem dX8_renew_28 : decode cX8_renew 28 = .ok (.iinc 3 1, 3) := by decide +kernel
theorem dX8_renew_31 : decode cX8_renew 31 = .ok (.goto (-19), 3) := by decide +kernel
theorem dX8_renew_34 : decode cX8_renew 34 = .ok (.return_, 1) := by decide +kernel
set_option maxRecDepth 100000 in
set_option maxHeartbeats 8000000 in
theorem c_X8_renew (l : Launch) (D : va_G) (cA : Nat → ClassId) (q aK aV : Nat → Nat) (hq : injG 167 q) {a0 : Nat} {a1 : Int32} {a2 : Int32} {M M0 : Mem} (h0 : shC a0 = 8) (h : f_X8_renew a0 a1 a2 M = some ((), M0)) : Met l yX8_renew (.code yX8_renew cX8_renew 4 none :: BW) ({ frames := 1, cells := 0, slots := 0, locals := 15 } : Room) (va_Pc [.ref (q a0), .int a1, .int a2] (CB 167 (ceC cA q) D cA q aK aV M)) (Qv 167 (ceC cA q) D q M0) 0 0 (AqG 167 q) := by
  refine gMet RX8 (by decide +kernel) rfl hq (Nat.le_of_ble_eq_true rfl) ?_
  intro p e s m below meth c ls X hr hk hP hS hl
  have hx := X.1
  have hb := X.2.1
  have hl : lv_has ls 4 [(0, .ref (q a0)), (1, .int a1), (2, .int a2)] := hl
  rw [f_X8_renew] at h
  have hL12 : ∀ (fu : Nat) (b3 : Int32) (M : Mem) (res : (Unit) × Mem) (H : Heap) (locs : List Loc) (ls : Array Slot), f_X8_renew_L12 a0 fu b3 M = some res → va_P D vwCl (wsG 167 (ceC cA q) q M) H → va_S (AqG 167 q) s.heap H locs → lv_has ls 4 [(0, .ref (q a0)), (3, .int b3)] → (∀ (H : Heap) (locs : List Loc) (ls : Array Slot), va_P D vwCl (wsG 167 (ceC cA q) q res.2) H → va_S (AqG 167 q) s.heap H locs → lv_has ls 4 [] → W p l e ({ frames := 1, cells := 0, slots := 0, locals := 15 } : Room) s m [.ref (q a0), .int a1, .int a2].toArray below meth c H locs 0 0 (MQ below (Qv 167 (ceC cA q) D q M0) [.ref (q a0), .int a1, .int a2].toArray s 0 0 (AqG 167 q)) (F0 m 34 ls [])) → W p l e ({ frames := 1, cells := 0, slots := 0, locals := 15 } : Room) s m [.ref (q a0), .int a1, .int a2].toArray below meth c H locs 0 0 (MQ below (Qv 167 (ceC cA q) D q M0) [.ref (q a0), .int a1, .int a2].toArray s 0 0 (AqG 167 q)) (F0 m 12 ls []) := by
    intro fu
    induction fu with
    | zero => intro b3 M res H locs ls h; exact absurd h (by simp [f_X8_renew_L12])
    | succ fu ih =>
      intro b3 M res H locs ls h hP hS hl K12_0
      rw [f_X8_renew_L12] at h
      refine lv_iload_n hx hb dX8_renew_12 rfl (lv_at hl 1 rfl) ?_
      refine lv_aload_n hx hb dX8_renew_13 rfl (lv_at hl 0 rfl) ?_
      refine gfC_8_2 X hP h0 bw_214 dX8_renew_14 ?_
      refine alC_21 X hP ((kC_8_2 h0).1) ((kC_8_2 h0).2) (v := 60) rfl dX8_renew_17 ?_
      refine lv_icmp_ge (tgt := 34) hx hb dX8_renew_18 (by decide) (fun c6 => ?_) (fun c6 => ?_)
      · rw [if_pos c6] at h
        cases h
        exact K12_0 _ _ _ hP hS (lv_sub hl [] rfl)
      · rw [if_neg c6] at h
        refine lv_aload_n hx hb dX8_renew_21 rfl (lv_at hl 0 rfl) ?_
        refine gfC_8_2 X hP h0 bw_214 dX8_renew_22 ?_
        refine lv_iload_n hx hb dX8_renew_25 rfl (lv_at hl 1 rfl) ?_
        refine lv_lconst (v := 0) hx hb dX8_renew_26 (by decide) ?_
        obtain ⟨g7, h⟩ := gd_inv h
        obtain ⟨M8, eM8, h⟩ := lt_inv h
        refine stC_la X hP hS ((kC_8_2 h0).1) ((kC_8_2 h0).2) g7 eM8 dX8_renew_27 (fun H locs hP hS => ?_)
        obtain ⟨y9, ey9, h⟩ := lt_inv h
        refine lv_iinc (v := y9) (lv' := [(3, .int y9), (0, .ref (q a0))]) hx hb dX8_renew_28 hl (k := 1) rfl (by rw [ey9]; rfl) (by decide) rfl (fun ls hl => ?_)
        refine lv_goto (tgt := 12) hx hb dX8_renew_31 (by decide) ?_
        exact ih _ _ res _ _ _ h hP hS (lv_sub hl [1, 0] rfl) K12_0
  refine lv_aload_n hx hb dX8_renew_0 rfl (lv_at hl 0 rfl) ?_
  refine lv_iload_n hx hb dX8_renew_1 rfl (lv_at hl 1 rfl) ?_
  obtain ⟨M1, eM1, h⟩ := lt_inv h
  refine pfC_8_0 X hP hS h0 bw_211 eM1 dX8_renew_2 (fun H locs hP hS => ?_)
  refine lv_aload_n hx hb dX8_renew_5 rfl (lv_at hl 0 rfl) ?_
  refine lv_iload_n hx hb dX8_renew_6 rfl (lv_at hl 2 rfl) ?_
  obtain ⟨M2, eM2, h⟩ := lt_inv h
  refine pfC_8_1 X hP hS h0 bw_213 eM2 dX8_renew_7 (fun H locs hP hS => ?_)
  refine lv_iconst (v := 0) hx hb dX8_renew_10 (by decide) ?_
  refine lv_istore_n (lv' := [(3, .int (0 : Int32)), (0, .ref (q a0)), (1, .int a1), (2, .int a2)]) hx hb dX8_renew_11 rfl hl (by decide) rfl (fun ls hl => ?_)
  obtain ⟨s3, M4, hc5, h⟩ := bnd_inv h
  try dsimp only at h
  refine hL12  fz _ _ _ _ _ _ hc5 hP hS (lv_sub hl [1, 0] rfl) (fun H locs ls hP hS hl => ?_)
  have hl : lv_has ls 4 [] := hl
  exact end_v X hr hk hP hS h dX8_renew_34
theorem dX11_done_0 : decode cX11_done 0 = .ok (.aload_n 0, 1) := by decide +kernel
theorem dX11_done_1 : decode cX11_done 1 = .ok (.iconst 0, 1) := by decide +kernel
theorem dX11_done_2 : decode cX11_done 2 = .ok (.putfield 82, 3) := by decide +kernel
theorem dX11_done_5 : decode cX11_done 5 = .ok (.iconst 1, 1) := by decide +kernel
theorem dX11_done_6 : decode cX11_done 6 = .ok (.ireturn, 1) := by decide +kernel
set_option maxRecDepth 100000 in
set_option maxHeartbeats 8000000 in
theorem c_X11_done (l : Launch) (D : va_G) (cA : Nat → ClassId) (q aK aV : Nat → Nat) (hq : injG 167 q) {M M0 : Mem} {r0 : Int32} (h : f_X11_done M = some (r0, M0)) : Met l yX11_done (.code yX11_done cX11_done 1 (some .boolean) :: BW) ({ frames := 1, cells := 0, slots := 0, locals := 12 } : Room) (va_Pc [.ref (q 0)] (CB 167 (ceC cA q) D cA q aK aV M)) (Qi 167 (ceC cA q) D q r0 M0) 0 0 (AqG 167 q) := by
  refine gMet RX11 (by decide +kernel) rfl hq (Nat.le_of_ble_eq_true rfl) ?_
  intro p e s m below meth c ls X hr hk hP hS hl
  have hx := X.1
  have hb := X.2.1
  have hl : lv_has ls 1 [(0, .ref (q 0))] := hl
  rw [f_X11_done] at h
  refine lv_aload_n hx hb dX11_done_0 rfl (lv_at hl 0 rfl) ?_
  refine lv_iconst (v := 0) hx hb dX11_done_1 (by decide) ?_
  obtain ⟨M1, eM1, h⟩ := lt_inv h
  refine pfC_11_12 X hP hS sC_0 bw_442 eM1 dX11_done_2 (fun H locs hP hS => ?_)
  refine lv_iconst (v := 1) hx hb dX11_done_5 (by decide) ?_
  exact end_z X hr hk hP hS (Or.inr rfl) h dX11_done_6
theorem dX11_tray_0 : decode cX11_tray 0 = .ok (.iload_n 1, 1) := by decide +kernel
theorem dX11_tray_1 : decode cX11_tray 1 = .ok (.iconst 4, 1) := by decide +kernel
theorem dX11_tray_2 : decode cX11_tray 2 = .ok (.invokestatic 104, 3) := by decide +kernel
theorem dX11_tray_5 : decode cX11_tray 5 = .ok (.ifCond .eq 20, 3) := by decide +kernel
theorem dX11_tray_8 : decode cX11_tray 8 = .ok (.iload_n 2, 1) := by decide +kernel
theorem dX11_tray_9 : decode cX11_tray 9 = .ok (.iconst 4, 1) := by decide +kernel
theorem dX11_tray_10 : decode cX11_tray 10 = .ok (.invokestatic 104, 3) := by decide +kernel
theorem dX11_tray_13 : decode cX11_tray 13 = .ok (.ifCond .eq 12, 3) := by decide +kernel
theorem dX11_tray_16 : decode cX11_tray 16 = .ok (.iload_n 3, 1) := by decide +kernel
theorem dX11_tray_17 : decode cX11_tray 17 = .ok (.bipush 61, 2) := by decide +kernel
theorem dX11_tray_19 : decode cX11_tray 19 = .ok (.invokestatic 104, 3) := by decide +kernel
theorem dX11_tray_22 : decode cX11_tray 22 = .ok (.ifCond .ne 9, 3) := by decide +kernel
theorem dX11_tray_25 : decode cX11_tray 25 = .ok (.aload_n 0, 1) := by decide +kernel
theorem dX11_tray_26 : decode cX11_tray 26 = .ok (.iconst 1, 1) := by decide +kernel
theorem dX11_tray_27 : decode cX11_tray 27 = .ok (.invokevirtual 108, 3) := by decide +kernel
theorem dX11_tray_30 : decode cX11_tray 30 = .ok (.ireturn, 1) := by decide +kernel
theorem dX11_tray_31 : decode cX11_tray 31 = .ok (.aload_n 0, 1) := by decide +kernel
theorem dX11_tray_32 : decode cX11_tray 32 = .ok (.iload_n 1, 1) := by decide +kernel
theorem dX11_tray_33 : decode cX11_tray 33 = .ok (.invokevirtual 112, 3) := by decide +kernel
theorem dX11_tray_36 : decode cX11_tray 36 = .ok (.iload_n 2, 1) := by decide +kernel
theorem dX11_tray_37 : decode cX11_tray 37 = .ok (.iload_n 3, 1) := by decide +kernel
theorem dX11_tray_38 : decode cX11_tray 38 = .ok (.invokevirtual 116, 3) := by decide +kernel
theorem dX11_tray_41 : decode cX11_tray 41 = .ok (.aload_n 0, 1) := by decide +kernel
theorem dX11_tray_42 : decode cX11_tray 42 = .ok (.invokevirtual 120, 3) := by decide +kernel
theorem dX11_tray_45 : decode cX11_tray 45 = .ok (.ireturn, 1) := by decide +kernel
set_option maxRecDepth 100000 in
set_option maxHeartbeats 8000000 in
theorem c_X11_tray (l : Launch) (D : va_G) (cA : Nat → ClassId) (q aK aV : Nat → Nat) (hq : injG 167 q) {a1 : Int32} {a2 : Int32} {a3 : Int32} {M M0 : Mem} {r0 : Int32} (h : f_X11_tray a1 a2 a3 M = some (r0, M0)) : Met l yX11_tray (.code yX11_tray cX11_tray 4 (some .boolean) :: BW) ({ frames := 3, cells := 0, slots := 0, locals := 56 } : Room) (va_Pc [.ref (q 0), .int a1, .int a2, .int a3] (CB 167 (ceC cA q) D cA q aK aV M)) (Qi 167 (ceC cA q) D q r0 M0) 0 0 (AqG 167 q) := by
  refine gMet RX11 (by decide +kernel) rfl hq (Nat.le_of_ble_eq_true rfl) ?_
  intro p e s m below meth c ls X hr hk hP hS hl
  have hx := X.1
  have hb := X.2.1
  have hl : lv_has ls 4 [(0, .ref (q 0)), (1, .int a1), (2, .int a2), (3, .int a3)] := hl
  rw [f_X11_tray] at h
  refine lv_iload_n hx hb dX11_tray_0 rfl (lv_at hl 1 rfl) ?_
  refine lv_iconst (v := 4) hx hb dX11_tray_1 (by decide) ?_
  obtain ⟨r1, M2, hc3, h⟩ := bnd_inv h
  refine gS_i (As := [.int a1, .int (4 : Int32)]) X hP hS hl.1 (c_X11_within l D cA q aK aV hq hc3) sf_X11_within bw_504 ss_X11_within ⟨rfl, rfl⟩ ⟨Nat.le_of_ble_eq_true rfl, Nat.le_of_ble_eq_true rfl⟩ rfl rfl (Nat.le_of_ble_eq_true rfl) dX11_tray_2 (fun H locs hP hS => ?_)
  refine lv_if_eq (tgt := 25) hx hb dX11_tray_5 (by decide) (fun c4 => ?_) (fun c4 => ?_)
  · rw [if_pos c4] at h
    refine lv_aload_n hx hb dX11_tray_25 rfl (lv_at hl 0 rfl) ?_
    refine lv_iconst (v := 1) hx hb dX11_tray_26 (by decide) ?_
    obtain ⟨r5, M6, hc7, h⟩ := bnd_inv h
    refine gV_i (As := [.int (1 : Int32)]) X hP hS hl.1 (c_X11_denied l D cA q aK aV hq hc7) sf_X11_denied bw_507 sv_X11_denied (rcC_11 sC_0) rfl ⟨rfl, rfl⟩ ⟨Nat.le_of_ble_eq_true rfl, Nat.le_of_ble_eq_true rfl⟩ rfl rfl (Nat.le_of_ble_eq_true rfl) dX11_tray_27 (fun H locs hP hS => ?_)
    obtain ⟨g8, h⟩ := gd_inv h
    exact end_z X hr hk hP hS (Decidable.not_not.mp g8) h dX11_tray_30
  · rw [if_neg c4] at h
    refine lv_iload_n hx hb dX11_tray_8 rfl (lv_at hl 2 rfl) ?_
    refine lv_iconst (v := 4) hx hb dX11_tray_9 (by decide) ?_
    obtain ⟨r9, M10, hc11, h⟩ := bnd_inv h
    refine gS_i (As := [.int a2, .int (4 : Int32)]) X hP hS hl.1 (c_X11_within l D cA q aK aV hq hc11) sf_X11_within bw_504 ss_X11_within ⟨rfl, rfl⟩ ⟨Nat.le_of_ble_eq_true rfl, Nat.le_of_ble_eq_true rfl⟩ rfl rfl (Nat.le_of_ble_eq_true rfl) dX11_tray_10 (fun H locs hP hS => ?_)
    refine lv_if_eq (tgt := 25) hx hb dX11_tray_13 (by decide) (fun c12 => ?_) (fun c12 => ?_)
    · rw [if_pos c12] at h
      refine lv_aload_n hx hb dX11_tray_25 rfl (lv_at hl 0 rfl) ?_
      refine lv_iconst (v := 1) hx hb dX11_tray_26 (by decide) ?_
      obtain ⟨r13, M14, hc15, h⟩ := bnd_inv h
      refine gV_i (As := [.int (1 : Int32)]) X hP hS hl.1 (c_X11_denied l D cA q aK aV hq hc15) sf_X11_denied bw_507 sv_X11_denied (rcC_11 sC_0) rfl ⟨rfl, rfl⟩ ⟨Nat.le_of_ble_eq_true rfl, Nat.le_of_ble_eq_true rfl⟩ rfl rfl (Nat.le_of_ble_eq_true rfl) dX11_tray_27 (fun H locs hP hS => ?_)
      obtain ⟨g16, h⟩ := gd_inv h
      exact end_z X hr hk hP hS (Decidable.not_not.mp g16) h dX11_tray_30
    · rw [if_neg c12] at h
      refine lv_iload_n hx hb dX11_tray_16 rfl (lv_at hl 3 rfl) ?_
      refine lv_bipush (v := 61) hx hb dX11_tray_17 (by decide) ?_
      obtain ⟨r17, M18, hc19, h⟩ := bnd_inv h
      refine gS_i (As := [.int a3, .int (61 : Int32)]) X hP hS hl.1 (c_X11_within l D cA q aK aV hq hc19) sf_X11_within bw_504 ss_X11_within ⟨rfl, rfl⟩ ⟨Nat.le_of_ble_eq_true rfl, Nat.le_of_ble_eq_true rfl⟩ rfl rfl (Nat.le_of_ble_eq_true rfl) dX11_tray_19 (fun H locs hP hS => ?_)
      refine lv_if_ne (tgt := 31) hx hb dX11_tray_22 (by decide) (fun c20 => ?_) (fun c20 => ?_)
      · rw [if_neg c20] at h
        refine lv_aload_n hx hb dX11_tray_31 rfl (lv_at hl 0 rfl) ?_
        refine lv_iload_n hx hb dX11_tray_32 rfl (lv_at hl 1 rfl) ?_
        obtain ⟨r21, M22, hc23, h⟩ := bnd_inv h
        refine gV_r (As := [.int a1]) X hP hS hl.1 (c_X11_trayAt l D cA q aK aV hq hc23) sf_X11_trayAt bw_511 sv_X11_trayAt (rcC_11 sC_0) rfl ⟨rfl, rfl⟩ ⟨Nat.le_of_ble_eq_true rfl, Nat.le_of_ble_eq_true rfl⟩ rfl rfl (Nat.le_of_ble_eq_true rfl) dX11_tray_33 (fun H locs hP hS => ?_)
        obtain ⟨g24, h⟩ := gd_inv h
        have g24 := Decidable.not_not.mp g24
        refine lv_iload_n hx hb dX11_tray_36 rfl (lv_at hl 2 rfl) ?_
        refine lv_iload_n hx hb dX11_tray_37 rfl (lv_at hl 3 rfl) ?_
        obtain ⟨_, M26, hc27, h⟩ := bnd_inv h
        refine gV_v (As := [.int a2, .int a3]) X hP hS hl.1 (c_X8_renew l D cA q aK aV hq g24 hc27) sf_X8_renew bw_515 sv_X8_renew (rcC_8 g24) rfl ⟨rfl, rfl⟩ ⟨Nat.le_of_ble_eq_true rfl, Nat.le_of_ble_eq_true rfl⟩ rfl rfl (Nat.le_of_ble_eq_true rfl) dX11_tray_38 (fun H locs hP hS => ?_)
        refine lv_aload_n hx hb dX11_tray_41 rfl (lv_at hl 0 rfl) ?_
        obtain ⟨r28, M29, hc30, h⟩ := bnd_inv h
        refine gV_i (As := []) X hP hS hl.1 (c_X11_done l D cA q aK aV hq hc30) sf_X11_done bw_519 sv_X11_done (rcC_11 sC_0) rfl ⟨rfl, rfl⟩ ⟨Nat.le_of_ble_eq_true rfl, Nat.le_of_ble_eq_true rfl⟩ rfl rfl (Nat.le_of_ble_eq_true rfl) dX11_tray_42 (fun H locs hP hS => ?_)
        obtain ⟨g31, h⟩ := gd_inv h
        exact end_z X hr hk hP hS (Decidable.not_not.mp g31) h dX11_tray_45
      · rw [if_pos c20] at h
        refine lv_aload_n hx hb dX11_tray_25 rfl (lv_at hl 0 rfl) ?_
        refine lv_iconst (v := 1) hx hb dX11_tray_26 (by decide) ?_
        obtain ⟨r32, M33, hc34, h⟩ := bnd_inv h
        refine gV_i (As := [.int (1 : Int32)]) X hP hS hl.1 (c_X11_denied l D cA q aK aV hq hc34) sf_X11_denied bw_507 sv_X11_denied (rcC_11 sC_0) rfl ⟨rfl, rfl⟩ ⟨Nat.le_of_ble_eq_true rfl, Nat.le_of_ble_eq_true rfl⟩ rfl rfl (Nat.le_of_ble_eq_true rfl) dX11_tray_27 (fun H locs hP hS => ?_)
        obtain ⟨g35, h⟩ := gd_inv h
        exact end_z X hr hk hP hS (Decidable.not_not.mp g35) h dX11_tray_30
theorem dX8_isMissing_0 : decode cX8_isMissing 0 = .ok (.aload_n 0, 1) := by decide +kernel
theorem dX8_isMissing_1 : decode cX8_isMissing 1 = .ok (.getfield 9, 3) := by decide +kernel
theorem dX8_isMissing_4 : decode cX8_isMissing 4 = .ok (.iconst (-1), 1) := by decide +kernel
theorem dX8_isMissing_5 : decode cX8_isMissing 5 = .ok (.if_icmp .ne 7, 3) := by decide +kernel
theorem dX8_isMissing_8 : decode cX8_isMissing 8 = .ok (.iconst 1, 1) := by decide +kernel
theorem dX8_isMissing_9 : decode cX8_isMissing 9 = .ok (.goto 4, 3) := by decide +kernel
theorem dX8_isMissing_12 : decode cX8_isMissing 12 = .ok (.iconst 0, 1) := by decide +kernel
theorem dX8_isMissing_13 : decode cX8_isMissing 13 = .ok (.ireturn, 1) := by decide +kernel
set_option maxRecDepth 100000 in
set_option maxHeartbeats 8000000 in
theorem c_X8_isMissing (l : Launch) (D : va_G) (cA : Nat → ClassId) (q aK aV : Nat → Nat) (hq : injG 167 q) {a0 : Nat} {M M0 : Mem} {r0 : Int32} (h0 : shC a0 = 8) (h : f_X8_isMissing a0 M = some (r0, M0)) : Met l yX8_isMissing (.code yX8_isMissing cX8_isMissing 1 (some .boolean) :: BW) ({ frames := 1, cells := 0, slots := 0, locals := 12 } : Room) (va_Pc [.ref (q a0)] (CB 167 (ceC cA q) D cA q aK aV M)) (Qi 167 (ceC cA q) D q r0 M0) 0 0 (AqG 167 q) := by
  refine gMet RX8 (by decide +kernel) rfl hq (Nat.le_of_ble_eq_true rfl) ?_
  intro p e s m below meth c ls X hr hk hP hS hl
  have hx := X.1
  have hb := X.2.1
  have hl : lv_has ls 1 [(0, .ref (q a0))] := hl
  rw [f_X8_isMissing] at h
  refine lv_aload_n hx hb dX8_isMissing_0 rfl (lv_at hl 0 rfl) ?_
  refine gfC_8_0 X hP h0 bw_211 dX8_isMissing_1 ?_
  refine lv_iconst (v := -1) hx hb dX8_isMissing_4 (by decide) ?_
  refine lv_icmp_ne (tgt := 12) hx hb dX8_isMissing_5 (by decide) (fun c1 => ?_) (fun c1 => ?_)
  · rw [if_neg c1] at h
    refine lv_iconst (v := 0) hx hb dX8_isMissing_12 (by decide) ?_
    exact end_z X hr hk hP hS (Or.inl rfl) h dX8_isMissing_13
  · rw [if_pos c1] at h
    refine lv_iconst (v := 1) hx hb dX8_isMissing_8 (by decide) ?_
    refine lv_goto (tgt := 13) hx hb dX8_isMissing_9 (by decide) ?_
    exact end_z X hr hk hP hS (Or.inr rfl) h dX8_isMissing_13
theorem dX8_hasPlace_0 : decode cX8_hasPlace 0 = .ok (.iload_n 1, 1) := by decide +kernel
theorem dX8_hasPlace_1 : decode cX8_hasPlace 1 = .ok (.aload_n 0, 1) := by decide +kernel
theorem dX8_hasPlace_2 : decode cX8_hasPlace 2 = .ok (.getfield 15, 3) := by decide +kernel
theorem dX8_hasPlace_5 : decode cX8_hasPlace 5 = .ok (.invokestatic 22, 3) := by decide +kernel
theorem dX8_hasPlace_8 : decode cX8_hasPlace 8 = .ok (.ireturn, 1) := by decide +kernel
set_option maxRecDepth 100000 in
set_option maxHeartbeats 8000000 in
theorem c_X8_hasPlace (l : Launch) (D : va_G) (cA : Nat → ClassId) (q aK aV : Nat → Nat) (hq : injG 167 q) {a0 : Nat} {a1 : Int32} {M M0 : Mem} {r0 : Int32} (h0 : shC a0 = 8) (h : f_X8_hasPlace a0 a1 M = some (r0, M0)) : Met l yX8_hasPlace (.code yX8_hasPlace cX8_hasPlace 2 (some .boolean) :: BW) ({ frames := 2, cells := 0, slots := 0, locals := 34 } : Room) (va_Pc [.ref (q a0), .int a1] (CB 167 (ceC cA q) D cA q aK aV M)) (Qi 167 (ceC cA q) D q r0 M0) 0 0 (AqG 167 q) := by
  refine gMet RX8 (by decide +kernel) rfl hq (Nat.le_of_ble_eq_true rfl) ?_
  intro p e s m below meth c ls X hr hk hP hS hl
  have hx := X.1
  have hb := X.2.1
  have hl : lv_has ls 2 [(0, .ref (q a0)), (1, .int a1)] := hl
  rw [f_X8_hasPlace] at h
  refine lv_iload_n hx hb dX8_hasPlace_0 rfl (lv_at hl 1 rfl) ?_
  refine lv_aload_n hx hb dX8_hasPlace_1 rfl (lv_at hl 0 rfl) ?_
  refine gfC_8_1 X hP h0 bw_213 dX8_hasPlace_2 ?_
  obtain ⟨r1, M2, hc3, h⟩ := bnd_inv h
  refine gSN_i (As := [.int a1, .int (gI M a0 1)]) X hP hS hl.1 (c_X11_within l D cA q aK aV hq hc3) sf_X11_within nw_8 ss_X11_within ⟨rfl, rfl⟩ ⟨Nat.le_of_ble_eq_true rfl, Nat.le_of_ble_eq_true rfl⟩ rfl rfl (Nat.le_of_ble_eq_true rfl) dX8_hasPlace_5 (fun H locs hP hS => ?_)
  obtain ⟨g4, h⟩ := gd_inv h
  exact end_z X hr hk hP hS (Decidable.not_not.mp g4) h dX8_hasPlace_8
theorem dX11_placeRefusal_0 : decode cX11_placeRefusal 0 = .ok (.iload_n 1, 1) := by decide +kernel
theorem dX11_placeRefusal_1 : decode cX11_placeRefusal 1 = .ok (.iconst 4, 1) := by decide +kernel
theorem dX11_placeRefusal_2 : decode cX11_placeRefusal 2 = .ok (.invokestatic 104, 3) := by decide +kernel
theorem dX11_placeRefusal_5 : decode cX11_placeRefusal 5 = .ok (.ifCond .ne 5, 3) := by decide +kernel
theorem dX11_placeRefusal_8 : decode cX11_placeRefusal 8 = .ok (.iconst 1, 1) := by decide +kernel
theorem dX11_placeRefusal_9 : decode cX11_placeRefusal 9 = .ok (.ireturn, 1) := by decide +kernel
theorem dX11_placeRefusal_10 : decode cX11_placeRefusal 10 = .ok (.aload_n 0, 1) := by decide +kernel
theorem dX11_placeRefusal_11 : decode cX11_placeRefusal 11 = .ok (.iload_n 1, 1) := by decide +kernel
theorem dX11_placeRefusal_12 : decode cX11_placeRefusal 12 = .ok (.invokevirtual 112, 3) := by decide +kernel
theorem dX11_placeRefusal_15 : decode cX11_placeRefusal 15 = .ok (.invokevirtual 140, 3) := by decide +kernel
theorem dX11_placeRefusal_18 : decode cX11_placeRefusal 18 = .ok (.ifCond .eq 5, 3) := by decide +kernel
theorem dX11_placeRefusal_21 : decode cX11_placeRefusal 21 = .ok (.iconst 2, 1) := by decide +kernel
theorem dX11_placeRefusal_22 : decode cX11_placeRefusal 22 = .ok (.ireturn, 1) := by decide +kernel
theorem dX11_placeRefusal_23 : decode cX11_placeRefusal 23 = .ok (.aload_n 0, 1) := by decide +kernel
theorem dX11_placeRefusal_24 : decode cX11_placeRefusal 24 = .ok (.iload_n 1, 1) := by decide +kernel
theorem dX11_placeRefusal_25 : decode cX11_placeRefusal 25 = .ok (.invokevirtual 112, 3) := by decide +kernel
theorem dX11_placeRefusal_28 : decode cX11_placeRefusal 28 = .ok (.iload_n 2, 1) := by decide +kernel
theorem dX11_placeRefusal_29 : decode cX11_placeRefusal 29 = .ok (.invokevirtual 433, 3) := by decide +kernel
theorem dX11_placeRefusal_32 : decode cX11_placeRefusal 32 = .ok (.ifCond .eq 7, 3) := by decide +kernel
theorem dX11_placeRefusal_35 : decode cX11_placeRefusal 35 = .ok (.iconst 0, 1) := by decide +kernel
theorem dX11_placeRefusal_36 : decode cX11_placeRefusal 36 = .ok (.goto 4, 3) := by decide +kernel
theorem dX11_placeRefusal_39 : decode cX11_placeRefusal 39 = .ok (.iconst 3, 1) := by decide +kernel
theorem dX11_placeRefusal_40 : decode cX11_placeRefusal 40 = .ok (.ireturn, 1) := by decide +kernel
set_option maxRecDepth 100000 in
set_option maxHeartbeats 8000000 in
theorem c_X11_placeRefusal (l : Launch) (D : va_G) (cA : Nat → ClassId) (q aK aV : Nat → Nat) (hq : injG 167 q) {a1 : Int32} {a2 : Int32} {M M0 : Mem} {r0 : Int32} (h : f_X11_placeRefusal a1 a2 M = some (r0, M0)) : Met l yX11_placeRefusal (.code yX11_placeRefusal cX11_placeRefusal 3 (some .int) :: BW) ({ frames := 3, cells := 0, slots := 0, locals := 56 } : Room) (va_Pc [.ref (q 0), .int a1, .int a2] (CB 167 (ceC cA q) D cA q aK aV M)) (Qi 167 (ceC cA q) D q r0 M0) 0 0 (AqG 167 q) := by
  refine gMet RX11 (by decide +kernel) rfl hq (Nat.le_of_ble_eq_true rfl) ?_
  intro p e s m below meth c ls X hr hk hP hS hl
  have hx := X.1
  have hb := X.2.1
  have hl : lv_has ls 3 [(0, .ref (q 0)), (1, .int a1), (2, .int a2)] := hl
  rw [f_X11_placeRefusal] at h
  refine lv_iload_n hx hb dX11_placeRefusal_0 rfl (lv_at hl 1 rfl) ?_
  refine lv_iconst (v := 4) hx hb dX11_placeRefusal_1 (by decide) ?_
  obtain ⟨r1, M2, hc3, h⟩ := bnd_inv h
  refine gS_i (As := [.int a1, .int (4 : Int32)]) X hP hS hl.1 (c_X11_within l D cA q aK aV hq hc3) sf_X11_within bw_504 ss_X11_within ⟨rfl, rfl⟩ ⟨Nat.le_of_ble_eq_true rfl, Nat.le_of_ble_eq_true rfl⟩ rfl rfl (Nat.le_of_ble_eq_true rfl) dX11_placeRefusal_2 (fun H locs hP hS => ?_)
  refine lv_if_ne (tgt := 10) hx hb dX11_placeRefusal_5 (by decide) (fun c4 => ?_) (fun c4 => ?_)
  · rw [if_neg c4] at h
    refine lv_aload_n hx hb dX11_placeRefusal_10 rfl (lv_at hl 0 rfl) ?_
    refine lv_iload_n hx hb dX11_placeRefusal_11 rfl (lv_at hl 1 rfl) ?_
    obtain ⟨r5, M6, hc7, h⟩ := bnd_inv h
    refine gV_r (As := [.int a1]) X hP hS hl.1 (c_X11_trayAt l D cA q aK aV hq hc7) sf_X11_trayAt bw_511 sv_X11_trayAt (rcC_11 sC_0) rfl ⟨rfl, rfl⟩ ⟨Nat.le_of_ble_eq_true rfl, Nat.le_of_ble_eq_true rfl⟩ rfl rfl (Nat.le_of_ble_eq_true rfl) dX11_placeRefusal_12 (fun H locs hP hS => ?_)
    obtain ⟨g8, h⟩ := gd_inv h
    have g8 := Decidable.not_not.mp g8
    obtain ⟨r9, M10, hc11, h⟩ := bnd_inv h
    refine gV_i (As := []) X hP hS hl.1 (c_X8_isMissing l D cA q aK aV hq g8 hc11) sf_X8_isMissing bw_531 sv_X8_isMissing (rcC_8 g8) rfl ⟨rfl, rfl⟩ ⟨Nat.le_of_ble_eq_true rfl, Nat.le_of_ble_eq_true rfl⟩ rfl rfl (Nat.le_of_ble_eq_true rfl) dX11_placeRefusal_15 (fun H locs hP hS => ?_)
    refine lv_if_eq (tgt := 23) hx hb dX11_placeRefusal_18 (by decide) (fun c12 => ?_) (fun c12 => ?_)
    · rw [if_pos c12] at h
      refine lv_aload_n hx hb dX11_placeRefusal_23 rfl (lv_at hl 0 rfl) ?_
      refine lv_iload_n hx hb dX11_placeRefusal_24 rfl (lv_at hl 1 rfl) ?_
      obtain ⟨r13, M14, hc15, h⟩ := bnd_inv h
      refine gV_r (As := [.int a1]) X hP hS hl.1 (c_X11_trayAt l D cA q aK aV hq hc15) sf_X11_trayAt bw_511 sv_X11_trayAt (rcC_11 sC_0) rfl ⟨rfl, rfl⟩ ⟨Nat.le_of_ble_eq_true rfl, Nat.le_of_ble_eq_true rfl⟩ rfl rfl (Nat.le_of_ble_eq_true rfl) dX11_placeRefusal_25 (fun H locs hP hS => ?_)
      obtain ⟨g16, h⟩ := gd_inv h
      have g16 := Decidable.not_not.mp g16
      refine lv_iload_n hx hb dX11_placeRefusal_28 rfl (lv_at hl 2 rfl) ?_
      obtain ⟨r17, M18, hc19, h⟩ := bnd_inv h
      refine gV_i (As := [.int a2]) X hP hS hl.1 (c_X8_hasPlace l D cA q aK aV hq g16 hc19) sf_X8_hasPlace bw_535 sv_X8_hasPlace (rcC_8 g16) rfl ⟨rfl, rfl⟩ ⟨Nat.le_of_ble_eq_true rfl, Nat.le_of_ble_eq_true rfl⟩ rfl rfl (Nat.le_of_ble_eq_true rfl) dX11_placeRefusal_29 (fun H locs hP hS => ?_)
      refine lv_if_eq (tgt := 39) hx hb dX11_placeRefusal_32 (by decide) (fun c20 => ?_) (fun c20 => ?_)
      · rw [if_pos c20] at h
        refine lv_iconst (v := 3) hx hb dX11_placeRefusal_39 (by decide) ?_
        exact end_i X hr hk hP hS h dX11_placeRefusal_40
      · rw [if_neg c20] at h
        refine lv_iconst (v := 0) hx hb dX11_placeRefusal_35 (by decide) ?_
        refine lv_goto (tgt := 40) hx hb dX11_placeRefusal_36 (by decide) ?_
        exact end_i X hr hk hP hS h dX11_placeRefusal_40
    · rw [if_neg c12] at h
      refine lv_iconst (v := 2) hx hb dX11_placeRefusal_21 (by decide) ?_
      exact end_i X hr hk hP hS h dX11_placeRefusal_22
  · rw [if_pos c4] at h
    refine lv_iconst (v := 1) hx hb dX11_placeRefusal_8 (by decide) ?_
    exact end_i X hr hk hP hS h dX11_placeRefusal_9
theorem dX8_cut_0 : decode cX8_cut 0 = .ok (.aload_n 0, 1) := by decide +kernel
theorem dX8_cut_1 : decode cX8_cut 1 = .ok (.getfield 9, 3) := by decide +kernel
theorem dX8_cut_4 : decode cX8_cut 4 = .ok (.tableswitch 42 0 2 #[28, 33, 38], 28) := by decide +kernel
theorem dX8_cut_32 : decode cX8_cut 32 = .ok (.lload_n 1, 1) := by decide +kernel
theorem dX8_cut_33 : decode cX8_cut 33 = .ok (.l2i, 1) := by decide +kernel
theorem dX8_cut_34 : decode cX8_cut 34 = .ok (.i2b, 1) := by decide +kernel
theorem dX8_cut_35 : decode cX8_cut 35 = .ok (.i2l, 1) := by decide +kernel
theorem dX8_cut_36 : decode cX8_cut 36 = .ok (.lreturn, 1) := by decide +kernel
theorem dX8_cut_37 : decode cX8_cut 37 = .ok (.lload_n 1, 1) := by decide +kernel
theorem dX8_cut_38 : decode cX8_cut 38 = .ok (.l2i, 1) := by decide +kernel
theorem dX8_cut_39 : decode cX8_cut 39 = .ok (.i2s, 1) := by decide +kernel
theorem dX8_cut_40 : decode cX8_cut 40 = .ok (.i2l, 1) := by decide +kernel
theorem dX8_cut_41 : decode cX8_cut 41 = .ok (.lreturn, 1) := by decide +kernel
theorem dX8_cut_42 : decode cX8_cut 42 = .ok (.lload_n 1, 1) := by decide +kernel
theorem dX8_cut_43 : decode cX8_cut 43 = .ok (.l2i, 1) := by decide +kernel
theorem dX8_cut_44 : decode cX8_cut 44 = .ok (.i2l, 1) := by decide +kernel
theorem dX8_cut_45 : decode cX8_cut 45 = .ok (.lreturn, 1) := by decide +kernel
theorem dX8_cut_46 : decode cX8_cut 46 = .ok (.lload_n 1, 1) := by decide +kernel
theorem dX8_cut_47 : decode cX8_cut 47 = .ok (.lreturn, 1) := by decide +kernel
set_option maxRecDepth 100000 in
set_option maxHeartbeats 8000000 in
theorem c_X8_cut (l : Launch) (D : va_G) (cA : Nat → ClassId) (q aK aV : Nat → Nat) (hq : injG 167 q) {a0 : Nat} {a1 : Int64} {M M0 : Mem} {r0 : Int64} (h0 : shC a0 = 8) (h : f_X8_cut a0 a1 M = some (r0, M0)) : Met l yX8_cut (.code yX8_cut cX8_cut 3 (some .long) :: BW) ({ frames := 1, cells := 0, slots := 0, locals := 14 } : Room) (va_Pc [.ref (q a0), .long a1] (CB 167 (ceC cA q) D cA q aK aV M)) (Ql 167 (ceC cA q) D q r0 M0) 0 0 (AqG 167 q) := by
  refine gMet RX8 (by decide +kernel) rfl hq (Nat.le_of_ble_eq_true rfl) ?_
  intro p e s m below meth c ls X hr hk hP hS hl
  have hx := X.1
  have hb := X.2.1
  have hl : lv_has ls 3 [(0, .ref (q a0)), (1, .long a1)] := hl
  rw [f_X8_cut] at h
  refine lv_aload_n hx hb dX8_cut_0 rfl (lv_at hl 0 rfl) ?_
  refine gfC_8_0 X hP h0 bw_211 dX8_cut_1 ?_
  obtain ⟨y1, ey1, h⟩ := lt_inv h
  refine topE ey1 ?_
  by_cases c2 : y1 = 0
  · rw [if_pos c2] at h
    refine lv_tableIn (tgt := 32) hx hb dX8_cut_4 (by rw [c2]; decide) (by rw [c2]; decide) (by rw [c2]; rfl) (by decide) ?_
    refine lv_lload_n hx hb dX8_cut_32 rfl (lv_at hl 1 rfl) ?_
    refine lv_l2i hx hb dX8_cut_33 rfl ?_
    refine lv_i2b hx hb dX8_cut_34 rfl ?_
    refine lv_i2l hx hb dX8_cut_35 rfl ?_
    exact end_l X hr hk hP hS h dX8_cut_36
  rw [if_neg c2] at h
  by_cases c3 : y1 = 1
  · rw [if_pos c3] at h
    refine lv_tableIn (tgt := 37) hx hb dX8_cut_4 (by rw [c3]; decide) (by rw [c3]; decide) (by rw [c3]; rfl) (by decide) ?_
    refine lv_lload_n hx hb dX8_cut_37 rfl (lv_at hl 1 rfl) ?_
    refine lv_l2i hx hb dX8_cut_38 rfl ?_
    refine lv_i2s hx hb dX8_cut_39 rfl ?_
    refine lv_i2l hx hb dX8_cut_40 rfl ?_
    exact end_l X hr hk hP hS h dX8_cut_41
  rw [if_neg c3] at h
  by_cases c4 : y1 = 2
  · rw [if_pos c4] at h
    refine lv_tableIn (tgt := 42) hx hb dX8_cut_4 (by rw [c4]; decide) (by rw [c4]; decide) (by rw [c4]; rfl) (by decide) ?_
    refine lv_lload_n hx hb dX8_cut_42 rfl (lv_at hl 1 rfl) ?_
    refine lv_l2i hx hb dX8_cut_43 rfl ?_
    refine lv_i2l hx hb dX8_cut_44 rfl ?_
    exact end_l X hr hk hP hS h dX8_cut_45
  rw [if_neg c4] at h
  refine lv_tableOut (tgt := 46) hx hb dX8_cut_4 (by have nc2 := lv_neT (a := 0) c2 (by decide); have nc3 := lv_neT (a := 1) c3 (by decide); have nc4 := lv_neT (a := 2) c4 (by decide); omega) (by decide) ?_
  refine lv_lload_n hx hb dX8_cut_46 rfl (lv_at hl 1 rfl) ?_
  exact end_l X hr hk hP hS h dX8_cut_47
theorem dX8_putNumber_0 : decode cX8_putNumber 0 = .ok (.iload_n 1, 1) := by decide +kernel
theorem dX8_putNumber_1 : decode cX8_putNumber 1 = .ok (.aload_n 0, 1) := by decide +kernel
theorem dX8_putNumber_2 : decode cX8_putNumber 2 = .ok (.getfield 18, 3) := by decide +kernel
theorem dX8_putNumber_5 : decode cX8_putNumber 5 = .ok (.arraylength, 1) := by decide +kernel
theorem dX8_putNumber_6 : decode cX8_putNumber 6 = .ok (.invokestatic 22, 3) := by decide +kernel
theorem dX8_putNumber_9 : decode cX8_putNumber 9 = .ok (.ifCond .eq 14, 3) := by decide +kernel
theorem dX8_putNumber_12 : decode cX8_putNumber 12 = .ok (.aload_n 0, 1) := by decide +kernel
theorem dX8_putNumber_13 : decode cX8_putNumber 13 = .ok (.getfield 18, 3) := by decide +kernel
theorem dX8_putNumber_16 : decode cX8_putNumber 16 = .ok (.iload_n 1, 1) := by decide +kernel
theorem dX8_putNumber_17 : decode cX8_putNumber 17 = .ok (.aload_n 0, 1) := by decide +kernel
theorem dX8_putNumber_18 : decode cX8_putNumber 18 = .ok (.lload_n 2, 1) := by decide +kernel
theorem dX8_putNumber_19 : decode cX8_putNumber 19 = .ok (.invokevirtual 26, 3) := by decide +kernel
theorem dX8_putNumber_22 : decode cX8_putNumber 22 = .ok (.lastore, 1) := by decide +kernel
theorem dX8_putNumber_23 : decode cX8_putNumber 23 = .ok (.return_, 1) := by decide +kernel
set_option maxRecDepth 100000 in
set_option maxHeartbeats 8000000 in
theorem c_X8_putNumber (l : Launch) (D : va_G) (cA : Nat → ClassId) (q aK aV : Nat → Nat) (hq : injG 167 q) {a0 : Nat} {a1 : Int32} {a2 : Int64} {M M0 : Mem} (h0 : shC a0 = 8) (h : f_X8_putNumber a0 a1 a2 M = some ((), M0)) : Met l yX8_putNumber (.code yX8_putNumber cX8_putNumber 4 none :: BW) ({ frames := 2, cells := 0, slots := 0, locals := 36 } : Room) (va_Pc [.ref (q a0), .int a1, .long a2] (CB 167 (ceC cA q) D cA q aK aV M)) (Qv 167 (ceC cA q) D q M0) 0 0 (AqG 167 q) := by
  refine gMet RX8 (by decide +kernel) rfl hq (Nat.le_of_ble_eq_true rfl) ?_
  intro p e s m below meth c ls X hr hk hP hS hl
  have hx := X.1
  have hb := X.2.1
  have hl : lv_has ls 4 [(0, .ref (q a0)), (1, .int a1), (2, .long a2)] := hl
  rw [f_X8_putNumber] at h
  refine lv_iload_n hx hb dX8_putNumber_0 rfl (lv_at hl 1 rfl) ?_
  refine lv_aload_n hx hb dX8_putNumber_1 rfl (lv_at hl 0 rfl) ?_
  refine gfC_8_2 X hP h0 bw_214 dX8_putNumber_2 ?_
  refine alC_21 X hP ((kC_8_2 h0).1) ((kC_8_2 h0).2) (v := 60) rfl dX8_putNumber_5 ?_
  obtain ⟨r1, M2, hc3, h⟩ := bnd_inv h
  refine gSN_i (As := [.int a1, .int (60 : Int32)]) X hP hS hl.1 (c_X11_within l D cA q aK aV hq hc3) sf_X11_within nw_8 ss_X11_within ⟨rfl, rfl⟩ ⟨Nat.le_of_ble_eq_true rfl, Nat.le_of_ble_eq_true rfl⟩ rfl rfl (Nat.le_of_ble_eq_true rfl) dX8_putNumber_6 (fun H locs hP hS => ?_)
  refine lv_if_eq (tgt := 23) hx hb dX8_putNumber_9 (by decide) (fun c4 => ?_) (fun c4 => ?_)
  · rw [if_pos c4] at h
    exact end_v X hr hk hP hS h dX8_putNumber_23
  · rw [if_neg c4] at h
    refine lv_aload_n hx hb dX8_putNumber_12 rfl (lv_at hl 0 rfl) ?_
    refine gfC_8_2 X hP h0 bw_214 dX8_putNumber_13 ?_
    refine lv_iload_n hx hb dX8_putNumber_16 rfl (lv_at hl 1 rfl) ?_
    refine lv_aload_n hx hb dX8_putNumber_17 rfl (lv_at hl 0 rfl) ?_
    refine lv_lload_n hx hb dX8_putNumber_18 rfl (lv_at hl 2 rfl) ?_
    obtain ⟨r5, M6, hc7, h⟩ := bnd_inv h
    refine gV_l (As := [.long a2]) X hP hS hl.1 (c_X8_cut l D cA q aK aV hq h0 hc7) sf_X8_cut bw_544 sv_X8_cut (rcC_8 h0) rfl ⟨rfl, rfl⟩ ⟨Nat.le_of_ble_eq_true rfl, Nat.le_of_ble_eq_true rfl⟩ rfl rfl (Nat.le_of_ble_eq_true rfl) dX8_putNumber_19 (fun H locs hP hS => ?_)
    obtain ⟨g8, h⟩ := gd_inv h
    obtain ⟨M9, eM9, h⟩ := lt_inv h
    refine stC_la X hP hS ((kC_8_2 h0).1) ((kC_8_2 h0).2) g8 eM9 dX8_putNumber_22 (fun H locs hP hS => ?_)
    exact end_v X hr hk hP hS h dX8_putNumber_23
theorem dX11_write_0 : decode cX11_write 0 = .ok (.aload_n 0, 1) := by decide +kernel
theorem dX11_write_1 : decode cX11_write 1 = .ok (.iload_n 1, 1) := by decide +kernel
theorem dX11_write_2 : decode cX11_write 2 = .ok (.iload_n 2, 1) := by decide +kernel
theorem dX11_write_3 : decode cX11_write 3 = .ok (.invokevirtual 124, 3) := by decide +kernel
theorem dX11_write_6 : decode cX11_write 6 = .ok (.istore 5, 2) := by decide +kernel
theorem dX11_write_8 : decode cX11_write 8 = .ok (.iload 5, 2) := by decide +kernel
theorem dX11_write_10 : decode cX11_write 10 = .ok (.ifCond .eq 10, 3) := by decide +kernel
theorem dX11_write_13 : decode cX11_write 13 = .ok (.aload_n 0, 1) := by decide +kernel
theorem dX11_write_14 : decode cX11_write 14 = .ok (.iload 5, 2) := by decide +kernel
theorem dX11_write_16 : decode cX11_write 16 = .ok (.invokevirtual 108, 3) := by decide +kernel
theorem dX11_write_19 : decode cX11_write 19 = .ok (.ireturn, 1) := by decide +kernel
theorem dX11_write_20 : decode cX11_write 20 = .ok (.aload_n 0, 1) := by decide +kernel
theorem dX11_write_21 : decode cX11_write 21 = .ok (.iload_n 1, 1) := by decide +kernel
theorem dX11_write_22 : decode cX11_write 22 = .ok (.invokevirtual 112, 3) := by decide +kernel
theorem dX11_write_25 : decode cX11_write 25 = .ok (.iload_n 2, 1) := by decide +kernel
theorem dX11_write_26 : decode cX11_write 26 = .ok (.lload_n 3, 1) := by decide +kernel
theorem dX11_write_27 : decode cX11_write 27 = .ok (.invokevirtual 128, 3) := by decide +kernel
theorem dX11_write_30 : decode cX11_write 30 = .ok (.aload_n 0, 1) := by decide +kernel
theorem dX11_write_31 : decode cX11_write 31 = .ok (.invokevirtual 120, 3) := by decide +kernel
theorem dX11_write_34 : decode cX11_write 34 = .ok (.ireturn, 1) := by decide +kernel
set_option maxRecDepth 100000 in
set_option maxHeartbeats 8000000 in
theorem c_X11_write (l : Launch) (D : va_G) (cA : Nat → ClassId) (q aK aV : Nat → Nat) (hq : injG 167 q) {a1 : Int32} {a2 : Int32} {a3 : Int64} {M M0 : Mem} {r0 : Int32} (h : f_X11_write a1 a2 a3 M = some (r0, M0)) : Met l yX11_write (.code yX11_write cX11_write 6 (some .boolean) :: BW) ({ frames := 4, cells := 0, slots := 0, locals := 78 } : Room) (va_Pc [.ref (q 0), .int a1, .int a2, .long a3] (CB 167 (ceC cA q) D cA q aK aV M)) (Qi 167 (ceC cA q) D q r0 M0) 0 0 (AqG 167 q) := by
  refine gMet RX11 (by decide +kernel) rfl hq (Nat.le_of_ble_eq_true rfl) ?_
  intro p e s m below meth c ls X hr hk hP hS hl
  have hx := X.1
  have hb := X.2.1
  have hl : lv_has ls 6 [(0, .ref (q 0)), (1, .int a1), (2, .int a2), (3, .long a3)] := hl
  rw [f_X11_write] at h
  refine lv_aload_n hx hb dX11_write_0 rfl (lv_at hl 0 rfl) ?_
  refine lv_iload_n hx hb dX11_write_1 rfl (lv_at hl 1 rfl) ?_
  refine lv_iload_n hx hb dX11_write_2 rfl (lv_at hl 2 rfl) ?_
  obtain ⟨r1, M2, hc3, h⟩ := bnd_inv h
  refine gV_i (As := [.int a1, .int a2]) X hP hS hl.1 (c_X11_placeRefusal l D cA q aK aV hq hc3) sf_X11_placeRefusal bw_527 sv_X11_placeRefusal (rcC_11 sC_0) rfl ⟨rfl, rfl⟩ ⟨Nat.le_of_ble_eq_true rfl, Nat.le_of_ble_eq_true rfl⟩ rfl rfl (Nat.le_of_ble_eq_true rfl) dX11_write_3 (fun H locs hP hS => ?_)
  refine lv_istore (lv' := [(5, .int r1), (0, .ref (q 0)), (1, .int a1), (2, .int a2), (3, .long a3)]) hx hb dX11_write_6 hl (by decide) rfl (fun ls hl => ?_)
  refine lv_iload hx hb dX11_write_8 (lv_at hl 0 rfl) ?_
  refine lv_if_eq (tgt := 20) hx hb dX11_write_10 (by decide) (fun c4 => ?_) (fun c4 => ?_)
  · rw [if_pos c4] at h
    refine lv_aload_n hx hb dX11_write_20 rfl (lv_at hl 1 rfl) ?_
    refine lv_iload_n hx hb dX11_write_21 rfl (lv_at hl 2 rfl) ?_
    obtain ⟨r5, M6, hc7, h⟩ := bnd_inv h
    refine gV_r (As := [.int a1]) X hP hS hl.1 (c_X11_trayAt l D cA q aK aV hq hc7) sf_X11_trayAt bw_511 sv_X11_trayAt (rcC_11 sC_0) rfl ⟨rfl, rfl⟩ ⟨Nat.le_of_ble_eq_true rfl, Nat.le_of_ble_eq_true rfl⟩ rfl rfl (Nat.le_of_ble_eq_true rfl) dX11_write_22 (fun H locs hP hS => ?_)
    obtain ⟨g8, h⟩ := gd_inv h
    have g8 := Decidable.not_not.mp g8
    refine lv_iload_n hx hb dX11_write_25 rfl (lv_at hl 3 rfl) ?_
    refine lv_lload_n hx hb dX11_write_26 rfl (lv_at hl 4 rfl) ?_
    obtain ⟨_, M10, hc11, h⟩ := bnd_inv h
    refine gV_v (As := [.int a2, .long a3]) X hP hS hl.1 (c_X8_putNumber l D cA q aK aV hq g8 hc11) sf_X8_putNumber bw_540 sv_X8_putNumber (rcC_8 g8) rfl ⟨rfl, rfl⟩ ⟨Nat.le_of_ble_eq_true rfl, Nat.le_of_ble_eq_true rfl⟩ rfl rfl (Nat.le_of_ble_eq_true rfl) dX11_write_27 (fun H locs hP hS => ?_)
    refine lv_aload_n hx hb dX11_write_30 rfl (lv_at hl 1 rfl) ?_
    obtain ⟨r12, M13, hc14, h⟩ := bnd_inv h
    refine gV_i (As := []) X hP hS hl.1 (c_X11_done l D cA q aK aV hq hc14) sf_X11_done bw_519 sv_X11_done (rcC_11 sC_0) rfl ⟨rfl, rfl⟩ ⟨Nat.le_of_ble_eq_true rfl, Nat.le_of_ble_eq_true rfl⟩ rfl rfl (Nat.le_of_ble_eq_true rfl) dX11_write_31 (fun H locs hP hS => ?_)
    obtain ⟨g15, h⟩ := gd_inv h
    exact end_z X hr hk hP hS (Decidable.not_not.mp g15) h dX11_write_34
  · rw [if_neg c4] at h
    refine lv_aload_n hx hb dX11_write_13 rfl (lv_at hl 1 rfl) ?_
    refine lv_iload hx hb dX11_write_14 (lv_at hl 0 rfl) ?_
    obtain ⟨r16, M17, hc18, h⟩ := bnd_inv h
    refine gV_i (As := [.int r1]) X hP hS hl.1 (c_X11_denied l D cA q aK aV hq hc18) sf_X11_denied bw_507 sv_X11_denied (rcC_11 sC_0) rfl ⟨rfl, rfl⟩ ⟨Nat.le_of_ble_eq_true rfl, Nat.le_of_ble_eq_true rfl⟩ rfl rfl (Nat.le_of_ble_eq_true rfl) dX11_write_16 (fun H locs hP hS => ?_)
    obtain ⟨g19, h⟩ := gd_inv h
    exact end_z X hr hk hP hS (Decidable.not_not.mp g19) h dX11_write_19
theorem dX11_refused_0 : decode cX11_refused 0 = .ok (.aload_n 0, 1) := by decide +kernel
theorem dX11_refused_1 : decode cX11_refused 1 = .ok (.iload_n 1, 1) := by decide +kernel
theorem dX11_refused_2 : decode cX11_refused 2 = .ok (.putfield 82, 3) := by decide +kernel
theorem dX11_refused_5 : decode cX11_refused 5 = .ok (.iconst (-1), 1) := by decide +kernel
theorem dX11_refused_6 : decode cX11_refused 6 = .ok (.ireturn, 1) := by decide +kernel
set_option maxRecDepth 100000 in
set_option maxHeartbeats 8000000 in
theorem c_X11_refused (l : Launch) (D : va_G) (cA : Nat → ClassId) (q aK aV : Nat → Nat) (hq : injG 167 q) {a1 : Int32} {M M0 : Mem} {r0 : Int32} (h : f_X11_refused a1 M = some (r0, M0)) : Met l yX11_refused (.code yX11_refused cX11_refused 2 (some .int) :: BW) ({ frames := 1, cells := 0, slots := 0, locals := 13 } : Room) (va_Pc [.ref (q 0), .int a1] (CB 167 (ceC cA q) D cA q aK aV M)) (Qi 167 (ceC cA q) D q r0 M0) 0 0 (AqG 167 q) := by
  refine gMet RX11 (by decide +kernel) rfl hq (Nat.le_of_ble_eq_true rfl) ?_
  intro p e s m below meth c ls X hr hk hP hS hl
  have hx := X.1
  have hb := X.2.1
  have hl : lv_has ls 2 [(0, .ref (q 0)), (1, .int a1)] := hl
  rw [f_X11_refused] at h
  refine lv_aload_n hx hb dX11_refused_0 rfl (lv_at hl 0 rfl) ?_
  refine lv_iload_n hx hb dX11_refused_1 rfl (lv_at hl 1 rfl) ?_
  obtain ⟨M1, eM1, h⟩ := lt_inv h
  refine pfC_11_12 X hP hS sC_0 bw_442 eM1 dX11_refused_2 (fun H locs hP hS => ?_)
  refine lv_iconst (v := -1) hx hb dX11_refused_5 (by decide) ?_
  exact end_i X hr hk hP hS h dX11_refused_6
theorem dX8_numberAt_0 : decode cX8_numberAt 0 = .ok (.iload_n 1, 1) := by decide +kernel
theorem dX8_numberAt_1 : decode cX8_numberAt 1 = .ok (.aload_n 0, 1) := by decide +kernel
theorem dX8_numberAt_2 : decode cX8_numberAt 2 = .ok (.getfield 18, 3) := by decide +kernel
theorem dX8_numberAt_5 : decode cX8_numberAt 5 = .ok (.arraylength, 1) := by decide +kernel
theorem dX8_numberAt_6 : decode cX8_numberAt 6 = .ok (.invokestatic 22, 3) := by decide +kernel
theorem dX8_numberAt_9 : decode cX8_numberAt 9 = .ok (.ifCond .eq 12, 3) := by decide +kernel
theorem dX8_numberAt_12 : decode cX8_numberAt 12 = .ok (.aload_n 0, 1) := by decide +kernel
theorem dX8_numberAt_13 : decode cX8_numberAt 13 = .ok (.getfield 18, 3) := by decide +kernel
theorem dX8_numberAt_16 : decode cX8_numberAt 16 = .ok (.iload_n 1, 1) := by decide +kernel
theorem dX8_numberAt_17 : decode cX8_numberAt 17 = .ok (.laload, 1) := by decide +kernel
theorem dX8_numberAt_18 : decode cX8_numberAt 18 = .ok (.goto 4, 3) := by decide +kernel
theorem dX8_numberAt_21 : decode cX8_numberAt 21 = .ok (.lconst 0, 1) := by decide +kernel
theorem dX8_numberAt_22 : decode cX8_numberAt 22 = .ok (.lreturn, 1) := by decide +kernel
set_option maxRecDepth 100000 in
set_option maxHeartbeats 8000000 in
theorem c_X8_numberAt (l : Launch) (D : va_G) (cA : Nat → ClassId) (q aK aV : Nat → Nat) (hq : injG 167 q) {a0 : Nat} {a1 : Int32} {M M0 : Mem} {r0 : Int64} (h0 : shC a0 = 8) (h : f_X8_numberAt a0 a1 M = some (r0, M0)) : Met l yX8_numberAt (.code yX8_numberAt cX8_numberAt 2 (some .long) :: BW) ({ frames := 2, cells := 0, slots := 0, locals := 34 } : Room) (va_Pc [.ref (q a0), .int a1] (CB 167 (ceC cA q) D cA q aK aV M)) (Ql 167 (ceC cA q) D q r0 M0) 0 0 (AqG 167 q) := by
  refine gMet RX8 (by decide +kernel) rfl hq (Nat.le_of_ble_eq_true rfl) ?_
  intro p e s m below meth c ls X hr hk hP hS hl
  have hx := X.1
  have hb := X.2.1
  have hl : lv_has ls 2 [(0, .ref (q a0)), (1, .int a1)] := hl
  rw [f_X8_numberAt] at h
  refine lv_iload_n hx hb dX8_numberAt_0 rfl (lv_at hl 1 rfl) ?_
  refine lv_aload_n hx hb dX8_numberAt_1 rfl (lv_at hl 0 rfl) ?_
  refine gfC_8_2 X hP h0 bw_214 dX8_numberAt_2 ?_
  refine alC_21 X hP ((kC_8_2 h0).1) ((kC_8_2 h0).2) (v := 60) rfl dX8_numberAt_5 ?_
  obtain ⟨r1, M2, hc3, h⟩ := bnd_inv h
  refine gSN_i (As := [.int a1, .int (60 : Int32)]) X hP hS hl.1 (c_X11_within l D cA q aK aV hq hc3) sf_X11_within nw_8 ss_X11_within ⟨rfl, rfl⟩ ⟨Nat.le_of_ble_eq_true rfl, Nat.le_of_ble_eq_true rfl⟩ rfl rfl (Nat.le_of_ble_eq_true rfl) dX8_numberAt_6 (fun H locs hP hS => ?_)
  refine lv_if_eq (tgt := 21) hx hb dX8_numberAt_9 (by decide) (fun c4 => ?_) (fun c4 => ?_)
  · rw [if_pos c4] at h
    refine lv_lconst (v := 0) hx hb dX8_numberAt_21 (by decide) ?_
    exact end_l X hr hk hP hS h dX8_numberAt_22
  · rw [if_neg c4] at h
    refine lv_aload_n hx hb dX8_numberAt_12 rfl (lv_at hl 0 rfl) ?_
    refine gfC_8_2 X hP h0 bw_214 dX8_numberAt_13 ?_
    refine lv_iload_n hx hb dX8_numberAt_16 rfl (lv_at hl 1 rfl) ?_
    obtain ⟨g5, h⟩ := gd_inv h
    refine ldC_la X hP ((kC_8_2 h0).1) ((kC_8_2 h0).2) g5 dX8_numberAt_17 ?_
    refine lv_goto (tgt := 22) hx hb dX8_numberAt_18 (by decide) ?_
    exact end_l X hr hk hP hS h dX8_numberAt_22
theorem dX11_read_0 : decode cX11_read 0 = .ok (.aload_n 0, 1) := by decide +kernel
theorem dX11_read_1 : decode cX11_read 1 = .ok (.iload_n 1, 1) := by decide +kernel
theorem dX11_read_2 : decode cX11_read 2 = .ok (.iload_n 2, 1) := by decide +kernel
theorem dX11_read_3 : decode cX11_read 3 = .ok (.invokevirtual 124, 3) := by decide +kernel
theorem dX11_read_6 : decode cX11_read 6 = .ok (.istore_n 3, 1) := by decide +kernel
theorem dX11_read_7 : decode cX11_read 7 = .ok (.iload_n 3, 1) := by decide +kernel
theorem dX11_read_8 : decode cX11_read 8 = .ok (.ifCond .eq 10, 3) := by decide +kernel
theorem dX11_read_11 : decode cX11_read 11 = .ok (.aload_n 0, 1) := by decide +kernel
theorem dX11_read_12 : decode cX11_read 12 = .ok (.iload_n 3, 1) := by decide +kernel
theorem dX11_read_13 : decode cX11_read 13 = .ok (.invokevirtual 132, 3) := by decide +kernel
theorem dX11_read_16 : decode cX11_read 16 = .ok (.i2l, 1) := by decide +kernel
theorem dX11_read_17 : decode cX11_read 17 = .ok (.lreturn, 1) := by decide +kernel
theorem dX11_read_18 : decode cX11_read 18 = .ok (.aload_n 0, 1) := by decide +kernel
theorem dX11_read_19 : decode cX11_read 19 = .ok (.iconst 0, 1) := by decide +kernel
theorem dX11_read_20 : decode cX11_read 20 = .ok (.putfield 82, 3) := by decide +kernel
theorem dX11_read_23 : decode cX11_read 23 = .ok (.aload_n 0, 1) := by decide +kernel
theorem dX11_read_24 : decode cX11_read 24 = .ok (.iload_n 1, 1) := by decide +kernel
theorem dX11_read_25 : decode cX11_read 25 = .ok (.invokevirtual 112, 3) := by decide +kernel
theorem dX11_read_28 : decode cX11_read 28 = .ok (.iload_n 2, 1) := by decide +kernel
theorem dX11_read_29 : decode cX11_read 29 = .ok (.invokevirtual 136, 3) := by decide +kernel
theorem dX11_read_32 : decode cX11_read 32 = .ok (.lreturn, 1) := by decide +kernel
set_option maxRecDepth 100000 in
set_option maxHeartbeats 8000000 in
theorem c_X11_read (l : Launch) (D : va_G) (cA : Nat → ClassId) (q aK aV : Nat → Nat) (hq : injG 167 q) {a1 : Int32} {a2 : Int32} {M M0 : Mem} {r0 : Int64} (h : f_X11_read a1 a2 M = some (r0, M0)) : Met l yX11_read (.code yX11_read cX11_read 4 (some .long) :: BW) ({ frames := 4, cells := 0, slots := 0, locals := 78 } : Room) (va_Pc [.ref (q 0), .int a1, .int a2] (CB 167 (ceC cA q) D cA q aK aV M)) (Ql 167 (ceC cA q) D q r0 M0) 0 0 (AqG 167 q) := by
  refine gMet RX11 (by decide +kernel) rfl hq (Nat.le_of_ble_eq_true rfl) ?_
  intro p e s m below meth c ls X hr hk hP hS hl
  have hx := X.1
  have hb := X.2.1
  have hl : lv_has ls 4 [(0, .ref (q 0)), (1, .int a1), (2, .int a2)] := hl
  rw [f_X11_read] at h
  refine lv_aload_n hx hb dX11_read_0 rfl (lv_at hl 0 rfl) ?_
  refine lv_iload_n hx hb dX11_read_1 rfl (lv_at hl 1 rfl) ?_
  refine lv_iload_n hx hb dX11_read_2 rfl (lv_at hl 2 rfl) ?_
  obtain ⟨r1, M2, hc3, h⟩ := bnd_inv h
  refine gV_i (As := [.int a1, .int a2]) X hP hS hl.1 (c_X11_placeRefusal l D cA q aK aV hq hc3) sf_X11_placeRefusal bw_527 sv_X11_placeRefusal (rcC_11 sC_0) rfl ⟨rfl, rfl⟩ ⟨Nat.le_of_ble_eq_true rfl, Nat.le_of_ble_eq_true rfl⟩ rfl rfl (Nat.le_of_ble_eq_true rfl) dX11_read_3 (fun H locs hP hS => ?_)
  refine lv_istore_n (lv' := [(3, .int r1), (0, .ref (q 0)), (1, .int a1), (2, .int a2)]) hx hb dX11_read_6 rfl hl (by decide) rfl (fun ls hl => ?_)
  refine lv_iload_n hx hb dX11_read_7 rfl (lv_at hl 0 rfl) ?_
  refine lv_if_eq (tgt := 18) hx hb dX11_read_8 (by decide) (fun c4 => ?_) (fun c4 => ?_)
  · rw [if_pos c4] at h
    refine lv_aload_n hx hb dX11_read_18 rfl (lv_at hl 1 rfl) ?_
    refine lv_iconst (v := 0) hx hb dX11_read_19 (by decide) ?_
    obtain ⟨M5, eM5, h⟩ := lt_inv h
    refine pfC_11_12 X hP hS sC_0 bw_442 eM5 dX11_read_20 (fun H locs hP hS => ?_)
    refine lv_aload_n hx hb dX11_read_23 rfl (lv_at hl 1 rfl) ?_
    refine lv_iload_n hx hb dX11_read_24 rfl (lv_at hl 2 rfl) ?_
    obtain ⟨r6, M7, hc8, h⟩ := bnd_inv h
    refine gV_r (As := [.int a1]) X hP hS hl.1 (c_X11_trayAt l D cA q aK aV hq hc8) sf_X11_trayAt bw_511 sv_X11_trayAt (rcC_11 sC_0) rfl ⟨rfl, rfl⟩ ⟨Nat.le_of_ble_eq_true rfl, Nat.le_of_ble_eq_true rfl⟩ rfl rfl (Nat.le_of_ble_eq_true rfl) dX11_read_25 (fun H locs hP hS => ?_)
    obtain ⟨g9, h⟩ := gd_inv h
    have g9 := Decidable.not_not.mp g9
    refine lv_iload_n hx hb dX11_read_28 rfl (lv_at hl 3 rfl) ?_
    obtain ⟨r10, M11, hc12, h⟩ := bnd_inv h
    refine gV_l (As := [.int a2]) X hP hS hl.1 (c_X8_numberAt l D cA q aK aV hq g9 hc12) sf_X8_numberAt bw_556 sv_X8_numberAt (rcC_8 g9) rfl ⟨rfl, rfl⟩ ⟨Nat.le_of_ble_eq_true rfl, Nat.le_of_ble_eq_true rfl⟩ rfl rfl (Nat.le_of_ble_eq_true rfl) dX11_read_29 (fun H locs hP hS => ?_)
    exact end_l X hr hk hP hS h dX11_read_32
  · rw [if_neg c4] at h
    refine lv_aload_n hx hb dX11_read_11 rfl (lv_at hl 1 rfl) ?_
    refine lv_iload_n hx hb dX11_read_12 rfl (lv_at hl 0 rfl) ?_
    obtain ⟨r13, M14, hc15, h⟩ := bnd_inv h
    refine gV_i (As := [.int r1]) X hP hS hl.1 (c_X11_refused l D cA q aK aV hq hc15) sf_X11_refused bw_552 sv_X11_refused (rcC_11 sC_0) rfl ⟨rfl, rfl⟩ ⟨Nat.le_of_ble_eq_true rfl, Nat.le_of_ble_eq_true rfl⟩ rfl rfl (Nat.le_of_ble_eq_true rfl) dX11_read_13 (fun H locs hP hS => ?_)
    refine lv_i2l hx hb dX11_read_16 rfl ?_
    exact end_l X hr hk hP hS h dX11_read_17
theorem dX8_hasRun_0 : decode cX8_hasRun 0 = .ok (.iload_n 1, 1) := by decide +kernel
theorem dX8_hasRun_1 : decode cX8_hasRun 1 = .ok (.i2l, 1) := by decide +kernel
theorem dX8_hasRun_2 : decode cX8_hasRun 2 = .ok (.iload_n 2, 1) := by decide +kernel
theorem dX8_hasRun_3 : decode cX8_hasRun 3 = .ok (.i2l, 1) := by decide +kernel
theorem dX8_hasRun_4 : decode cX8_hasRun 4 = .ok (.ladd, 1) := by decide +kernel
theorem dX8_hasRun_5 : decode cX8_hasRun 5 = .ok (.aload_n 0, 1) := by decide +kernel
theorem dX8_hasRun_6 : decode cX8_hasRun 6 = .ok (.getfield 15, 3) := by decide +kernel
theorem dX8_hasRun_9 : decode cX8_hasRun 9 = .ok (.i2l, 1) := by decide +kernel
theorem dX8_hasRun_10 : decode cX8_hasRun 10 = .ok (.lcmp, 1) := by decide +kernel
theorem dX8_hasRun_11 : decode cX8_hasRun 11 = .ok (.ifCond .gt 7, 3) := by decide +kernel
theorem dX8_hasRun_14 : decode cX8_hasRun 14 = .ok (.iconst 1, 1) := by decide +kernel
theorem dX8_hasRun_15 : decode cX8_hasRun 15 = .ok (.goto 4, 3) := by decide +kernel
theorem dX8_hasRun_18 : decode cX8_hasRun 18 = .ok (.iconst 0, 1) := by decide +kernel
theorem dX8_hasRun_19 : decode cX8_hasRun 19 = .ok (.ireturn, 1) := by decide +kernel
set_option maxRecDepth 100000 in
set_option maxHeartbeats 8000000 in
theorem c_X8_hasRun (l : Launch) (D : va_G) (cA : Nat → ClassId) (q aK aV : Nat → Nat) (hq : injG 167 q) {a0 : Nat} {a1 : Int32} {a2 : Int32} {M M0 : Mem} {r0 : Int32} (h0 : shC a0 = 8) (h : f_X8_hasRun a0 a1 a2 M = some (r0, M0)) : Met l yX8_hasRun (.code yX8_hasRun cX8_hasRun 3 (some .boolean) :: BW) ({ frames := 1, cells := 0, slots := 0, locals := 14 } : Room) (va_Pc [.ref (q a0), .int a1, .int a2] (CB 167 (ceC cA q) D cA q aK aV M)) (Qi 167 (ceC cA q) D q r0 M0) 0 0 (AqG 167 q) := by
  refine gMet RX8 (by decide +kernel) rfl hq (Nat.le_of_ble_eq_true rfl) ?_
  intro p e s m below meth c ls X hr hk hP hS hl
  have hx := X.1
  have hb := X.2.1
  have hl : lv_has ls 3 [(0, .ref (q a0)), (1, .int a1), (2, .int a2)] := hl
  rw [f_X8_hasRun] at h
  refine lv_iload_n hx hb dX8_hasRun_0 rfl (lv_at hl 1 rfl) ?_
  refine lv_i2l hx hb dX8_hasRun_1 rfl ?_
  refine lv_iload_n hx hb dX8_hasRun_2 rfl (lv_at hl 2 rfl) ?_
  refine lv_i2l hx hb dX8_hasRun_3 rfl ?_
  refine lv_ladd hx hb dX8_hasRun_4 ?_
  refine lv_aload_n hx hb dX8_hasRun_5 rfl (lv_at hl 0 rfl) ?_
  refine gfC_8_1 X hP h0 bw_213 dX8_hasRun_6 ?_
  refine lv_i2l hx hb dX8_hasRun_9 rfl ?_
  refine W.lcmp hx hb dX8_hasRun_10 ?_
  refine lv_if_gt (tgt := 18) hx hb dX8_hasRun_11 (by decide) (fun c1 => ?_) (fun c1 => ?_)
  · rw [if_pos c1] at h
    refine lv_iconst (v := 0) hx hb dX8_hasRun_18 (by decide) ?_
    exact end_z X hr hk hP hS (Or.inl rfl) h dX8_hasRun_19
  · rw [if_neg c1] at h
    refine lv_iconst (v := 1) hx hb dX8_hasRun_14 (by decide) ?_
    refine lv_goto (tgt := 19) hx hb dX8_hasRun_15 (by decide) ?_
    exact end_z X hr hk hP hS (Or.inr rfl) h dX8_hasRun_19
theorem dX8_takeRun_0 : decode cX8_takeRun 0 = .ok (.iconst 0, 1) := by decide +kernel
theorem dX8_takeRun_1 : decode cX8_takeRun 1 = .ok (.istore 5, 2) := by decide +kernel
theorem dX8_takeRun_3 : decode cX8_takeRun 3 = .ok (.iload 5, 2) := by decide +kernel
theorem dX8_takeRun_5 : decode cX8_takeRun 5 = .ok (.iload 4, 2) := by decide +kernel
theorem dX8_takeRun_7 : decode cX8_takeRun 7 = .ok (.if_icmp .ge 44, 3) := by decide +kernel
theorem dX8_takeRun_10 : decode cX8_takeRun 10 = .ok (.iload_n 3, 1) := by decide +kernel
theorem dX8_takeRun_11 : decode cX8_takeRun 11 = .ok (.iload_n 2, 1) := by decide +kernel
theorem dX8_takeRun_12 : decode cX8_takeRun 12 = .ok (.if_icmp .le 13, 3) := by decide +kernel
theorem dX8_takeRun_15 : decode cX8_takeRun 15 = .ok (.iload 4, 2) := by decide +kernel
theorem dX8_takeRun_17 : decode cX8_takeRun 17 = .ok (.iconst 1, 1) := by decide +kernel
theorem dX8_takeRun_18 : decode cX8_takeRun 18 = .ok (.isub, 1) := by decide +kernel
theorem dX8_takeRun_19 : decode cX8_takeRun 19 = .ok (.iload 5, 2) := by decide +kernel
theorem dX8_takeRun_21 : decode cX8_takeRun 21 = .ok (.isub, 1) := by decide +kernel
theorem dX8_takeRun_22 : decode cX8_takeRun 22 = .ok (.goto 5, 3) := by decide +kernel
theorem dX8_takeRun_25 : decode cX8_takeRun 25 = .ok (.iload 5, 2) := by decide +kernel
theorem dX8_takeRun_27 : decode cX8_takeRun 27 = .ok (.istore 6, 2) := by decide +kernel
theorem dX8_takeRun_29 : decode cX8_takeRun 29 = .ok (.aload_n 0, 1) := by decide +kernel
theorem dX8_takeRun_30 : decode cX8_takeRun 30 = .ok (.iload_n 3, 1) := by decide +kernel
theorem dX8_takeRun_31 : decode cX8_takeRun 31 = .ok (.iload 6, 2) := by decide +kernel
theorem dX8_takeRun_33 : decode cX8_takeRun 33 = .ok (.iadd, 1) := by decide +kernel
theorem dX8_takeRun_34 : decode cX8_takeRun 34 = .ok (.aload_n 1, 1) := by decide +kernel
theorem dX8_takeRun_35 : decode cX8_takeRun 35 = .ok (.iload_n 2, 1) := by decide +kernel
theorem dX8_takeRun_36 : decode cX8_takeRun 36 = .ok (.iload 6, 2) := by decide +kernel
theorem dX8_takeRun_38 : decode cX8_takeRun 38 = .ok (.iadd, 1) := by decide +kernel
theorem dX8_takeRun_39 : decode cX8_takeRun 39 = .ok (.invokevirtual 30, 3) := by decide +kernel
theorem dX8_takeRun_42 : decode cX8_takeRun 42 = .ok (.invokevirtual 34, 3) := by decide +kernel
theorem dX8_takeRun_45 : decode cX8_takeRun 45 = .ok (.iinc 5 1, 3) := by decide +kernel
theorem dX8_takeRun_48 : decode cX8_takeRun 48 = .ok (.goto (-45), 3) := by decide +kernel
theorem dX8_takeRun_51 : decode cX8_takeRun 51 = .ok (.return_, 1) := by decide +kernel
set_option maxRecDepth 100000 in
set_option maxHeartbeats 8000000 in
theorem c_X8_takeRun (l : Launch) (D : va_G) (cA : Nat → ClassId) (q aK aV : Nat → Nat) (hq : injG 167 q) {a0 : Nat} {a1 : Nat} {a2 : Int32} {a3 : Int32} {a4 : Int32} {M M0 : Mem} (h0 : shC a0 = 8) (h1 : shC a1 = 8) (h : f_X8_takeRun a0 a1 a2 a3 a4 M = some ((), M0)) : Met l yX8_takeRun (.code yX8_takeRun cX8_takeRun 7 none :: BW) ({ frames := 3, cells := 0, slots := 0, locals := 59 } : Room) (va_Pc [.ref (q a0), .ref (q a1), .int a2, .int a3, .int a4] (CB 167 (ceC cA q) D cA q aK aV M)) (Qv 167 (ceC cA q) D q M0) 0 0 (AqG 167 q) := by
  refine gMet RX8 (by decide +kernel) rfl hq (Nat.le_of_ble_eq_true rfl) ?_
  intro p e s m below meth c ls X hr hk hP hS hl
  have hx := X.1
  have hb := X.2.1
  have hl : lv_has ls 7 [(0, .ref (q a0)), (1, .ref (q a1)), (2, .int a2), (3, .int a3), (4, .int a4)] := hl
  rw [f_X8_takeRun] at h
  have hL3 : ∀ (fu : Nat) (b5 : Int32) (M : Mem) (res : (Unit) × Mem) (H : Heap) (locs : List Loc) (ls : Array Slot), f_X8_takeRun_L3 a0 a1 a2 a3 a4 fu b5 M = some res → va_P D vwCl (wsG 167 (ceC cA q) q M) H → va_S (AqG 167 q) s.heap H locs → lv_has ls 7 [(0, .ref (q a0)), (1, .ref (q a1)), (2, .int a2), (3, .int a3), (4, .int a4), (5, .int b5)] → (∀ (H : Heap) (locs : List Loc) (ls : Array Slot), va_P D vwCl (wsG 167 (ceC cA q) q res.2) H → va_S (AqG 167 q) s.heap H locs → lv_has ls 7 [] → W p l e ({ frames := 3, cells := 0, slots := 0, locals := 59 } : Room) s m [.ref (q a0), .ref (q a1), .int a2, .int a3, .int a4].toArray below meth c H locs 0 0 (MQ below (Qv 167 (ceC cA q) D q M0) [.ref (q a0), .ref (q a1), .int a2, .int a3, .int a4].toArray s 0 0 (AqG 167 q)) (F0 m 51 ls [])) → W p l e ({ frames := 3, cells := 0, slots := 0, locals := 59 } : Room) s m [.ref (q a0), .ref (q a1), .int a2, .int a3, .int a4].toArray below meth c H locs 0 0 (MQ below (Qv 167 (ceC cA q) D q M0) [.ref (q a0), .ref (q a1), .int a2, .int a3, .int a4].toArray s 0 0 (AqG 167 q)) (F0 m 3 ls []) := by
    intro fu
    induction fu with
    | zero => intro b5 M res H locs ls h; exact absurd h (by simp [f_X8_takeRun_L3])
    | succ fu ih =>
      intro b5 M res H locs ls h hP hS hl K3_0
      rw [f_X8_takeRun_L3] at h
      have hJ27 : ∀ (b5 : Int32) (s0 : Int32) (M : Mem) (H : Heap) (locs : List Loc) (ls : Array Slot), f_X8_takeRun_J27 (f_X8_takeRun_L3 a0 a1 a2 a3 a4 fu) a0 a1 a2 a3 a4 b5 s0 M = some res → va_P D vwCl (wsG 167 (ceC cA q) q M) H → va_S (AqG 167 q) s.heap H locs → lv_has ls 7 [(0, .ref (q a0)), (1, .ref (q a1)), (2, .int a2), (3, .int a3), (4, .int a4), (5, .int b5)] → W p l e ({ frames := 3, cells := 0, slots := 0, locals := 59 } : Room) s m [.ref (q a0), .ref (q a1), .int a2, .int a3, .int a4].toArray below meth c H locs 0 0 (MQ below (Qv 167 (ceC cA q) D q M0) [.ref (q a0), .ref (q a1), .int a2, .int a3, .int a4].toArray s 0 0 (AqG 167 q)) (F0 m 27 ls [.int s0]) := by
        intro b5 s0 M H locs ls h hP hS hl
        rw [f_X8_takeRun_J27] at h
        refine lv_istore (lv' := [(6, .int s0), (0, .ref (q a0)), (1, .ref (q a1)), (2, .int a2), (3, .int a3), (4, .int a4), (5, .int b5)]) hx hb dX8_takeRun_27 hl (by decide) rfl (fun ls hl => ?_)
        refine lv_aload_n hx hb dX8_takeRun_29 rfl (lv_at hl 1 rfl) ?_
        refine lv_iload_n hx hb dX8_takeRun_30 rfl (lv_at hl 4 rfl) ?_
        refine lv_iload hx hb dX8_takeRun_31 (lv_at hl 0 rfl) ?_
        refine lv_iadd hx hb dX8_takeRun_33 ?_
        refine lv_aload_n hx hb dX8_takeRun_34 rfl (lv_at hl 2 rfl) ?_
        refine lv_iload_n hx hb dX8_takeRun_35 rfl (lv_at hl 3 rfl) ?_
        refine lv_iload hx hb dX8_takeRun_36 (lv_at hl 0 rfl) ?_
        refine lv_iadd hx hb dX8_takeRun_38 ?_
        obtain ⟨r6, M7, hc8, h⟩ := bnd_inv h
        refine gV_l (As := [.int (a2 + s0)]) X hP hS hl.1 (c_X8_numberAt l D cA q aK aV hq h1 hc8) sf_X8_numberAt bw_572 sv_X8_numberAt (rcC_8 h1) rfl ⟨rfl, rfl⟩ ⟨Nat.le_of_ble_eq_true rfl, Nat.le_of_ble_eq_true rfl⟩ rfl rfl (Nat.le_of_ble_eq_true rfl) dX8_takeRun_39 (fun H locs hP hS => ?_)
        obtain ⟨_, M10, hc11, h⟩ := bnd_inv h
        refine gV_v (As := [.int (a3 + s0), .long r6]) X hP hS hl.1 (c_X8_putNumber l D cA q aK aV hq h0 hc11) sf_X8_putNumber bw_573 sv_X8_putNumber (rcC_8 h0) rfl ⟨rfl, rfl⟩ ⟨Nat.le_of_ble_eq_true rfl, Nat.le_of_ble_eq_true rfl⟩ rfl rfl (Nat.le_of_ble_eq_true rfl) dX8_takeRun_42 (fun H locs hP hS => ?_)
        obtain ⟨y12, ey12, h⟩ := lt_inv h
        refine lv_iinc (v := y12) (lv' := [(5, .int y12), (6, .int s0), (0, .ref (q a0)), (1, .ref (q a1)), (2, .int a2), (3, .int a3), (4, .int a4)]) hx hb dX8_takeRun_45 hl (k := 6) rfl (by rw [ey12]; rfl) (by decide) rfl (fun ls hl => ?_)
        refine lv_goto (tgt := 3) hx hb dX8_takeRun_48 (by decide) ?_
        exact ih _ _ res _ _ _ h hP hS (lv_sub hl [2, 3, 4, 5, 6, 0] rfl) K3_0
      refine lv_iload hx hb dX8_takeRun_3 (lv_at hl 5 rfl) ?_
      refine lv_iload hx hb dX8_takeRun_5 (lv_at hl 4 rfl) ?_
      refine lv_icmp_ge (tgt := 51) hx hb dX8_takeRun_7 (by decide) (fun c4 => ?_) (fun c4 => ?_)
      · rw [if_pos c4] at h
        cases h
        exact K3_0 _ _ _ hP hS (lv_sub hl [] rfl)
      · rw [if_neg c4] at h
        refine lv_iload_n hx hb dX8_takeRun_10 rfl (lv_at hl 3 rfl) ?_
        refine lv_iload_n hx hb dX8_takeRun_11 rfl (lv_at hl 2 rfl) ?_
        refine lv_icmp_le (tgt := 25) hx hb dX8_takeRun_12 (by decide) (fun c5 => ?_) (fun c5 => ?_)
        · rw [if_pos c5] at h
          refine lv_iload hx hb dX8_takeRun_25 (lv_at hl 5 rfl) ?_
          exact hJ27 _ _ _ _ _ _ h hP hS (lv_sub hl [0, 1, 2, 3, 4, 5] rfl)
        · rw [if_neg c5] at h
          refine lv_iload hx hb dX8_takeRun_15 (lv_at hl 4 rfl) ?_
          refine lv_iconst (v := 1) hx hb dX8_takeRun_17 (by decide) ?_
          refine lv_isub hx hb dX8_takeRun_18 ?_
          refine lv_iload hx hb dX8_takeRun_19 (lv_at hl 5 rfl) ?_
          refine lv_isub hx hb dX8_takeRun_21 ?_
          refine lv_goto (tgt := 27) hx hb dX8_takeRun_22 (by decide) ?_
          exact hJ27 _ _ _ _ _ _ h hP hS (lv_sub hl [0, 1, 2, 3, 4, 5] rfl)
  refine lv_iconst (v := 0) hx hb dX8_takeRun_0 (by decide) ?_
  refine lv_istore (lv' := [(5, .int (0 : Int32)), (0, .ref (q a0)), (1, .ref (q a1)), (2, .int a2), (3, .int a3), (4, .int a4)]) hx hb dX8_takeRun_1 hl (by decide) rfl (fun ls hl => ?_)
  obtain ⟨s1, M2, hc3, h⟩ := bnd_inv h
  try dsimp only at h
  refine hL3  fz _ _ _ _ _ _ hc3 hP hS (lv_sub hl [1, 2, 3, 4, 5, 0] rfl) (fun H locs ls hP hS hl => ?_)
  have hl : lv_has ls 7 [] := hl
  exact end_v X hr hk hP hS h dX8_takeRun_51
theorem dX11_pour_0 : decode cX11_pour 0 = .ok (.iload_n 1, 1) := by decide +kernel
theorem dX11_pour_1 : decode cX11_pour 1 = .ok (.iconst 4, 1) := by decide +kernel
theorem dX11_pour_2 : decode cX11_pour 2 = .ok (.invokestatic 104, 3) := by decide +kernel
theorem dX11_pour_5 : decode cX11_pour 5 = .ok (.ifCond .eq 25, 3) := by decide +kernel
theorem dX11_pour_8 : decode cX11_pour 8 = .ok (.iload_n 3, 1) := by decide +kernel
theorem dX11_pour_9 : decode cX11_pour 9 = .ok (.iconst 4, 1) := by decide +kernel
theorem dX11_pour_10 : decode cX11_pour 10 = .ok (.invokestatic 104, 3) := by decide +kernel
theorem dX11_pour_13 : decode cX11_pour 13 = .ok (.ifCond .eq 17, 3) := by decide +kernel
theorem dX11_pour_16 : decode cX11_pour 16 = .ok (.iload_n 2, 1) := by decide +kernel
theorem dX11_pour_17 : decode cX11_pour 17 = .ok (.ifCond .lt 13, 3) := by decide +kernel
theorem dX11_pour_20 : decode cX11_pour 20 = .ok (.iload 4, 2) := by decide +kernel
theorem dX11_pour_22 : decode cX11_pour 22 = .ok (.ifCond .lt 8, 3) := by decide +kernel
theorem dX11_pour_25 : decode cX11_pour 25 = .ok (.iload 5, 2) := by decide +kernel
theorem dX11_pour_27 : decode cX11_pour 27 = .ok (.ifCond .ge 9, 3) := by decide +kernel
theorem dX11_pour_30 : decode cX11_pour 30 = .ok (.aload_n 0, 1) := by decide +kernel
theorem dX11_pour_31 : decode cX11_pour 31 = .ok (.iconst 1, 1) := by decide +kernel
theorem dX11_pour_32 : decode cX11_pour 32 = .ok (.invokevirtual 108, 3) := by decide +kernel
theorem dX11_pour_35 : decode cX11_pour 35 = .ok (.ireturn, 1) := by decide +kernel
theorem dX11_pour_36 : decode cX11_pour 36 = .ok (.aload_n 0, 1) := by decide +kernel
theorem dX11_pour_37 : decode cX11_pour 37 = .ok (.iload_n 1, 1) := by decide +kernel
theorem dX11_pour_38 : decode cX11_pour 38 = .ok (.invokevirtual 112, 3) := by decide +kernel
theorem dX11_pour_41 : decode cX11_pour 41 = .ok (.astore 6, 2) := by decide +kernel
theorem dX11_pour_43 : decode cX11_pour 43 = .ok (.aload_n 0, 1) := by decide +kernel
theorem dX11_pour_44 : decode cX11_pour 44 = .ok (.iload_n 3, 1) := by decide +kernel
theorem dX11_pour_45 : decode cX11_pour 45 = .ok (.invokevirtual 112, 3) := by decide +kernel
theorem dX11_pour_48 : decode cX11_pour 48 = .ok (.astore 7, 2) := by decide +kernel
theorem dX11_pour_50 : decode cX11_pour 50 = .ok (.aload 6, 2) := by decide +kernel
theorem dX11_pour_52 : decode cX11_pour 52 = .ok (.invokevirtual 140, 3) := by decide +kernel
theorem dX11_pour_55 : decode cX11_pour 55 = .ok (.ifCond .ne 11, 3) := by decide +kernel
theorem dX11_pour_58 : decode cX11_pour 58 = .ok (.aload 7, 2) := by decide +kernel
theorem dX11_pour_60 : decode cX11_pour 60 = .ok (.invokevirtual 140, 3) := by decide +kernel
theorem dX11_pour_63 : decode cX11_pour 63 = .ok (.ifCond .eq 9, 3) := by decide +kernel
theorem dX11_pour_66 : decode cX11_pour 66 = .ok (.aload_n 0, 1) := by decide +kernel
theorem dX11_pour_67 : decode cX11_pour 67 = .ok (.iconst 2, 1) := by decide +kernel
theorem dX11_pour_68 : decode cX11_pour 68 = .ok (.invokevirtual 108, 3) := by decide +kernel
theorem dX11_pour_71 : decode cX11_pour 71 = .ok (.ireturn, 1) := by decide +kernel
theorem dX11_pour_72 : decode cX11_pour 72 = .ok (.aload 6, 2) := by decide +kernel
theorem dX11_pour_74 : decode cX11_pour 74 = .ok (.getfield 143, 3) := by decide +kernel
theorem dX11_pour_77 : decode cX11_pour 77 = .ok (.aload 7, 2) := by decide +kernel
theorem dX11_pour_79 : decode cX11_pour 79 = .ok (.getfield 143, 3) := by decide +kernel
theorem dX11_pour_82 : decode cX11_pour 82 = .ok (.if_icmp .eq 10, 3) := by decide +kernel
theorem dX11_pour_85 : decode cX11_pour 85 = .ok (.aload_n 0, 1) := by decide +kernel
theorem dX11_pour_86 : decode cX11_pour 86 = .ok (.bipush 8, 2) := by decide +kernel
theorem dX11_pour_88 : decode cX11_pour 88 = .ok (.invokevirtual 108, 3) := by decide +kernel
theorem dX11_pour_91 : decode cX11_pour 91 = .ok (.ireturn, 1) := by decide +kernel
theorem dX11_pour_92 : decode cX11_pour 92 = .ok (.aload 6, 2) := by decide +kernel
theorem dX11_pour_94 : decode cX11_pour 94 = .ok (.iload_n 2, 1) := by decide +kernel
theorem dX11_pour_95 : decode cX11_pour 95 = .ok (.iload 5, 2) := by decide +kernel
theorem dX11_pour_97 : decode cX11_pour 97 = .ok (.invokevirtual 146, 3) := by decide +kernel
theorem dX11_pour_100 : decode cX11_pour 100 = .ok (.ifCond .eq 15, 3) := by decide +kernel
theorem dX11_pour_103 : decode cX11_pour 103 = .ok (.aload 7, 2) := by decide +kernel
theorem dX11_pour_105 : decode cX11_pour 105 = .ok (.iload 4, 2) := by decide +kernel
theorem dX11_pour_107 : decode cX11_pour 107 = .ok (.iload 5, 2) := by decide +kernel
theorem dX11_pour_109 : decode cX11_pour 109 = .ok (.invokevirtual 146, 3) := by decide +kernel
theorem dX11_pour_112 : decode cX11_pour 112 = .ok (.ifCond .ne 9, 3) := by decide +kernel
theorem dX11_pour_115 : decode cX11_pour 115 = .ok (.aload_n 0, 1) := by decide +kernel
theorem dX11_pour_116 : decode cX11_pour 116 = .ok (.iconst 3, 1) := by decide +kernel
theorem dX11_pour_117 : decode cX11_pour 117 = .ok (.invokevirtual 108, 3) := by decide +kernel
theorem dX11_pour_120 : decode cX11_pour 120 = .ok (.ireturn, 1) := by decide +kernel
theorem dX11_pour_121 : decode cX11_pour 121 = .ok (.aload 7, 2) := by decide +kernel
theorem dX11_pour_123 : decode cX11_pour 123 = .ok (.aload 6, 2) := by decide +kernel
theorem dX11_pour_125 : decode cX11_pour 125 = .ok (.iload_n 2, 1) := by decide +kernel
theorem dX11_pour_126 : decode cX11_pour 126 = .ok (.iload 4, 2) := by decide +kernel
theorem dX11_pour_128 : decode cX11_pour 128 = .ok (.iload 5, 2) := by decide +kernel
theorem dX11_pour_130 : decode cX11_pour 130 = .ok (.invokevirtual 149, 3) := by decide +kernel
theorem dX11_pour_133 : decode cX11_pour 133 = .ok (.aload_n 0, 1) := by decide +kernel
theorem dX11_pour_134 : decode cX11_pour 134 = .ok (.invokevirtual 120, 3) := by decide +kernel
theorem dX11_pour_137 : decode cX11_pour 137 = .ok (.ireturn, 1) := by decide +kernel
set_option maxRecDepth 100000 in
set_option maxHeartbeats 8000000 in
theorem c_X11_pour (l : Launch) (D : va_G) (cA : Nat → ClassId) (q aK aV : Nat → Nat) (hq : injG 167 q) {a1 : Int32} {a2 : Int32} {a3 : Int32} {a4 : Int32} {a5 : Int32} {M M0 : Mem} {r0 : Int32} (h : f_X11_pour a1 a2 a3 a4 a5 M = some (r0, M0)) : Met l yX11_pour (.code yX11_pour cX11_pour 8 (some .boolean) :: BW) ({ frames := 4, cells := 0, slots := 0, locals := 85 } : Room) (va_Pc [.ref (q 0), .int a1, .int a2, .int a3, .int a4, .int a5] (CB 167 (ceC cA q) D cA q aK aV M)) (Qi 167 (ceC cA q) D q r0 M0) 0 0 (AqG 167 q) := by
  refine gMet RX11 (by decide +kernel) rfl hq (Nat.le_of_ble_eq_true rfl) ?_
  intro p e s m below meth c ls X hr hk hP hS hl
  have hx := X.1
  have hb := X.2.1
  have hl : lv_has ls 8 [(0, .ref (q 0)), (1, .int a1), (2, .int a2), (3, .int a3), (4, .int a4), (5, .int a5)] := hl
  rw [f_X11_pour] at h
  refine lv_iload_n hx hb dX11_pour_0 rfl (lv_at hl 1 rfl) ?_
  refine lv_iconst (v := 4) hx hb dX11_pour_1 (by decide) ?_
  obtain ⟨r1, M2, hc3, h⟩ := bnd_inv h
  refine gS_i (As := [.int a1, .int (4 : Int32)]) X hP hS hl.1 (c_X11_within l D cA q aK aV hq hc3) sf_X11_within bw_504 ss_X11_within ⟨rfl, rfl⟩ ⟨Nat.le_of_ble_eq_true rfl, Nat.le_of_ble_eq_true rfl⟩ rfl rfl (Nat.le_of_ble_eq_true rfl) dX11_pour_2 (fun H locs hP hS => ?_)
  refine lv_if_eq (tgt := 30) hx hb dX11_pour_5 (by decide) (fun c4 => ?_) (fun c4 => ?_)
  · rw [if_pos c4] at h
    refine lv_aload_n hx hb dX11_pour_30 rfl (lv_at hl 0 rfl) ?_
    refine lv_iconst (v := 1) hx hb dX11_pour_31 (by decide) ?_
    obtain ⟨r5, M6, hc7, h⟩ := bnd_inv h
    refine gV_i (As := [.int (1 : Int32)]) X hP hS hl.1 (c_X11_denied l D cA q aK aV hq hc7) sf_X11_denied bw_507 sv_X11_denied (rcC_11 sC_0) rfl ⟨rfl, rfl⟩ ⟨Nat.le_of_ble_eq_true rfl, Nat.le_of_ble_eq_true rfl⟩ rfl rfl (Nat.le_of_ble_eq_true rfl) dX11_pour_32 (fun H locs hP hS => ?_)
    obtain ⟨g8, h⟩ := gd_inv h
    exact end_z X hr hk hP hS (Decidable.not_not.mp g8) h dX11_pour_35
  · rw [if_neg c4] at h
    refine lv_iload_n hx hb dX11_pour_8 rfl (lv_at hl 3 rfl) ?_
    refine lv_iconst (v := 4) hx hb dX11_pour_9 (by decide) ?_
    obtain ⟨r9, M10, hc11, h⟩ := bnd_inv h
    refine gS_i (As := [.int a3, .int (4 : Int32)]) X hP hS hl.1 (c_X11_within l D cA q aK aV hq hc11) sf_X11_within bw_504 ss_X11_within ⟨rfl, rfl⟩ ⟨Nat.le_of_ble_eq_true rfl, Nat.le_of_ble_eq_true rfl⟩ rfl rfl (Nat.le_of_ble_eq_true rfl) dX11_pour_10 (fun H locs hP hS => ?_)
    refine lv_if_eq (tgt := 30) hx hb dX11_pour_13 (by decide) (fun c12 => ?_) (fun c12 => ?_)
    · rw [if_pos c12] at h
      refine lv_aload_n hx hb dX11_pour_30 rfl (lv_at hl 0 rfl) ?_
      refine lv_iconst (v := 1) hx hb dX11_pour_31 (by decide) ?_
      obtain ⟨r13, M14, hc15, h⟩ := bnd_inv h
      refine gV_i (As := [.int (1 : Int32)]) X hP hS hl.1 (c_X11_denied l D cA q aK aV hq hc15) sf_X11_denied bw_507 sv_X11_denied (rcC_11 sC_0) rfl ⟨rfl, rfl⟩ ⟨Nat.le_of_ble_eq_true rfl, Nat.le_of_ble_eq_true rfl⟩ rfl rfl (Nat.le_of_ble_eq_true rfl) dX11_pour_32 (fun H locs hP hS => ?_)
      obtain ⟨g16, h⟩ := gd_inv h
      exact end_z X hr hk hP hS (Decidable.not_not.mp g16) h dX11_pour_35
    · rw [if_neg c12] at h
      refine lv_iload_n hx hb dX11_pour_16 rfl (lv_at hl 2 rfl) ?_
      refine lv_if_lt (tgt := 30) hx hb dX11_pour_17 (by decide) (fun c17 => ?_) (fun c17 => ?_)
      · rw [if_pos c17] at h
        refine lv_aload_n hx hb dX11_pour_30 rfl (lv_at hl 0 rfl) ?_
        refine lv_iconst (v := 1) hx hb dX11_pour_31 (by decide) ?_
        obtain ⟨r18, M19, hc20, h⟩ := bnd_inv h
        refine gV_i (As := [.int (1 : Int32)]) X hP hS hl.1 (c_X11_denied l D cA q aK aV hq hc20) sf_X11_denied bw_507 sv_X11_denied (rcC_11 sC_0) rfl ⟨rfl, rfl⟩ ⟨Nat.le_of_ble_eq_true rfl, Nat.le_of_ble_eq_true rfl⟩ rfl rfl (Nat.le_of_ble_eq_true rfl) dX11_pour_32 (fun H locs hP hS => ?_)
        obtain ⟨g21, h⟩ := gd_inv h
        exact end_z X hr hk hP hS (Decidable.not_not.mp g21) h dX11_pour_35
      · rw [if_neg c17] at h
        refine lv_iload hx hb dX11_pour_20 (lv_at hl 4 rfl) ?_
        refine lv_if_lt (tgt := 30) hx hb dX11_pour_22 (by decide) (fun c22 => ?_) (fun c22 => ?_)
        · rw [if_pos c22] at h
          refine lv_aload_n hx hb dX11_pour_30 rfl (lv_at hl 0 rfl) ?_
          refine lv_iconst (v := 1) hx hb dX11_pour_31 (by decide) ?_
          obtain ⟨r23, M24, hc25, h⟩ := bnd_inv h
          refine gV_i (As := [.int (1 : Int32)]) X hP hS hl.1 (c_X11_denied l D cA q aK aV hq hc25) sf_X11_denied bw_507 sv_X11_denied (rcC_11 sC_0) rfl ⟨rfl, rfl⟩ ⟨Nat.le_of_ble_eq_true rfl, Nat.le_of_ble_eq_true rfl⟩ rfl rfl (Nat.le_of_ble_eq_true rfl) dX11_pour_32 (fun H locs hP hS => ?_)
          obtain ⟨g26, h⟩ := gd_inv h
          exact end_z X hr hk hP hS (Decidable.not_not.mp g26) h dX11_pour_35
        · rw [if_neg c22] at h
          refine lv_iload hx hb dX11_pour_25 (lv_at hl 5 rfl) ?_
          refine lv_if_ge (tgt := 36) hx hb dX11_pour_27 (by decide) (fun c27 => ?_) (fun c27 => ?_)
          · rw [if_pos c27] at h
            refine lv_aload_n hx hb dX11_pour_36 rfl (lv_at hl 0 rfl) ?_
            refine lv_iload_n hx hb dX11_pour_37 rfl (lv_at hl 1 rfl) ?_
            obtain ⟨r28, M29, hc30, h⟩ := bnd_inv h
            refine gV_r (As := [.int a1]) X hP hS hl.1 (c_X11_trayAt l D cA q aK aV hq hc30) sf_X11_trayAt bw_511 sv_X11_trayAt (rcC_11 sC_0) rfl ⟨rfl, rfl⟩ ⟨Nat.le_of_ble_eq_true rfl, Nat.le_of_ble_eq_true rfl⟩ rfl rfl (Nat.le_of_ble_eq_true rfl) dX11_pour_38 (fun H locs hP hS => ?_)
            obtain ⟨g31, h⟩ := gd_inv h
            have g31 := Decidable.not_not.mp g31
            refine lv_astore (lv' := [(6, .ref (q r28)), (0, .ref (q 0)), (1, .int a1), (2, .int a2), (3, .int a3), (4, .int a4), (5, .int a5)]) hx hb dX11_pour_41 hl (by decide) rfl (fun ls hl => ?_)
            refine lv_aload_n hx hb dX11_pour_43 rfl (lv_at hl 1 rfl) ?_
            refine lv_iload_n hx hb dX11_pour_44 rfl (lv_at hl 4 rfl) ?_
            obtain ⟨r32, M33, hc34, h⟩ := bnd_inv h
            refine gV_r (As := [.int a3]) X hP hS hl.1 (c_X11_trayAt l D cA q aK aV hq hc34) sf_X11_trayAt bw_511 sv_X11_trayAt (rcC_11 sC_0) rfl ⟨rfl, rfl⟩ ⟨Nat.le_of_ble_eq_true rfl, Nat.le_of_ble_eq_true rfl⟩ rfl rfl (Nat.le_of_ble_eq_true rfl) dX11_pour_45 (fun H locs hP hS => ?_)
            obtain ⟨g35, h⟩ := gd_inv h
            have g35 := Decidable.not_not.mp g35
            refine lv_astore (lv' := [(7, .ref (q r32)), (6, .ref (q r28)), (0, .ref (q 0)), (1, .int a1), (2, .int a2), (3, .int a3), (4, .int a4), (5, .int a5)]) hx hb dX11_pour_48 hl (by decide) rfl (fun ls hl => ?_)
            refine lv_aload hx hb dX11_pour_50 (lv_at hl 1 rfl) ?_
            obtain ⟨r36, M37, hc38, h⟩ := bnd_inv h
            refine gV_i (As := []) X hP hS hl.1 (c_X8_isMissing l D cA q aK aV hq g31 hc38) sf_X8_isMissing bw_531 sv_X8_isMissing (rcC_8 g31) rfl ⟨rfl, rfl⟩ ⟨Nat.le_of_ble_eq_true rfl, Nat.le_of_ble_eq_true rfl⟩ rfl rfl (Nat.le_of_ble_eq_true rfl) dX11_pour_52 (fun H locs hP hS => ?_)
            refine lv_if_ne (tgt := 66) hx hb dX11_pour_55 (by decide) (fun c39 => ?_) (fun c39 => ?_)
            · rw [if_neg c39] at h
              refine lv_aload_n hx hb dX11_pour_66 rfl (lv_at hl 2 rfl) ?_
              refine lv_iconst (v := 2) hx hb dX11_pour_67 (by decide) ?_
              obtain ⟨r40, M41, hc42, h⟩ := bnd_inv h
              refine gV_i (As := [.int (2 : Int32)]) X hP hS hl.1 (c_X11_denied l D cA q aK aV hq hc42) sf_X11_denied bw_507 sv_X11_denied (rcC_11 sC_0) rfl ⟨rfl, rfl⟩ ⟨Nat.le_of_ble_eq_true rfl, Nat.le_of_ble_eq_true rfl⟩ rfl rfl (Nat.le_of_ble_eq_true rfl) dX11_pour_68 (fun H locs hP hS => ?_)
              obtain ⟨g43, h⟩ := gd_inv h
              exact end_z X hr hk hP hS (Decidable.not_not.mp g43) h dX11_pour_71
            · rw [if_pos c39] at h
              refine lv_aload hx hb dX11_pour_58 (lv_at hl 0 rfl) ?_
              obtain ⟨r44, M45, hc46, h⟩ := bnd_inv h
              refine gV_i (As := []) X hP hS hl.1 (c_X8_isMissing l D cA q aK aV hq g35 hc46) sf_X8_isMissing bw_531 sv_X8_isMissing (rcC_8 g35) rfl ⟨rfl, rfl⟩ ⟨Nat.le_of_ble_eq_true rfl, Nat.le_of_ble_eq_true rfl⟩ rfl rfl (Nat.le_of_ble_eq_true rfl) dX11_pour_60 (fun H locs hP hS => ?_)
              refine lv_if_eq (tgt := 72) hx hb dX11_pour_63 (by decide) (fun c47 => ?_) (fun c47 => ?_)
              · rw [if_pos c47] at h
                refine lv_aload hx hb dX11_pour_72 (lv_at hl 1 rfl) ?_
                refine gfC_8_0 X hP g31 bw_212 dX11_pour_74 ?_
                refine lv_aload hx hb dX11_pour_77 (lv_at hl 0 rfl) ?_
                refine gfC_8_0 X hP g35 bw_212 dX11_pour_79 ?_
                refine lv_icmp_eq (tgt := 92) hx hb dX11_pour_82 (by decide) (fun c48 => ?_) (fun c48 => ?_)
                · rw [if_pos c48] at h
                  refine lv_aload hx hb dX11_pour_92 (lv_at hl 1 rfl) ?_
                  refine lv_iload_n hx hb dX11_pour_94 rfl (lv_at hl 4 rfl) ?_
                  refine lv_iload hx hb dX11_pour_95 (lv_at hl 7 rfl) ?_
                  obtain ⟨r49, M50, hc51, h⟩ := bnd_inv h
                  refine gV_i (As := [.int a2, .int a5]) X hP hS hl.1 (c_X8_hasRun l D cA q aK aV hq g31 hc51) sf_X8_hasRun bw_564 sv_X8_hasRun (rcC_8 g31) rfl ⟨rfl, rfl⟩ ⟨Nat.le_of_ble_eq_true rfl, Nat.le_of_ble_eq_true rfl⟩ rfl rfl (Nat.le_of_ble_eq_true rfl) dX11_pour_97 (fun H locs hP hS => ?_)
                  refine lv_if_eq (tgt := 115) hx hb dX11_pour_100 (by decide) (fun c52 => ?_) (fun c52 => ?_)
                  · rw [if_pos c52] at h
                    refine lv_aload_n hx hb dX11_pour_115 rfl (lv_at hl 2 rfl) ?_
                    refine lv_iconst (v := 3) hx hb dX11_pour_116 (by decide) ?_
                    obtain ⟨r53, M54, hc55, h⟩ := bnd_inv h
                    refine gV_i (As := [.int (3 : Int32)]) X hP hS hl.1 (c_X11_denied l D cA q aK aV hq hc55) sf_X11_denied bw_507 sv_X11_denied (rcC_11 sC_0) rfl ⟨rfl, rfl⟩ ⟨Nat.le_of_ble_eq_true rfl, Nat.le_of_ble_eq_true rfl⟩ rfl rfl (Nat.le_of_ble_eq_true rfl) dX11_pour_117 (fun H locs hP hS => ?_)
                    obtain ⟨g56, h⟩ := gd_inv h
                    exact end_z X hr hk hP hS (Decidable.not_not.mp g56) h dX11_pour_120
                  · rw [if_neg c52] at h
                    refine lv_aload hx hb dX11_pour_103 (lv_at hl 0 rfl) ?_
                    refine lv_iload hx hb dX11_pour_105 (lv_at hl 6 rfl) ?_
                    refine lv_iload hx hb dX11_pour_107 (lv_at hl 7 rfl) ?_
                    obtain ⟨r57, M58, hc59, h⟩ := bnd_inv h
                    refine gV_i (As := [.int a4, .int a5]) X hP hS hl.1 (c_X8_hasRun l D cA q aK aV hq g35 hc59) sf_X8_hasRun bw_564 sv_X8_hasRun (rcC_8 g35) rfl ⟨rfl, rfl⟩ ⟨Nat.le_of_ble_eq_true rfl, Nat.le_of_ble_eq_true rfl⟩ rfl rfl (Nat.le_of_ble_eq_true rfl) dX11_pour_109 (fun H locs hP hS => ?_)
                    refine lv_if_ne (tgt := 121) hx hb dX11_pour_112 (by decide) (fun c60 => ?_) (fun c60 => ?_)
                    · rw [if_neg c60] at h
                      refine lv_aload hx hb dX11_pour_121 (lv_at hl 0 rfl) ?_
                      refine lv_aload hx hb dX11_pour_123 (lv_at hl 1 rfl) ?_
                      refine lv_iload_n hx hb dX11_pour_125 rfl (lv_at hl 4 rfl) ?_
                      refine lv_iload hx hb dX11_pour_126 (lv_at hl 6 rfl) ?_
                      refine lv_iload hx hb dX11_pour_128 (lv_at hl 7 rfl) ?_
                      obtain ⟨_, M62, hc63, h⟩ := bnd_inv h
                      refine gV_v (As := [.ref (q r28), .int a2, .int a4, .int a5]) X hP hS hl.1 (c_X8_takeRun l D cA q aK aV hq g35 g31 hc63) sf_X8_takeRun bw_568 sv_X8_takeRun (rcC_8 g35) rfl ⟨rfl, rfl⟩ ⟨Nat.le_of_ble_eq_true rfl, Nat.le_of_ble_eq_true rfl⟩ rfl rfl (Nat.le_of_ble_eq_true rfl) dX11_pour_130 (fun H locs hP hS => ?_)
                      refine lv_aload_n hx hb dX11_pour_133 rfl (lv_at hl 2 rfl) ?_
                      obtain ⟨r64, M65, hc66, h⟩ := bnd_inv h
                      refine gV_i (As := []) X hP hS hl.1 (c_X11_done l D cA q aK aV hq hc66) sf_X11_done bw_519 sv_X11_done (rcC_11 sC_0) rfl ⟨rfl, rfl⟩ ⟨Nat.le_of_ble_eq_true rfl, Nat.le_of_ble_eq_true rfl⟩ rfl rfl (Nat.le_of_ble_eq_true rfl) dX11_pour_134 (fun H locs hP hS => ?_)
                      obtain ⟨g67, h⟩ := gd_inv h
                      exact end_z X hr hk hP hS (Decidable.not_not.mp g67) h dX11_pour_137
                    · rw [if_pos c60] at h
                      refine lv_aload_n hx hb dX11_pour_115 rfl (lv_at hl 2 rfl) ?_
                      refine lv_iconst (v := 3) hx hb dX11_pour_116 (by decide) ?_
                      obtain ⟨r68, M69, hc70, h⟩ := bnd_inv h
                      refine gV_i (As := [.int (3 : Int32)]) X hP hS hl.1 (c_X11_denied l D cA q aK aV hq hc70) sf_X11_denied bw_507 sv_X11_denied (rcC_11 sC_0) rfl ⟨rfl, rfl⟩ ⟨Nat.le_of_ble_eq_true rfl, Nat.le_of_ble_eq_true rfl⟩ rfl rfl (Nat.le_of_ble_eq_true rfl) dX11_pour_117 (fun H locs hP hS => ?_)
                      obtain ⟨g71, h⟩ := gd_inv h
                      exact end_z X hr hk hP hS (Decidable.not_not.mp g71) h dX11_pour_120
                · rw [if_neg c48] at h
                  refine lv_aload_n hx hb dX11_pour_85 rfl (lv_at hl 2 rfl) ?_
                  refine lv_bipush (v := 8) hx hb dX11_pour_86 (by decide) ?_
                  obtain ⟨r72, M73, hc74, h⟩ := bnd_inv h
                  refine gV_i (As := [.int (8 : Int32)]) X hP hS hl.1 (c_X11_denied l D cA q aK aV hq hc74) sf_X11_denied bw_507 sv_X11_denied (rcC_11 sC_0) rfl ⟨rfl, rfl⟩ ⟨Nat.le_of_ble_eq_true rfl, Nat.le_of_ble_eq_true rfl⟩ rfl rfl (Nat.le_of_ble_eq_true rfl) dX11_pour_88 (fun H locs hP hS => ?_)
                  obtain ⟨g75, h⟩ := gd_inv h
                  exact end_z X hr hk hP hS (Decidable.not_not.mp g75) h dX11_pour_91
              · rw [if_neg c47] at h
                refine lv_aload_n hx hb dX11_pour_66 rfl (lv_at hl 2 rfl) ?_
                refine lv_iconst (v := 2) hx hb dX11_pour_67 (by decide) ?_
                obtain ⟨r76, M77, hc78, h⟩ := bnd_inv h
                refine gV_i (As := [.int (2 : Int32)]) X hP hS hl.1 (c_X11_denied l D cA q aK aV hq hc78) sf_X11_denied bw_507 sv_X11_denied (rcC_11 sC_0) rfl ⟨rfl, rfl⟩ ⟨Nat.le_of_ble_eq_true rfl, Nat.le_of_ble_eq_true rfl⟩ rfl rfl (Nat.le_of_ble_eq_true rfl) dX11_pour_68 (fun H locs hP hS => ?_)
                obtain ⟨g79, h⟩ := gd_inv h
                exact end_z X hr hk hP hS (Decidable.not_not.mp g79) h dX11_pour_71
          · rw [if_neg c27] at h
            refine lv_aload_n hx hb dX11_pour_30 rfl (lv_at hl 0 rfl) ?_
            refine lv_iconst (v := 1) hx hb dX11_pour_31 (by decide) ?_
            obtain ⟨r80, M81, hc82, h⟩ := bnd_inv h
            refine gV_i (As := [.int (1 : Int32)]) X hP hS hl.1 (c_X11_denied l D cA q aK aV hq hc82) sf_X11_denied bw_507 sv_X11_denied (rcC_11 sC_0) rfl ⟨rfl, rfl⟩ ⟨Nat.le_of_ble_eq_true rfl, Nat.le_of_ble_eq_true rfl⟩ rfl rfl (Nat.le_of_ble_eq_true rfl) dX11_pour_32 (fun H locs hP hS => ?_)
            obtain ⟨g83, h⟩ := gd_inv h
            exact end_z X hr hk hP hS (Decidable.not_not.mp g83) h dX11_pour_35
theorem dX7_hasRoom_0 : decode cX7_hasRoom 0 = .ok (.aload_n 0, 1) := by decide +kernel
theorem dX7_hasRoom_1 : decode cX7_hasRoom 1 = .ok (.getfield 19, 3) := by decide +kernel
theorem dX7_hasRoom_4 : decode cX7_hasRoom 4 = .ok (.iload_n 1, 1) := by decide +kernel
theorem dX7_hasRoom_5 : decode cX7_hasRoom 5 = .ok (.iadd, 1) := by decide +kernel
theorem dX7_hasRoom_6 : decode cX7_hasRoom 6 = .ok (.aload_n 0, 1) := by decide +kernel
theorem dX7_hasRoom_7 : decode cX7_hasRoom 7 = .ok (.getfield 9, 3) := by decide +kernel
theorem dX7_hasRoom_10 : decode cX7_hasRoom 10 = .ok (.arraylength, 1) := by decide +kernel
theorem dX7_hasRoom_11 : decode cX7_hasRoom 11 = .ok (.if_icmp .gt 7, 3) := by decide +kernel
theorem dX7_hasRoom_14 : decode cX7_hasRoom 14 = .ok (.iconst 1, 1) := by decide +kernel
theorem dX7_hasRoom_15 : decode cX7_hasRoom 15 = .ok (.goto 4, 3) := by decide +kernel
theorem dX7_hasRoom_18 : decode cX7_hasRoom 18 = .ok (.iconst 0, 1) := by decide +kernel
theorem dX7_hasRoom_19 : decode cX7_hasRoom 19 = .ok (.ireturn, 1) := by decide +kernel
set_option maxRecDepth 100000 in
set_option maxHeartbeats 8000000 in
theorem c_X7_hasRoom (l : Launch) (D : va_G) (cA : Nat → ClassId) (q aK aV : Nat → Nat) (hq : injG 167 q) {a1 : Int32} {M M0 : Mem} {r0 : Int32} (h : f_X7_hasRoom a1 M = some (r0, M0)) : Met l yX7_hasRoom (.code yX7_hasRoom cX7_hasRoom 2 (some .boolean) :: BW) ({ frames := 1, cells := 0, slots := 0, locals := 13 } : Room) (va_Pc [.ref (q 13), .int a1] (CB 167 (ceC cA q) D cA q aK aV M)) (Qi 167 (ceC cA q) D q r0 M0) 0 0 (AqG 167 q) := by
  refine gMet RX7 (by decide +kernel) rfl hq (Nat.le_of_ble_eq_true rfl) ?_
  intro p e s m below meth c ls X hr hk hP hS hl
  have hx := X.1
  have hb := X.2.1
  have hl : lv_has ls 2 [(0, .ref (q 13)), (1, .int a1)] := hl
  rw [f_X7_hasRoom] at h
  refine lv_aload_n hx hb dX7_hasRoom_0 rfl (lv_at hl 0 rfl) ?_
  refine gfC_7_2 X hP sC_13 bw_284 dX7_hasRoom_1 ?_
  refine lv_iload_n hx hb dX7_hasRoom_4 rfl (lv_at hl 1 rfl) ?_
  refine lv_iadd hx hb dX7_hasRoom_5 ?_
  refine lv_aload_n hx hb dX7_hasRoom_6 rfl (lv_at hl 0 rfl) ?_
  refine gfC_7_0 X hP sC_13 bw_282 dX7_hasRoom_7 ?_
  refine alC_20 X hP sC_14 zC_14 (v := 900) rfl dX7_hasRoom_10 ?_
  refine lv_icmp_gt (tgt := 18) hx hb dX7_hasRoom_11 (by decide) (fun c1 => ?_) (fun c1 => ?_)
  · rw [if_pos c1] at h
    refine lv_iconst (v := 0) hx hb dX7_hasRoom_18 (by decide) ?_
    exact end_z X hr hk hP hS (Or.inl rfl) h dX7_hasRoom_19
  · rw [if_neg c1] at h
    refine lv_iconst (v := 1) hx hb dX7_hasRoom_14 (by decide) ?_
    refine lv_goto (tgt := 19) hx hb dX7_hasRoom_15 (by decide) ?_
    exact end_z X hr hk hP hS (Or.inr rfl) h dX7_hasRoom_19
theorem dX11_put_0 : decode cX11_put 0 = .ok (.iload_n 1, 1) := by decide +kernel
theorem dX11_put_1 : decode cX11_put 1 = .ok (.ifCond .lt 13, 3) := by decide +kernel
theorem dX11_put_4 : decode cX11_put 4 = .ok (.iload_n 1, 1) := by decide +kernel
theorem dX11_put_5 : decode cX11_put 5 = .ok (.aload_n 0, 1) := by decide +kernel
theorem dX11_put_6 : decode cX11_put 6 = .ok (.arraylength, 1) := by decide +kernel
theorem dX11_put_7 : decode cX11_put 7 = .ok (.if_icmp .ge 7, 3) := by decide +kernel
theorem dX11_put_10 : decode cX11_put 10 = .ok (.aload_n 0, 1) := by decide +kernel
theorem dX11_put_11 : decode cX11_put 11 = .ok (.iload_n 1, 1) := by decide +kernel
theorem dX11_put_12 : decode cX11_put 12 = .ok (.iload_n 2, 1) := by decide +kernel
theorem dX11_put_13 : decode cX11_put 13 = .ok (.iastore, 1) := by decide +kernel
theorem dX11_put_14 : decode cX11_put 14 = .ok (.return_, 1) := by decide +kernel
set_option maxRecDepth 100000 in
set_option maxHeartbeats 8000000 in
theorem c_X11_put (l : Launch) (D : va_G) (cA : Nat → ClassId) (q aK aV : Nat → Nat) (hq : injG 167 q) {a0 : Nat} {a1 : Int32} {a2 : Int32} {M M0 : Mem} (h0 : shC a0 = 20) (h : f_X11_put a0 a1 a2 M = some ((), M0)) : Met l yX11_put (.code yX11_put cX11_put 3 none :: BW) ({ frames := 1, cells := 0, slots := 0, locals := 14 } : Room) (va_Pc [.ref (q a0), .int a1, .int a2] (CB 167 (ceC cA q) D cA q aK aV M)) (Qv 167 (ceC cA q) D q M0) 0 0 (AqG 167 q) := by
  refine gMet RX11 (by decide +kernel) rfl hq (Nat.le_of_ble_eq_true rfl) ?_
  intro p e s m below meth c ls X hr hk hP hS hl
  have hx := X.1
  have hb := X.2.1
  have hl : lv_has ls 3 [(0, .ref (q a0)), (1, .int a1), (2, .int a2)] := hl
  rw [f_X11_put] at h
  refine lv_iload_n hx hb dX11_put_0 rfl (lv_at hl 1 rfl) ?_
  refine lv_if_lt (tgt := 14) hx hb dX11_put_1 (by decide) (fun c1 => ?_) (fun c1 => ?_)
  · rw [if_pos c1] at h
    exact end_v X hr hk hP hS h dX11_put_14
  · rw [if_neg c1] at h
    refine lv_iload_n hx hb dX11_put_4 rfl (lv_at hl 1 rfl) ?_
    refine lv_aload_n hx hb dX11_put_5 rfl (lv_at hl 0 rfl) ?_
    refine alC_20 X hP h0 rfl rfl dX11_put_6 ?_
    refine lv_icmp_ge (tgt := 14) hx hb dX11_put_7 (by decide) (fun c2 => ?_) (fun c2 => ?_)
    · rw [if_pos c2] at h
      exact end_v X hr hk hP hS h dX11_put_14
    · rw [if_neg c2] at h
      refine lv_aload_n hx hb dX11_put_10 rfl (lv_at hl 0 rfl) ?_
      refine lv_iload_n hx hb dX11_put_11 rfl (lv_at hl 1 rfl) ?_
      refine lv_iload_n hx hb dX11_put_12 rfl (lv_at hl 2 rfl) ?_
      obtain ⟨g3, h⟩ := gd_inv h
      obtain ⟨M4, eM4, h⟩ := lt_inv h
      refine stC_ia X hP hS h0 rfl g3 eM4 dX11_put_13 (fun H locs hP hS => ?_)
      exact end_v X hr hk hP hS h dX11_put_14
theorem dX7_addInt_0 : decode cX7_addInt 0 = .ok (.bipush 24, 2) := by decide +kernel
theorem dX7_addInt_2 : decode cX7_addInt 2 = .ok (.istore_n 2, 1) := by decide +kernel
theorem dX7_addInt_3 : decode cX7_addInt 3 = .ok (.iload_n 2, 1) := by decide +kernel
theorem dX7_addInt_4 : decode cX7_addInt 4 = .ok (.ifCond .lt 37, 3) := by decide +kernel
theorem dX7_addInt_7 : decode cX7_addInt 7 = .ok (.aload_n 0, 1) := by decide +kernel
theorem dX7_addInt_8 : decode cX7_addInt 8 = .ok (.getfield 9, 3) := by decide +kernel
theorem dX7_addInt_11 : decode cX7_addInt 11 = .ok (.aload_n 0, 1) := by decide +kernel
theorem dX7_addInt_12 : decode cX7_addInt 12 = .ok (.getfield 19, 3) := by decide +kernel
theorem dX7_addInt_15 : decode cX7_addInt 15 = .ok (.iload_n 1, 1) := by decide +kernel
theorem dX7_addInt_16 : decode cX7_addInt 16 = .ok (.iload_n 2, 1) := by decide +kernel
theorem dX7_addInt_17 : decode cX7_addInt 17 = .ok (.ishr, 1) := by decide +kernel
theorem dX7_addInt_18 : decode cX7_addInt 18 = .ok (.sipush 255, 3) := by decide +kernel
theorem dX7_addInt_21 : decode cX7_addInt 21 = .ok (.iand, 1) := by decide +kernel
theorem dX7_addInt_22 : decode cX7_addInt 22 = .ok (.invokestatic 64, 3) := by decide +kernel
theorem dX7_addInt_25 : decode cX7_addInt 25 = .ok (.aload_n 0, 1) := by decide +kernel
theorem dX7_addInt_26 : decode cX7_addInt 26 = .ok (.dup, 1) := by decide +kernel
theorem dX7_addInt_27 : decode cX7_addInt 27 = .ok (.getfield 19, 3) := by decide +kernel
theorem dX7_addInt_30 : decode cX7_addInt 30 = .ok (.iconst 1, 1) := by decide +kernel
theorem dX7_addInt_31 : decode cX7_addInt 31 = .ok (.iadd, 1) := by decide +kernel
theorem dX7_addInt_32 : decode cX7_addInt 32 = .ok (.putfield 19, 3) := by decide +kernel
theorem dX7_addInt_35 : decode cX7_addInt 35 = .ok (.iinc 2 (-8), 3) := by decide +kernel
theorem dX7_addInt_38 : decode cX7_addInt 38 = .ok (.goto (-35), 3) := by decide +kernel
theorem dX7_addInt_41 : decode cX7_addInt 41 = .ok (.return_, 1) := by decide +kernel
set_option maxRecDepth 100000 in
set_option maxHeartbeats 8000000 in
theorem c_X7_addInt (l : Launch) (D : va_G) (cA : Nat → ClassId) (q aK aV : Nat → Nat) (hq : injG 167 q) {a1 : Int32} {M M0 : Mem} (h : f_X7_addInt a1 M = some ((), M0)) : Met l yX7_addInt (.code yX7_addInt cX7_addInt 3 none :: BW) ({ frames := 2, cells := 0, slots := 0, locals := 36 } : Room) (va_Pc [.ref (q 13), .int a1] (CB 167 (ceC cA q) D cA q aK aV M)) (Qv 167 (ceC cA q) D q M0) 0 0 (AqG 167 q) := by
  refine gMet RX7 (by decide +kernel) rfl hq (Nat.le_of_ble_eq_true rfl) ?_
  intro p e s m below meth c ls X hr hk hP hS hl
  have hx := X.1
  have hb := X.2.1
  have hl : lv_has ls 3 [(0, .ref (q 13)), (1, .int a1)] := hl
  rw [f_X7_addInt] at h
  have hL3 : ∀ (fu : Nat) (b2 : Int32) (M : Mem) (res : (Unit) × Mem) (H : Heap) (locs : List Loc) (ls : Array Slot), f_X7_addInt_L3 a1 fu b2 M = some res → va_P D vwCl (wsG 167 (ceC cA q) q M) H → va_S (AqG 167 q) s.heap H locs → lv_has ls 3 [(0, .ref (q 13)), (1, .int a1), (2, .int b2)] → (∀ (H : Heap) (locs : List Loc) (ls : Array Slot), va_P D vwCl (wsG 167 (ceC cA q) q res.2) H → va_S (AqG 167 q) s.heap H locs → lv_has ls 3 [] → W p l e ({ frames := 2, cells := 0, slots := 0, locals := 36 } : Room) s m [.ref (q 13), .int a1].toArray below meth c H locs 0 0 (MQ below (Qv 167 (ceC cA q) D q M0) [.ref (q 13), .int a1].toArray s 0 0 (AqG 167 q)) (F0 m 41 ls [])) → W p l e ({ frames := 2, cells := 0, slots := 0, locals := 36 } : Room) s m [.ref (q 13), .int a1].toArray below meth c H locs 0 0 (MQ below (Qv 167 (ceC cA q) D q M0) [.ref (q 13), .int a1].toArray s 0 0 (AqG 167 q)) (F0 m 3 ls []) := by
    intro fu
    induction fu with
    | zero => intro b2 M res H locs ls h; exact absurd h (by simp [f_X7_addInt_L3])
    | succ fu ih =>
      intro b2 M res H locs ls h hP hS hl K3_0
      rw [f_X7_addInt_L3] at h
      refine lv_iload_n hx hb dX7_addInt_3 rfl (lv_at hl 2 rfl) ?_
      refine lv_if_lt (tgt := 41) hx hb dX7_addInt_4 (by decide) (fun c4 => ?_) (fun c4 => ?_)
      · rw [if_pos c4] at h
        cases h
        exact K3_0 _ _ _ hP hS (lv_sub hl [] rfl)
      · rw [if_neg c4] at h
        refine lv_aload_n hx hb dX7_addInt_7 rfl (lv_at hl 0 rfl) ?_
        refine gfC_7_0 X hP sC_13 bw_282 dX7_addInt_8 ?_
        refine lv_aload_n hx hb dX7_addInt_11 rfl (lv_at hl 0 rfl) ?_
        refine gfC_7_2 X hP sC_13 bw_284 dX7_addInt_12 ?_
        refine lv_iload_n hx hb dX7_addInt_15 rfl (lv_at hl 1 rfl) ?_
        refine lv_iload_n hx hb dX7_addInt_16 rfl (lv_at hl 2 rfl) ?_
        refine lv_ishr hx hb dX7_addInt_17 ?_
        refine lv_sipush (v := 255) hx hb dX7_addInt_18 (by decide) ?_
        refine lv_iand hx hb dX7_addInt_21 ?_
        obtain ⟨_, M6, hc7, h⟩ := bnd_inv h
        refine gSN_v (As := [.ref (q 14), .int (gI M 13 2), .int ((a1 >>> (b2 &&& 31)) &&& (255 : Int32))]) X hP hS hl.1 (c_X11_put l D cA q aK aV hq sC_14 hc7) sf_X11_put nw_9 ss_X11_put ⟨rfl, rfl⟩ ⟨Nat.le_of_ble_eq_true rfl, Nat.le_of_ble_eq_true rfl⟩ rfl rfl (Nat.le_of_ble_eq_true rfl) dX7_addInt_22 (fun H locs hP hS => ?_)
        refine lv_aload_n hx hb dX7_addInt_25 rfl (lv_at hl 0 rfl) ?_
        refine lv_dup hx hb dX7_addInt_26 rfl ?_
        refine gfC_7_2 X hP sC_13 bw_284 dX7_addInt_27 ?_
        refine lv_iconst (v := 1) hx hb dX7_addInt_30 (by decide) ?_
        refine lv_iadd hx hb dX7_addInt_31 ?_
        obtain ⟨M8, eM8, h⟩ := lt_inv h
        refine pfC_7_2 X hP hS sC_13 bw_284 eM8 dX7_addInt_32 (fun H locs hP hS => ?_)
        obtain ⟨y9, ey9, h⟩ := lt_inv h
        refine lv_iinc (v := y9) (lv' := [(2, .int y9), (0, .ref (q 13)), (1, .int a1)]) hx hb dX7_addInt_35 hl (k := 2) rfl (by rw [ey9]; rfl) (by decide) rfl (fun ls hl => ?_)
        refine lv_goto (tgt := 3) hx hb dX7_addInt_38 (by decide) ?_
        exact ih _ _ res _ _ _ h hP hS (lv_sub hl [1, 2, 0] rfl) K3_0
  refine lv_bipush (v := 24) hx hb dX7_addInt_0 (by decide) ?_
  refine lv_istore_n (lv' := [(2, .int (24 : Int32)), (0, .ref (q 13)), (1, .int a1)]) hx hb dX7_addInt_2 rfl hl (by decide) rfl (fun ls hl => ?_)
  obtain ⟨s1, M2, hc3, h⟩ := bnd_inv h
  try dsimp only at h
  refine hL3  fz _ _ _ _ _ _ hc3 hP hS (lv_sub hl [1, 2, 0] rfl) (fun H locs ls hP hS hl => ?_)
  have hl : lv_has ls 3 [] := hl
  exact end_v X hr hk hP hS h dX7_addInt_41
theorem dX11_feed_0 : decode cX11_feed 0 = .ok (.aload_n 0, 1) := by decide +kernel
theorem dX11_feed_1 : decode cX11_feed 1 = .ok (.getfield 41, 3) := by decide +kernel
theorem dX11_feed_4 : decode cX11_feed 4 = .ok (.bipush 20, 2) := by decide +kernel
theorem dX11_feed_6 : decode cX11_feed 6 = .ok (.invokevirtual 153, 3) := by decide +kernel
theorem dX11_feed_9 : decode cX11_feed 9 = .ok (.ifCond .ne 5, 3) := by decide +kernel
theorem dX11_feed_12 : decode cX11_feed 12 = .ok (.iconst (-1), 1) := by decide +kernel
theorem dX11_feed_13 : decode cX11_feed 13 = .ok (.ireturn, 1) := by decide +kernel
theorem dX11_feed_14 : decode cX11_feed 14 = .ok (.aload_n 0, 1) := by decide +kernel
theorem dX11_feed_15 : decode cX11_feed 15 = .ok (.getfield 41, 3) := by decide +kernel
theorem dX11_feed_18 : decode cX11_feed 18 = .ok (.iload_n 1, 1) := by decide +kernel
theorem dX11_feed_19 : decode cX11_feed 19 = .ok (.invokevirtual 156, 3) := by decide +kernel
theorem dX11_feed_22 : decode cX11_feed 22 = .ok (.aload_n 0, 1) := by decide +kernel
theorem dX11_feed_23 : decode cX11_feed 23 = .ok (.getfield 41, 3) := by decide +kernel
theorem dX11_feed_26 : decode cX11_feed 26 = .ok (.iload_n 2, 1) := by decide +kernel
theorem dX11_feed_27 : decode cX11_feed 27 = .ok (.invokevirtual 156, 3) := by decide +kernel
theorem dX11_feed_30 : decode cX11_feed 30 = .ok (.aload_n 0, 1) := by decide +kernel
theorem dX11_feed_31 : decode cX11_feed 31 = .ok (.getfield 41, 3) := by decide +kernel
theorem dX11_feed_34 : decode cX11_feed 34 = .ok (.iload_n 3, 1) := by decide +kernel
theorem dX11_feed_35 : decode cX11_feed 35 = .ok (.invokevirtual 156, 3) := by decide +kernel
theorem dX11_feed_38 : decode cX11_feed 38 = .ok (.aload_n 0, 1) := by decide +kernel
theorem dX11_feed_39 : decode cX11_feed 39 = .ok (.getfield 41, 3) := by decide +kernel
theorem dX11_feed_42 : decode cX11_feed 42 = .ok (.iload 4, 2) := by decide +kernel
theorem dX11_feed_44 : decode cX11_feed 44 = .ok (.invokevirtual 156, 3) := by decide +kernel
theorem dX11_feed_47 : decode cX11_feed 47 = .ok (.aload_n 0, 1) := by decide +kernel
theorem dX11_feed_48 : decode cX11_feed 48 = .ok (.getfield 41, 3) := by decide +kernel
theorem dX11_feed_51 : decode cX11_feed 51 = .ok (.iload 5, 2) := by decide +kernel
theorem dX11_feed_53 : decode cX11_feed 53 = .ok (.invokevirtual 156, 3) := by decide +kernel
theorem dX11_feed_56 : decode cX11_feed 56 = .ok (.aload_n 0, 1) := by decide +kernel
theorem dX11_feed_57 : decode cX11_feed 57 = .ok (.getfield 41, 3) := by decide +kernel
theorem dX11_feed_60 : decode cX11_feed 60 = .ok (.getfield 160, 3) := by decide +kernel
theorem dX11_feed_63 : decode cX11_feed 63 = .ok (.ireturn, 1) := by decide +kernel
set_option maxRecDepth 100000 in
set_option maxHeartbeats 8000000 in
theorem c_X11_feed (l : Launch) (D : va_G) (cA : Nat → ClassId) (q aK aV : Nat → Nat) (hq : injG 167 q) {a1 : Int32} {a2 : Int32} {a3 : Int32} {a4 : Int32} {a5 : Int32} {M M0 : Mem} {r0 : Int32} (h : f_X11_feed a1 a2 a3 a4 a5 M = some (r0, M0)) : Met l yX11_feed (.code yX11_feed cX11_feed 6 (some .int) :: BW) ({ frames := 3, cells := 0, slots := 0, locals := 58 } : Room) (va_Pc [.ref (q 0), .int a1, .int a2, .int a3, .int a4, .int a5] (CB 167 (ceC cA q) D cA q aK aV M)) (Qi 167 (ceC cA q) D q r0 M0) 0 0 (AqG 167 q) := by
  refine gMet RX11 (by decide +kernel) rfl hq (Nat.le_of_ble_eq_true rfl) ?_
  intro p e s m below meth c ls X hr hk hP hS hl
  have hx := X.1
  have hb := X.2.1
  have hl : lv_has ls 6 [(0, .ref (q 0)), (1, .int a1), (2, .int a2), (3, .int a3), (4, .int a4), (5, .int a5)] := hl
  rw [f_X11_feed] at h
  refine lv_aload_n hx hb dX11_feed_0 rfl (lv_at hl 0 rfl) ?_
  refine gfC_11_6 X hP sC_0 bw_436 dX11_feed_1 ?_
  refine lv_bipush (v := 20) hx hb dX11_feed_4 (by decide) ?_
  obtain ⟨r1, M2, hc3, h⟩ := bnd_inv h
  refine gV_i (As := [.int (20 : Int32)]) X hP hS hl.1 (c_X7_hasRoom l D cA q aK aV hq hc3) sf_X7_hasRoom bw_578 sv_X7_hasRoom (rcC_7 sC_13) rfl ⟨rfl, rfl⟩ ⟨Nat.le_of_ble_eq_true rfl, Nat.le_of_ble_eq_true rfl⟩ rfl rfl (Nat.le_of_ble_eq_true rfl) dX11_feed_6 (fun H locs hP hS => ?_)
  refine lv_if_ne (tgt := 14) hx hb dX11_feed_9 (by decide) (fun c4 => ?_) (fun c4 => ?_)
  · rw [if_neg c4] at h
    refine lv_aload_n hx hb dX11_feed_14 rfl (lv_at hl 0 rfl) ?_
    refine gfC_11_6 X hP sC_0 bw_436 dX11_feed_15 ?_
    refine lv_iload_n hx hb dX11_feed_18 rfl (lv_at hl 1 rfl) ?_
    obtain ⟨_, M6, hc7, h⟩ := bnd_inv h
    refine gV_v (As := [.int a1]) X hP hS hl.1 (c_X7_addInt l D cA q aK aV hq hc7) sf_X7_addInt bw_582 sv_X7_addInt (rcC_7 sC_13) rfl ⟨rfl, rfl⟩ ⟨Nat.le_of_ble_eq_true rfl, Nat.le_of_ble_eq_true rfl⟩ rfl rfl (Nat.le_of_ble_eq_true rfl) dX11_feed_19 (fun H locs hP hS => ?_)
    refine lv_aload_n hx hb dX11_feed_22 rfl (lv_at hl 0 rfl) ?_
    refine gfC_11_6 X hP sC_0 bw_436 dX11_feed_23 ?_
    refine lv_iload_n hx hb dX11_feed_26 rfl (lv_at hl 2 rfl) ?_
    obtain ⟨_, M9, hc10, h⟩ := bnd_inv h
    refine gV_v (As := [.int a2]) X hP hS hl.1 (c_X7_addInt l D cA q aK aV hq hc10) sf_X7_addInt bw_582 sv_X7_addInt (rcC_7 sC_13) rfl ⟨rfl, rfl⟩ ⟨Nat.le_of_ble_eq_true rfl, Nat.le_of_ble_eq_true rfl⟩ rfl rfl (Nat.le_of_ble_eq_true rfl) dX11_feed_27 (fun H locs hP hS => ?_)
    refine lv_aload_n hx hb dX11_feed_30 rfl (lv_at hl 0 rfl) ?_
    refine gfC_11_6 X hP sC_0 bw_436 dX11_feed_31 ?_
    refine lv_iload_n hx hb dX11_feed_34 rfl (lv_at hl 3 rfl) ?_
    obtain ⟨_, M12, hc13, h⟩ := bnd_inv h
    refine gV_v (As := [.int a3]) X hP hS hl.1 (c_X7_addInt l D cA q aK aV hq hc13) sf_X7_addInt bw_582 sv_X7_addInt (rcC_7 sC_13) rfl ⟨rfl, rfl⟩ ⟨Nat.le_of_ble_eq_true rfl, Nat.le_of_ble_eq_true rfl⟩ rfl rfl (Nat.le_of_ble_eq_true rfl) dX11_feed_35 (fun H locs hP hS => ?_)
    refine lv_aload_n hx hb dX11_feed_38 rfl (lv_at hl 0 rfl) ?_
    refine gfC_11_6 X hP sC_0 bw_436 dX11_feed_39 ?_
    refine lv_iload hx hb dX11_feed_42 (lv_at hl 4 rfl) ?_
    obtain ⟨_, M15, hc16, h⟩ := bnd_inv h
    refine gV_v (As := [.int a4]) X hP hS hl.1 (c_X7_addInt l D cA q aK aV hq hc16) sf_X7_addInt bw_582 sv_X7_addInt (rcC_7 sC_13) rfl ⟨rfl, rfl⟩ ⟨Nat.le_of_ble_eq_true rfl, Nat.le_of_ble_eq_true rfl⟩ rfl rfl (Nat.le_of_ble_eq_true rfl) dX11_feed_44 (fun H locs hP hS => ?_)
    refine lv_aload_n hx hb dX11_feed_47 rfl (lv_at hl 0 rfl) ?_
    refine gfC_11_6 X hP sC_0 bw_436 dX11_feed_48 ?_
    refine lv_iload hx hb dX11_feed_51 (lv_at hl 5 rfl) ?_
    obtain ⟨_, M18, hc19, h⟩ := bnd_inv h
    refine gV_v (As := [.int a5]) X hP hS hl.1 (c_X7_addInt l D cA q aK aV hq hc19) sf_X7_addInt bw_582 sv_X7_addInt (rcC_7 sC_13) rfl ⟨rfl, rfl⟩ ⟨Nat.le_of_ble_eq_true rfl, Nat.le_of_ble_eq_true rfl⟩ rfl rfl (Nat.le_of_ble_eq_true rfl) dX11_feed_53 (fun H locs hP hS => ?_)
    refine lv_aload_n hx hb dX11_feed_56 rfl (lv_at hl 0 rfl) ?_
    refine gfC_11_6 X hP sC_0 bw_436 dX11_feed_57 ?_
    refine gfC_7_2 X hP sC_13 bw_285 dX11_feed_60 ?_
    exact end_i X hr hk hP hS h dX11_feed_63
  · rw [if_pos c4] at h
    refine lv_iconst (v := -1) hx hb dX11_feed_12 (by decide) ?_
    exact end_i X hr hk hP hS h dX11_feed_13
theorem dX9_clear_0 : decode cX9_clear 0 = .ok (.aload_n 0, 1) := by decide +kernel
theorem dX9_clear_1 : decode cX9_clear 1 = .ok (.iconst 0, 1) := by decide +kernel
theorem dX9_clear_2 : decode cX9_clear 2 = .ok (.putfield 7, 3) := by decide +kernel
theorem dX9_clear_5 : decode cX9_clear 5 = .ok (.aload_n 0, 1) := by decide +kernel
theorem dX9_clear_6 : decode cX9_clear 6 = .ok (.iconst 0, 1) := by decide +kernel
theorem dX9_clear_7 : decode cX9_clear 7 = .ok (.putfield 13, 3) := by decide +kernel
theorem dX9_clear_10 : decode cX9_clear 10 = .ok (.return_, 1) := by decide +kernel
set_option maxRecDepth 100000 in
set_option maxHeartbeats 8000000 in
theorem c_X9_clear (l : Launch) (D : va_G) (cA : Nat → ClassId) (q aK aV : Nat → Nat) (hq : injG 167 q) {a0 : Nat} {M M0 : Mem} (h0 : shC a0 = 9) (h : f_X9_clear a0 M = some ((), M0)) : Met l yX9_clear (.code yX9_clear cX9_clear 1 none :: BW) ({ frames := 1, cells := 0, slots := 0, locals := 12 } : Room) (va_Pc [.ref (q a0)] (CB 167 (ceC cA q) D cA q aK aV M)) (Qv 167 (ceC cA q) D q M0) 0 0 (AqG 167 q) := by
  refine gMet RX9 (by decide +kernel) rfl hq (Nat.le_of_ble_eq_true rfl) ?_
  intro p e s m below meth c ls X hr hk hP hS hl
  have hx := X.1
  have hb := X.2.1
  have hl : lv_has ls 1 [(0, .ref (q a0))] := hl
  rw [f_X9_clear] at h
  refine lv_aload_n hx hb dX9_clear_0 rfl (lv_at hl 0 rfl) ?_
  refine lv_iconst (v := 0) hx hb dX9_clear_1 (by decide) ?_
  obtain ⟨M1, eM1, h⟩ := lt_inv h
  refine pfC_9_0 X hP hS h0 bw_44 (Or.inl rfl) eM1 dX9_clear_2 (fun H locs hP hS => ?_)
  refine lv_aload_n hx hb dX9_clear_5 rfl (lv_at hl 0 rfl) ?_
  refine lv_iconst (v := 0) hx hb dX9_clear_6 (by decide) ?_
  obtain ⟨M2, eM2, h⟩ := lt_inv h
  refine pfC_9_1 X hP hS h0 bw_47 eM2 dX9_clear_7 (fun H locs hP hS => ?_)
  exact end_v X hr hk hP hS h dX9_clear_10
theorem dX0_clear_0 : decode cX0_clear 0 = .ok (.iconst 0, 1) := by decide +kernel
theorem dX0_clear_1 : decode cX0_clear 1 = .ok (.istore_n 1, 1) := by decide +kernel
theorem dX0_clear_2 : decode cX0_clear 2 = .ok (.iload_n 1, 1) := by decide +kernel
theorem dX0_clear_3 : decode cX0_clear 3 = .ok (.aload_n 0, 1) := by decide +kernel
theorem dX0_clear_4 : decode cX0_clear 4 = .ok (.getfield 9, 3) := by decide +kernel
theorem dX0_clear_7 : decode cX0_clear 7 = .ok (.arraylength, 1) := by decide +kernel
theorem dX0_clear_8 : decode cX0_clear 8 = .ok (.if_icmp .ge 16, 3) := by decide +kernel
theorem dX0_clear_11 : decode cX0_clear 11 = .ok (.aload_n 0, 1) := by decide +kernel
theorem dX0_clear_12 : decode cX0_clear 12 = .ok (.getfield 9, 3) := by decide +kernel
theorem dX0_clear_15 : decode cX0_clear 15 = .ok (.iload_n 1, 1) := by decide +kernel
theorem dX0_clear_16 : decode cX0_clear 16 = .ok (.iconst 0, 1) := by decide +kernel
theorem dX0_clear_17 : decode cX0_clear 17 = .ok (.iastore, 1) := by decide +kernel
theorem dX0_clear_18 : decode cX0_clear 18 = .ok (.iinc 1 1, 3) := by decide +kernel
theorem dX0_clear_21 : decode cX0_clear 21 = .ok (.goto (-19), 3) := by decide +kernel
theorem dX0_clear_24 : decode cX0_clear 24 = .ok (.aload_n 0, 1) := by decide +kernel
theorem dX0_clear_25 : decode cX0_clear 25 = .ok (.getfield 49, 3) := by decide +kernel
theorem dX0_clear_28 : decode cX0_clear 28 = .ok (.invokevirtual 70, 3) := by decide +kernel
theorem dX0_clear_31 : decode cX0_clear 31 = .ok (.aload_n 0, 1) := by decide +kernel
theorem dX0_clear_32 : decode cX0_clear 32 = .ok (.iconst 0, 1) := by decide +kernel
theorem dX0_clear_33 : decode cX0_clear 33 = .ok (.putfield 63, 3) := by decide +kernel
theorem dX0_clear_36 : decode cX0_clear 36 = .ok (.aload_n 0, 1) := by decide +kernel
theorem dX0_clear_37 : decode cX0_clear 37 = .ok (.iconst 0, 1) := by decide +kernel
theorem dX0_clear_38 : decode cX0_clear 38 = .ok (.putfield 67, 3) := by decide +kernel
theorem dX0_clear_41 : decode cX0_clear 41 = .ok (.return_, 1) := by decide +kernel
set_option maxRecDepth 100000 in
set_option maxHeartbeats 8000000 in
theorem c_X0_clear (l : Launch) (D : va_G) (cA : Nat → ClassId) (q aK aV : Nat → Nat) (hq : injG 167 q) {a0 : Nat} {M M0 : Mem} (h0 : shC a0 = 0) (h : f_X0_clear a0 M = some ((), M0)) : Met l yX0_clear (.code yX0_clear cX0_clear 2 none :: BW) ({ frames := 2, cells := 0, slots := 0, locals := 32 } : Room) (va_Pc [.ref (q a0)] (CB 167 (ceC cA q) D cA q aK aV M)) (Qv 167 (ceC cA q) D q M0) 0 0 (AqG 167 q) := by
  refine gMet RX0 (by decide +kernel) rfl hq (Nat.le_of_ble_eq_true rfl) ?_
  intro p e s m below meth c ls X hr hk hP hS hl
  have hx := X.1
  have hb := X.2.1
  have hl : lv_has ls 2 [(0, .ref (q a0))] := hl
  rw [f_X0_clear] at h
  have hL2 : ∀ (fu : Nat) (b1 : Int32) (M : Mem) (res : (Unit) × Mem) (H : Heap) (locs : List Loc) (ls : Array Slot), f_X0_clear_L2 a0 fu b1 M = some res → va_P D vwCl (wsG 167 (ceC cA q) q M) H → va_S (AqG 167 q) s.heap H locs → lv_has ls 2 [(0, .ref (q a0)), (1, .int b1)] → (∀ (H : Heap) (locs : List Loc) (ls : Array Slot), va_P D vwCl (wsG 167 (ceC cA q) q res.2) H → va_S (AqG 167 q) s.heap H locs → lv_has ls 2 [(0, .ref (q a0))] → W p l e ({ frames := 2, cells := 0, slots := 0, locals := 32 } : Room) s m [.ref (q a0)].toArray below meth c H locs 0 0 (MQ below (Qv 167 (ceC cA q) D q M0) [.ref (q a0)].toArray s 0 0 (AqG 167 q)) (F0 m 24 ls [])) → W p l e ({ frames := 2, cells := 0, slots := 0, locals := 32 } : Room) s m [.ref (q a0)].toArray below meth c H locs 0 0 (MQ below (Qv 167 (ceC cA q) D q M0) [.ref (q a0)].toArray s 0 0 (AqG 167 q)) (F0 m 2 ls []) := by
    intro fu
    induction fu with
    | zero => intro b1 M res H locs ls h; exact absurd h (by simp [f_X0_clear_L2])
    | succ fu ih =>
      intro b1 M res H locs ls h hP hS hl K2_0
      rw [f_X0_clear_L2] at h
      refine lv_iload_n hx hb dX0_clear_2 rfl (lv_at hl 1 rfl) ?_
      refine lv_aload_n hx hb dX0_clear_3 rfl (lv_at hl 0 rfl) ?_
      refine gfC_0_0 X hP h0 bw_143 dX0_clear_4 ?_
      refine alC_20 X hP ((kC_0_0 h0).1) ((kC_0_0 h0).2) (v := 6) rfl dX0_clear_7 ?_
      refine lv_icmp_ge (tgt := 24) hx hb dX0_clear_8 (by decide) (fun c9 => ?_) (fun c9 => ?_)
      · rw [if_pos c9] at h
        cases h
        exact K2_0 _ _ _ hP hS (lv_sub hl [0] rfl)
      · rw [if_neg c9] at h
        refine lv_aload_n hx hb dX0_clear_11 rfl (lv_at hl 0 rfl) ?_
        refine gfC_0_0 X hP h0 bw_143 dX0_clear_12 ?_
        refine lv_iload_n hx hb dX0_clear_15 rfl (lv_at hl 1 rfl) ?_
        refine lv_iconst (v := 0) hx hb dX0_clear_16 (by decide) ?_
        obtain ⟨g10, h⟩ := gd_inv h
        obtain ⟨M11, eM11, h⟩ := lt_inv h
        refine stC_ia X hP hS ((kC_0_0 h0).1) ((kC_0_0 h0).2) g10 eM11 dX0_clear_17 (fun H locs hP hS => ?_)
        obtain ⟨y12, ey12, h⟩ := lt_inv h
        refine lv_iinc (v := y12) (lv' := [(1, .int y12), (0, .ref (q a0))]) hx hb dX0_clear_18 hl (k := 1) rfl (by rw [ey12]; rfl) (by decide) rfl (fun ls hl => ?_)
        refine lv_goto (tgt := 2) hx hb dX0_clear_21 (by decide) ?_
        exact ih _ _ res _ _ _ h hP hS (lv_sub hl [1, 0] rfl) K2_0
  refine lv_iconst (v := 0) hx hb dX0_clear_0 (by decide) ?_
  refine lv_istore_n (lv' := [(1, .int (0 : Int32)), (0, .ref (q a0))]) hx hb dX0_clear_1 rfl hl (by decide) rfl (fun ls hl => ?_)
  obtain ⟨s1, M2, hc3, h⟩ := bnd_inv h
  try dsimp only at h
  refine hL2  fz _ _ _ _ _ _ hc3 hP hS (lv_sub hl [1, 0] rfl) (fun H locs ls hP hS hl => ?_)
  have hl : lv_has ls 2 [(0, .ref (q a0))] := hl
  refine lv_aload_n hx hb dX0_clear_24 rfl (lv_at hl 0 rfl) ?_
  refine gfC_0_9 X hP h0 bw_162 dX0_clear_25 ?_
  obtain ⟨_, M5, hc6, h⟩ := bnd_inv h
  refine gV_v (As := []) X hP hS hl.1 (c_X9_clear l D cA q aK aV hq (kC_0_9 h0) hc6) sf_X9_clear bw_601 sv_X9_clear (rcC_9 (kC_0_9 h0)) rfl ⟨rfl, rfl⟩ ⟨Nat.le_of_ble_eq_true rfl, Nat.le_of_ble_eq_true rfl⟩ rfl rfl (Nat.le_of_ble_eq_true rfl) dX0_clear_28 (fun H locs hP hS => ?_)
  refine lv_aload_n hx hb dX0_clear_31 rfl (lv_at hl 0 rfl) ?_
  refine lv_iconst (v := 0) hx hb dX0_clear_32 (by decide) ?_
  obtain ⟨M7, eM7, h⟩ := lt_inv h
  refine pfC_0_12 X hP hS h0 bw_167 eM7 dX0_clear_33 (fun H locs hP hS => ?_)
  refine lv_aload_n hx hb dX0_clear_36 rfl (lv_at hl 0 rfl) ?_
  refine lv_iconst (v := 0) hx hb dX0_clear_37 (by decide) ?_
  obtain ⟨M8, eM8, h⟩ := lt_inv h
  refine pfC_0_13 X hP hS h0 bw_172 eM8 dX0_clear_38 (fun H locs hP hS => ?_)
  exact end_v X hr hk hP hS h dX0_clear_41
theorem dX7_byteAt_0 : decode cX7_byteAt 0 = .ok (.iload_n 1, 1) := by decide +kernel
theorem dX7_byteAt_1 : decode cX7_byteAt 1 = .ok (.ifCond .lt 21, 3) := by decide +kernel
theorem dX7_byteAt_4 : decode cX7_byteAt 4 = .ok (.iload_n 1, 1) := by decide +kernel
theorem dX7_byteAt_5 : decode cX7_byteAt 5 = .ok (.aload_n 0, 1) := by decide +kernel
theorem dX7_byteAt_6 : decode cX7_byteAt 6 = .ok (.getfield 9, 3) := by decide +kernel
theorem dX7_byteAt_9 : decode cX7_byteAt 9 = .ok (.arraylength, 1) := by decide +kernel
theorem dX7_byteAt_10 : decode cX7_byteAt 10 = .ok (.if_icmp .ge 12, 3) := by decide +kernel
theorem dX7_byteAt_13 : decode cX7_byteAt 13 = .ok (.aload_n 0, 1) := by decide +kernel
theorem dX7_byteAt_14 : decode cX7_byteAt 14 = .ok (.getfield 9, 3) := by decide +kernel
theorem dX7_byteAt_17 : decode cX7_byteAt 17 = .ok (.iload_n 1, 1) := by decide +kernel
theorem dX7_byteAt_18 : decode cX7_byteAt 18 = .ok (.iaload, 1) := by decide +kernel
theorem dX7_byteAt_19 : decode cX7_byteAt 19 = .ok (.goto 4, 3) := by decide +kernel
theorem dX7_byteAt_22 : decode cX7_byteAt 22 = .ok (.iconst (-1), 1) := by decide +kernel
theorem dX7_byteAt_23 : decode cX7_byteAt 23 = .ok (.ireturn, 1) := by decide +kernel
set_option maxRecDepth 100000 in
set_option maxHeartbeats 8000000 in
theorem c_X7_byteAt (l : Launch) (D : va_G) (cA : Nat → ClassId) (q aK aV : Nat → Nat) (hq : injG 167 q) {a1 : Int32} {M M0 : Mem} {r0 : Int32} (h : f_X7_byteAt a1 M = some (r0, M0)) : Met l yX7_byteAt (.code yX7_byteAt cX7_byteAt 2 (some .int) :: BW) ({ frames := 1, cells := 0, slots := 0, locals := 13 } : Room) (va_Pc [.ref (q 13), .int a1] (CB 167 (ceC cA q) D cA q aK aV M)) (Qi 167 (ceC cA q) D q r0 M0) 0 0 (AqG 167 q) := by
  refine gMet RX7 (by decide +kernel) rfl hq (Nat.le_of_ble_eq_true rfl) ?_
  intro p e s m below meth c ls X hr hk hP hS hl
  have hx := X.1
  have hb := X.2.1
  have hl : lv_has ls 2 [(0, .ref (q 13)), (1, .int a1)] := hl
  rw [f_X7_byteAt] at h
  refine lv_iload_n hx hb dX7_byteAt_0 rfl (lv_at hl 1 rfl) ?_
  refine lv_if_lt (tgt := 22) hx hb dX7_byteAt_1 (by decide) (fun c1 => ?_) (fun c1 => ?_)
  · rw [if_pos c1] at h
    refine lv_iconst (v := -1) hx hb dX7_byteAt_22 (by decide) ?_
    exact end_i X hr hk hP hS h dX7_byteAt_23
  · rw [if_neg c1] at h
    refine lv_iload_n hx hb dX7_byteAt_4 rfl (lv_at hl 1 rfl) ?_
    refine lv_aload_n hx hb dX7_byteAt_5 rfl (lv_at hl 0 rfl) ?_
    refine gfC_7_0 X hP sC_13 bw_282 dX7_byteAt_6 ?_
    refine alC_20 X hP sC_14 zC_14 (v := 900) rfl dX7_byteAt_9 ?_
    refine lv_icmp_ge (tgt := 22) hx hb dX7_byteAt_10 (by decide) (fun c2 => ?_) (fun c2 => ?_)
    · rw [if_pos c2] at h
      refine lv_iconst (v := -1) hx hb dX7_byteAt_22 (by decide) ?_
      exact end_i X hr hk hP hS h dX7_byteAt_23
    · rw [if_neg c2] at h
      refine lv_aload_n hx hb dX7_byteAt_13 rfl (lv_at hl 0 rfl) ?_
      refine gfC_7_0 X hP sC_13 bw_282 dX7_byteAt_14 ?_
      refine lv_iload_n hx hb dX7_byteAt_17 rfl (lv_at hl 1 rfl) ?_
      obtain ⟨g3, h⟩ := gd_inv h
      refine ldC_ia X hP sC_14 zC_14 g3 dX7_byteAt_18 ?_
      refine lv_goto (tgt := 23) hx hb dX7_byteAt_19 (by decide) ?_
      exact end_i X hr hk hP hS h dX7_byteAt_23
theorem dX7_isBlank_0 : decode cX7_isBlank 0 = .ok (.iload_n 0, 1) := by decide +kernel
theorem dX7_isBlank_1 : decode cX7_isBlank 1 = .ok (.bipush 32, 2) := by decide +kernel
theorem dX7_isBlank_3 : decode cX7_isBlank 3 = .ok (.if_icmp .eq 9, 3) := by decide +kernel
theorem dX7_isBlank_6 : decode cX7_isBlank 6 = .ok (.iload_n 0, 1) := by decide +kernel
theorem dX7_isBlank_7 : decode cX7_isBlank 7 = .ok (.bipush 10, 2) := by decide +kernel
theorem dX7_isBlank_9 : decode cX7_isBlank 9 = .ok (.if_icmp .ne 7, 3) := by decide +kernel
theorem dX7_isBlank_12 : decode cX7_isBlank 12 = .ok (.iconst 1, 1) := by decide +kernel
theorem dX7_isBlank_13 : decode cX7_isBlank 13 = .ok (.goto 4, 3) := by decide +kernel
theorem dX7_isBlank_16 : decode cX7_isBlank 16 = .ok (.iconst 0, 1) := by decide +kernel
theorem dX7_isBlank_17 : decode cX7_isBlank 17 = .ok (.ireturn, 1) := by decide +kernel
set_option maxRecDepth 100000 in
set_option maxHeartbeats 8000000 in
theorem c_X7_isBlank (l : Launch) (D : va_G) (cA : Nat → ClassId) (q aK aV : Nat → Nat) (hq : injG 167 q) {a0 : Int32} {M M0 : Mem} {r0 : Int32} (h : f_X7_isBlank a0 M = some (r0, M0)) : Met l yX7_isBlank (.code yX7_isBlank cX7_isBlank 1 (some .boolean) :: BW) ({ frames := 1, cells := 0, slots := 0, locals := 12 } : Room) (va_Pc [.int a0] (CB 167 (ceC cA q) D cA q aK aV M)) (Qi 167 (ceC cA q) D q r0 M0) 0 0 (AqG 167 q) := by
  refine gMet RX7 (by decide +kernel) rfl hq (Nat.le_of_ble_eq_true rfl) ?_
  intro p e s m below meth c ls X hr hk hP hS hl
  have hx := X.1
  have hb := X.2.1
  have hl : lv_has ls 1 [(0, .int a0)] := hl
  rw [f_X7_isBlank] at h
  refine lv_iload_n hx hb dX7_isBlank_0 rfl (lv_at hl 0 rfl) ?_
  refine lv_bipush (v := 32) hx hb dX7_isBlank_1 (by decide) ?_
  refine lv_icmp_eq (tgt := 12) hx hb dX7_isBlank_3 (by decide) (fun c1 => ?_) (fun c1 => ?_)
  · rw [if_pos c1] at h
    refine lv_iconst (v := 1) hx hb dX7_isBlank_12 (by decide) ?_
    refine lv_goto (tgt := 17) hx hb dX7_isBlank_13 (by decide) ?_
    exact end_z X hr hk hP hS (Or.inr rfl) h dX7_isBlank_17
  · rw [if_neg c1] at h
    refine lv_iload_n hx hb dX7_isBlank_6 rfl (lv_at hl 0 rfl) ?_
    refine lv_bipush (v := 10) hx hb dX7_isBlank_7 (by decide) ?_
    refine lv_icmp_ne (tgt := 16) hx hb dX7_isBlank_9 (by decide) (fun c2 => ?_) (fun c2 => ?_)
    · rw [if_neg c2] at h
      refine lv_iconst (v := 0) hx hb dX7_isBlank_16 (by decide) ?_
      exact end_z X hr hk hP hS (Or.inl rfl) h dX7_isBlank_17
    · rw [if_pos c2] at h
      refine lv_iconst (v := 1) hx hb dX7_isBlank_12 (by decide) ?_
      refine lv_goto (tgt := 17) hx hb dX7_isBlank_13 (by decide) ?_
      exact end_z X hr hk hP hS (Or.inr rfl) h dX7_isBlank_17
theorem dX7_isLetter_0 : decode cX7_isLetter 0 = .ok (.iload_n 0, 1) := by decide +kernel
theorem dX7_isLetter_1 : decode cX7_isLetter 1 = .ok (.bipush 97, 2) := by decide +kernel
theorem dX7_isLetter_3 : decode cX7_isLetter 3 = .ok (.if_icmp .lt 13, 3) := by decide +kernel
theorem dX7_isLetter_6 : decode cX7_isLetter 6 = .ok (.iload_n 0, 1) := by decide +kernel
theorem dX7_isLetter_7 : decode cX7_isLetter 7 = .ok (.bipush 122, 2) := by decide +kernel
theorem dX7_isLetter_9 : decode cX7_isLetter 9 = .ok (.if_icmp .gt 7, 3) := by decide +kernel
theorem dX7_isLetter_12 : decode cX7_isLetter 12 = .ok (.iconst 1, 1) := by decide +kernel
theorem dX7_isLetter_13 : decode cX7_isLetter 13 = .ok (.goto 4, 3) := by decide +kernel
theorem dX7_isLetter_16 : decode cX7_isLetter 16 = .ok (.iconst 0, 1) := by decide +kernel
theorem dX7_isLetter_17 : decode cX7_isLetter 17 = .ok (.ireturn, 1) := by decide +kernel
set_option maxRecDepth 100000 in
set_option maxHeartbeats 8000000 in
theorem c_X7_isLetter (l : Launch) (D : va_G) (cA : Nat → ClassId) (q aK aV : Nat → Nat) (hq : injG 167 q) {a0 : Int32} {M M0 : Mem} {r0 : Int32} (h : f_X7_isLetter a0 M = some (r0, M0)) : Met l yX7_isLetter (.code yX7_isLetter cX7_isLetter 1 (some .boolean) :: BW) ({ frames := 1, cells := 0, slots := 0, locals := 12 } : Room) (va_Pc [.int a0] (CB 167 (ceC cA q) D cA q aK aV M)) (Qi 167 (ceC cA q) D q r0 M0) 0 0 (AqG 167 q) := by
  refine gMet RX7 (by decide +kernel) rfl hq (Nat.le_of_ble_eq_true rfl) ?_
  intro p e s m below meth c ls X hr hk hP hS hl
  have hx := X.1
  have hb := X.2.1
  have hl : lv_has ls 1 [(0, .int a0)] := hl
  rw [f_X7_isLetter] at h
  refine lv_iload_n hx hb dX7_isLetter_0 rfl (lv_at hl 0 rfl) ?_
  refine lv_bipush (v := 97) hx hb dX7_isLetter_1 (by decide) ?_
  refine lv_icmp_lt (tgt := 16) hx hb dX7_isLetter_3 (by decide) (fun c1 => ?_) (fun c1 => ?_)
  · rw [if_pos c1] at h
    refine lv_iconst (v := 0) hx hb dX7_isLetter_16 (by decide) ?_
    exact end_z X hr hk hP hS (Or.inl rfl) h dX7_isLetter_17
  · rw [if_neg c1] at h
    refine lv_iload_n hx hb dX7_isLetter_6 rfl (lv_at hl 0 rfl) ?_
    refine lv_bipush (v := 122) hx hb dX7_isLetter_7 (by decide) ?_
    refine lv_icmp_gt (tgt := 16) hx hb dX7_isLetter_9 (by decide) (fun c2 => ?_) (fun c2 => ?_)
    · rw [if_pos c2] at h
      refine lv_iconst (v := 0) hx hb dX7_isLetter_16 (by decide) ?_
      exact end_z X hr hk hP hS (Or.inl rfl) h dX7_isLetter_17
    · rw [if_neg c2] at h
      refine lv_iconst (v := 1) hx hb dX7_isLetter_12 (by decide) ?_
      refine lv_goto (tgt := 17) hx hb dX7_isLetter_13 (by decide) ?_
      exact end_z X hr hk hP hS (Or.inr rfl) h dX7_isLetter_17
theorem dX7_withLetter_0 : decode cX7_withLetter 0 = .ok (.lload_n 0, 1) := by decide +kernel
theorem dX7_withLetter_1 : decode cX7_withLetter 1 = .ok (.ldc2_w 91, 3) := by decide +kernel
theorem dX7_withLetter_4 : decode cX7_withLetter 4 = .ok (.lmul, 1) := by decide +kernel
theorem dX7_withLetter_5 : decode cX7_withLetter 5 = .ok (.iload_n 2, 1) := by decide +kernel
theorem dX7_withLetter_6 : decode cX7_withLetter 6 = .ok (.i2l, 1) := by decide +kernel
theorem dX7_withLetter_7 : decode cX7_withLetter 7 = .ok (.ladd, 1) := by decide +kernel
theorem dX7_withLetter_8 : decode cX7_withLetter 8 = .ok (.ldc2_w 93, 3) := by decide +kernel
theorem dX7_withLetter_11 : decode cX7_withLetter 11 = .ok (.lsub, 1) := by decide +kernel
theorem dX7_withLetter_12 : decode cX7_withLetter 12 = .ok (.lconst 1, 1) := by decide +kernel
theorem dX7_withLetter_13 : decode cX7_withLetter 13 = .ok (.ladd, 1) := by decide +kernel
theorem dX7_withLetter_14 : decode cX7_withLetter 14 = .ok (.lreturn, 1) := by decide +kernel
set_option maxRecDepth 100000 in
set_option maxHeartbeats 8000000 in
theorem c_X7_withLetter (l : Launch) (D : va_G) (cA : Nat → ClassId) (q aK aV : Nat → Nat) (hq : injG 167 q) {a0 : Int64} {a2 : Int32} {M M0 : Mem} {r0 : Int64} (h : f_X7_withLetter a0 a2 M = some (r0, M0)) : Met l yX7_withLetter (.code yX7_withLetter cX7_withLetter 3 (some .long) :: BW) ({ frames := 1, cells := 0, slots := 0, locals := 14 } : Room) (va_Pc [.long a0, .int a2] (CB 167 (ceC cA q) D cA q aK aV M)) (Ql 167 (ceC cA q) D q r0 M0) 0 0 (AqG 167 q) := by
  refine gMet RX7 (by decide +kernel) rfl hq (Nat.le_of_ble_eq_true rfl) ?_
  intro p e s m below meth c ls X hr hk hP hS hl
  have hx := X.1
  have hb := X.2.1
  have hl : lv_has ls 3 [(0, .long a0), (2, .int a2)] := hl
  rw [f_X7_withLetter] at h
  refine lv_lload_n hx hb dX7_withLetter_0 rfl (lv_at hl 0 rfl) ?_
  refine lv_ldc2 hx hb X.2.2.2.1 (X.2.2.2.2.1 _ bw_280) dX7_withLetter_1 ?_
  refine lv_lmul hx hb dX7_withLetter_4 ?_
  refine lv_iload_n hx hb dX7_withLetter_5 rfl (lv_at hl 1 rfl) ?_
  refine lv_i2l hx hb dX7_withLetter_6 rfl ?_
  refine lv_ladd hx hb dX7_withLetter_7 ?_
  refine lv_ldc2 hx hb X.2.2.2.1 (X.2.2.2.2.1 _ bw_281) dX7_withLetter_8 ?_
  refine lv_lsub hx hb dX7_withLetter_11 ?_
  refine lv_lconst (v := 1) hx hb dX7_withLetter_12 (by decide) ?_
  refine lv_ladd hx hb dX7_withLetter_13 ?_
  exact end_l X hr hk hP hS h dX7_withLetter_14
theorem dX7_keywordOrName_0 : decode cX7_keywordOrName 0 = .ok (.iconst 0, 1) := by decide +kernel
theorem dX7_keywordOrName_1 : decode cX7_keywordOrName 1 = .ok (.istore_n 1, 1) := by decide +kernel
theorem dX7_keywordOrName_2 : decode cX7_keywordOrName 2 = .ok (.iload_n 1, 1) := by decide +kernel
theorem dX7_keywordOrName_3 : decode cX7_keywordOrName 3 = .ok (.aload_n 0, 1) := by decide +kernel
theorem dX7_keywordOrName_4 : decode cX7_keywordOrName 4 = .ok (.getfield 15, 3) := by decide +kernel
theorem dX7_keywordOrName_7 : decode cX7_keywordOrName 7 = .ok (.arraylength, 1) := by decide +kernel
theorem dX7_keywordOrName_8 : decode cX7_keywordOrName 8 = .ok (.if_icmp .ge 25, 3) := by decide +kernel
theorem dX7_keywordOrName_11 : decode cX7_keywordOrName 11 = .ok (.aload_n 0, 1) := by decide +kernel
theorem dX7_keywordOrName_12 : decode cX7_keywordOrName 12 = .ok (.getfield 15, 3) := by decide +kernel
theorem dX7_keywordOrName_15 : decode cX7_keywordOrName 15 = .ok (.iload_n 1, 1) := by decide +kernel
theorem dX7_keywordOrName_16 : decode cX7_keywordOrName 16 = .ok (.laload, 1) := by decide +kernel
theorem dX7_keywordOrName_17 : decode cX7_keywordOrName 17 = .ok (.aload_n 0, 1) := by decide +kernel
theorem dX7_keywordOrName_18 : decode cX7_keywordOrName 18 = .ok (.getfield 35, 3) := by decide +kernel
theorem dX7_keywordOrName_21 : decode cX7_keywordOrName 21 = .ok (.lcmp, 1) := by decide +kernel
theorem dX7_keywordOrName_22 : decode cX7_keywordOrName 22 = .ok (.ifCond .ne 5, 3) := by decide +kernel
theorem dX7_keywordOrName_25 : decode cX7_keywordOrName 25 = .ok (.iload_n 1, 1) := by decide +kernel
theorem dX7_keywordOrName_26 : decode cX7_keywordOrName 26 = .ok (.ireturn, 1) := by decide +kernel
theorem dX7_keywordOrName_27 : decode cX7_keywordOrName 27 = .ok (.iinc 1 1, 3) := by decide +kernel
theorem dX7_keywordOrName_30 : decode cX7_keywordOrName 30 = .ok (.goto (-28), 3) := by decide +kernel
theorem dX7_keywordOrName_33 : decode cX7_keywordOrName 33 = .ok (.bipush 29, 2) := by decide +kernel
theorem dX7_keywordOrName_35 : decode cX7_keywordOrName 35 = .ok (.ireturn, 1) := by decide +kernel
set_option maxRecDepth 100000 in
set_option maxHeartbeats 8000000 in
theorem c_X7_keywordOrName (l : Launch) (D : va_G) (cA : Nat → ClassId) (q aK aV : Nat → Nat) (hq : injG 167 q) {M M0 : Mem} {r0 : Int32} (h : f_X7_keywordOrName M = some (r0, M0)) : Met l yX7_keywordOrName (.code yX7_keywordOrName cX7_keywordOrName 2 (some .int) :: BW) ({ frames := 1, cells := 0, slots := 0, locals := 13 } : Room) (va_Pc [.ref (q 13)] (CB 167 (ceC cA q) D cA q aK aV M)) (Qi 167 (ceC cA q) D q r0 M0) 0 0 (AqG 167 q) := by
  refine gMet RX7 (by decide +kernel) rfl hq (Nat.le_of_ble_eq_true rfl) ?_
  intro p e s m below meth c ls X hr hk hP hS hl
  have hx := X.1
  have hb := X.2.1
  have hl : lv_has ls 2 [(0, .ref (q 13))] := hl
  rw [f_X7_keywordOrName] at h
  have hL2 : ∀ (fu : Nat) (b1 : Int32) (M : Mem) (res : (Nat × Int32) × Mem) (H : Heap) (locs : List Loc) (ls : Array Slot), f_X7_keywordOrName_L2 fu b1 M = some res → va_P D vwCl (wsG 167 (ceC cA q) q M) H → va_S (AqG 167 q) s.heap H locs → lv_has ls 2 [(0, .ref (q 13)), (1, .int b1)] → (res.1.1 = 0 → ∀ (H : Heap) (locs : List Loc) (ls : Array Slot), va_P D vwCl (wsG 167 (ceC cA q) q res.2) H → va_S (AqG 167 q) s.heap H locs → lv_has ls 2 [(1, .int (res.1.2))] → W p l e ({ frames := 1, cells := 0, slots := 0, locals := 13 } : Room) s m [.ref (q 13)].toArray below meth c H locs 0 0 (MQ below (Qi 167 (ceC cA q) D q r0 M0) [.ref (q 13)].toArray s 0 0 (AqG 167 q)) (F0 m 25 ls [])) → (res.1.1 = 1 → ∀ (H : Heap) (locs : List Loc) (ls : Array Slot), va_P D vwCl (wsG 167 (ceC cA q) q res.2) H → va_S (AqG 167 q) s.heap H locs → lv_has ls 2 [] → W p l e ({ frames := 1, cells := 0, slots := 0, locals := 13 } : Room) s m [.ref (q 13)].toArray below meth c H locs 0 0 (MQ below (Qi 167 (ceC cA q) D q r0 M0) [.ref (q 13)].toArray s 0 0 (AqG 167 q)) (F0 m 33 ls [])) → W p l e ({ frames := 1, cells := 0, slots := 0, locals := 13 } : Room) s m [.ref (q 13)].toArray below meth c H locs 0 0 (MQ below (Qi 167 (ceC cA q) D q r0 M0) [.ref (q 13)].toArray s 0 0 (AqG 167 q)) (F0 m 2 ls []) := by
    intro fu
    induction fu with
    | zero => intro b1 M res H locs ls h; exact absurd h (by simp [f_X7_keywordOrName_L2])
    | succ fu ih =>
      intro b1 M res H locs ls h hP hS hl K2_0 K2_1
      rw [f_X7_keywordOrName_L2] at h
      refine lv_iload_n hx hb dX7_keywordOrName_2 rfl (lv_at hl 1 rfl) ?_
      refine lv_aload_n hx hb dX7_keywordOrName_3 rfl (lv_at hl 0 rfl) ?_
      refine gfC_7_1 X hP sC_13 bw_283 dX7_keywordOrName_4 ?_
      refine alC_21 X hP sC_15 zC_15 (v := 29) rfl dX7_keywordOrName_7 ?_
      refine lv_icmp_ge (tgt := 33) hx hb dX7_keywordOrName_8 (by decide) (fun c6 => ?_) (fun c6 => ?_)
      · rw [if_pos c6] at h
        cases h
        exact K2_1 rfl _ _ _ hP hS (lv_sub hl [] rfl)
      · rw [if_neg c6] at h
        refine lv_aload_n hx hb dX7_keywordOrName_11 rfl (lv_at hl 0 rfl) ?_
        refine gfC_7_1 X hP sC_13 bw_283 dX7_keywordOrName_12 ?_
        refine lv_iload_n hx hb dX7_keywordOrName_15 rfl (lv_at hl 1 rfl) ?_
        obtain ⟨g7, h⟩ := gd_inv h
        refine ldC_la X hP sC_15 zC_15 g7 dX7_keywordOrName_16 ?_
        refine lv_aload_n hx hb dX7_keywordOrName_17 rfl (lv_at hl 0 rfl) ?_
        refine gfC_7_7 X hP sC_13 bw_291 dX7_keywordOrName_18 ?_
        refine W.lcmp hx hb dX7_keywordOrName_21 ?_
        refine lv_if_ne (tgt := 27) hx hb dX7_keywordOrName_22 (by decide) (fun c8 => ?_) (fun c8 => ?_)
        · rw [if_neg c8] at h
          obtain ⟨y9, ey9, h⟩ := lt_inv h
          refine lv_iinc (v := y9) (lv' := [(1, .int y9), (0, .ref (q 13))]) hx hb dX7_keywordOrName_27 hl (k := 1) rfl (by rw [ey9]; rfl) (by decide) rfl (fun ls hl => ?_)
          refine lv_goto (tgt := 2) hx hb dX7_keywordOrName_30 (by decide) ?_
          exact ih _ _ res _ _ _ h hP hS (lv_sub hl [1, 0] rfl) K2_0 K2_1
        · rw [if_pos c8] at h
          cases h
          exact K2_0 rfl _ _ _ hP hS (lv_sub hl [1] rfl)
  refine lv_iconst (v := 0) hx hb dX7_keywordOrName_0 (by decide) ?_
  refine lv_istore_n (lv' := [(1, .int (0 : Int32)), (0, .ref (q 13))]) hx hb dX7_keywordOrName_1 rfl hl (by decide) rfl (fun ls hl => ?_)
  obtain ⟨s1, M2, hc3, h⟩ := bnd_inv h
  obtain ⟨k4, x5⟩ := s1
  try dsimp only at h
  refine hL2  fz _ _ _ _ _ _ hc3 hP hS (lv_sub hl [1, 0] rfl) (fun hke H locs ls hP hS hl => ?_) (fun hke H locs ls hP hS hl => ?_)
  · have hke : k4 = 0 := hke
    have hl : lv_has ls 2 [(1, .int x5)] := hl
    subst hke
    rw [if_pos rfl] at h
    refine lv_iload_n hx hb dX7_keywordOrName_25 rfl (lv_at hl 0 rfl) ?_
    exact end_i X hr hk hP hS h dX7_keywordOrName_26
  · have hke : k4 = 1 := hke
    have hl : lv_has ls 2 [] := hl
    subst hke
    rw [if_neg (by decide)] at h
    refine lv_bipush (v := 29) hx hb dX7_keywordOrName_33 (by decide) ?_
    exact end_i X hr hk hP hS h dX7_keywordOrName_35
theorem dX7_isDigit_0 : decode cX7_isDigit 0 = .ok (.iload_n 0, 1) := by decide +kernel
theorem dX7_isDigit_1 : decode cX7_isDigit 1 = .ok (.bipush 48, 2) := by decide +kernel
theorem dX7_isDigit_3 : decode cX7_isDigit 3 = .ok (.if_icmp .lt 13, 3) := by decide +kernel
theorem dX7_isDigit_6 : decode cX7_isDigit 6 = .ok (.iload_n 0, 1) := by decide +kernel
theorem dX7_isDigit_7 : decode cX7_isDigit 7 = .ok (.bipush 57, 2) := by decide +kernel
theorem dX7_isDigit_9 : decode cX7_isDigit 9 = .ok (.if_icmp .gt 7, 3) := by decide +kernel
theorem dX7_isDigit_12 : decode cX7_isDigit 12 = .ok (.iconst 1, 1) := by decide +kernel
theorem dX7_isDigit_13 : decode cX7_isDigit 13 = .ok (.goto 4, 3) := by decide +kernel
theorem dX7_isDigit_16 : decode cX7_isDigit 16 = .ok (.iconst 0, 1) := by decide +kernel
theorem dX7_isDigit_17 : decode cX7_isDigit 17 = .ok (.ireturn, 1) := by decide +kernel
set_option maxRecDepth 100000 in
set_option maxHeartbeats 8000000 in
theorem c_X7_isDigit (l : Launch) (D : va_G) (cA : Nat → ClassId) (q aK aV : Nat → Nat) (hq : injG 167 q) {a0 : Int32} {M M0 : Mem} {r0 : Int32} (h : f_X7_isDigit a0 M = some (r0, M0)) : Met l yX7_isDigit (.code yX7_isDigit cX7_isDigit 1 (some .boolean) :: BW) ({ frames := 1, cells := 0, slots := 0, locals := 12 } : Room) (va_Pc [.int a0] (CB 167 (ceC cA q) D cA q aK aV M)) (Qi 167 (ceC cA q) D q r0 M0) 0 0 (AqG 167 q) := by
  refine gMet RX7 (by decide +kernel) rfl hq (Nat.le_of_ble_eq_true rfl) ?_
  intro p e s m below meth c ls X hr hk hP hS hl
  have hx := X.1
  have hb := X.2.1
  have hl : lv_has ls 1 [(0, .int a0)] := hl
  rw [f_X7_isDigit] at h
  refine lv_iload_n hx hb dX7_isDigit_0 rfl (lv_at hl 0 rfl) ?_
  refine lv_bipush (v := 48) hx hb dX7_isDigit_1 (by decide) ?_
  refine lv_icmp_lt (tgt := 16) hx hb dX7_isDigit_3 (by decide) (fun c1 => ?_) (fun c1 => ?_)
  · rw [if_pos c1] at h
    refine lv_iconst (v := 0) hx hb dX7_isDigit_16 (by decide) ?_
    exact end_z X hr hk hP hS (Or.inl rfl) h dX7_isDigit_17
  · rw [if_neg c1] at h
    refine lv_iload_n hx hb dX7_isDigit_6 rfl (lv_at hl 0 rfl) ?_
    refine lv_bipush (v := 57) hx hb dX7_isDigit_7 (by decide) ?_
    refine lv_icmp_gt (tgt := 16) hx hb dX7_isDigit_9 (by decide) (fun c2 => ?_) (fun c2 => ?_)
    · rw [if_pos c2] at h
      refine lv_iconst (v := 0) hx hb dX7_isDigit_16 (by decide) ?_
      exact end_z X hr hk hP hS (Or.inl rfl) h dX7_isDigit_17
    · rw [if_neg c2] at h
      refine lv_iconst (v := 1) hx hb dX7_isDigit_12 (by decide) ?_
      refine lv_goto (tgt := 17) hx hb dX7_isDigit_13 (by decide) ?_
      exact end_z X hr hk hP hS (Or.inr rfl) h dX7_isDigit_17
theorem dX7_isSign_0 : decode cX7_isSign 0 = .ok (.iload_n 0, 1) := by decide +kernel
theorem dX7_isSign_1 : decode cX7_isSign 1 = .ok (.bipush 59, 2) := by decide +kernel
theorem dX7_isSign_3 : decode cX7_isSign 3 = .ok (.if_icmp .eq 21, 3) := by decide +kernel
theorem dX7_isSign_6 : decode cX7_isSign 6 = .ok (.iload_n 0, 1) := by decide +kernel
theorem dX7_isSign_7 : decode cX7_isSign 7 = .ok (.bipush 60, 2) := by decide +kernel
theorem dX7_isSign_9 : decode cX7_isSign 9 = .ok (.if_icmp .eq 15, 3) := by decide +kernel
theorem dX7_isSign_12 : decode cX7_isSign 12 = .ok (.iload_n 0, 1) := by decide +kernel
theorem dX7_isSign_13 : decode cX7_isSign 13 = .ok (.bipush 62, 2) := by decide +kernel
theorem dX7_isSign_15 : decode cX7_isSign 15 = .ok (.if_icmp .eq 9, 3) := by decide +kernel
theorem dX7_isSign_18 : decode cX7_isSign 18 = .ok (.iload_n 0, 1) := by decide +kernel
theorem dX7_isSign_19 : decode cX7_isSign 19 = .ok (.bipush 61, 2) := by decide +kernel
theorem dX7_isSign_21 : decode cX7_isSign 21 = .ok (.if_icmp .ne 7, 3) := by decide +kernel
theorem dX7_isSign_24 : decode cX7_isSign 24 = .ok (.iconst 1, 1) := by decide +kernel
theorem dX7_isSign_25 : decode cX7_isSign 25 = .ok (.goto 4, 3) := by decide +kernel
theorem dX7_isSign_28 : decode cX7_isSign 28 = .ok (.iconst 0, 1) := by decide +kernel
theorem dX7_isSign_29 : decode cX7_isSign 29 = .ok (.ireturn, 1) := by decide +kernel
set_option maxRecDepth 100000 in
set_option maxHeartbeats 8000000 in
theorem c_X7_isSign (l : Launch) (D : va_G) (cA : Nat → ClassId) (q aK aV : Nat → Nat) (hq : injG 167 q) {a0 : Int32} {M M0 : Mem} {r0 : Int32} (h : f_X7_isSign a0 M = some (r0, M0)) : Met l yX7_isSign (.code yX7_isSign cX7_isSign 1 (some .boolean) :: BW) ({ frames := 1, cells := 0, slots := 0, locals := 12 } : Room) (va_Pc [.int a0] (CB 167 (ceC cA q) D cA q aK aV M)) (Qi 167 (ceC cA q) D q r0 M0) 0 0 (AqG 167 q) := by
  refine gMet RX7 (by decide +kernel) rfl hq (Nat.le_of_ble_eq_true rfl) ?_
  intro p e s m below meth c ls X hr hk hP hS hl
  have hx := X.1
  have hb := X.2.1
  have hl : lv_has ls 1 [(0, .int a0)] := hl
  rw [f_X7_isSign] at h
  refine lv_iload_n hx hb dX7_isSign_0 rfl (lv_at hl 0 rfl) ?_
  refine lv_bipush (v := 59) hx hb dX7_isSign_1 (by decide) ?_
  refine lv_icmp_eq (tgt := 24) hx hb dX7_isSign_3 (by decide) (fun c1 => ?_) (fun c1 => ?_)
  · rw [if_pos c1] at h
    refine lv_iconst (v := 1) hx hb dX7_isSign_24 (by decide) ?_
    refine lv_goto (tgt := 29) hx hb dX7_isSign_25 (by decide) ?_
    exact end_z X hr hk hP hS (Or.inr rfl) h dX7_isSign_29
  · rw [if_neg c1] at h
    refine lv_iload_n hx hb dX7_isSign_6 rfl (lv_at hl 0 rfl) ?_
    refine lv_bipush (v := 60) hx hb dX7_isSign_7 (by decide) ?_
    refine lv_icmp_eq (tgt := 24) hx hb dX7_isSign_9 (by decide) (fun c2 => ?_) (fun c2 => ?_)
    · rw [if_pos c2] at h
      refine lv_iconst (v := 1) hx hb dX7_isSign_24 (by decide) ?_
      refine lv_goto (tgt := 29) hx hb dX7_isSign_25 (by decide) ?_
      exact end_z X hr hk hP hS (Or.inr rfl) h dX7_isSign_29
    · rw [if_neg c2] at h
      refine lv_iload_n hx hb dX7_isSign_12 rfl (lv_at hl 0 rfl) ?_
      refine lv_bipush (v := 62) hx hb dX7_isSign_13 (by decide) ?_
      refine lv_icmp_eq (tgt := 24) hx hb dX7_isSign_15 (by decide) (fun c3 => ?_) (fun c3 => ?_)
      · rw [if_pos c3] at h
        refine lv_iconst (v := 1) hx hb dX7_isSign_24 (by decide) ?_
        refine lv_goto (tgt := 29) hx hb dX7_isSign_25 (by decide) ?_
        exact end_z X hr hk hP hS (Or.inr rfl) h dX7_isSign_29
      · rw [if_neg c3] at h
        refine lv_iload_n hx hb dX7_isSign_18 rfl (lv_at hl 0 rfl) ?_
        refine lv_bipush (v := 61) hx hb dX7_isSign_19 (by decide) ?_
        refine lv_icmp_ne (tgt := 28) hx hb dX7_isSign_21 (by decide) (fun c4 => ?_) (fun c4 => ?_)
        · rw [if_neg c4] at h
          refine lv_iconst (v := 0) hx hb dX7_isSign_28 (by decide) ?_
          exact end_z X hr hk hP hS (Or.inl rfl) h dX7_isSign_29
        · rw [if_pos c4] at h
          refine lv_iconst (v := 1) hx hb dX7_isSign_24 (by decide) ?_
          refine lv_goto (tgt := 29) hx hb dX7_isSign_25 (by decide) ?_
          exact end_z X hr hk hP hS (Or.inr rfl) h dX7_isSign_29
theorem dX7_goOn_0 : decode cX7_goOn 0 = .ok (.aload_n 0, 1) := by decide +kernel
theorem dX7_goOn_1 : decode cX7_goOn 1 = .ok (.getfield 26, 3) := by decide +kernel
theorem dX7_goOn_4 : decode cX7_goOn 4 = .ok (.aload_n 0, 1) := by decide +kernel
theorem dX7_goOn_5 : decode cX7_goOn 5 = .ok (.getfield 23, 3) := by decide +kernel
theorem dX7_goOn_8 : decode cX7_goOn 8 = .ok (.if_icmp .ge 30, 3) := by decide +kernel
theorem dX7_goOn_11 : decode cX7_goOn 11 = .ok (.aload_n 0, 1) := by decide +kernel
theorem dX7_goOn_12 : decode cX7_goOn 12 = .ok (.aload_n 0, 1) := by decide +kernel
theorem dX7_goOn_13 : decode cX7_goOn 13 = .ok (.getfield 26, 3) := by decide +kernel
theorem dX7_goOn_16 : decode cX7_goOn 16 = .ok (.invokevirtual 71, 3) := by decide +kernel
theorem dX7_goOn_19 : decode cX7_goOn 19 = .ok (.invokestatic 75, 3) := by decide +kernel
theorem dX7_goOn_22 : decode cX7_goOn 22 = .ok (.ifCond .eq 16, 3) := by decide +kernel
theorem dX7_goOn_25 : decode cX7_goOn 25 = .ok (.aload_n 0, 1) := by decide +kernel
theorem dX7_goOn_26 : decode cX7_goOn 26 = .ok (.dup, 1) := by decide +kernel
theorem dX7_goOn_27 : decode cX7_goOn 27 = .ok (.getfield 26, 3) := by decide +kernel
theorem dX7_goOn_30 : decode cX7_goOn 30 = .ok (.iconst 1, 1) := by decide +kernel
theorem dX7_goOn_31 : decode cX7_goOn 31 = .ok (.iadd, 1) := by decide +kernel
theorem dX7_goOn_32 : decode cX7_goOn 32 = .ok (.putfield 26, 3) := by decide +kernel
theorem dX7_goOn_35 : decode cX7_goOn 35 = .ok (.goto (-35), 3) := by decide +kernel
theorem dX7_goOn_38 : decode cX7_goOn 38 = .ok (.aload_n 0, 1) := by decide +kernel
theorem dX7_goOn_39 : decode cX7_goOn 39 = .ok (.aload_n 0, 1) := by decide +kernel
theorem dX7_goOn_40 : decode cX7_goOn 40 = .ok (.getfield 26, 3) := by decide +kernel
theorem dX7_goOn_43 : decode cX7_goOn 43 = .ok (.putfield 29, 3) := by decide +kernel
theorem dX7_goOn_46 : decode cX7_goOn 46 = .ok (.aload_n 0, 1) := by decide +kernel
theorem dX7_goOn_47 : decode cX7_goOn 47 = .ok (.aload_n 0, 1) := by decide +kernel
theorem dX7_goOn_48 : decode cX7_goOn 48 = .ok (.getfield 29, 3) := by decide +kernel
theorem dX7_goOn_51 : decode cX7_goOn 51 = .ok (.invokevirtual 71, 3) := by decide +kernel
theorem dX7_goOn_54 : decode cX7_goOn 54 = .ok (.istore_n 1, 1) := by decide +kernel
theorem dX7_goOn_55 : decode cX7_goOn 55 = .ok (.aload_n 0, 1) := by decide +kernel
theorem dX7_goOn_56 : decode cX7_goOn 56 = .ok (.getfield 29, 3) := by decide +kernel
theorem dX7_goOn_59 : decode cX7_goOn 59 = .ok (.aload_n 0, 1) := by decide +kernel
theorem dX7_goOn_60 : decode cX7_goOn 60 = .ok (.getfield 23, 3) := by decide +kernel
theorem dX7_goOn_63 : decode cX7_goOn 63 = .ok (.if_icmp .lt 12, 3) := by decide +kernel
theorem dX7_goOn_66 : decode cX7_goOn 66 = .ok (.aload_n 0, 1) := by decide +kernel
theorem dX7_goOn_67 : decode cX7_goOn 67 = .ok (.bipush 32, 2) := by decide +kernel
theorem dX7_goOn_69 : decode cX7_goOn 69 = .ok (.putfield 32, 3) := by decide +kernel
theorem dX7_goOn_72 : decode cX7_goOn 72 = .ok (.goto 229, 3) := by decide +kernel
theorem dX7_goOn_75 : decode cX7_goOn 75 = .ok (.iload_n 1, 1) := by decide +kernel
theorem dX7_goOn_76 : decode cX7_goOn 76 = .ok (.invokestatic 79, 3) := by decide +kernel
theorem dX7_goOn_79 : decode cX7_goOn 79 = .ok (.ifCond .eq 95, 3) := by decide +kernel
theorem dX7_goOn_82 : decode cX7_goOn 82 = .ok (.aload_n 0, 1) := by decide +kernel
theorem dX7_goOn_83 : decode cX7_goOn 83 = .ok (.lconst 0, 1) := by decide +kernel
theorem dX7_goOn_84 : decode cX7_goOn 84 = .ok (.putfield 35, 3) := by decide +kernel
theorem dX7_goOn_87 : decode cX7_goOn 87 = .ok (.aload_n 0, 1) := by decide +kernel
theorem dX7_goOn_88 : decode cX7_goOn 88 = .ok (.getfield 26, 3) := by decide +kernel
theorem dX7_goOn_91 : decode cX7_goOn 91 = .ok (.aload_n 0, 1) := by decide +kernel
theorem dX7_goOn_92 : decode cX7_goOn 92 = .ok (.getfield 23, 3) := by decide +kernel
theorem dX7_goOn_95 : decode cX7_goOn 95 = .ok (.if_icmp .ge 49, 3) := by decide +kernel
theorem dX7_goOn_98 : decode cX7_goOn 98 = .ok (.aload_n 0, 1) := by decide +kernel
theorem dX7_goOn_99 : decode cX7_goOn 99 = .ok (.aload_n 0, 1) := by decide +kernel
theorem dX7_goOn_100 : decode cX7_goOn 100 = .ok (.getfield 26, 3) := by decide +kernel
theorem dX7_goOn_103 : decode cX7_goOn 103 = .ok (.invokevirtual 71, 3) := by decide +kernel
theorem dX7_goOn_106 : decode cX7_goOn 106 = .ok (.invokestatic 79, 3) := by decide +kernel
theorem dX7_goOn_109 : decode cX7_goOn 109 = .ok (.ifCond .eq 35, 3) := by decide +kernel
theorem dX7_goOn_112 : decode cX7_goOn 112 = .ok (.aload_n 0, 1) := by decide +kernel
theorem dX7_goOn_113 : decode cX7_goOn 113 = .ok (.aload_n 0, 1) := by decide +kernel
theorem dX7_goOn_114 : decode cX7_goOn 114 = .ok (.getfield 35, 3) := by decide +kernel
theorem dX7_goOn_117 : decode cX7_goOn 117 = .ok (.aload_n 0, 1) := by decide +kernel
theorem dX7_goOn_118 : decode cX7_goOn 118 = .ok (.aload_n 0, 1) := by decide +kernel
theorem dX7_goOn_119 : decode cX7_goOn 119 = .ok (.getfield 26, 3) := by decide +kernel
theorem dX7_goOn_122 : decode cX7_goOn 122 = .ok (.invokevirtual 71, 3) := by decide +kernel
theorem dX7_goOn_125 : decode cX7_goOn 125 = .ok (.invokestatic 60, 3) := by decide +kernel
theorem dX7_goOn_128 : decode cX7_goOn 128 = .ok (.putfield 35, 3) := by decide +kernel
theorem dX7_goOn_131 : decode cX7_goOn 131 = .ok (.aload_n 0, 1) := by decide +kernel
theorem dX7_goOn_132 : decode cX7_goOn 132 = .ok (.dup, 1) := by decide +kernel
theorem dX7_goOn_133 : decode cX7_goOn 133 = .ok (.getfield 26, 3) := by decide +kernel
theorem dX7_goOn_136 : decode cX7_goOn 136 = .ok (.iconst 1, 1) := by decide +kernel
theorem dX7_goOn_137 : decode cX7_goOn 137 = .ok (.iadd, 1) := by decide +kernel
theorem dX7_goOn_138 : decode cX7_goOn 138 = .ok (.putfield 26, 3) := by decide +kernel
theorem dX7_goOn_141 : decode cX7_goOn 141 = .ok (.goto (-54), 3) := by decide +kernel
theorem dX7_goOn_144 : decode cX7_goOn 144 = .ok (.aload_n 0, 1) := by decide +kernel
theorem dX7_goOn_145 : decode cX7_goOn 145 = .ok (.aload_n 0, 1) := by decide +kernel
theorem dX7_goOn_146 : decode cX7_goOn 146 = .ok (.getfield 26, 3) := by decide +kernel
theorem dX7_goOn_149 : decode cX7_goOn 149 = .ok (.aload_n 0, 1) := by decide +kernel
theorem dX7_goOn_150 : decode cX7_goOn 150 = .ok (.getfield 29, 3) := by decide +kernel
theorem dX7_goOn_153 : decode cX7_goOn 153 = .ok (.isub, 1) := by decide +kernel
theorem dX7_goOn_154 : decode cX7_goOn 154 = .ok (.bipush 8, 2) := by decide +kernel
theorem dX7_goOn_156 : decode cX7_goOn 156 = .ok (.if_icmp .le 8, 3) := by decide +kernel
theorem dX7_goOn_159 : decode cX7_goOn 159 = .ok (.bipush 30, 2) := by decide +kernel
theorem dX7_goOn_161 : decode cX7_goOn 161 = .ok (.goto 7, 3) := by decide +kernel
theorem dX7_goOn_164 : decode cX7_goOn 164 = .ok (.aload_n 0, 1) := by decide +kernel
theorem dX7_goOn_165 : decode cX7_goOn 165 = .ok (.invokevirtual 82, 3) := by decide +kernel
theorem dX7_goOn_168 : decode cX7_goOn 168 = .ok (.putfield 32, 3) := by decide +kernel
theorem dX7_goOn_171 : decode cX7_goOn 171 = .ok (.goto 130, 3) := by decide +kernel
theorem dX7_goOn_174 : decode cX7_goOn 174 = .ok (.iload_n 1, 1) := by decide +kernel
theorem dX7_goOn_175 : decode cX7_goOn 175 = .ok (.invokestatic 85, 3) := by decide +kernel
theorem dX7_goOn_178 : decode cX7_goOn 178 = .ok (.ifCond .eq 96, 3) := by decide +kernel
theorem dX7_goOn_181 : decode cX7_goOn 181 = .ok (.aload_n 0, 1) := by decide +kernel
theorem dX7_goOn_182 : decode cX7_goOn 182 = .ok (.iconst 0, 1) := by decide +kernel
theorem dX7_goOn_183 : decode cX7_goOn 183 = .ok (.putfield 39, 3) := by decide +kernel
theorem dX7_goOn_186 : decode cX7_goOn 186 = .ok (.aload_n 0, 1) := by decide +kernel
theorem dX7_goOn_187 : decode cX7_goOn 187 = .ok (.getfield 26, 3) := by decide +kernel
theorem dX7_goOn_190 : decode cX7_goOn 190 = .ok (.aload_n 0, 1) := by decide +kernel
theorem dX7_goOn_191 : decode cX7_goOn 191 = .ok (.getfield 23, 3) := by decide +kernel
theorem dX7_goOn_194 : decode cX7_goOn 194 = .ok (.if_icmp .ge 53, 3) := by decide +kernel
theorem dX7_goOn_197 : decode cX7_goOn 197 = .ok (.aload_n 0, 1) := by decide +kernel
theorem dX7_goOn_198 : decode cX7_goOn 198 = .ok (.aload_n 0, 1) := by decide +kernel
theorem dX7_goOn_199 : decode cX7_goOn 199 = .ok (.getfield 26, 3) := by decide +kernel
theorem dX7_goOn_202 : decode cX7_goOn 202 = .ok (.invokevirtual 71, 3) := by decide +kernel
theorem dX7_goOn_205 : decode cX7_goOn 205 = .ok (.invokestatic 85, 3) := by decide +kernel
theorem dX7_goOn_208 : decode cX7_goOn 208 = .ok (.ifCond .eq 39, 3) := by decide +kernel
theorem dX7_goOn_211 : decode cX7_goOn 211 = .ok (.aload_n 0, 1) := by decide +kernel
theorem dX7_goOn_212 : decode cX7_goOn 212 = .ok (.aload_n 0, 1) := by decide +kernel
theorem dX7_goOn_213 : decode cX7_goOn 213 = .ok (.getfield 39, 3) := by decide +kernel
theorem dX7_goOn_216 : decode cX7_goOn 216 = .ok (.bipush 10, 2) := by decide +kernel
theorem dX7_goOn_218 : decode cX7_goOn 218 = .ok (.imul, 1) := by decide +kernel
theorem dX7_goOn_219 : decode cX7_goOn 219 = .ok (.aload_n 0, 1) := by decide +kernel
theorem dX7_goOn_220 : decode cX7_goOn 220 = .ok (.aload_n 0, 1) := by decide +kernel
theorem dX7_goOn_221 : decode cX7_goOn 221 = .ok (.getfield 26, 3) := by decide +kernel
theorem dX7_goOn_224 : decode cX7_goOn 224 = .ok (.invokevirtual 71, 3) := by decide +kernel
theorem dX7_goOn_227 : decode cX7_goOn 227 = .ok (.iadd, 1) := by decide +kernel
theorem dX7_goOn_228 : decode cX7_goOn 228 = .ok (.bipush 48, 2) := by decide +kernel
theorem dX7_goOn_230 : decode cX7_goOn 230 = .ok (.isub, 1) := by decide +kernel
theorem dX7_goOn_231 : decode cX7_goOn 231 = .ok (.putfield 39, 3) := by decide +kernel
theorem dX7_goOn_234 : decode cX7_goOn 234 = .ok (.aload_n 0, 1) := by decide +kernel
theorem dX7_goOn_235 : decode cX7_goOn 235 = .ok (.dup, 1) := by decide +kernel
theorem dX7_goOn_236 : decode cX7_goOn 236 = .ok (.getfield 26, 3) := by decide +kernel
theorem dX7_goOn_239 : decode cX7_goOn 239 = .ok (.iconst 1, 1) := by decide +kernel
theorem dX7_goOn_240 : decode cX7_goOn 240 = .ok (.iadd, 1) := by decide +kernel
theorem dX7_goOn_241 : decode cX7_goOn 241 = .ok (.putfield 26, 3) := by decide +kernel
theorem dX7_goOn_244 : decode cX7_goOn 244 = .ok (.goto (-58), 3) := by decide +kernel
theorem dX7_goOn_247 : decode cX7_goOn 247 = .ok (.aload_n 0, 1) := by decide +kernel
theorem dX7_goOn_248 : decode cX7_goOn 248 = .ok (.aload_n 0, 1) := by decide +kernel
theorem dX7_goOn_249 : decode cX7_goOn 249 = .ok (.getfield 26, 3) := by decide +kernel
theorem dX7_goOn_252 : decode cX7_goOn 252 = .ok (.aload_n 0, 1) := by decide +kernel
theorem dX7_goOn_253 : decode cX7_goOn 253 = .ok (.getfield 29, 3) := by decide +kernel
theorem dX7_goOn_256 : decode cX7_goOn 256 = .ok (.isub, 1) := by decide +kernel
theorem dX7_goOn_257 : decode cX7_goOn 257 = .ok (.iconst 4, 1) := by decide +kernel
theorem dX7_goOn_258 : decode cX7_goOn 258 = .ok (.if_icmp .le 8, 3) := by decide +kernel
theorem dX7_goOn_261 : decode cX7_goOn 261 = .ok (.bipush 33, 2) := by decide +kernel
theorem dX7_goOn_263 : decode cX7_goOn 263 = .ok (.goto 5, 3) := by decide +kernel
theorem dX7_goOn_266 : decode cX7_goOn 266 = .ok (.bipush 31, 2) := by decide +kernel
theorem dX7_goOn_268 : decode cX7_goOn 268 = .ok (.putfield 32, 3) := by decide +kernel
theorem dX7_goOn_271 : decode cX7_goOn 271 = .ok (.goto 30, 3) := by decide +kernel
theorem dX7_goOn_274 : decode cX7_goOn 274 = .ok (.aload_n 0, 1) := by decide +kernel
theorem dX7_goOn_275 : decode cX7_goOn 275 = .ok (.dup, 1) := by decide +kernel
theorem dX7_goOn_276 : decode cX7_goOn 276 = .ok (.getfield 26, 3) := by decide +kernel
theorem dX7_goOn_279 : decode cX7_goOn 279 = .ok (.iconst 1, 1) := by decide +kernel
theorem dX7_goOn_280 : decode cX7_goOn 280 = .ok (.iadd, 1) := by decide +kernel
theorem dX7_goOn_281 : decode cX7_goOn 281 = .ok (.putfield 26, 3) := by decide +kernel
theorem dX7_goOn_284 : decode cX7_goOn 284 = .ok (.aload_n 0, 1) := by decide +kernel
theorem dX7_goOn_285 : decode cX7_goOn 285 = .ok (.iload_n 1, 1) := by decide +kernel
theorem dX7_goOn_286 : decode cX7_goOn 286 = .ok (.invokestatic 88, 3) := by decide +kernel
theorem dX7_goOn_289 : decode cX7_goOn 289 = .ok (.ifCond .eq 7, 3) := by decide +kernel
theorem dX7_goOn_292 : decode cX7_goOn 292 = .ok (.iload_n 1, 1) := by decide +kernel
theorem dX7_goOn_293 : decode cX7_goOn 293 = .ok (.goto 5, 3) := by decide +kernel
theorem dX7_goOn_296 : decode cX7_goOn 296 = .ok (.bipush 33, 2) := by decide +kernel
theorem dX7_goOn_298 : decode cX7_goOn 298 = .ok (.putfield 32, 3) := by decide +kernel
theorem dX7_goOn_301 : decode cX7_goOn 301 = .ok (.return_, 1) := by decide +kernel
set_option maxRecDepth 100000 in
set_option maxHeartbeats 8000000 in
theorem c_X7_goOn (l : Launch) (D : va_G) (cA : Nat → ClassId) (q aK aV : Nat → Nat) (hq : injG 167 q) {M M0 : Mem} (h : f_X7_goOn M = some ((), M0)) : Met l yX7_goOn (.code yX7_goOn cX7_goOn 2 none :: BW) ({ frames := 2, cells := 0, slots := 0, locals := 36 } : Room) (va_Pc [.ref (q 13)] (CB 167 (ceC cA q) D cA q aK aV M)) (Qv 167 (ceC cA q) D q M0) 0 0 (AqG 167 q) := by
  refine gMet RX7 (by decide +kernel) rfl hq (Nat.le_of_ble_eq_true rfl) ?_
  intro p e s m below meth c ls X hr hk hP hS hl
  have hx := X.1
  have hb := X.2.1
  have hl : lv_has ls 2 [(0, .ref (q 13))] := hl
  rw [f_X7_goOn] at h
  have hL186 : ∀ (fu : Nat) (M : Mem) (res : (Unit) × Mem) (H : Heap) (locs : List Loc) (ls : Array Slot), f_X7_goOn_L186 fu M = some res → va_P D vwCl (wsG 167 (ceC cA q) q M) H → va_S (AqG 167 q) s.heap H locs → lv_has ls 2 [(0, .ref (q 13))] → (∀ (H : Heap) (locs : List Loc) (ls : Array Slot), va_P D vwCl (wsG 167 (ceC cA q) q res.2) H → va_S (AqG 167 q) s.heap H locs → lv_has ls 2 [(0, .ref (q 13))] → W p l e ({ frames := 2, cells := 0, slots := 0, locals := 36 } : Room) s m [.ref (q 13)].toArray below meth c H locs 0 0 (MQ below (Qv 167 (ceC cA q) D q M0) [.ref (q 13)].toArray s 0 0 (AqG 167 q)) (F0 m 247 ls [])) → W p l e ({ frames := 2, cells := 0, slots := 0, locals := 36 } : Room) s m [.ref (q 13)].toArray below meth c H locs 0 0 (MQ below (Qv 167 (ceC cA q) D q M0) [.ref (q 13)].toArray s 0 0 (AqG 167 q)) (F0 m 186 ls []) := by
    intro fu
    induction fu with
    | zero => intro M res H locs ls h; exact absurd h (by simp [f_X7_goOn_L186])
    | succ fu ih =>
      intro M res H locs ls h hP hS hl K186_0
      rw [f_X7_goOn_L186] at h
      refine lv_aload_n hx hb dX7_goOn_186 rfl (lv_at hl 0 rfl) ?_
      refine gfC_7_4 X hP sC_13 bw_287 dX7_goOn_187 ?_
      refine lv_aload_n hx hb dX7_goOn_190 rfl (lv_at hl 0 rfl) ?_
      refine gfC_7_3 X hP sC_13 bw_286 dX7_goOn_191 ?_
      refine lv_icmp_ge (tgt := 247) hx hb dX7_goOn_194 (by decide) (fun c67 => ?_) (fun c67 => ?_)
      · rw [if_pos c67] at h
        cases h
        exact K186_0 _ _ _ hP hS (lv_sub hl [0] rfl)
      · rw [if_neg c67] at h
        refine lv_aload_n hx hb dX7_goOn_197 rfl (lv_at hl 0 rfl) ?_
        refine lv_aload_n hx hb dX7_goOn_198 rfl (lv_at hl 0 rfl) ?_
        refine gfC_7_4 X hP sC_13 bw_287 dX7_goOn_199 ?_
        obtain ⟨r68, M69, hc70, h⟩ := bnd_inv h
        refine gV_i (As := [.int (gI M 13 4)]) X hP hS hl.1 (c_X7_byteAt l D cA q aK aV hq hc70) sf_X7_byteAt bw_613 sv_X7_byteAt (rcC_7 sC_13) rfl ⟨rfl, rfl⟩ ⟨Nat.le_of_ble_eq_true rfl, Nat.le_of_ble_eq_true rfl⟩ rfl rfl (Nat.le_of_ble_eq_true rfl) dX7_goOn_202 (fun H locs hP hS => ?_)
        obtain ⟨r71, M72, hc73, h⟩ := bnd_inv h
        refine gS_i (As := [.int r68]) X hP hS hl.1 (c_X7_isDigit l D cA q aK aV hq hc73) sf_X7_isDigit bw_627 ss_X7_isDigit ⟨rfl, rfl⟩ ⟨Nat.le_of_ble_eq_true rfl, Nat.le_of_ble_eq_true rfl⟩ rfl rfl (Nat.le_of_ble_eq_true rfl) dX7_goOn_205 (fun H locs hP hS => ?_)
        refine lv_if_eq (tgt := 247) hx hb dX7_goOn_208 (by decide) (fun c74 => ?_) (fun c74 => ?_)
        · rw [if_pos c74] at h
          cases h
          exact K186_0 _ _ _ hP hS (lv_sub hl [0] rfl)
        · rw [if_neg c74] at h
          refine lv_aload_n hx hb dX7_goOn_211 rfl (lv_at hl 0 rfl) ?_
          refine lv_aload_n hx hb dX7_goOn_212 rfl (lv_at hl 0 rfl) ?_
          refine gfC_7_8 X hP sC_13 bw_293 dX7_goOn_213 ?_
          refine lv_bipush (v := 10) hx hb dX7_goOn_216 (by decide) ?_
          refine lv_imul hx hb dX7_goOn_218 ?_
          refine lv_aload_n hx hb dX7_goOn_219 rfl (lv_at hl 0 rfl) ?_
          refine lv_aload_n hx hb dX7_goOn_220 rfl (lv_at hl 0 rfl) ?_
          refine gfC_7_4 X hP sC_13 bw_287 dX7_goOn_221 ?_
          obtain ⟨r75, M76, hc77, h⟩ := bnd_inv h
          refine gV_i (As := [.int (gI M72 13 4)]) X hP hS hl.1 (c_X7_byteAt l D cA q aK aV hq hc77) sf_X7_byteAt bw_613 sv_X7_byteAt (rcC_7 sC_13) rfl ⟨rfl, rfl⟩ ⟨Nat.le_of_ble_eq_true rfl, Nat.le_of_ble_eq_true rfl⟩ rfl rfl (Nat.le_of_ble_eq_true rfl) dX7_goOn_224 (fun H locs hP hS => ?_)
          refine lv_iadd hx hb dX7_goOn_227 ?_
          refine lv_bipush (v := 48) hx hb dX7_goOn_228 (by decide) ?_
          refine lv_isub hx hb dX7_goOn_230 ?_
          obtain ⟨M78, eM78, h⟩ := lt_inv h
          refine pfC_7_8 X hP hS sC_13 bw_293 eM78 dX7_goOn_231 (fun H locs hP hS => ?_)
          refine lv_aload_n hx hb dX7_goOn_234 rfl (lv_at hl 0 rfl) ?_
          refine lv_dup hx hb dX7_goOn_235 rfl ?_
          refine gfC_7_4 X hP sC_13 bw_287 dX7_goOn_236 ?_
          refine lv_iconst (v := 1) hx hb dX7_goOn_239 (by decide) ?_
          refine lv_iadd hx hb dX7_goOn_240 ?_
          obtain ⟨M79, eM79, h⟩ := lt_inv h
          refine pfC_7_4 X hP hS sC_13 bw_287 eM79 dX7_goOn_241 (fun H locs hP hS => ?_)
          refine lv_goto (tgt := 186) hx hb dX7_goOn_244 (by decide) ?_
          exact ih _ res _ _ _ h hP hS (lv_sub hl [0] rfl) K186_0
  have hL87 : ∀ (fu : Nat) (M : Mem) (res : (Unit) × Mem) (H : Heap) (locs : List Loc) (ls : Array Slot), f_X7_goOn_L87 fu M = some res → va_P D vwCl (wsG 167 (ceC cA q) q M) H → va_S (AqG 167 q) s.heap H locs → lv_has ls 2 [(0, .ref (q 13))] → (∀ (H : Heap) (locs : List Loc) (ls : Array Slot), va_P D vwCl (wsG 167 (ceC cA q) q res.2) H → va_S (AqG 167 q) s.heap H locs → lv_has ls 2 [(0, .ref (q 13))] → W p l e ({ frames := 2, cells := 0, slots := 0, locals := 36 } : Room) s m [.ref (q 13)].toArray below meth c H locs 0 0 (MQ below (Qv 167 (ceC cA q) D q M0) [.ref (q 13)].toArray s 0 0 (AqG 167 q)) (F0 m 144 ls [])) → W p l e ({ frames := 2, cells := 0, slots := 0, locals := 36 } : Room) s m [.ref (q 13)].toArray below meth c H locs 0 0 (MQ below (Qv 167 (ceC cA q) D q M0) [.ref (q 13)].toArray s 0 0 (AqG 167 q)) (F0 m 87 ls []) := by
    intro fu
    induction fu with
    | zero => intro M res H locs ls h; exact absurd h (by simp [f_X7_goOn_L87])
    | succ fu ih =>
      intro M res H locs ls h hP hS hl K87_0
      rw [f_X7_goOn_L87] at h
      refine lv_aload_n hx hb dX7_goOn_87 rfl (lv_at hl 0 rfl) ?_
      refine gfC_7_4 X hP sC_13 bw_287 dX7_goOn_88 ?_
      refine lv_aload_n hx hb dX7_goOn_91 rfl (lv_at hl 0 rfl) ?_
      refine gfC_7_3 X hP sC_13 bw_286 dX7_goOn_92 ?_
      refine lv_icmp_ge (tgt := 144) hx hb dX7_goOn_95 (by decide) (fun c51 => ?_) (fun c51 => ?_)
      · rw [if_pos c51] at h
        cases h
        exact K87_0 _ _ _ hP hS (lv_sub hl [0] rfl)
      · rw [if_neg c51] at h
        refine lv_aload_n hx hb dX7_goOn_98 rfl (lv_at hl 0 rfl) ?_
        refine lv_aload_n hx hb dX7_goOn_99 rfl (lv_at hl 0 rfl) ?_
        refine gfC_7_4 X hP sC_13 bw_287 dX7_goOn_100 ?_
        obtain ⟨r52, M53, hc54, h⟩ := bnd_inv h
        refine gV_i (As := [.int (gI M 13 4)]) X hP hS hl.1 (c_X7_byteAt l D cA q aK aV hq hc54) sf_X7_byteAt bw_613 sv_X7_byteAt (rcC_7 sC_13) rfl ⟨rfl, rfl⟩ ⟨Nat.le_of_ble_eq_true rfl, Nat.le_of_ble_eq_true rfl⟩ rfl rfl (Nat.le_of_ble_eq_true rfl) dX7_goOn_103 (fun H locs hP hS => ?_)
        obtain ⟨r55, M56, hc57, h⟩ := bnd_inv h
        refine gS_i (As := [.int r52]) X hP hS hl.1 (c_X7_isLetter l D cA q aK aV hq hc57) sf_X7_isLetter bw_620 ss_X7_isLetter ⟨rfl, rfl⟩ ⟨Nat.le_of_ble_eq_true rfl, Nat.le_of_ble_eq_true rfl⟩ rfl rfl (Nat.le_of_ble_eq_true rfl) dX7_goOn_106 (fun H locs hP hS => ?_)
        refine lv_if_eq (tgt := 144) hx hb dX7_goOn_109 (by decide) (fun c58 => ?_) (fun c58 => ?_)
        · rw [if_pos c58] at h
          cases h
          exact K87_0 _ _ _ hP hS (lv_sub hl [0] rfl)
        · rw [if_neg c58] at h
          refine lv_aload_n hx hb dX7_goOn_112 rfl (lv_at hl 0 rfl) ?_
          refine lv_aload_n hx hb dX7_goOn_113 rfl (lv_at hl 0 rfl) ?_
          refine gfC_7_7 X hP sC_13 bw_291 dX7_goOn_114 ?_
          refine lv_aload_n hx hb dX7_goOn_117 rfl (lv_at hl 0 rfl) ?_
          refine lv_aload_n hx hb dX7_goOn_118 rfl (lv_at hl 0 rfl) ?_
          refine gfC_7_4 X hP sC_13 bw_287 dX7_goOn_119 ?_
          obtain ⟨r59, M60, hc61, h⟩ := bnd_inv h
          refine gV_i (As := [.int (gI M56 13 4)]) X hP hS hl.1 (c_X7_byteAt l D cA q aK aV hq hc61) sf_X7_byteAt bw_613 sv_X7_byteAt (rcC_7 sC_13) rfl ⟨rfl, rfl⟩ ⟨Nat.le_of_ble_eq_true rfl, Nat.le_of_ble_eq_true rfl⟩ rfl rfl (Nat.le_of_ble_eq_true rfl) dX7_goOn_122 (fun H locs hP hS => ?_)
          obtain ⟨r62, M63, hc64, h⟩ := bnd_inv h
          refine gS_l (As := [.long (gL M56 13 7), .int r59]) X hP hS hl.1 (c_X7_withLetter l D cA q aK aV hq hc64) sf_X7_withLetter bw_277 ss_X7_withLetter ⟨rfl, rfl⟩ ⟨Nat.le_of_ble_eq_true rfl, Nat.le_of_ble_eq_true rfl⟩ rfl rfl (Nat.le_of_ble_eq_true rfl) dX7_goOn_125 (fun H locs hP hS => ?_)
          obtain ⟨M65, eM65, h⟩ := lt_inv h
          refine pfC_7_7 X hP hS sC_13 bw_291 eM65 dX7_goOn_128 (fun H locs hP hS => ?_)
          refine lv_aload_n hx hb dX7_goOn_131 rfl (lv_at hl 0 rfl) ?_
          refine lv_dup hx hb dX7_goOn_132 rfl ?_
          refine gfC_7_4 X hP sC_13 bw_287 dX7_goOn_133 ?_
          refine lv_iconst (v := 1) hx hb dX7_goOn_136 (by decide) ?_
          refine lv_iadd hx hb dX7_goOn_137 ?_
          obtain ⟨M66, eM66, h⟩ := lt_inv h
          refine pfC_7_4 X hP hS sC_13 bw_287 eM66 dX7_goOn_138 (fun H locs hP hS => ?_)
          refine lv_goto (tgt := 87) hx hb dX7_goOn_141 (by decide) ?_
          exact ih _ res _ _ _ h hP hS (lv_sub hl [0] rfl) K87_0
  have hL0 : ∀ (fu : Nat) (M : Mem) (res : (Unit) × Mem) (H : Heap) (locs : List Loc) (ls : Array Slot), f_X7_goOn_L0 fu M = some res → va_P D vwCl (wsG 167 (ceC cA q) q M) H → va_S (AqG 167 q) s.heap H locs → lv_has ls 2 [(0, .ref (q 13))] → (∀ (H : Heap) (locs : List Loc) (ls : Array Slot), va_P D vwCl (wsG 167 (ceC cA q) q res.2) H → va_S (AqG 167 q) s.heap H locs → lv_has ls 2 [(0, .ref (q 13))] → W p l e ({ frames := 2, cells := 0, slots := 0, locals := 36 } : Room) s m [.ref (q 13)].toArray below meth c H locs 0 0 (MQ below (Qv 167 (ceC cA q) D q M0) [.ref (q 13)].toArray s 0 0 (AqG 167 q)) (F0 m 38 ls [])) → W p l e ({ frames := 2, cells := 0, slots := 0, locals := 36 } : Room) s m [.ref (q 13)].toArray below meth c H locs 0 0 (MQ below (Qv 167 (ceC cA q) D q M0) [.ref (q 13)].toArray s 0 0 (AqG 167 q)) (F0 m 0 ls []) := by
    intro fu
    induction fu with
    | zero => intro M res H locs ls h; exact absurd h (by simp [f_X7_goOn_L0])
    | succ fu ih =>
      intro M res H locs ls h hP hS hl K0_0
      rw [f_X7_goOn_L0] at h
      refine lv_aload_n hx hb dX7_goOn_0 rfl (lv_at hl 0 rfl) ?_
      refine gfC_7_4 X hP sC_13 bw_287 dX7_goOn_1 ?_
      refine lv_aload_n hx hb dX7_goOn_4 rfl (lv_at hl 0 rfl) ?_
      refine gfC_7_3 X hP sC_13 bw_286 dX7_goOn_5 ?_
      refine lv_icmp_ge (tgt := 38) hx hb dX7_goOn_8 (by decide) (fun c42 => ?_) (fun c42 => ?_)
      · rw [if_pos c42] at h
        cases h
        exact K0_0 _ _ _ hP hS (lv_sub hl [0] rfl)
      · rw [if_neg c42] at h
        refine lv_aload_n hx hb dX7_goOn_11 rfl (lv_at hl 0 rfl) ?_
        refine lv_aload_n hx hb dX7_goOn_12 rfl (lv_at hl 0 rfl) ?_
        refine gfC_7_4 X hP sC_13 bw_287 dX7_goOn_13 ?_
        obtain ⟨r43, M44, hc45, h⟩ := bnd_inv h
        refine gV_i (As := [.int (gI M 13 4)]) X hP hS hl.1 (c_X7_byteAt l D cA q aK aV hq hc45) sf_X7_byteAt bw_613 sv_X7_byteAt (rcC_7 sC_13) rfl ⟨rfl, rfl⟩ ⟨Nat.le_of_ble_eq_true rfl, Nat.le_of_ble_eq_true rfl⟩ rfl rfl (Nat.le_of_ble_eq_true rfl) dX7_goOn_16 (fun H locs hP hS => ?_)
        obtain ⟨r46, M47, hc48, h⟩ := bnd_inv h
        refine gS_i (As := [.int r43]) X hP hS hl.1 (c_X7_isBlank l D cA q aK aV hq hc48) sf_X7_isBlank bw_617 ss_X7_isBlank ⟨rfl, rfl⟩ ⟨Nat.le_of_ble_eq_true rfl, Nat.le_of_ble_eq_true rfl⟩ rfl rfl (Nat.le_of_ble_eq_true rfl) dX7_goOn_19 (fun H locs hP hS => ?_)
        refine lv_if_eq (tgt := 38) hx hb dX7_goOn_22 (by decide) (fun c49 => ?_) (fun c49 => ?_)
        · rw [if_pos c49] at h
          cases h
          exact K0_0 _ _ _ hP hS (lv_sub hl [0] rfl)
        · rw [if_neg c49] at h
          refine lv_aload_n hx hb dX7_goOn_25 rfl (lv_at hl 0 rfl) ?_
          refine lv_dup hx hb dX7_goOn_26 rfl ?_
          refine gfC_7_4 X hP sC_13 bw_287 dX7_goOn_27 ?_
          refine lv_iconst (v := 1) hx hb dX7_goOn_30 (by decide) ?_
          refine lv_iadd hx hb dX7_goOn_31 ?_
          obtain ⟨M50, eM50, h⟩ := lt_inv h
          refine pfC_7_4 X hP hS sC_13 bw_287 eM50 dX7_goOn_32 (fun H locs hP hS => ?_)
          refine lv_goto (tgt := 0) hx hb dX7_goOn_35 (by decide) ?_
          exact ih _ res _ _ _ h hP hS (lv_sub hl [0] rfl) K0_0
  obtain ⟨s1, M2, hc3, h⟩ := bnd_inv h
  try dsimp only at h
  refine hL0  fz  _ _ _ _ _ hc3 hP hS (lv_sub hl [0] rfl) (fun H locs ls hP hS hl => ?_)
  have hl : lv_has ls 2 [(0, .ref (q 13))] := hl
  refine lv_aload_n hx hb dX7_goOn_38 rfl (lv_at hl 0 rfl) ?_
  refine lv_aload_n hx hb dX7_goOn_39 rfl (lv_at hl 0 rfl) ?_
  refine gfC_7_4 X hP sC_13 bw_287 dX7_goOn_40 ?_
  obtain ⟨M4, eM4, h⟩ := lt_inv h
  refine pfC_7_5 X hP hS sC_13 bw_288 eM4 dX7_goOn_43 (fun H locs hP hS => ?_)
  refine lv_aload_n hx hb dX7_goOn_46 rfl (lv_at hl 0 rfl) ?_
  refine lv_aload_n hx hb dX7_goOn_47 rfl (lv_at hl 0 rfl) ?_
  refine gfC_7_5 X hP sC_13 bw_288 dX7_goOn_48 ?_
  obtain ⟨r5, M6, hc7, h⟩ := bnd_inv h
  refine gV_i (As := [.int (gI M4 13 5)]) X hP hS hl.1 (c_X7_byteAt l D cA q aK aV hq hc7) sf_X7_byteAt bw_613 sv_X7_byteAt (rcC_7 sC_13) rfl ⟨rfl, rfl⟩ ⟨Nat.le_of_ble_eq_true rfl, Nat.le_of_ble_eq_true rfl⟩ rfl rfl (Nat.le_of_ble_eq_true rfl) dX7_goOn_51 (fun H locs hP hS => ?_)
  refine lv_istore_n (lv' := [(1, .int r5), (0, .ref (q 13))]) hx hb dX7_goOn_54 rfl hl (by decide) rfl (fun ls hl => ?_)
  refine lv_aload_n hx hb dX7_goOn_55 rfl (lv_at hl 1 rfl) ?_
  refine gfC_7_5 X hP sC_13 bw_288 dX7_goOn_56 ?_
  refine lv_aload_n hx hb dX7_goOn_59 rfl (lv_at hl 1 rfl) ?_
  refine gfC_7_3 X hP sC_13 bw_286 dX7_goOn_60 ?_
  refine lv_icmp_lt (tgt := 75) hx hb dX7_goOn_63 (by decide) (fun c8 => ?_) (fun c8 => ?_)
  · rw [if_pos c8] at h
    refine lv_iload_n hx hb dX7_goOn_75 rfl (lv_at hl 0 rfl) ?_
    obtain ⟨r9, M10, hc11, h⟩ := bnd_inv h
    refine gS_i (As := [.int r5]) X hP hS hl.1 (c_X7_isLetter l D cA q aK aV hq hc11) sf_X7_isLetter bw_620 ss_X7_isLetter ⟨rfl, rfl⟩ ⟨Nat.le_of_ble_eq_true rfl, Nat.le_of_ble_eq_true rfl⟩ rfl rfl (Nat.le_of_ble_eq_true rfl) dX7_goOn_76 (fun H locs hP hS => ?_)
    refine lv_if_eq (tgt := 174) hx hb dX7_goOn_79 (by decide) (fun c12 => ?_) (fun c12 => ?_)
    · rw [if_pos c12] at h
      refine lv_iload_n hx hb dX7_goOn_174 rfl (lv_at hl 0 rfl) ?_
      obtain ⟨r13, M14, hc15, h⟩ := bnd_inv h
      refine gS_i (As := [.int r5]) X hP hS hl.1 (c_X7_isDigit l D cA q aK aV hq hc15) sf_X7_isDigit bw_627 ss_X7_isDigit ⟨rfl, rfl⟩ ⟨Nat.le_of_ble_eq_true rfl, Nat.le_of_ble_eq_true rfl⟩ rfl rfl (Nat.le_of_ble_eq_true rfl) dX7_goOn_175 (fun H locs hP hS => ?_)
      refine lv_if_eq (tgt := 274) hx hb dX7_goOn_178 (by decide) (fun c16 => ?_) (fun c16 => ?_)
      · rw [if_pos c16] at h
        refine lv_aload_n hx hb dX7_goOn_274 rfl (lv_at hl 1 rfl) ?_
        refine lv_dup hx hb dX7_goOn_275 rfl ?_
        refine gfC_7_4 X hP sC_13 bw_287 dX7_goOn_276 ?_
        refine lv_iconst (v := 1) hx hb dX7_goOn_279 (by decide) ?_
        refine lv_iadd hx hb dX7_goOn_280 ?_
        obtain ⟨M17, eM17, h⟩ := lt_inv h
        refine pfC_7_4 X hP hS sC_13 bw_287 eM17 dX7_goOn_281 (fun H locs hP hS => ?_)
        refine lv_aload_n hx hb dX7_goOn_284 rfl (lv_at hl 1 rfl) ?_
        refine lv_iload_n hx hb dX7_goOn_285 rfl (lv_at hl 0 rfl) ?_
        obtain ⟨r18, M19, hc20, h⟩ := bnd_inv h
        refine gS_i (As := [.int r5]) X hP hS hl.1 (c_X7_isSign l D cA q aK aV hq hc20) sf_X7_isSign bw_630 ss_X7_isSign ⟨rfl, rfl⟩ ⟨Nat.le_of_ble_eq_true rfl, Nat.le_of_ble_eq_true rfl⟩ rfl rfl (Nat.le_of_ble_eq_true rfl) dX7_goOn_286 (fun H locs hP hS => ?_)
        refine lv_if_eq (tgt := 296) hx hb dX7_goOn_289 (by decide) (fun c21 => ?_) (fun c21 => ?_)
        · rw [if_pos c21] at h
          refine lv_bipush (v := 33) hx hb dX7_goOn_296 (by decide) ?_
          obtain ⟨M22, eM22, h⟩ := lt_inv h
          refine pfC_7_6 X hP hS sC_13 bw_289 eM22 dX7_goOn_298 (fun H locs hP hS => ?_)
          exact end_v X hr hk hP hS h dX7_goOn_301
        · rw [if_neg c21] at h
          refine lv_iload_n hx hb dX7_goOn_292 rfl (lv_at hl 0 rfl) ?_
          refine lv_goto (tgt := 298) hx hb dX7_goOn_293 (by decide) ?_
          obtain ⟨M23, eM23, h⟩ := lt_inv h
          refine pfC_7_6 X hP hS sC_13 bw_289 eM23 dX7_goOn_298 (fun H locs hP hS => ?_)
          exact end_v X hr hk hP hS h dX7_goOn_301
      · rw [if_neg c16] at h
        refine lv_aload_n hx hb dX7_goOn_181 rfl (lv_at hl 1 rfl) ?_
        refine lv_iconst (v := 0) hx hb dX7_goOn_182 (by decide) ?_
        obtain ⟨M24, eM24, h⟩ := lt_inv h
        refine pfC_7_8 X hP hS sC_13 bw_293 eM24 dX7_goOn_183 (fun H locs hP hS => ?_)
        obtain ⟨s25, M26, hc27, h⟩ := bnd_inv h
        try dsimp only at h
        refine hL186  fz  _ _ _ _ _ hc27 hP hS (lv_sub hl [1] rfl) (fun H locs ls hP hS hl => ?_)
        have hl : lv_has ls 2 [(0, .ref (q 13))] := hl
        refine lv_aload_n hx hb dX7_goOn_247 rfl (lv_at hl 0 rfl) ?_
        refine lv_aload_n hx hb dX7_goOn_248 rfl (lv_at hl 0 rfl) ?_
        refine gfC_7_4 X hP sC_13 bw_287 dX7_goOn_249 ?_
        refine lv_aload_n hx hb dX7_goOn_252 rfl (lv_at hl 0 rfl) ?_
        refine gfC_7_5 X hP sC_13 bw_288 dX7_goOn_253 ?_
        refine lv_isub hx hb dX7_goOn_256 ?_
        refine lv_iconst (v := 4) hx hb dX7_goOn_257 (by decide) ?_
        refine lv_icmp_le (tgt := 266) hx hb dX7_goOn_258 (by decide) (fun c28 => ?_) (fun c28 => ?_)
        · rw [if_pos c28] at h
          refine lv_bipush (v := 31) hx hb dX7_goOn_266 (by decide) ?_
          obtain ⟨M29, eM29, h⟩ := lt_inv h
          refine pfC_7_6 X hP hS sC_13 bw_289 eM29 dX7_goOn_268 (fun H locs hP hS => ?_)
          refine lv_goto (tgt := 301) hx hb dX7_goOn_271 (by decide) ?_
          exact end_v X hr hk hP hS h dX7_goOn_301
        · rw [if_neg c28] at h
          refine lv_bipush (v := 33) hx hb dX7_goOn_261 (by decide) ?_
          refine lv_goto (tgt := 268) hx hb dX7_goOn_263 (by decide) ?_
          obtain ⟨M30, eM30, h⟩ := lt_inv h
          refine pfC_7_6 X hP hS sC_13 bw_289 eM30 dX7_goOn_268 (fun H locs hP hS => ?_)
          refine lv_goto (tgt := 301) hx hb dX7_goOn_271 (by decide) ?_
          exact end_v X hr hk hP hS h dX7_goOn_301
    · rw [if_neg c12] at h
      refine lv_aload_n hx hb dX7_goOn_82 rfl (lv_at hl 1 rfl) ?_
      refine lv_lconst (v := 0) hx hb dX7_goOn_83 (by decide) ?_
      obtain ⟨M31, eM31, h⟩ := lt_inv h
      refine pfC_7_7 X hP hS sC_13 bw_291 eM31 dX7_goOn_84 (fun H locs hP hS => ?_)
      obtain ⟨s32, M33, hc34, h⟩ := bnd_inv h
      try dsimp only at h
      refine hL87  fz  _ _ _ _ _ hc34 hP hS (lv_sub hl [1] rfl) (fun H locs ls hP hS hl => ?_)
      have hl : lv_has ls 2 [(0, .ref (q 13))] := hl
      refine lv_aload_n hx hb dX7_goOn_144 rfl (lv_at hl 0 rfl) ?_
      refine lv_aload_n hx hb dX7_goOn_145 rfl (lv_at hl 0 rfl) ?_
      refine gfC_7_4 X hP sC_13 bw_287 dX7_goOn_146 ?_
      refine lv_aload_n hx hb dX7_goOn_149 rfl (lv_at hl 0 rfl) ?_
      refine gfC_7_5 X hP sC_13 bw_288 dX7_goOn_150 ?_
      refine lv_isub hx hb dX7_goOn_153 ?_
      refine lv_bipush (v := 8) hx hb dX7_goOn_154 (by decide) ?_
      refine lv_icmp_le (tgt := 164) hx hb dX7_goOn_156 (by decide) (fun c35 => ?_) (fun c35 => ?_)
      · rw [if_pos c35] at h
        refine lv_aload_n hx hb dX7_goOn_164 rfl (lv_at hl 0 rfl) ?_
        obtain ⟨r36, M37, hc38, h⟩ := bnd_inv h
        refine gV_i (As := []) X hP hS hl.1 (c_X7_keywordOrName l D cA q aK aV hq hc38) sf_X7_keywordOrName bw_623 sv_X7_keywordOrName (rcC_7 sC_13) rfl ⟨rfl, rfl⟩ ⟨Nat.le_of_ble_eq_true rfl, Nat.le_of_ble_eq_true rfl⟩ rfl rfl (Nat.le_of_ble_eq_true rfl) dX7_goOn_165 (fun H locs hP hS => ?_)
        obtain ⟨M39, eM39, h⟩ := lt_inv h
        refine pfC_7_6 X hP hS sC_13 bw_289 eM39 dX7_goOn_168 (fun H locs hP hS => ?_)
        refine lv_goto (tgt := 301) hx hb dX7_goOn_171 (by decide) ?_
        exact end_v X hr hk hP hS h dX7_goOn_301
      · rw [if_neg c35] at h
        refine lv_bipush (v := 30) hx hb dX7_goOn_159 (by decide) ?_
        refine lv_goto (tgt := 168) hx hb dX7_goOn_161 (by decide) ?_
        obtain ⟨M40, eM40, h⟩ := lt_inv h
        refine pfC_7_6 X hP hS sC_13 bw_289 eM40 dX7_goOn_168 (fun H locs hP hS => ?_)
        refine lv_goto (tgt := 301) hx hb dX7_goOn_171 (by decide) ?_
        exact end_v X hr hk hP hS h dX7_goOn_301
  · rw [if_neg c8] at h
    refine lv_aload_n hx hb dX7_goOn_66 rfl (lv_at hl 1 rfl) ?_
    refine lv_bipush (v := 32) hx hb dX7_goOn_67 (by decide) ?_
    obtain ⟨M41, eM41, h⟩ := lt_inv h
    refine pfC_7_6 X hP hS sC_13 bw_289 eM41 dX7_goOn_69 (fun H locs hP hS => ?_)
    refine lv_goto (tgt := 301) hx hb dX7_goOn_72 (by decide) ?_
    exact end_v X hr hk hP hS h dX7_goOn_301
theorem dX7_begin_0 : decode cX7_begin 0 = .ok (.aload_n 0, 1) := by decide +kernel
theorem dX7_begin_1 : decode cX7_begin 1 = .ok (.iload_n 1, 1) := by decide +kernel
theorem dX7_begin_2 : decode cX7_begin 2 = .ok (.putfield 23, 3) := by decide +kernel
theorem dX7_begin_5 : decode cX7_begin 5 = .ok (.aload_n 0, 1) := by decide +kernel
theorem dX7_begin_6 : decode cX7_begin 6 = .ok (.iconst 0, 1) := by decide +kernel
theorem dX7_begin_7 : decode cX7_begin 7 = .ok (.putfield 26, 3) := by decide +kernel
theorem dX7_begin_10 : decode cX7_begin 10 = .ok (.aload_n 0, 1) := by decide +kernel
theorem dX7_begin_11 : decode cX7_begin 11 = .ok (.iconst 0, 1) := by decide +kernel
theorem dX7_begin_12 : decode cX7_begin 12 = .ok (.putfield 42, 3) := by decide +kernel
theorem dX7_begin_15 : decode cX7_begin 15 = .ok (.aload_n 0, 1) := by decide +kernel
theorem dX7_begin_16 : decode cX7_begin 16 = .ok (.iconst (-1), 1) := by decide +kernel
theorem dX7_begin_17 : decode cX7_begin 17 = .ok (.putfield 45, 3) := by decide +kernel
theorem dX7_begin_20 : decode cX7_begin 20 = .ok (.aload_n 0, 1) := by decide +kernel
theorem dX7_begin_21 : decode cX7_begin 21 = .ok (.invokevirtual 68, 3) := by decide +kernel
theorem dX7_begin_24 : decode cX7_begin 24 = .ok (.return_, 1) := by decide +kernel
set_option maxRecDepth 100000 in
set_option maxHeartbeats 8000000 in
theorem c_X7_begin (l : Launch) (D : va_G) (cA : Nat → ClassId) (q aK aV : Nat → Nat) (hq : injG 167 q) {a1 : Int32} {M M0 : Mem} (h : f_X7_begin a1 M = some ((), M0)) : Met l yX7_begin (.code yX7_begin cX7_begin 2 none :: BW) ({ frames := 3, cells := 0, slots := 0, locals := 57 } : Room) (va_Pc [.ref (q 13), .int a1] (CB 167 (ceC cA q) D cA q aK aV M)) (Qv 167 (ceC cA q) D q M0) 0 0 (AqG 167 q) := by
  refine gMet RX7 (by decide +kernel) rfl hq (Nat.le_of_ble_eq_true rfl) ?_
  intro p e s m below meth c ls X hr hk hP hS hl
  have hx := X.1
  have hb := X.2.1
  have hl : lv_has ls 2 [(0, .ref (q 13)), (1, .int a1)] := hl
  rw [f_X7_begin] at h
  refine lv_aload_n hx hb dX7_begin_0 rfl (lv_at hl 0 rfl) ?_
  refine lv_iload_n hx hb dX7_begin_1 rfl (lv_at hl 1 rfl) ?_
  obtain ⟨M1, eM1, h⟩ := lt_inv h
  refine pfC_7_3 X hP hS sC_13 bw_286 eM1 dX7_begin_2 (fun H locs hP hS => ?_)
  refine lv_aload_n hx hb dX7_begin_5 rfl (lv_at hl 0 rfl) ?_
  refine lv_iconst (v := 0) hx hb dX7_begin_6 (by decide) ?_
  obtain ⟨M2, eM2, h⟩ := lt_inv h
  refine pfC_7_4 X hP hS sC_13 bw_287 eM2 dX7_begin_7 (fun H locs hP hS => ?_)
  refine lv_aload_n hx hb dX7_begin_10 rfl (lv_at hl 0 rfl) ?_
  refine lv_iconst (v := 0) hx hb dX7_begin_11 (by decide) ?_
  obtain ⟨M3, eM3, h⟩ := lt_inv h
  refine pfC_7_9 X hP hS sC_13 bw_295 eM3 dX7_begin_12 (fun H locs hP hS => ?_)
  refine lv_aload_n hx hb dX7_begin_15 rfl (lv_at hl 0 rfl) ?_
  refine lv_iconst (v := -1) hx hb dX7_begin_16 (by decide) ?_
  obtain ⟨M4, eM4, h⟩ := lt_inv h
  refine pfC_7_10 X hP hS sC_13 bw_297 eM4 dX7_begin_17 (fun H locs hP hS => ?_)
  refine lv_aload_n hx hb dX7_begin_20 rfl (lv_at hl 0 rfl) ?_
  obtain ⟨_, M6, hc7, h⟩ := bnd_inv h
  refine gV_v (As := []) X hP hS hl.1 (c_X7_goOn l D cA q aK aV hq hc7) sf_X7_goOn bw_609 sv_X7_goOn (rcC_7 sC_13) rfl ⟨rfl, rfl⟩ ⟨Nat.le_of_ble_eq_true rfl, Nat.le_of_ble_eq_true rfl⟩ rfl rfl (Nat.le_of_ble_eq_true rfl) dX7_begin_21 (fun H locs hP hS => ?_)
  exact end_v X hr hk hP hS h dX7_begin_24
theorem dX7_refuse_0 : decode cX7_refuse 0 = .ok (.aload_n 0, 1) := by decide +kernel
theorem dX7_refuse_1 : decode cX7_refuse 1 = .ok (.aload_n 0, 1) := by decide +kernel
theorem dX7_refuse_2 : decode cX7_refuse 2 = .ok (.getfield 32, 3) := by decide +kernel
theorem dX7_refuse_5 : decode cX7_refuse 5 = .ok (.bipush 33, 2) := by decide +kernel
theorem dX7_refuse_7 : decode cX7_refuse 7 = .ok (.if_icmp .ne 7, 3) := by decide +kernel
theorem dX7_refuse_10 : decode cX7_refuse 10 = .ok (.iconst 1, 1) := by decide +kernel
theorem dX7_refuse_11 : decode cX7_refuse 11 = .ok (.goto 4, 3) := by decide +kernel
theorem dX7_refuse_14 : decode cX7_refuse 14 = .ok (.iload_n 1, 1) := by decide +kernel
theorem dX7_refuse_15 : decode cX7_refuse 15 = .ok (.putfield 42, 3) := by decide +kernel
theorem dX7_refuse_18 : decode cX7_refuse 18 = .ok (.aload_n 0, 1) := by decide +kernel
theorem dX7_refuse_19 : decode cX7_refuse 19 = .ok (.aload_n 0, 1) := by decide +kernel
theorem dX7_refuse_20 : decode cX7_refuse 20 = .ok (.getfield 29, 3) := by decide +kernel
theorem dX7_refuse_23 : decode cX7_refuse 23 = .ok (.putfield 45, 3) := by decide +kernel
theorem dX7_refuse_26 : decode cX7_refuse 26 = .ok (.iconst 0, 1) := by decide +kernel
theorem dX7_refuse_27 : decode cX7_refuse 27 = .ok (.ireturn, 1) := by decide +kernel
set_option maxRecDepth 100000 in
set_option maxHeartbeats 8000000 in
theorem c_X7_refuse (l : Launch) (D : va_G) (cA : Nat → ClassId) (q aK aV : Nat → Nat) (hq : injG 167 q) {a1 : Int32} {M M0 : Mem} {r0 : Int32} (h : f_X7_refuse a1 M = some (r0, M0)) : Met l yX7_refuse (.code yX7_refuse cX7_refuse 2 (some .boolean) :: BW) ({ frames := 1, cells := 0, slots := 0, locals := 13 } : Room) (va_Pc [.ref (q 13), .int a1] (CB 167 (ceC cA q) D cA q aK aV M)) (Qi 167 (ceC cA q) D q r0 M0) 0 0 (AqG 167 q) := by
  refine gMet RX7 (by decide +kernel) rfl hq (Nat.le_of_ble_eq_true rfl) ?_
  intro p e s m below meth c ls X hr hk hP hS hl
  have hx := X.1
  have hb := X.2.1
  have hl : lv_has ls 2 [(0, .ref (q 13)), (1, .int a1)] := hl
  rw [f_X7_refuse] at h
  have hJ15 : ∀ (s1 : Int32) (M : Mem) (H : Heap) (locs : List Loc) (ls : Array Slot), f_X7_refuse_J15 s1 M = some (r0, M0) → va_P D vwCl (wsG 167 (ceC cA q) q M) H → va_S (AqG 167 q) s.heap H locs → lv_has ls 2 [(0, .ref (q 13))] → W p l e ({ frames := 1, cells := 0, slots := 0, locals := 13 } : Room) s m [.ref (q 13), .int a1].toArray below meth c H locs 0 0 (MQ below (Qi 167 (ceC cA q) D q r0 M0) [.ref (q 13), .int a1].toArray s 0 0 (AqG 167 q)) (F0 m 15 ls [.int s1, .ref (q 13)]) := by
    intro s1 M H locs ls h hP hS hl
    rw [f_X7_refuse_J15] at h
    obtain ⟨M2, eM2, h⟩ := lt_inv h
    refine pfC_7_9 X hP hS sC_13 bw_295 eM2 dX7_refuse_15 (fun H locs hP hS => ?_)
    refine lv_aload_n hx hb dX7_refuse_18 rfl (lv_at hl 0 rfl) ?_
    refine lv_aload_n hx hb dX7_refuse_19 rfl (lv_at hl 0 rfl) ?_
    refine gfC_7_5 X hP sC_13 bw_288 dX7_refuse_20 ?_
    obtain ⟨M3, eM3, h⟩ := lt_inv h
    refine pfC_7_10 X hP hS sC_13 bw_297 eM3 dX7_refuse_23 (fun H locs hP hS => ?_)
    refine lv_iconst (v := 0) hx hb dX7_refuse_26 (by decide) ?_
    exact end_z X hr hk hP hS (Or.inl rfl) h dX7_refuse_27
  refine lv_aload_n hx hb dX7_refuse_0 rfl (lv_at hl 0 rfl) ?_
  refine lv_aload_n hx hb dX7_refuse_1 rfl (lv_at hl 0 rfl) ?_
  refine gfC_7_6 X hP sC_13 bw_289 dX7_refuse_2 ?_
  refine lv_bipush (v := 33) hx hb dX7_refuse_5 (by decide) ?_
  refine lv_icmp_ne (tgt := 14) hx hb dX7_refuse_7 (by decide) (fun c1 => ?_) (fun c1 => ?_)
  · rw [if_neg c1] at h
    refine lv_iload_n hx hb dX7_refuse_14 rfl (lv_at hl 1 rfl) ?_
    exact hJ15 _ _ _ _ _ h hP hS (lv_sub hl [0] rfl)
  · rw [if_pos c1] at h
    refine lv_iconst (v := 1) hx hb dX7_refuse_10 (by decide) ?_
    refine lv_goto (tgt := 15) hx hb dX7_refuse_11 (by decide) ?_
    exact hJ15 _ _ _ _ _ h hP hS (lv_sub hl [0] rfl)
