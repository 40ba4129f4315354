theorem dJ0_length_8abf5_0 : decode cJ0_length_8abf5 0 = .ok (.aload_n 0, 1) := by decide +kernel
theorem dJ0_length_8abf5_1 : decode cJ0_length_8abf5 1 = .ok (.getfield 9, 3) := by decide +kernel
theorem dJ0_length_8abf5_4 : decode cJ0_length_8abf5 4 = .ok (.arraylength, 1) := by decide +kernel
theorem dJ0_length_8abf5_5 : decode cJ0_length_8abf5 5 = .ok (.aload_n 0, 1) := by decide +kernel
theorem dJ0_length_8abf5_6 : decode cJ0_length_8abf5 6 = .ok (.invokevirtual 335, 3) := by decide +kernel
theorem dJ0_length_8abf5_9 : decode cJ0_length_8abf5 9 = .ok (.ishr, 1) := by decide +kernel
theorem dJ0_length_8abf5_10 : decode cJ0_length_8abf5 10 = .ok (.ireturn, 1) := by decide +kernel
theorem dJ0_charAt_5068e_0 : decode cJ0_charAt_5068e 0 = .ok (.aload_n 0, 1) := by decide +kernel
theorem dJ0_charAt_5068e_1 : decode cJ0_charAt_5068e 1 = .ok (.invokevirtual 492, 3) := by decide +kernel
theorem dJ0_charAt_5068e_4 : decode cJ0_charAt_5068e 4 = .ok (.ifCond .eq 12, 3) := by decide +kernel
theorem dJ0_charAt_5068e_7 : decode cJ0_charAt_5068e 7 = .ok (.aload_n 0, 1) := by decide +kernel
theorem dJ0_charAt_5068e_8 : decode cJ0_charAt_5068e 8 = .ok (.getfield 9, 3) := by decide +kernel
theorem dJ0_charAt_5068e_11 : decode cJ0_charAt_5068e 11 = .ok (.iload_n 1, 1) := by decide +kernel
theorem dJ0_charAt_5068e_12 : decode cJ0_charAt_5068e 12 = .ok (.invokestatic 495, 3) := by decide +kernel
theorem dJ0_charAt_5068e_15 : decode cJ0_charAt_5068e 15 = .ok (.ireturn, 1) := by decide +kernel
theorem dJ0_coder_7d493_0 : decode cJ0_coder_7d493 0 = .ok (.getstatic 38, 3) := by decide +kernel
theorem dJ0_coder_7d493_3 : decode cJ0_coder_7d493 3 = .ok (.ifCond .eq 10, 3) := by decide +kernel
theorem dJ0_coder_7d493_6 : decode cJ0_coder_7d493 6 = .ok (.aload_n 0, 1) := by decide +kernel
theorem dJ0_coder_7d493_7 : decode cJ0_coder_7d493 7 = .ok (.getfield 15, 3) := by decide +kernel
theorem dJ0_coder_7d493_10 : decode cJ0_coder_7d493 10 = .ok (.goto 4, 3) := by decide +kernel
theorem dJ0_coder_7d493_14 : decode cJ0_coder_7d493 14 = .ok (.ireturn, 1) := by decide +kernel
theorem dJ0_isLatin1_aae02_0 : decode cJ0_isLatin1_aae02 0 = .ok (.getstatic 38, 3) := by decide +kernel
theorem dJ0_isLatin1_aae02_3 : decode cJ0_isLatin1_aae02 3 = .ok (.ifCond .eq 14, 3) := by decide +kernel
theorem dJ0_isLatin1_aae02_6 : decode cJ0_isLatin1_aae02 6 = .ok (.aload_n 0, 1) := by decide +kernel
theorem dJ0_isLatin1_aae02_7 : decode cJ0_isLatin1_aae02 7 = .ok (.getfield 15, 3) := by decide +kernel
theorem dJ0_isLatin1_aae02_10 : decode cJ0_isLatin1_aae02 10 = .ok (.ifCond .ne 7, 3) := by decide +kernel
theorem dJ0_isLatin1_aae02_13 : decode cJ0_isLatin1_aae02 13 = .ok (.iconst 1, 1) := by decide +kernel
theorem dJ0_isLatin1_aae02_14 : decode cJ0_isLatin1_aae02 14 = .ok (.goto 4, 3) := by decide +kernel
theorem dJ0_isLatin1_aae02_18 : decode cJ0_isLatin1_aae02 18 = .ok (.ireturn, 1) := by decide +kernel
theorem dJ0_checkIndex_df160_0 : decode cJ0_checkIndex_df160 0 = .ok (.iload_n 0, 1) := by decide +kernel
theorem dJ0_checkIndex_df160_1 : decode cJ0_checkIndex_df160 1 = .ok (.iload_n 1, 1) := by decide +kernel
theorem dJ0_checkIndex_df160_2 : decode cJ0_checkIndex_df160 2 = .ok (.getstatic 1053, 3) := by decide +kernel
theorem dJ0_checkIndex_df160_5 : decode cJ0_checkIndex_df160 5 = .ok (.invokestatic 1059, 3) := by decide +kernel
theorem dJ0_checkIndex_df160_8 : decode cJ0_checkIndex_df160 8 = .ok (.pop, 1) := by decide +kernel
theorem dJ0_checkIndex_df160_9 : decode cJ0_checkIndex_df160 9 = .ok (.return_, 1) := by decide +kernel
theorem dJ1_charAt_3b067_0 : decode cJ1_charAt_3b067 0 = .ok (.iload_n 1, 1) := by decide +kernel
theorem dJ1_charAt_3b067_1 : decode cJ1_charAt_3b067 1 = .ok (.aload_n 0, 1) := by decide +kernel
theorem dJ1_charAt_3b067_2 : decode cJ1_charAt_3b067 2 = .ok (.arraylength, 1) := by decide +kernel
theorem dJ1_charAt_3b067_3 : decode cJ1_charAt_3b067 3 = .ok (.invokestatic 9, 3) := by decide +kernel
theorem dJ1_charAt_3b067_6 : decode cJ1_charAt_3b067 6 = .ok (.aload_n 0, 1) := by decide +kernel
theorem dJ1_charAt_3b067_7 : decode cJ1_charAt_3b067 7 = .ok (.iload_n 1, 1) := by decide +kernel
theorem dJ1_charAt_3b067_8 : decode cJ1_charAt_3b067 8 = .ok (.baload, 1) := by decide +kernel
theorem dJ1_charAt_3b067_9 : decode cJ1_charAt_3b067 9 = .ok (.sipush 255, 3) := by decide +kernel
theorem dJ1_charAt_3b067_12 : decode cJ1_charAt_3b067 12 = .ok (.iand, 1) := by decide +kernel
theorem dJ1_charAt_3b067_13 : decode cJ1_charAt_3b067 13 = .ok (.i2c, 1) := by decide +kernel
theorem dJ1_charAt_3b067_14 : decode cJ1_charAt_3b067 14 = .ok (.ireturn, 1) := by decide +kernel
theorem dJ3_checkIndex_8e157_0 : decode cJ3_checkIndex_8e157 0 = .ok (.iload_n 0, 1) := by decide +kernel
theorem dJ3_checkIndex_8e157_1 : decode cJ3_checkIndex_8e157 1 = .ok (.ifCond .lt 8, 3) := by decide +kernel
theorem dJ3_checkIndex_8e157_4 : decode cJ3_checkIndex_8e157 4 = .ok (.iload_n 0, 1) := by decide +kernel
theorem dJ3_checkIndex_8e157_5 : decode cJ3_checkIndex_8e157 5 = .ok (.iload_n 1, 1) := by decide +kernel
theorem dJ3_checkIndex_8e157_6 : decode cJ3_checkIndex_8e157 6 = .ok (.if_icmp .lt 10, 3) := by decide +kernel
theorem dJ3_checkIndex_8e157_16 : decode cJ3_checkIndex_8e157 16 = .ok (.iload_n 0, 1) := by decide +kernel
theorem dJ3_checkIndex_8e157_17 : decode cJ3_checkIndex_8e157 17 = .ok (.ireturn, 1) := by decide +kernel
set_option maxRecDepth 100000 in
set_option maxHeartbeats 8000000 in
theorem c_pre_N (l : Launch) (D : va_G) (cA : Nat → ClassId) (q aK aV : Nat → Nat) {N : Nat} {ce : CeT} (hq : injG N q) {t : Nat} {a b : Int32} {M : Mem} (h1 : ¬ a < 0) (h2 : a < b) : Met l yJ3_checkIndex_8e157 (.code yJ3_checkIndex_8e157 cJ3_checkIndex_8e157 3 (some .int) :: BW) ({ frames := 1, cells := 0, slots := 0, locals := 14 } : Room) (va_Pc [.int a, .int b, .null] (CB N ce D cA q aK aV M)) (Qi N ce D q a M) 0 0 (AqG N q) := by
  refine gMet RJ3 (by decide +kernel) rfl hq (Nat.le_of_ble_eq_true rfl) ?_
  intro p e s m below meth c ls X hr hk hP hS hl
  have hx := X.1
  have hb := X.2.1
  have hl : lv_has ls 3 [(0, .int a), (1, .int b), (2, .null)] := hl
  refine lv_iload_n hx hb dJ3_checkIndex_8e157_0 rfl (lv_at hl 0 rfl) ?_
  refine lv_if_lt (tgt := 9) hx hb dJ3_checkIndex_8e157_1 (by decide) (fun c1 => absurd c1 h1) (fun _ => ?_)
  refine lv_iload_n hx hb dJ3_checkIndex_8e157_4 rfl (lv_at hl 0 rfl) ?_
  refine lv_iload_n hx hb dJ3_checkIndex_8e157_5 rfl (lv_at hl 1 rfl) ?_
  refine lv_icmp_lt (tgt := 16) hx hb dJ3_checkIndex_8e157_6 (by decide) (fun _ => ?_) (fun c1 => absurd h2 c1)
  refine lv_iload_n hx hb dJ3_checkIndex_8e157_16 rfl (lv_at hl 0 rfl) ?_
  exact end_i X hr hk hP hS rfl dJ3_checkIndex_8e157_17
set_option maxRecDepth 100000 in
set_option maxHeartbeats 8000000 in
theorem c_pre_R (l : Launch) (D : va_G) (cA : Nat → ClassId) (q aK aV : Nat → Nat) {N : Nat} {ce : CeT} (hq : injG N q) {t : Nat} {a b : Int32} {M : Mem} (h1 : ¬ a < 0) (h2 : a < b) : Met l yJ3_checkIndex_8e157 (.code yJ3_checkIndex_8e157 cJ3_checkIndex_8e157 3 (some .int) :: BW) ({ frames := 1, cells := 0, slots := 0, locals := 14 } : Room) (va_Pc [.int a, .int b, .ref t] (CB N ce D cA q aK aV M)) (Qi N ce D q a M) 0 0 (AqG N q) := by
  refine gMet RJ3 (by decide +kernel) rfl hq (Nat.le_of_ble_eq_true rfl) ?_
  intro p e s m below meth c ls X hr hk hP hS hl
  have hx := X.1
  have hb := X.2.1
  have hl : lv_has ls 3 [(0, .int a), (1, .int b), (2, .ref t)] := hl
  refine lv_iload_n hx hb dJ3_checkIndex_8e157_0 rfl (lv_at hl 0 rfl) ?_
  refine lv_if_lt (tgt := 9) hx hb dJ3_checkIndex_8e157_1 (by decide) (fun c1 => absurd c1 h1) (fun _ => ?_)
  refine lv_iload_n hx hb dJ3_checkIndex_8e157_4 rfl (lv_at hl 0 rfl) ?_
  refine lv_iload_n hx hb dJ3_checkIndex_8e157_5 rfl (lv_at hl 1 rfl) ?_
  refine lv_icmp_lt (tgt := 16) hx hb dJ3_checkIndex_8e157_6 (by decide) (fun _ => ?_) (fun c1 => absurd h2 c1)
  refine lv_iload_n hx hb dJ3_checkIndex_8e157_16 rfl (lv_at hl 0 rfl) ?_
  exact end_i X hr hk hP hS rfl dJ3_checkIndex_8e157_17
set_option maxRecDepth 100000 in
set_option maxHeartbeats 8000000 in
theorem c_chk (l : Launch) (D : va_G) (cA : Nat → ClassId) (q aK aV : Nat → Nat) {N : Nat} {ce : CeT} (hq : injG N q) {a b : Int32} {M : Mem} (h1 : ¬ a < 0) (h2 : a < b) : Met l yJ0_checkIndex_df160 (.code yJ0_checkIndex_df160 cJ0_checkIndex_df160 2 none :: BW) ({ frames := 2, cells := 0, slots := 0, locals := 36 } : Room) (va_Pc [.int a, .int b] (CB N ce D cA q aK aV M)) (Qv N ce D q M) 0 0 (AqG N q) := by
  refine gMet RJ0 (by decide +kernel) rfl hq (Nat.le_of_ble_eq_true rfl) ?_
  intro p e s m below meth c ls X hr hk hP hS hl
  have hx := X.1
  have hb := X.2.1
  have hl : lv_has ls 2 [(0, .int a), (1, .int b)] := hl
  refine lv_iload_n hx hb dJ0_checkIndex_df160_0 rfl (lv_at hl 0 rfl) ?_
  refine lv_iload_n hx hb dJ0_checkIndex_df160_1 rfl (lv_at hl 1 rfl) ?_
  rcases X_fmt X with hz | ⟨t, hz⟩
  · skip
    refine va_gets hx hb hz hS X.2.2.2.1 (X.2.2.2.2.1 _ bw_253) (fun x h => h) dJ0_checkIndex_df160_2 ?_
    refine gS_i (As := [.int a, .int b, .null]) X hP hS hl.1 (c_pre_N l D cA q aK aV hq (t := 0) h1 h2) sf_J3_checkIndex_8e157 bw_255 ss_J3_checkIndex_8e157 ⟨rfl, rfl⟩ ⟨Nat.le_of_ble_eq_true rfl, Nat.le_of_ble_eq_true rfl⟩ rfl rfl (Nat.le_of_ble_eq_true rfl) dJ0_checkIndex_df160_5 (fun H locs hP hS => ?_)
    refine lv_pop hx hb dJ0_checkIndex_df160_8 rfl ?_
    exact end_v X hr hk hP hS rfl dJ0_checkIndex_df160_9
  · skip
    refine va_gets hx hb hz hS X.2.2.2.1 (X.2.2.2.2.1 _ bw_253) (fun x h => h) dJ0_checkIndex_df160_2 ?_
    refine gS_i (As := [.int a, .int b, .ref t]) X hP hS hl.1 (c_pre_R l D cA q aK aV hq (t := t) h1 h2) sf_J3_checkIndex_8e157 bw_255 ss_J3_checkIndex_8e157 ⟨rfl, rfl⟩ ⟨Nat.le_of_ble_eq_true rfl, Nat.le_of_ble_eq_true rfl⟩ rfl rfl (Nat.le_of_ble_eq_true rfl) dJ0_checkIndex_df160_5 (fun H locs hP hS => ?_)
    refine lv_pop hx hb dJ0_checkIndex_df160_8 rfl ?_
    exact end_v X hr hk hP hS rfl dJ0_checkIndex_df160_9
set_option maxRecDepth 100000 in
set_option maxHeartbeats 8000000 in
theorem c_l1 (l : Launch) (D : va_G) (cA : Nat → ClassId) (q aK aV : Nat → Nat) {N : Nat} {ce : CeT} (hq : injG N q) {i : Nat} (hi : i < 2) {a : Int32} {M : Mem} (h1 : ¬ a < 0) (h2 : a < Int32.ofNat (lenKS.getD i 0)) (h3 : vp_in a (lenKS.getD i 0)) : Met l yJ1_charAt_3b067 (.code yJ1_charAt_3b067 cJ1_charAt_3b067 2 (some .char) :: BW) ({ frames := 3, cells := 0, slots := 0, locals := 60 } : Room) (va_Pc [.ref (aV i), .int a] (CB N ce D cA q aK aV M)) (Qi N ce D q ((bytKS.getD i []).getD a.toNatClampNeg 0 &&& 255) M) 0 0 (AqG N q) := by
  refine gMet RJ1 (by decide +kernel) rfl hq (Nat.le_of_ble_eq_true rfl) ?_
  intro p e s m below meth c ls X hr hk hP hS hl
  have hx := X.1
  have hb := X.2.1
  have hl : lv_has ls 2 [(0, .ref (aV i)), (1, .int a)] := hl
  have hT := ((X_str X).1 i hi).2.2.2
  refine lv_iload_n hx hb dJ1_charAt_3b067_0 rfl (lv_at hl 1 rfl) ?_
  refine lv_aload_n hx hb dJ1_charAt_3b067_1 rfl (lv_at hl 0 rfl) ?_
  refine va_tlen hx hb hT hS rfl dJ1_charAt_3b067_2 ?_
  refine gS_v (As := [.int a, .int (Int32.ofNat (lenKS.getD i 0))]) X hP hS hl.1 (c_chk l D cA q aK aV hq h1 h2) sf_J0_checkIndex_df160 bw_250 ss_J0_checkIndex_df160 ⟨rfl, rfl⟩ ⟨Nat.le_of_ble_eq_true rfl, Nat.le_of_ble_eq_true rfl⟩ rfl rfl (Nat.le_of_ble_eq_true rfl) dJ1_charAt_3b067_3 (fun H locs hP hS => ?_)
  refine lv_aload_n hx hb dJ1_charAt_3b067_6 rfl (lv_at hl 0 rfl) ?_
  refine lv_iload_n hx hb dJ1_charAt_3b067_7 rfl (lv_at hl 1 rfl) ?_
  refine va_tb hx hb hT hS h3 rfl dJ1_charAt_3b067_8 ?_
  refine lv_sipush (v := 255) hx hb dJ1_charAt_3b067_9 (by decide) ?_
  refine lv_iand hx hb dJ1_charAt_3b067_12 ?_
  refine lv_i2c hx hb (v := (bytKS.getD i []).getD a.toNatClampNeg 0 &&& 255) dJ1_charAt_3b067_13 (sc_c2 _) ?_
  exact end_n X hr hk hP hS (sc_nar _) rfl dJ1_charAt_3b067_14
set_option maxRecDepth 100000 in
set_option maxHeartbeats 8000000 in
theorem c_lat (l : Launch) (D : va_G) (cA : Nat → ClassId) (q aK aV : Nat → Nat) {N : Nat} {ce : CeT} (hq : injG N q) {i : Nat} (hi : i < 2) {M : Mem} : Met l yJ0_isLatin1_aae02 (.code yJ0_isLatin1_aae02 cJ0_isLatin1_aae02 1 (some .boolean) :: BW) ({ frames := 1, cells := 0, slots := 0, locals := 12 } : Room) (va_Pc [.ref (aK i)] (CB N ce D cA q aK aV M)) (Qi N ce D q 1 M) 0 0 (AqG N q) := by
  refine gMet RJ0 (by decide +kernel) rfl hq (Nat.le_of_ble_eq_true rfl) ?_
  intro p e s m below meth c ls X hr hk hP hS hl
  have hx := X.1
  have hb := X.2.1
  have hl : lv_has ls 1 [(0, .ref (aK i))] := hl
  refine va_gets hx hb (X_cmp X) hS X.2.2.2.1 (X.2.2.2.2.1 _ bw_237) (fun x h => h) dJ0_isLatin1_aae02_0 ?_
  refine lv_if_eq (tgt := 17) hx hb dJ0_isLatin1_aae02_3 (by decide) (fun c1 => absurd c1 (by decide)) (fun _ => ?_)
  refine lv_aload_n hx hb dJ0_isLatin1_aae02_6 rfl (lv_at hl 0 rfl) ?_
  refine vk_getf hx hb ((X_str X).1 i hi).2.1 hS X.2.2.2.1 (X.2.2.2.2.1 _ bw_2120) (fun x h => h) dJ0_isLatin1_aae02_7 ?_
  refine lv_if_ne (tgt := 17) hx hb dJ0_isLatin1_aae02_10 (by decide) (fun c1 => absurd rfl c1) (fun _ => ?_)
  refine lv_iconst (v := 1) hx hb dJ0_isLatin1_aae02_13 (by decide) ?_
  refine lv_goto (tgt := 18) hx hb dJ0_isLatin1_aae02_14 (by decide) ?_
  exact end_z X hr hk hP hS (Or.inr rfl) rfl dJ0_isLatin1_aae02_18
set_option maxRecDepth 100000 in
set_option maxHeartbeats 8000000 in
theorem c_cod (l : Launch) (D : va_G) (cA : Nat → ClassId) (q aK aV : Nat → Nat) {N : Nat} {ce : CeT} (hq : injG N q) {i : Nat} (hi : i < 2) {M : Mem} : Met l yJ0_coder_7d493 (.code yJ0_coder_7d493 cJ0_coder_7d493 1 (some .byte) :: BW) ({ frames := 1, cells := 0, slots := 0, locals := 12 } : Room) (va_Pc [.ref (aK i)] (CB N ce D cA q aK aV M)) (Qi N ce D q 0 M) 0 0 (AqG N q) := by
  refine gMet RJ0 (by decide +kernel) rfl hq (Nat.le_of_ble_eq_true rfl) ?_
  intro p e s m below meth c ls X hr hk hP hS hl
  have hx := X.1
  have hb := X.2.1
  have hl : lv_has ls 1 [(0, .ref (aK i))] := hl
  refine va_gets hx hb (X_cmp X) hS X.2.2.2.1 (X.2.2.2.2.1 _ bw_237) (fun x h => h) dJ0_coder_7d493_0 ?_
  refine lv_if_eq (tgt := 13) hx hb dJ0_coder_7d493_3 (by decide) (fun c1 => absurd c1 (by decide)) (fun _ => ?_)
  refine lv_aload_n hx hb dJ0_coder_7d493_6 rfl (lv_at hl 0 rfl) ?_
  refine vk_getf hx hb ((X_str X).1 i hi).2.1 hS X.2.2.2.1 (X.2.2.2.2.1 _ bw_2120) (fun x h => h) dJ0_coder_7d493_7 ?_
  refine lv_goto (tgt := 14) hx hb dJ0_coder_7d493_10 (by decide) ?_
  exact end_n X hr hk hP hS rfl rfl dJ0_coder_7d493_14
set_option maxRecDepth 100000 in
set_option maxHeartbeats 8000000 in
theorem c_J0_length_8abf5 (l : Launch) (D : va_G) (cA : Nat → ClassId) (q aK aV : Nat → Nat) {N : Nat} {ce : CeT} (hq : injG N q) {i : Nat} (hi : i < 2) {M M0 : Mem} {r0 : Int32} (h : fS_len i M = some (r0, M0)) : Met l yJ0_length_8abf5 (.code yJ0_length_8abf5 cJ0_length_8abf5 1 (some .int) :: BW) ({ frames := 2, cells := 0, slots := 0, locals := 80 } : Room) (va_Pc [.ref (aK i)] (CB N ce D cA q aK aV M)) (Qi N ce D q r0 M0) 0 0 (AqG N q) := by
  refine gMet RJ0 (by decide +kernel) rfl hq (Nat.le_of_ble_eq_true rfl) ?_
  intro p e s m below meth c ls X hr hk hP hS hl
  have hx := X.1
  have hb := X.2.1
  have hl : lv_has ls 1 [(0, .ref (aK i))] := hl
  refine lv_aload_n hx hb dJ0_length_8abf5_0 rfl (lv_at hl 0 rfl) ?_
  refine vk_getf hx hb ((X_str X).1 i hi).2.2.1 hS X.2.2.2.1 (X.2.2.2.2.1 _ bw_2119) (fun x h => h) dJ0_length_8abf5_1 ?_
  refine va_tlen hx hb ((X_str X).1 i hi).2.2.2 hS rfl dJ0_length_8abf5_4 ?_
  refine lv_aload_n hx hb dJ0_length_8abf5_5 rfl (lv_at hl 0 rfl) ?_
  refine gK_i (As := []) X hP hS hl.1 (c_cod l D cA q aK aV hq hi) sf_J0_coder_7d493 bw_233 sv_J0_coder_7d493 hi rfl ⟨rfl, rfl⟩ ⟨Nat.le_of_ble_eq_true rfl, Nat.le_of_ble_eq_true rfl⟩ rfl rfl (Nat.le_of_ble_eq_true rfl) dJ0_length_8abf5_6 (fun H locs hP hS => ?_)
  refine lv_ishr hx hb dJ0_length_8abf5_9 ?_
  refine topE (y := Int32.ofNat (lenKS.getD i 0)) (by rcases (show i = 0 ∨ i = 1 by omega) with rfl | rfl <;> decide +kernel) ?_
  exact end_i X hr hk hP hS h dJ0_length_8abf5_10
set_option maxRecDepth 100000 in
set_option maxHeartbeats 8000000 in
theorem c_J0_charAt_5068e (l : Launch) (D : va_G) (cA : Nat → ClassId) (q aK aV : Nat → Nat) {N : Nat} {ce : CeT} (hq : injG N q) {i : Nat} (hi : i < 2) {a : Int32} {M M0 : Mem} {r0 : Int32} (h : fS_chr i a M = some (r0, M0)) : Met l yJ0_charAt_5068e (.code yJ0_charAt_5068e cJ0_charAt_5068e 2 (some .char) :: BW) ({ frames := 4, cells := 0, slots := 0, locals := 160 } : Room) (va_Pc [.ref (aK i), .int a] (CB N ce D cA q aK aV M)) (Qi N ce D q r0 M0) 0 0 (AqG N q) := by
  refine gMet RJ0 (by decide +kernel) rfl hq (Nat.le_of_ble_eq_true rfl) ?_
  intro p e s m below meth c ls X hr hk hP hS hl
  have hx := X.1
  have hb := X.2.1
  have hl : lv_has ls 2 [(0, .ref (aK i)), (1, .int a)] := hl
  obtain ⟨hin, h⟩ := gd_inv h
  have h1 : ¬ a < 0 := fun z => hin (Or.inl z)
  have hlen : lenKS.getD i 0 < 2 ^ 31 := by rcases (show i = 0 ∨ i = 1 by omega) with rfl | rfl <;> decide +kernel
  have h2 : a < Int32.ofNat (lenKS.getD i 0) := by
    obtain ⟨j, hj, rfl⟩ := vp_in_of (x := a) hin hlen
    exact nI_lt hj hlen
  refine lv_aload_n hx hb dJ0_charAt_5068e_0 rfl (lv_at hl 0 rfl) ?_
  refine gK_i (As := []) X hP hS hl.1 (c_lat l D cA q aK aV hq hi) sf_J0_isLatin1_aae02 bw_243 sv_J0_isLatin1_aae02 hi rfl ⟨rfl, rfl⟩ ⟨Nat.le_of_ble_eq_true rfl, Nat.le_of_ble_eq_true rfl⟩ rfl rfl (Nat.le_of_ble_eq_true rfl) dJ0_charAt_5068e_1 (fun H locs hP hS => ?_)
  refine lv_if_eq (tgt := 16) hx hb dJ0_charAt_5068e_4 (by decide) (fun c1 => absurd c1 (by decide)) (fun _ => ?_)
  refine lv_aload_n hx hb dJ0_charAt_5068e_7 rfl (lv_at hl 0 rfl) ?_
  refine vk_getf hx hb ((X_str X).1 i hi).2.2.1 hS X.2.2.2.1 (X.2.2.2.2.1 _ bw_2119) (fun x h => h) dJ0_charAt_5068e_8 ?_
  refine lv_iload_n hx hb dJ0_charAt_5068e_11 rfl (lv_at hl 1 rfl) ?_
  refine gS_i (As := [.ref (aV i), .int a]) X hP hS hl.1 (c_l1 l D cA q aK aV hq hi h1 h2 hin) sf_J1_charAt_3b067 bw_247 ss_J1_charAt_3b067 ⟨rfl, rfl⟩ ⟨Nat.le_of_ble_eq_true rfl, Nat.le_of_ble_eq_true rfl⟩ rfl rfl (Nat.le_of_ble_eq_true rfl) dJ0_charAt_5068e_12 (fun H locs hP hS => ?_)
  exact end_n X hr hk hP hS (sc_nar _) h dJ0_charAt_5068e_15
