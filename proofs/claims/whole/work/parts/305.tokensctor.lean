/-! MAKING: TOKENS (written by wip/gen/ctor.py) -/
def w_X7_init (cA : Nat → ClassId) (h0 : Nat) (u : Nat → Nat) : va_W := [(h0, .inr (7, [.ref (u 1), .ref (u 2), .int 0, .int 0, .int 0, .int 0, .int 32, .long 0, .int 0, .int 0, .int (-1)])), ((u 1), .inl (cA 0, 900, .inl (fun _ => 0))), ((u 2), .inl (cA 1, 29, .inr (.inl (tkA 158).2.2)))]
theorem dX7_init_0 : decode cX7_init 0 = .ok (.aload_n 0, 1) := by decide +kernel
theorem dX7_init_1 : decode cX7_init 1 = .ok (.invokespecial 3, 3) := by decide +kernel
theorem dX7_init_4 : decode cX7_init 4 = .ok (.aload_n 0, 1) := by decide +kernel
theorem dX7_init_5 : decode cX7_init 5 = .ok (.sipush 900, 3) := by decide +kernel
theorem dX7_init_8 : decode cX7_init 8 = .ok (.newarray .int, 2) := by decide +kernel
theorem dX7_init_10 : decode cX7_init 10 = .ok (.putfield 9, 3) := by decide +kernel
theorem dX7_init_13 : decode cX7_init 13 = .ok (.aload_n 0, 1) := by decide +kernel
theorem dX7_init_14 : decode cX7_init 14 = .ok (.bipush 29, 2) := by decide +kernel
theorem dX7_init_16 : decode cX7_init 16 = .ok (.newarray .long, 2) := by decide +kernel
theorem dX7_init_18 : decode cX7_init 18 = .ok (.putfield 15, 3) := by decide +kernel
theorem dX7_init_21 : decode cX7_init 21 = .ok (.aload_n 0, 1) := by decide +kernel
theorem dX7_init_22 : decode cX7_init 22 = .ok (.iconst 0, 1) := by decide +kernel
theorem dX7_init_23 : decode cX7_init 23 = .ok (.putfield 19, 3) := by decide +kernel
theorem dX7_init_26 : decode cX7_init 26 = .ok (.aload_n 0, 1) := by decide +kernel
theorem dX7_init_27 : decode cX7_init 27 = .ok (.iconst 0, 1) := by decide +kernel
theorem dX7_init_28 : decode cX7_init 28 = .ok (.putfield 23, 3) := by decide +kernel
theorem dX7_init_31 : decode cX7_init 31 = .ok (.aload_n 0, 1) := by decide +kernel
theorem dX7_init_32 : decode cX7_init 32 = .ok (.iconst 0, 1) := by decide +kernel
theorem dX7_init_33 : decode cX7_init 33 = .ok (.putfield 26, 3) := by decide +kernel
theorem dX7_init_36 : decode cX7_init 36 = .ok (.aload_n 0, 1) := by decide +kernel
theorem dX7_init_37 : decode cX7_init 37 = .ok (.iconst 0, 1) := by decide +kernel
theorem dX7_init_38 : decode cX7_init 38 = .ok (.putfield 29, 3) := by decide +kernel
theorem dX7_init_41 : decode cX7_init 41 = .ok (.aload_n 0, 1) := by decide +kernel
theorem dX7_init_42 : decode cX7_init 42 = .ok (.bipush 32, 2) := by decide +kernel
theorem dX7_init_44 : decode cX7_init 44 = .ok (.putfield 32, 3) := by decide +kernel
theorem dX7_init_47 : decode cX7_init 47 = .ok (.aload_n 0, 1) := by decide +kernel
theorem dX7_init_48 : decode cX7_init 48 = .ok (.lconst 0, 1) := by decide +kernel
theorem dX7_init_49 : decode cX7_init 49 = .ok (.putfield 35, 3) := by decide +kernel
theorem dX7_init_52 : decode cX7_init 52 = .ok (.aload_n 0, 1) := by decide +kernel
theorem dX7_init_53 : decode cX7_init 53 = .ok (.iconst 0, 1) := by decide +kernel
theorem dX7_init_54 : decode cX7_init 54 = .ok (.putfield 39, 3) := by decide +kernel
theorem dX7_init_57 : decode cX7_init 57 = .ok (.aload_n 0, 1) := by decide +kernel
theorem dX7_init_58 : decode cX7_init 58 = .ok (.iconst 0, 1) := by decide +kernel
theorem dX7_init_59 : decode cX7_init 59 = .ok (.putfield 42, 3) := by decide +kernel
theorem dX7_init_62 : decode cX7_init 62 = .ok (.aload_n 0, 1) := by decide +kernel
theorem dX7_init_63 : decode cX7_init 63 = .ok (.iconst (-1), 1) := by decide +kernel
theorem dX7_init_64 : decode cX7_init 64 = .ok (.putfield 45, 3) := by decide +kernel
theorem dX7_init_67 : decode cX7_init 67 = .ok (.iconst 0, 1) := by decide +kernel
theorem dX7_init_68 : decode cX7_init 68 = .ok (.istore_n 1, 1) := by decide +kernel
theorem dX7_init_69 : decode cX7_init 69 = .ok (.lconst 0, 1) := by decide +kernel
theorem dX7_init_70 : decode cX7_init 70 = .ok (.lstore_n 2, 1) := by decide +kernel
theorem dX7_init_71 : decode cX7_init 71 = .ok (.iconst 0, 1) := by decide +kernel
theorem dX7_init_72 : decode cX7_init 72 = .ok (.istore 4, 2) := by decide +kernel
theorem dX7_init_74 : decode cX7_init 74 = .ok (.iload 4, 2) := by decide +kernel
theorem dX7_init_76 : decode cX7_init 76 = .ok (.ldc 48, 2) := by decide +kernel
theorem dX7_init_78 : decode cX7_init 78 = .ok (.invokevirtual 50, 3) := by decide +kernel
theorem dX7_init_81 : decode cX7_init 81 = .ok (.if_icmp .ge 56, 3) := by decide +kernel
theorem dX7_init_84 : decode cX7_init 84 = .ok (.ldc 48, 2) := by decide +kernel
theorem dX7_init_86 : decode cX7_init 86 = .ok (.iload 4, 2) := by decide +kernel
theorem dX7_init_88 : decode cX7_init 88 = .ok (.invokevirtual 56, 3) := by decide +kernel
theorem dX7_init_91 : decode cX7_init 91 = .ok (.istore 5, 2) := by decide +kernel
theorem dX7_init_93 : decode cX7_init 93 = .ok (.iload 5, 2) := by decide +kernel
theorem dX7_init_95 : decode cX7_init 95 = .ok (.bipush 32, 2) := by decide +kernel
theorem dX7_init_97 : decode cX7_init 97 = .ok (.if_icmp .eq 13, 3) := by decide +kernel
theorem dX7_init_100 : decode cX7_init 100 = .ok (.lload_n 2, 1) := by decide +kernel
theorem dX7_init_101 : decode cX7_init 101 = .ok (.iload 5, 2) := by decide +kernel
theorem dX7_init_103 : decode cX7_init 103 = .ok (.invokestatic 60, 3) := by decide +kernel
theorem dX7_init_106 : decode cX7_init 106 = .ok (.lstore_n 2, 1) := by decide +kernel
theorem dX7_init_107 : decode cX7_init 107 = .ok (.goto 24, 3) := by decide +kernel
theorem dX7_init_110 : decode cX7_init 110 = .ok (.iload_n 1, 1) := by decide +kernel
theorem dX7_init_111 : decode cX7_init 111 = .ok (.aload_n 0, 1) := by decide +kernel
theorem dX7_init_112 : decode cX7_init 112 = .ok (.getfield 15, 3) := by decide +kernel
theorem dX7_init_115 : decode cX7_init 115 = .ok (.arraylength, 1) := by decide +kernel
theorem dX7_init_116 : decode cX7_init 116 = .ok (.if_icmp .ge 15, 3) := by decide +kernel
theorem dX7_init_119 : decode cX7_init 119 = .ok (.aload_n 0, 1) := by decide +kernel
theorem dX7_init_120 : decode cX7_init 120 = .ok (.getfield 15, 3) := by decide +kernel
theorem dX7_init_123 : decode cX7_init 123 = .ok (.iload_n 1, 1) := by decide +kernel
theorem dX7_init_124 : decode cX7_init 124 = .ok (.lload_n 2, 1) := by decide +kernel
theorem dX7_init_125 : decode cX7_init 125 = .ok (.lastore, 1) := by decide +kernel
theorem dX7_init_126 : decode cX7_init 126 = .ok (.iinc 1 1, 3) := by decide +kernel
theorem dX7_init_129 : decode cX7_init 129 = .ok (.lconst 0, 1) := by decide +kernel
theorem dX7_init_130 : decode cX7_init 130 = .ok (.lstore_n 2, 1) := by decide +kernel
theorem dX7_init_131 : decode cX7_init 131 = .ok (.iinc 4 1, 3) := by decide +kernel
theorem dX7_init_134 : decode cX7_init 134 = .ok (.goto (-60), 3) := by decide +kernel
theorem dX7_init_137 : decode cX7_init 137 = .ok (.return_, 1) := by decide +kernel
set_option maxRecDepth 100000 in
set_option maxHeartbeats 8000000 in
theorem k_X7_init (l : Launch) (D : va_G) (cA : Nat → ClassId) (aK aV : Nat → Nat) (h0 sz : Nat) : Met l yX7_init (.code yX7_init cX7_init 6 none :: BW) ({ frames := 6, cells := 2, slots := 929, locals := 200 } : Room) (va_Pc [.ref h0] (KB D cA aK aV [(h0, .inr (7, [.null, .null, .int 0, .int 0, .int 0, .int 0, .int 0, .long 0, .int 0, .int 0, .int 0]))] sz)) (QK D [(h0, .inr (7, [.null, .null, .int 0, .int 0, .int 0, .int 0, .int 0, .long 0, .int 0, .int 0, .int 0]))] sz (w_X7_init cA h0)) 2 929 (va_A [(h0, .inr (7, [.null, .null, .int 0, .int 0, .int 0, .int 0, .int 0, .long 0, .int 0, .int 0, .int 0]))] sz) := by
  refine kMet RX7 (by decide +kernel) rfl rfl (Nat.le_of_ble_eq_true rfl) ?_
  intro p e s m below meth c ls hsz X hr hk hP hD hS hl
  generalize hA : va_A [(h0, .inr (7, [.null, .null, .int 0, .int 0, .int 0, .int 0, .int 0, .long 0, .int 0, .int 0, .int 0]))] sz = A at X hD hS
  have hx := X.1
  have hb := X.2.1
  have hl : lv_has ls 6 [(0, .ref h0)] := hl
  refine lv_aload_n hx hb dX7_init_0 rfl (lv_at hl 0 rfl) ?_
  refine W.objInit hx hb X.2.2.2.1 (X.2.2.2.2.1 _ kw_227) (X.2.2.2.2.1 _ kw_26) (X.2.2.2.2.1 _ kw_27) rfl (by rw [X.2.2.1]; exact hl.1) rfl dX7_init_1 (Nat.le_of_ble_eq_true rfl) (Nat.le_of_ble_eq_true rfl) ?_
  refine W.eq (g2 := F0 m 4 ls []) rfl ?_
  refine lv_aload_n hx hb dX7_init_4 rfl (lv_at hl 0 rfl) ?_
  refine lv_sipush (v := 900) hx hb dX7_init_5 (by decide) ?_
  refine k_arr X hP hD hS (atype := .int) (ty := .int) (t0 := 0) (N' := 900) (a0 := (900, .inl (fun _ => 0))) kw_58 rfl rfl (fun _ h => by cases h) (fun _ => rfl) (by decide) (by decide) (Nat.le_of_ble_eq_true rfl) (Nat.le_of_ble_eq_true rfl) (Nat.le_of_ble_eq_true rfl) dX7_init_8 (fun q1 H hP hD hS => ?_)
  have hP : va_P D vwCl [(h0, .inr (7, [.null, .null, .int 0, .int 0, .int 0, .int 0, .int 0, .long 0, .int 0, .int 0, .int 0])), (q1, .inl (cA 0, 900, .inl (fun _ => 0)))] H := hP
  have hD : va_D A [(h0, .inr (7, [.null, .null, .int 0, .int 0, .int 0, .int 0, .int 0, .long 0, .int 0, .int 0, .int 0])), (q1, .inl (cA 0, 900, .inl (fun _ => 0)))] := hD
  refine va_putF (ci := 7) (v := .ref q1) (T := TX7) (N := 11) (ref := RX7) hx hb (fun w h => X.2.2.2.2.1 w (uwC_7 w h)) (fun w h => h) tyX7 tyX7_ok nmX7 X.2.2.2.1 X.2.2.2.2.2.1 hP hD hS 0 rfl rfl 0 (by decide) (X.2.2.2.2.1 _ kw_282) (fun x h => h) rfl X.2.2.2.2.2.2.2.2.2.1 rfl (ty := tyX7 0) (tyX7_ok 0 (by decide)) rfl rfl (show 0 < 11 by decide) dX7_init_10 (fun H locs hP hD hS => ?_)
  have hP : va_P D vwCl [(h0, .inr (7, [.ref q1, .null, .int 0, .int 0, .int 0, .int 0, .int 0, .long 0, .int 0, .int 0, .int 0])), (q1, .inl (cA 0, 900, .inl (fun _ => 0)))] H := hP
  have hD : va_D A [(h0, .inr (7, [.ref q1, .null, .int 0, .int 0, .int 0, .int 0, .int 0, .long 0, .int 0, .int 0, .int 0])), (q1, .inl (cA 0, 900, .inl (fun _ => 0)))] := hD
  refine lv_aload_n hx hb dX7_init_13 rfl (lv_at hl 0 rfl) ?_
  refine lv_bipush (v := 29) hx hb dX7_init_14 (by decide) ?_
  refine k_arr X hP hD hS (atype := .long) (ty := .long) (t0 := 1) (N' := 29) (a0 := (29, .inr (.inl (fun _ => 0)))) kw_59 rfl rfl (fun _ h => by cases h) (fun _ => rfl) (by decide) (by decide) (Nat.le_of_ble_eq_true rfl) (Nat.le_of_ble_eq_true rfl) (Nat.le_of_ble_eq_true rfl) dX7_init_16 (fun q2 H hP hD hS => ?_)
  have hP : va_P D vwCl [(h0, .inr (7, [.ref q1, .null, .int 0, .int 0, .int 0, .int 0, .int 0, .long 0, .int 0, .int 0, .int 0])), (q1, .inl (cA 0, 900, .inl (fun _ => 0))), (q2, .inl (cA 1, 29, .inr (.inl (fun _ => 0))))] H := hP
  have hD : va_D A [(h0, .inr (7, [.ref q1, .null, .int 0, .int 0, .int 0, .int 0, .int 0, .long 0, .int 0, .int 0, .int 0])), (q1, .inl (cA 0, 900, .inl (fun _ => 0))), (q2, .inl (cA 1, 29, .inr (.inl (fun _ => 0))))] := hD
  refine va_putF (ci := 7) (v := .ref q2) (T := TX7) (N := 11) (ref := RX7) hx hb (fun w h => X.2.2.2.2.1 w (uwC_7 w h)) (fun w h => h) tyX7 tyX7_ok nmX7 X.2.2.2.1 X.2.2.2.2.2.1 hP hD hS 0 rfl rfl 1 (by decide) (X.2.2.2.2.1 _ kw_283) (fun x h => h) rfl X.2.2.2.2.2.2.2.2.2.1 rfl (ty := tyX7 1) (tyX7_ok 1 (by decide)) rfl rfl (show 1 < 11 by decide) dX7_init_18 (fun H locs hP hD hS => ?_)
  have hP : va_P D vwCl [(h0, .inr (7, [.ref q1, .ref q2, .int 0, .int 0, .int 0, .int 0, .int 0, .long 0, .int 0, .int 0, .int 0])), (q1, .inl (cA 0, 900, .inl (fun _ => 0))), (q2, .inl (cA 1, 29, .inr (.inl (fun _ => 0))))] H := hP
  have hD : va_D A [(h0, .inr (7, [.ref q1, .ref q2, .int 0, .int 0, .int 0, .int 0, .int 0, .long 0, .int 0, .int 0, .int 0])), (q1, .inl (cA 0, 900, .inl (fun _ => 0))), (q2, .inl (cA 1, 29, .inr (.inl (fun _ => 0))))] := hD
  refine lv_aload_n hx hb dX7_init_21 rfl (lv_at hl 0 rfl) ?_
  refine lv_iconst (v := 0) hx hb dX7_init_22 (by decide) ?_
  refine va_put (ci := 7) (v := .int 0) (T := TX7) (N := 11) (ref := RX7) hx hb (fun w h => X.2.2.2.2.1 w (uwC_7 w h)) (fun w h => h) tyX7 tyX7_ok nmX7 X.2.2.2.1 X.2.2.2.2.2.1 hP hD hS 0 rfl rfl 2 (by decide) (X.2.2.2.2.1 _ kw_284) (fun x h => h) rfl (ty := tyX7 2) (tyX7_ok 2 (by decide)) rfl rfl (show 2 < 11 by decide) dX7_init_23 (fun H locs hP hD hS => ?_)
  have hP : va_P D vwCl [(h0, .inr (7, [.ref q1, .ref q2, .int 0, .int 0, .int 0, .int 0, .int 0, .long 0, .int 0, .int 0, .int 0])), (q1, .inl (cA 0, 900, .inl (fun _ => 0))), (q2, .inl (cA 1, 29, .inr (.inl (fun _ => 0))))] H := hP
  have hD : va_D A [(h0, .inr (7, [.ref q1, .ref q2, .int 0, .int 0, .int 0, .int 0, .int 0, .long 0, .int 0, .int 0, .int 0])), (q1, .inl (cA 0, 900, .inl (fun _ => 0))), (q2, .inl (cA 1, 29, .inr (.inl (fun _ => 0))))] := hD
  refine lv_aload_n hx hb dX7_init_26 rfl (lv_at hl 0 rfl) ?_
  refine lv_iconst (v := 0) hx hb dX7_init_27 (by decide) ?_
  refine va_put (ci := 7) (v := .int 0) (T := TX7) (N := 11) (ref := RX7) hx hb (fun w h => X.2.2.2.2.1 w (uwC_7 w h)) (fun w h => h) tyX7 tyX7_ok nmX7 X.2.2.2.1 X.2.2.2.2.2.1 hP hD hS 0 rfl rfl 3 (by decide) (X.2.2.2.2.1 _ kw_286) (fun x h => h) rfl (ty := tyX7 3) (tyX7_ok 3 (by decide)) rfl rfl (show 3 < 11 by decide) dX7_init_28 (fun H locs hP hD hS => ?_)
  have hP : va_P D vwCl [(h0, .inr (7, [.ref q1, .ref q2, .int 0, .int 0, .int 0, .int 0, .int 0, .long 0, .int 0, .int 0, .int 0])), (q1, .inl (cA 0, 900, .inl (fun _ => 0))), (q2, .inl (cA 1, 29, .inr (.inl (fun _ => 0))))] H := hP
  have hD : va_D A [(h0, .inr (7, [.ref q1, .ref q2, .int 0, .int 0, .int 0, .int 0, .int 0, .long 0, .int 0, .int 0, .int 0])), (q1, .inl (cA 0, 900, .inl (fun _ => 0))), (q2, .inl (cA 1, 29, .inr (.inl (fun _ => 0))))] := hD
  refine lv_aload_n hx hb dX7_init_31 rfl (lv_at hl 0 rfl) ?_
  refine lv_iconst (v := 0) hx hb dX7_init_32 (by decide) ?_
  refine va_put (ci := 7) (v := .int 0) (T := TX7) (N := 11) (ref := RX7) hx hb (fun w h => X.2.2.2.2.1 w (uwC_7 w h)) (fun w h => h) tyX7 tyX7_ok nmX7 X.2.2.2.1 X.2.2.2.2.2.1 hP hD hS 0 rfl rfl 4 (by decide) (X.2.2.2.2.1 _ kw_287) (fun x h => h) rfl (ty := tyX7 4) (tyX7_ok 4 (by decide)) rfl rfl (show 4 < 11 by decide) dX7_init_33 (fun H locs hP hD hS => ?_)
  have hP : va_P D vwCl [(h0, .inr (7, [.ref q1, .ref q2, .int 0, .int 0, .int 0, .int 0, .int 0, .long 0, .int 0, .int 0, .int 0])), (q1, .inl (cA 0, 900, .inl (fun _ => 0))), (q2, .inl (cA 1, 29, .inr (.inl (fun _ => 0))))] H := hP
  have hD : va_D A [(h0, .inr (7, [.ref q1, .ref q2, .int 0, .int 0, .int 0, .int 0, .int 0, .long 0, .int 0, .int 0, .int 0])), (q1, .inl (cA 0, 900, .inl (fun _ => 0))), (q2, .inl (cA 1, 29, .inr (.inl (fun _ => 0))))] := hD
  refine lv_aload_n hx hb dX7_init_36 rfl (lv_at hl 0 rfl) ?_
  refine lv_iconst (v := 0) hx hb dX7_init_37 (by decide) ?_
  refine va_put (ci := 7) (v := .int 0) (T := TX7) (N := 11) (ref := RX7) hx hb (fun w h => X.2.2.2.2.1 w (uwC_7 w h)) (fun w h => h) tyX7 tyX7_ok nmX7 X.2.2.2.1 X.2.2.2.2.2.1 hP hD hS 0 rfl rfl 5 (by decide) (X.2.2.2.2.1 _ kw_288) (fun x h => h) rfl (ty := tyX7 5) (tyX7_ok 5 (by decide)) rfl rfl (show 5 < 11 by decide) dX7_init_38 (fun H locs hP hD hS => ?_)
  have hP : va_P D vwCl [(h0, .inr (7, [.ref q1, .ref q2, .int 0, .int 0, .int 0, .int 0, .int 0, .long 0, .int 0, .int 0, .int 0])), (q1, .inl (cA 0, 900, .inl (fun _ => 0))), (q2, .inl (cA 1, 29, .inr (.inl (fun _ => 0))))] H := hP
  have hD : va_D A [(h0, .inr (7, [.ref q1, .ref q2, .int 0, .int 0, .int 0, .int 0, .int 0, .long 0, .int 0, .int 0, .int 0])), (q1, .inl (cA 0, 900, .inl (fun _ => 0))), (q2, .inl (cA 1, 29, .inr (.inl (fun _ => 0))))] := hD
  refine lv_aload_n hx hb dX7_init_41 rfl (lv_at hl 0 rfl) ?_
  refine lv_bipush (v := 32) hx hb dX7_init_42 (by decide) ?_
  refine va_put (ci := 7) (v := .int 32) (T := TX7) (N := 11) (ref := RX7) hx hb (fun w h => X.2.2.2.2.1 w (uwC_7 w h)) (fun w h => h) tyX7 tyX7_ok nmX7 X.2.2.2.1 X.2.2.2.2.2.1 hP hD hS 0 rfl rfl 6 (by decide) (X.2.2.2.2.1 _ kw_289) (fun x h => h) rfl (ty := tyX7 6) (tyX7_ok 6 (by decide)) rfl rfl (show 6 < 11 by decide) dX7_init_44 (fun H locs hP hD hS => ?_)
  have hP : va_P D vwCl [(h0, .inr (7, [.ref q1, .ref q2, .int 0, .int 0, .int 0, .int 0, .int 32, .long 0, .int 0, .int 0, .int 0])), (q1, .inl (cA 0, 900, .inl (fun _ => 0))), (q2, .inl (cA 1, 29, .inr (.inl (fun _ => 0))))] H := hP
  have hD : va_D A [(h0, .inr (7, [.ref q1, .ref q2, .int 0, .int 0, .int 0, .int 0, .int 32, .long 0, .int 0, .int 0, .int 0])), (q1, .inl (cA 0, 900, .inl (fun _ => 0))), (q2, .inl (cA 1, 29, .inr (.inl (fun _ => 0))))] := hD
  refine lv_aload_n hx hb dX7_init_47 rfl (lv_at hl 0 rfl) ?_
  refine lv_lconst (v := 0) hx hb dX7_init_48 (by decide) ?_
  refine va_put (ci := 7) (v := .long 0) (T := TX7) (N := 11) (ref := RX7) hx hb (fun w h => X.2.2.2.2.1 w (uwC_7 w h)) (fun w h => h) tyX7 tyX7_ok nmX7 X.2.2.2.1 X.2.2.2.2.2.1 hP hD hS 0 rfl rfl 7 (by decide) (X.2.2.2.2.1 _ kw_291) (fun x h => h) rfl (ty := tyX7 7) (tyX7_ok 7 (by decide)) rfl rfl (show 7 < 11 by decide) dX7_init_49 (fun H locs hP hD hS => ?_)
  have hP : va_P D vwCl [(h0, .inr (7, [.ref q1, .ref q2, .int 0, .int 0, .int 0, .int 0, .int 32, .long 0, .int 0, .int 0, .int 0])), (q1, .inl (cA 0, 900, .inl (fun _ => 0))), (q2, .inl (cA 1, 29, .inr (.inl (fun _ => 0))))] H := hP
  have hD : va_D A [(h0, .inr (7, [.ref q1, .ref q2, .int 0, .int 0, .int 0, .int 0, .int 32, .long 0, .int 0, .int 0, .int 0])), (q1, .inl (cA 0, 900, .inl (fun _ => 0))), (q2, .inl (cA 1, 29, .inr (.inl (fun _ => 0))))] := hD
  refine lv_aload_n hx hb dX7_init_52 rfl (lv_at hl 0 rfl) ?_
  refine lv_iconst (v := 0) hx hb dX7_init_53 (by decide) ?_
  refine va_put (ci := 7) (v := .int 0) (T := TX7) (N := 11) (ref := RX7) hx hb (fun w h => X.2.2.2.2.1 w (uwC_7 w h)) (fun w h => h) tyX7 tyX7_ok nmX7 X.2.2.2.1 X.2.2.2.2.2.1 hP hD hS 0 rfl rfl 8 (by decide) (X.2.2.2.2.1 _ kw_293) (fun x h => h) rfl (ty := tyX7 8) (tyX7_ok 8 (by decide)) rfl rfl (show 8 < 11 by decide) dX7_init_54 (fun H locs hP hD hS => ?_)
  have hP : va_P D vwCl [(h0, .inr (7, [.ref q1, .ref q2, .int 0, .int 0, .int 0, .int 0, .int 32, .long 0, .int 0, .int 0, .int 0])), (q1, .inl (cA 0, 900, .inl (fun _ => 0))), (q2, .inl (cA 1, 29, .inr (.inl (fun _ => 0))))] H := hP
  have hD : va_D A [(h0, .inr (7, [.ref q1, .ref q2, .int 0, .int 0, .int 0, .int 0, .int 32, .long 0, .int 0, .int 0, .int 0])), (q1, .inl (cA 0, 900, .inl (fun _ => 0))), (q2, .inl (cA 1, 29, .inr (.inl (fun _ => 0))))] := hD
  refine lv_aload_n hx hb dX7_init_57 rfl (lv_at hl 0 rfl) ?_
  refine lv_iconst (v := 0) hx hb dX7_init_58 (by decide) ?_
  refine va_put (ci := 7) (v := .int 0) (T := TX7) (N := 11) (ref := RX7) hx hb (fun w h => X.2.2.2.2.1 w (uwC_7 w h)) (fun w h => h) tyX7 tyX7_ok nmX7 X.2.2.2.1 X.2.2.2.2.2.1 hP hD hS 0 rfl rfl 9 (by decide) (X.2.2.2.2.1 _ kw_295) (fun x h => h) rfl (ty := tyX7 9) (tyX7_ok 9 (by decide)) rfl rfl (show 9 < 11 by decide) dX7_init_59 (fun H locs hP hD hS => ?_)
  have hP : va_P D vwCl [(h0, .inr (7, [.ref q1, .ref q2, .int 0, .int 0, .int 0, .int 0, .int 32, .long 0, .int 0, .int 0, .int 0])), (q1, .inl (cA 0, 900, .inl (fun _ => 0))), (q2, .inl (cA 1, 29, .inr (.inl (fun _ => 0))))] H := hP
  have hD : va_D A [(h0, .inr (7, [.ref q1, .ref q2, .int 0, .int 0, .int 0, .int 0, .int 32, .long 0, .int 0, .int 0, .int 0])), (q1, .inl (cA 0, 900, .inl (fun _ => 0))), (q2, .inl (cA 1, 29, .inr (.inl (fun _ => 0))))] := hD
  refine lv_aload_n hx hb dX7_init_62 rfl (lv_at hl 0 rfl) ?_
  refine lv_iconst (v := -1) hx hb dX7_init_63 (by decide) ?_
  refine va_put (ci := 7) (v := .int (-1)) (T := TX7) (N := 11) (ref := RX7) hx hb (fun w h => X.2.2.2.2.1 w (uwC_7 w h)) (fun w h => h) tyX7 tyX7_ok nmX7 X.2.2.2.1 X.2.2.2.2.2.1 hP hD hS 0 rfl rfl 10 (by decide) (X.2.2.2.2.1 _ kw_297) (fun x h => h) rfl (ty := tyX7 10) (tyX7_ok 10 (by decide)) rfl rfl (show 10 < 11 by decide) dX7_init_64 (fun H locs hP hD hS => ?_)
  have hP : va_P D vwCl [(h0, .inr (7, [.ref q1, .ref q2, .int 0, .int 0, .int 0, .int 0, .int 32, .long 0, .int 0, .int 0, .int (-1)])), (q1, .inl (cA 0, 900, .inl (fun _ => 0))), (q2, .inl (cA 1, 29, .inr (.inl (fun _ => 0))))] H := hP
  have hD : va_D A [(h0, .inr (7, [.ref q1, .ref q2, .int 0, .int 0, .int 0, .int 0, .int 32, .long 0, .int 0, .int 0, .int (-1)])), (q1, .inl (cA 0, 900, .inl (fun _ => 0))), (q2, .inl (cA 1, 29, .inr (.inl (fun _ => 0))))] := hD
  refine lv_iconst (v := 0) hx hb dX7_init_67 (by decide) ?_
  refine lv_istore_n (lv' := [(1, .int 0), (0, .ref h0)]) hx hb dX7_init_68 rfl hl (by decide) rfl (fun ls hl => ?_)
  refine lv_lconst (v := 0) hx hb dX7_init_69 (by decide) ?_
  refine lv_lstore_n (lv' := [(2, .long 0), (1, .int 0), (0, .ref h0)]) hx hb dX7_init_70 rfl hl (by decide) rfl (fun ls hl => ?_)
  refine lv_iconst (v := 0) hx hb dX7_init_71 (by decide) ?_
  refine lv_istore (lv' := [(4, .int 0), (2, .long 0), (1, .int 0), (0, .ref h0)]) hx hb dX7_init_72 hl (by decide) rfl (fun ls hl => ?_)
  have loop : ∀ (dd i : Nat) (H : Heap) (locs : List Loc) (ls : Array Slot), i + dd = 158 → va_P D vwCl [(h0, .inr (7, [.ref q1, .ref q2, .int 0, .int 0, .int 0, .int 0, .int 32, .long 0, .int 0, .int 0, .int (-1)])), (q1, .inl (cA 0, 900, .inl (fun _ => 0))), (q2, .inl (cA 1, 29, .inr (.inl (tkA i).2.2)))] H → va_D A [(h0, .inr (7, [.ref q1, .ref q2, .int 0, .int 0, .int 0, .int 0, .int 32, .long 0, .int 0, .int 0, .int (-1)])), (q1, .inl (cA 0, 900, .inl (fun _ => 0))), (q2, .inl (cA 1, 29, .inr (.inl (tkA i).2.2)))] → va_S A s.heap H locs → lv_has ls 6 [(4, .int (nI i)), (2, .long (tkA i).2.1), (1, .int (nI (tkA i).1)), (0, .ref h0)] → W p l e ({ frames := 6, cells := 2, slots := 929, locals := 200 } : Room) s m [Value.ref h0].toArray below meth c H locs (0 + 1 + 1) (0 + 900 + 29) (MQ below (QK D [(h0, .inr (7, [.null, .null, .int 0, .int 0, .int 0, .int 0, .int 0, .long 0, .int 0, .int 0, .int 0]))] sz (w_X7_init cA h0)) [Value.ref h0].toArray s 2 929 A) (F0 m 74 ls []) := by
    intro dd
    induction dd with
    | zero =>
      intro i H locs ls hi hP hD hS hl
      obtain rfl : i = 158 := by omega
      refine lv_iload hx hb dX7_init_74 (lv_at hl 0 rfl) ?_
      refine va_ldcS hx hb X.2.2.2.1 X.2.2.2.2.2.2.2.2.1.2.2.2.2.1 dX7_init_76 ?_
      refine k_K (As := []) (r := 158) X hP hD hS hl.1 (c_J0_length_8abf5 l D cA (fun _ => 0) aK aV (N := 0) (ce := ceN) (fun _ _ h => absurd h (Nat.not_lt_zero _)) (i := 0) (M := m0) (by decide) rfl) sf_J0_length_8abf5 kw_229 sv_J0_length_8abf5 (by decide) ⟨rfl, rfl⟩ ⟨Nat.le_of_ble_eq_true rfl, Nat.le_of_ble_eq_true rfl⟩ rfl rfl (Nat.le_of_ble_eq_true rfl) dX7_init_78 ⟨Nat.le_of_ble_eq_true rfl, Nat.le_of_ble_eq_true rfl⟩ (fun H locs hP hD hS => ?_)
      refine lv_icmp_ge (tgt := 137) hx hb dX7_init_81 (by decide) (fun _ => ?_) (fun hc => absurd (show (158 : Int32) ≤ nI 158 by decide) hc)
      subst hA
      exact kend (wX := w_X7_init cA h0) X hr hk (fun k => match k with | 1 => q1 | 2 => q2 | _ => 0) hP hD hS (Nat.le_of_ble_eq_true rfl) (Nat.le_of_ble_eq_true rfl) dX7_init_137
    | succ dd ih =>
      intro i H locs ls hi hP hD hS hl
      have hi8 : i < 158 := by omega
      have hkn := tkA_le i
      have hsS := tkA_s hi8
      refine lv_iload hx hb dX7_init_74 (lv_at hl 0 rfl) ?_
      refine va_ldcS hx hb X.2.2.2.1 X.2.2.2.2.2.2.2.2.1.2.2.2.2.1 dX7_init_76 ?_
      refine k_K (As := []) (r := 158) X hP hD hS hl.1 (c_J0_length_8abf5 l D cA (fun _ => 0) aK aV (N := 0) (ce := ceN) (fun _ _ h => absurd h (Nat.not_lt_zero _)) (i := 0) (M := m0) (by decide) rfl) sf_J0_length_8abf5 kw_229 sv_J0_length_8abf5 (by decide) ⟨rfl, rfl⟩ ⟨Nat.le_of_ble_eq_true rfl, Nat.le_of_ble_eq_true rfl⟩ rfl rfl (Nat.le_of_ble_eq_true rfl) dX7_init_78 ⟨Nat.le_of_ble_eq_true rfl, Nat.le_of_ble_eq_true rfl⟩ (fun H locs hP hD hS => ?_)
      refine lv_icmp_ge (tgt := 137) hx hb dX7_init_81 (by decide) (fun hc => absurd hc (show ¬ (158 : Int32) ≤ nI i from nI_ge (b := 158) hi8 (by omega))) (fun _ => ?_)
      refine va_ldcS hx hb X.2.2.2.1 X.2.2.2.2.2.2.2.2.1.2.2.2.2.1 dX7_init_84 ?_
      refine lv_iload hx hb dX7_init_86 (lv_at hl 0 rfl) ?_
      refine k_K (As := [.int (nI i)]) (r := bkA i) X hP hD hS hl.1 (c_J0_charAt_5068e l D cA (fun _ => 0) aK aV (N := 0) (ce := ceN) (fun _ _ h => absurd h (Nat.not_lt_zero _)) (i := 0) (M := m0) (M0 := m0) (by decide) (chr_bk hi8)) sf_J0_charAt_5068e kw_239 sv_J0_charAt_5068e (by decide) ⟨rfl, rfl⟩ ⟨Nat.le_of_ble_eq_true rfl, Nat.le_of_ble_eq_true rfl⟩ rfl rfl (Nat.le_of_ble_eq_true rfl) dX7_init_88 ⟨Nat.le_of_ble_eq_true rfl, Nat.le_of_ble_eq_true rfl⟩ (fun H locs hP hD hS => ?_)
      refine lv_istore (lv' := [(5, .int (bkA i)), (4, .int (nI i)), (2, .long (tkA i).2.1), (1, .int (nI (tkA i).1)), (0, .ref h0)]) hx hb dX7_init_91 hl (by decide) rfl (fun ls hl => ?_)
      -- behind the letter
      have tail : ∀ (H : Heap) (locs : List Loc) (ls : Array Slot), va_P D vwCl [(h0, .inr (7, [.ref q1, .ref q2, .int 0, .int 0, .int 0, .int 0, .int 32, .long 0, .int 0, .int 0, .int (-1)])), (q1, .inl (cA 0, 900, .inl (fun _ => 0))), (q2, .inl (cA 1, 29, .inr (.inl (tkA (i + 1)).2.2)))] H → va_D A [(h0, .inr (7, [.ref q1, .ref q2, .int 0, .int 0, .int 0, .int 0, .int 32, .long 0, .int 0, .int 0, .int (-1)])), (q1, .inl (cA 0, 900, .inl (fun _ => 0))), (q2, .inl (cA 1, 29, .inr (.inl (tkA (i + 1)).2.2)))] → va_S A s.heap H locs → lv_has ls 6 [(4, .int (nI i)), (2, .long (tkA (i + 1)).2.1), (1, .int (nI (tkA (i + 1)).1)), (0, .ref h0)] → W p l e ({ frames := 6, cells := 2, slots := 929, locals := 200 } : Room) s m [Value.ref h0].toArray below meth c H locs (0 + 1 + 1) (0 + 900 + 29) (MQ below (QK D [(h0, .inr (7, [.null, .null, .int 0, .int 0, .int 0, .int 0, .int 0, .long 0, .int 0, .int 0, .int 0]))] sz (w_X7_init cA h0)) [Value.ref h0].toArray s 2 929 A) (F0 m 131 ls []) := by
        intro H locs ls hP hD hS hl
        refine lv_iinc (v := nI (i + 1)) (lv' := [(4, .int (nI (i + 1))), (2, .long (tkA (i + 1)).2.1), (1, .int (nI (tkA (i + 1)).1)), (0, .ref h0)]) hx hb dX7_init_131 hl (k := 0) rfl (nI_1 i) (by decide) rfl (fun ls hl => ?_)
        refine lv_goto (tgt := 74) hx hb dX7_init_134 (by decide) ?_
        exact ih (i + 1) H locs ls (by omega) hP hD hS hl
      refine lv_iload hx hb dX7_init_93 (lv_at hl 0 rfl) ?_
      refine lv_bipush (v := 32) hx hb dX7_init_95 (by decide) ?_
      refine lv_icmp_eq (tgt := 110) hx hb dX7_init_97 (by decide) (fun hc => ?_) (fun hc => ?_)
      · rw [tkS, if_pos hc] at hsS
        refine lv_iload_n hx hb dX7_init_110 rfl (lv_at hl 3 rfl) ?_
        refine lv_aload_n hx hb dX7_init_111 rfl (lv_at hl 4 rfl) ?_
        refine va_get (T := TX7) (N := 11) (ci := 7) (ref := RX7) (v := .ref q2) hx hb (fun w h => X.2.2.2.2.1 w (uwC_7 w h)) (fun w h => h) X.2.2.2.1 X.2.2.2.2.2.1 hP 0 rfl rfl 1 (by decide) (X.2.2.2.2.1 _ kw_283) (fun x h => h) rfl dX7_init_112 ?_
        refine va_alen hx hb X.2.2.2.2.2.1 hP 2 1 rfl rfl (v := 29) rfl dX7_init_115 ?_
        refine lv_icmp_ge (tgt := 131) hx hb dX7_init_116 (by decide) (fun hc2 => ?_) (fun hc2 => ?_)
        · have hge : ¬ (tkA i).1 < 29 := fun q => absurd hc2 (show ¬ (29 : Int32) ≤ nI (tkA i).1 from nI_ge (b := 29) q (by omega))
          rw [if_neg hge] at hsS
          rw [← hsS] at hP hD hl
          exact tail H locs ls hP hD hS (lv_sub hl [1, 2, 3, 4] rfl)
        · have hlt : (tkA i).1 < 29 := Decidable.byContradiction fun q => hc2 (show (29 : Int32) ≤ nI (tkA i).1 from nI_le (a := 29) (by omega) (by omega))
          rw [if_pos hlt] at hsS
          refine lv_aload_n hx hb dX7_init_119 rfl (lv_at hl 4 rfl) ?_
          refine va_get (T := TX7) (N := 11) (ci := 7) (ref := RX7) (v := .ref q2) hx hb (fun w h => X.2.2.2.2.1 w (uwC_7 w h)) (fun w h => h) X.2.2.2.1 X.2.2.2.2.2.1 hP 0 rfl rfl 1 (by decide) (X.2.2.2.2.1 _ kw_283) (fun x h => h) rfl dX7_init_120 ?_
          refine lv_iload_n hx hb dX7_init_123 rfl (lv_at hl 3 rfl) ?_
          refine lv_lload_n hx hb dX7_init_124 rfl (lv_at hl 2 rfl) ?_
          refine va_last hx hb X.2.2.2.2.2.1 hP hD hS 2 1 rfl rfl (vp_in_nI hlt (by decide)) dX7_init_125 (fun H locs hP hD hS => ?_)
          refine lv_iinc (v := nI ((tkA i).1 + 1)) (lv' := [(1, .int (nI ((tkA i).1 + 1))), (5, .int (bkA i)), (4, .int (nI i)), (2, .long (tkA i).2.1), (0, .ref h0)]) hx hb dX7_init_126 hl (k := 3) rfl (nI_1 _) (by decide) rfl (fun ls hl => ?_)
          refine lv_lconst (v := 0) hx hb dX7_init_129 (by decide) ?_
          refine lv_lstore_n (lv' := [(2, .long 0), (1, .int (nI ((tkA i).1 + 1))), (5, .int (bkA i)), (4, .int (nI i)), (0, .ref h0)]) hx hb dX7_init_130 rfl hl (by decide) rfl (fun ls hl => ?_)
          have hl := lv_sub hl [3, 0, 1, 4] rfl
          refine tail H locs ls ?_ ?_ hS ?_
          · rw [hsS]; rw [nI_clamp (by omega)] at hP; exact hP
          · rw [hsS]; rw [nI_clamp (by omega)] at hD; exact hD
          · rw [hsS]; exact hl
      · rw [tkS, if_neg hc] at hsS
        refine lv_lload_n hx hb dX7_init_100 rfl (lv_at hl 2 rfl) ?_
        refine lv_iload hx hb dX7_init_101 (lv_at hl 0 rfl) ?_
        refine k_S (As := [.long (tkA i).2.1, .int (bkA i)]) (r := wlC (tkA i).2.1 (bkA i)) X hP hD hS hl.1 (c_wl l D cA (fun _ => 0) aK aV (N := 0) (ce := ceN) (fun _ _ h => absurd h (Nat.not_lt_zero _)) (M := m0)) sf_X7_withLetter kw_277 bw_278 ⟨rfl, rfl⟩ ⟨Nat.le_of_ble_eq_true rfl, Nat.le_of_ble_eq_true rfl⟩ rfl rfl (Nat.le_of_ble_eq_true rfl) dX7_init_103 ⟨Nat.le_of_ble_eq_true rfl, Nat.le_of_ble_eq_true rfl⟩ (fun H locs hP hD hS => ?_)
        refine lv_lstore_n (lv' := [(2, .long (wlC (tkA i).2.1 (bkA i))), (5, .int (bkA i)), (4, .int (nI i)), (1, .int (nI (tkA i).1)), (0, .ref h0)]) hx hb dX7_init_106 rfl hl (by decide) rfl (fun ls hl => ?_)
        refine lv_goto (tgt := 131) hx hb dX7_init_107 (by decide) ?_
        have hl := lv_sub hl [2, 0, 3, 4] rfl
        refine tail H locs ls ?_ ?_ hS ?_
        · rw [hsS]; exact hP
        · rw [hsS]; exact hD
        · rw [hsS]; exact hl
  exact loop 158 0 H locs ls (by omega) hP hD hS hl
