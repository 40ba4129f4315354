/-! MAKING: the small ones (written by wip/gen/ctor.py) -/
def w_X5_init (cA : Nat → ClassId) (h0 : Nat) (u : Nat → Nat) : va_W := [(h0, .inr (5, [.int 2, .int 0, .int 0, .int 0, .int 0]))]
theorem dX5_init_0 : decode cX5_init 0 = .ok (.aload_n 0, 1) := by decide +kernel
theorem dX5_init_1 : decode cX5_init 1 = .ok (.invokespecial 3, 3) := by decide +kernel
theorem dX5_init_4 : decode cX5_init 4 = .ok (.aload_n 0, 1) := by decide +kernel
theorem dX5_init_5 : decode cX5_init 5 = .ok (.iconst 2, 1) := by decide +kernel
theorem dX5_init_6 : decode cX5_init 6 = .ok (.putfield 9, 3) := by decide +kernel
theorem dX5_init_9 : decode cX5_init 9 = .ok (.aload_n 0, 1) := by decide +kernel
theorem dX5_init_10 : decode cX5_init 10 = .ok (.iconst 0, 1) := by decide +kernel
theorem dX5_init_11 : decode cX5_init 11 = .ok (.putfield 15, 3) := by decide +kernel
theorem dX5_init_14 : decode cX5_init 14 = .ok (.aload_n 0, 1) := by decide +kernel
theorem dX5_init_15 : decode cX5_init 15 = .ok (.iconst 0, 1) := by decide +kernel
theorem dX5_init_16 : decode cX5_init 16 = .ok (.putfield 18, 3) := by decide +kernel
theorem dX5_init_19 : decode cX5_init 19 = .ok (.aload_n 0, 1) := by decide +kernel
theorem dX5_init_20 : decode cX5_init 20 = .ok (.iconst 0, 1) := by decide +kernel
theorem dX5_init_21 : decode cX5_init 21 = .ok (.putfield 21, 3) := by decide +kernel
theorem dX5_init_24 : decode cX5_init 24 = .ok (.aload_n 0, 1) := by decide +kernel
theorem dX5_init_25 : decode cX5_init 25 = .ok (.iconst 0, 1) := by decide +kernel
theorem dX5_init_26 : decode cX5_init 26 = .ok (.putfield 24, 3) := by decide +kernel
theorem dX5_init_29 : decode cX5_init 29 = .ok (.return_, 1) := by decide +kernel
set_option maxRecDepth 100000 in
set_option maxHeartbeats 8000000 in
theorem k_X5_init (l : Launch) (D : va_G) (cA : Nat → ClassId) (aK aV : Nat → Nat) (h0 sz : Nat) : Met l yX5_init (.code yX5_init cX5_init 1 none :: BW) ({ frames := 1, cells := 0, slots := 0, locals := 12 } : Room) (va_Pc [.ref h0] (KB D cA aK aV [(h0, .inr (5, [.int 0, .int 0, .int 0, .int 0, .int 0]))] sz)) (QK D [(h0, .inr (5, [.int 0, .int 0, .int 0, .int 0, .int 0]))] sz (w_X5_init cA h0)) 0 0 (va_A [(h0, .inr (5, [.int 0, .int 0, .int 0, .int 0, .int 0]))] sz) := by
  refine kMet RX5 (by decide +kernel) rfl rfl (Nat.le_of_ble_eq_true rfl) ?_
  intro p e s m below meth c ls hsz X hr hk hP hD hS hl
  generalize hA : va_A [(h0, .inr (5, [.int 0, .int 0, .int 0, .int 0, .int 0]))] sz = A at X hD hS ⊢
  have hx := X.1
  have hb := X.2.1
  have hl : lv_has ls 1 [(0, .ref h0)] := hl
  refine lv_aload_n hx hb dX5_init_0 rfl (lv_at hl 0 rfl) ?_
  refine W.objInit hx hb X.2.2.2.1 (X.2.2.2.2.1 _ kw_110) (X.2.2.2.2.1 _ kw_26) (X.2.2.2.2.1 _ kw_27) rfl (by rw [X.2.2.1]; exact hl.1) rfl dX5_init_1 (Nat.le_of_ble_eq_true rfl) (Nat.le_of_ble_eq_true rfl) ?_
  refine W.eq (g2 := F0 m 4 ls []) rfl ?_
  refine lv_aload_n hx hb dX5_init_4 rfl (lv_at hl 0 rfl) ?_
  refine lv_iconst (v := 2) hx hb dX5_init_5 (by decide) ?_
  refine va_put (ci := 5) (v := .int 2) (T := TX5) (N := 5) (ref := RX5) hx hb (fun w h => X.2.2.2.2.1 w (uwC_5 w h)) (fun w h => h) tyX5 tyX5_ok nmX5 X.2.2.2.1 X.2.2.2.2.2.1 hP hD hS 0 rfl rfl 0 (by decide) (X.2.2.2.2.1 _ kw_111) (fun x h => h) rfl (ty := tyX5 0) (tyX5_ok 0 (by decide)) rfl rfl (show 0 < 5 by decide) dX5_init_6 (fun H locs hP hD hS => ?_)
  have hP : va_P D vwCl [(h0, .inr (5, [.int 2, .int 0, .int 0, .int 0, .int 0]))] H := hP
  have hD : va_D A [(h0, .inr (5, [.int 2, .int 0, .int 0, .int 0, .int 0]))] := hD
  refine lv_aload_n hx hb dX5_init_9 rfl (lv_at hl 0 rfl) ?_
  refine lv_iconst (v := 0) hx hb dX5_init_10 (by decide) ?_
  refine va_put (ci := 5) (v := .int 0) (T := TX5) (N := 5) (ref := RX5) hx hb (fun w h => X.2.2.2.2.1 w (uwC_5 w h)) (fun w h => h) tyX5 tyX5_ok nmX5 X.2.2.2.1 X.2.2.2.2.2.1 hP hD hS 0 rfl rfl 1 (by decide) (X.2.2.2.2.1 _ kw_115) (fun x h => h) rfl (ty := tyX5 1) (tyX5_ok 1 (by decide)) rfl rfl (show 1 < 5 by decide) dX5_init_11 (fun H locs hP hD hS => ?_)
  have hP : va_P D vwCl [(h0, .inr (5, [.int 2, .int 0, .int 0, .int 0, .int 0]))] H := hP
  have hD : va_D A [(h0, .inr (5, [.int 2, .int 0, .int 0, .int 0, .int 0]))] := hD
  refine lv_aload_n hx hb dX5_init_14 rfl (lv_at hl 0 rfl) ?_
  refine lv_iconst (v := 0) hx hb dX5_init_15 (by decide) ?_
  refine va_put (ci := 5) (v := .int 0) (T := TX5) (N := 5) (ref := RX5) hx hb (fun w h => X.2.2.2.2.1 w (uwC_5 w h)) (fun w h => h) tyX5 tyX5_ok nmX5 X.2.2.2.1 X.2.2.2.2.2.1 hP hD hS 0 rfl rfl 2 (by decide) (X.2.2.2.2.1 _ kw_120) (fun x h => h) rfl (ty := tyX5 2) (tyX5_ok 2 (by decide)) rfl rfl (show 2 < 5 by decide) dX5_init_16 (fun H locs hP hD hS => ?_)
  have hP : va_P D vwCl [(h0, .inr (5, [.int 2, .int 0, .int 0, .int 0, .int 0]))] H := hP
  have hD : va_D A [(h0, .inr (5, [.int 2, .int 0, .int 0, .int 0, .int 0]))] := hD
  refine lv_aload_n hx hb dX5_init_19 rfl (lv_at hl 0 rfl) ?_
  refine lv_iconst (v := 0) hx hb dX5_init_20 (by decide) ?_
  refine va_put (ci := 5) (v := .int 0) (T := TX5) (N := 5) (ref := RX5) hx hb (fun w h => X.2.2.2.2.1 w (uwC_5 w h)) (fun w h => h) tyX5 tyX5_ok nmX5 X.2.2.2.1 X.2.2.2.2.2.1 hP hD hS 0 rfl rfl 3 (by decide) (X.2.2.2.2.1 _ kw_125) (fun x h => h) rfl (ty := tyX5 3) (tyX5_ok 3 (by decide)) rfl rfl (show 3 < 5 by decide) dX5_init_21 (fun H locs hP hD hS => ?_)
  have hP : va_P D vwCl [(h0, .inr (5, [.int 2, .int 0, .int 0, .int 0, .int 0]))] H := hP
  have hD : va_D A [(h0, .inr (5, [.int 2, .int 0, .int 0, .int 0, .int 0]))] := hD
  refine lv_aload_n hx hb dX5_init_24 rfl (lv_at hl 0 rfl) ?_
  refine lv_iconst (v := 0) hx hb dX5_init_25 (by decide) ?_
  refine va_put (ci := 5) (v := .int 0) (T := TX5) (N := 5) (ref := RX5) hx hb (fun w h => X.2.2.2.2.1 w (uwC_5 w h)) (fun w h => h) tyX5 tyX5_ok nmX5 X.2.2.2.1 X.2.2.2.2.2.1 hP hD hS 0 rfl rfl 4 (by decide) (X.2.2.2.2.1 _ kw_129) (fun x h => h) rfl (ty := tyX5 4) (tyX5_ok 4 (by decide)) rfl rfl (show 4 < 5 by decide) dX5_init_26 (fun H locs hP hD hS => ?_)
  have hP : va_P D vwCl [(h0, .inr (5, [.int 2, .int 0, .int 0, .int 0, .int 0]))] H := hP
  have hD : va_D A [(h0, .inr (5, [.int 2, .int 0, .int 0, .int 0, .int 0]))] := hD
  subst hA
  exact kend (wX := w_X5_init cA h0) X hr hk (fun _ => 0) hP hD hS (Nat.le_of_ble_eq_true rfl) (Nat.le_of_ble_eq_true rfl) dX5_init_29
def w_X6_init (cA : Nat → ClassId) (h0 : Nat) (u : Nat → Nat) : va_W := [(h0, .inr (6, [.int 0, .int 0, .int (-1), .int (-1), .int 0, .int 99, .int (-1), .int 0, .int 9]))]
theorem dX6_init_0 : decode cX6_init 0 = .ok (.aload_n 0, 1) := by decide +kernel
theorem dX6_init_1 : decode cX6_init 1 = .ok (.invokespecial 3, 3) := by decide +kernel
theorem dX6_init_4 : decode cX6_init 4 = .ok (.aload_n 0, 1) := by decide +kernel
theorem dX6_init_5 : decode cX6_init 5 = .ok (.iconst 0, 1) := by decide +kernel
theorem dX6_init_6 : decode cX6_init 6 = .ok (.putfield 9, 3) := by decide +kernel
theorem dX6_init_9 : decode cX6_init 9 = .ok (.aload_n 0, 1) := by decide +kernel
theorem dX6_init_10 : decode cX6_init 10 = .ok (.iconst 0, 1) := by decide +kernel
theorem dX6_init_11 : decode cX6_init 11 = .ok (.putfield 15, 3) := by decide +kernel
theorem dX6_init_14 : decode cX6_init 14 = .ok (.aload_n 0, 1) := by decide +kernel
theorem dX6_init_15 : decode cX6_init 15 = .ok (.iconst (-1), 1) := by decide +kernel
theorem dX6_init_16 : decode cX6_init 16 = .ok (.putfield 18, 3) := by decide +kernel
theorem dX6_init_19 : decode cX6_init 19 = .ok (.aload_n 0, 1) := by decide +kernel
theorem dX6_init_20 : decode cX6_init 20 = .ok (.iconst (-1), 1) := by decide +kernel
theorem dX6_init_21 : decode cX6_init 21 = .ok (.putfield 21, 3) := by decide +kernel
theorem dX6_init_24 : decode cX6_init 24 = .ok (.aload_n 0, 1) := by decide +kernel
theorem dX6_init_25 : decode cX6_init 25 = .ok (.iconst 0, 1) := by decide +kernel
theorem dX6_init_26 : decode cX6_init 26 = .ok (.putfield 24, 3) := by decide +kernel
theorem dX6_init_29 : decode cX6_init 29 = .ok (.aload_n 0, 1) := by decide +kernel
theorem dX6_init_30 : decode cX6_init 30 = .ok (.bipush 99, 2) := by decide +kernel
theorem dX6_init_32 : decode cX6_init 32 = .ok (.putfield 27, 3) := by decide +kernel
theorem dX6_init_35 : decode cX6_init 35 = .ok (.aload_n 0, 1) := by decide +kernel
theorem dX6_init_36 : decode cX6_init 36 = .ok (.iconst (-1), 1) := by decide +kernel
theorem dX6_init_37 : decode cX6_init 37 = .ok (.putfield 30, 3) := by decide +kernel
theorem dX6_init_40 : decode cX6_init 40 = .ok (.aload_n 0, 1) := by decide +kernel
theorem dX6_init_41 : decode cX6_init 41 = .ok (.iconst 0, 1) := by decide +kernel
theorem dX6_init_42 : decode cX6_init 42 = .ok (.putfield 33, 3) := by decide +kernel
theorem dX6_init_45 : decode cX6_init 45 = .ok (.aload_n 0, 1) := by decide +kernel
theorem dX6_init_46 : decode cX6_init 46 = .ok (.bipush 9, 2) := by decide +kernel
theorem dX6_init_48 : decode cX6_init 48 = .ok (.putfield 36, 3) := by decide +kernel
theorem dX6_init_51 : decode cX6_init 51 = .ok (.return_, 1) := by decide +kernel
set_option maxRecDepth 100000 in
set_option maxHeartbeats 8000000 in
theorem k_X6_init (l : Launch) (D : va_G) (cA : Nat → ClassId) (aK aV : Nat → Nat) (h0 sz : Nat) : Met l yX6_init (.code yX6_init cX6_init 1 none :: BW) ({ frames := 1, cells := 0, slots := 0, locals := 12 } : Room) (va_Pc [.ref h0] (KB D cA aK aV [(h0, .inr (6, [.int 0, .int 0, .int 0, .int 0, .int 0, .int 0, .int 0, .int 0, .int 0]))] sz)) (QK D [(h0, .inr (6, [.int 0, .int 0, .int 0, .int 0, .int 0, .int 0, .int 0, .int 0, .int 0]))] sz (w_X6_init cA h0)) 0 0 (va_A [(h0, .inr (6, [.int 0, .int 0, .int 0, .int 0, .int 0, .int 0, .int 0, .int 0, .int 0]))] sz) := by
  refine kMet RX6 (by decide +kernel) rfl rfl (Nat.le_of_ble_eq_true rfl) ?_
  intro p e s m below meth c ls hsz X hr hk hP hD hS hl
  generalize hA : va_A [(h0, .inr (6, [.int 0, .int 0, .int 0, .int 0, .int 0, .int 0, .int 0, .int 0, .int 0]))] sz = A at X hD hS ⊢
  have hx := X.1
  have hb := X.2.1
  have hl : lv_has ls 1 [(0, .ref h0)] := hl
  refine lv_aload_n hx hb dX6_init_0 rfl (lv_at hl 0 rfl) ?_
  refine W.objInit hx hb X.2.2.2.1 (X.2.2.2.2.1 _ kw_64) (X.2.2.2.2.1 _ kw_26) (X.2.2.2.2.1 _ kw_27) rfl (by rw [X.2.2.1]; exact hl.1) rfl dX6_init_1 (Nat.le_of_ble_eq_true rfl) (Nat.le_of_ble_eq_true rfl) ?_
  refine W.eq (g2 := F0 m 4 ls []) rfl ?_
  refine lv_aload_n hx hb dX6_init_4 rfl (lv_at hl 0 rfl) ?_
  refine lv_iconst (v := 0) hx hb dX6_init_5 (by decide) ?_
  refine va_put (ci := 6) (v := .int 0) (T := TX6) (N := 9) (ref := RX6) hx hb (fun w h => X.2.2.2.2.1 w (uwC_6 w h)) (fun w h => h) tyX6 tyX6_ok nmX6 X.2.2.2.1 X.2.2.2.2.2.1 hP hD hS 0 rfl rfl 0 (by decide) (X.2.2.2.2.1 _ kw_65) (fun x h => h) rfl (ty := tyX6 0) (tyX6_ok 0 (by decide)) rfl rfl (show 0 < 9 by decide) dX6_init_6 (fun H locs hP hD hS => ?_)
  have hP : va_P D vwCl [(h0, .inr (6, [.int 0, .int 0, .int 0, .int 0, .int 0, .int 0, .int 0, .int 0, .int 0]))] H := hP
  have hD : va_D A [(h0, .inr (6, [.int 0, .int 0, .int 0, .int 0, .int 0, .int 0, .int 0, .int 0, .int 0]))] := hD
  refine lv_aload_n hx hb dX6_init_9 rfl (lv_at hl 0 rfl) ?_
  refine lv_iconst (v := 0) hx hb dX6_init_10 (by decide) ?_
  refine va_put (ci := 6) (v := .int 0) (T := TX6) (N := 9) (ref := RX6) hx hb (fun w h => X.2.2.2.2.1 w (uwC_6 w h)) (fun w h => h) tyX6 tyX6_ok nmX6 X.2.2.2.1 X.2.2.2.2.2.1 hP hD hS 0 rfl rfl 1 (by decide) (X.2.2.2.2.1 _ kw_68) (fun x h => h) rfl (ty := tyX6 1) (tyX6_ok 1 (by decide)) rfl rfl (show 1 < 9 by decide) dX6_init_11 (fun H locs hP hD hS => ?_)
  have hP : va_P D vwCl [(h0, .inr (6, [.int 0, .int 0, .int 0, .int 0, .int 0, .int 0, .int 0, .int 0, .int 0]))] H := hP
  have hD : va_D A [(h0, .inr (6, [.int 0, .int 0, .int 0, .int 0, .int 0, .int 0, .int 0, .int 0, .int 0]))] := hD
  refine lv_aload_n hx hb dX6_init_14 rfl (lv_at hl 0 rfl) ?_
  refine lv_iconst (v := -1) hx hb dX6_init_15 (by decide) ?_
  refine va_put (ci := 6) (v := .int (-1)) (T := TX6) (N := 9) (ref := RX6) hx hb (fun w h => X.2.2.2.2.1 w (uwC_6 w h)) (fun w h => h) tyX6 tyX6_ok nmX6 X.2.2.2.1 X.2.2.2.2.2.1 hP hD hS 0 rfl rfl 2 (by decide) (X.2.2.2.2.1 _ kw_71) (fun x h => h) rfl (ty := tyX6 2) (tyX6_ok 2 (by decide)) rfl rfl (show 2 < 9 by decide) dX6_init_16 (fun H locs hP hD hS => ?_)
  have hP : va_P D vwCl [(h0, .inr (6, [.int 0, .int 0, .int (-1), .int 0, .int 0, .int 0, .int 0, .int 0, .int 0]))] H := hP
  have hD : va_D A [(h0, .inr (6, [.int 0, .int 0, .int (-1), .int 0, .int 0, .int 0, .int 0, .int 0, .int 0]))] := hD
  refine lv_aload_n hx hb dX6_init_19 rfl (lv_at hl 0 rfl) ?_
  refine lv_iconst (v := -1) hx hb dX6_init_20 (by decide) ?_
  refine va_put (ci := 6) (v := .int (-1)) (T := TX6) (N := 9) (ref := RX6) hx hb (fun w h => X.2.2.2.2.1 w (uwC_6 w h)) (fun w h => h) tyX6 tyX6_ok nmX6 X.2.2.2.1 X.2.2.2.2.2.1 hP hD hS 0 rfl rfl 3 (by decide) (X.2.2.2.2.1 _ kw_75) (fun x h => h) rfl (ty := tyX6 3) (tyX6_ok 3 (by decide)) rfl rfl (show 3 < 9 by decide) dX6_init_21 (fun H locs hP hD hS => ?_)
  have hP : va_P D vwCl [(h0, .inr (6, [.int 0, .int 0, .int (-1), .int (-1), .int 0, .int 0, .int 0, .int 0, .int 0]))] H := hP
  have hD : va_D A [(h0, .inr (6, [.int 0, .int 0, .int (-1), .int (-1), .int 0, .int 0, .int 0, .int 0, .int 0]))] := hD
  refine lv_aload_n hx hb dX6_init_24 rfl (lv_at hl 0 rfl) ?_
  refine lv_iconst (v := 0) hx hb dX6_init_25 (by decide) ?_
  refine va_put (ci := 6) (v := .int 0) (T := TX6) (N := 9) (ref := RX6) hx hb (fun w h => X.2.2.2.2.1 w (uwC_6 w h)) (fun w h => h) tyX6 tyX6_ok nmX6 X.2.2.2.1 X.2.2.2.2.2.1 hP hD hS 0 rfl rfl 4 (by decide) (X.2.2.2.2.1 _ kw_77) (fun x h => h) rfl (ty := tyX6 4) (tyX6_ok 4 (by decide)) rfl rfl (show 4 < 9 by decide) dX6_init_26 (fun H locs hP hD hS => ?_)
  have hP : va_P D vwCl [(h0, .inr (6, [.int 0, .int 0, .int (-1), .int (-1), .int 0, .int 0, .int 0, .int 0, .int 0]))] H := hP
  have hD : va_D A [(h0, .inr (6, [.int 0, .int 0, .int (-1), .int (-1), .int 0, .int 0, .int 0, .int 0, .int 0]))] := hD
  refine lv_aload_n hx hb dX6_init_29 rfl (lv_at hl 0 rfl) ?_
  refine lv_bipush (v := 99) hx hb dX6_init_30 (by decide) ?_
  refine va_put (ci := 6) (v := .int 99) (T := TX6) (N := 9) (ref := RX6) hx hb (fun w h => X.2.2.2.2.1 w (uwC_6 w h)) (fun w h => h) tyX6 tyX6_ok nmX6 X.2.2.2.1 X.2.2.2.2.2.1 hP hD hS 0 rfl rfl 5 (by decide) (X.2.2.2.2.1 _ kw_79) (fun x h => h) rfl (ty := tyX6 5) (tyX6_ok 5 (by decide)) rfl rfl (show 5 < 9 by decide) dX6_init_32 (fun H locs hP hD hS => ?_)
  have hP : va_P D vwCl [(h0, .inr (6, [.int 0, .int 0, .int (-1), .int (-1), .int 0, .int 99, .int 0, .int 0, .int 0]))] H := hP
  have hD : va_D A [(h0, .inr (6, [.int 0, .int 0, .int (-1), .int (-1), .int 0, .int 99, .int 0, .int 0, .int 0]))] := hD
  refine lv_aload_n hx hb dX6_init_35 rfl (lv_at hl 0 rfl) ?_
  refine lv_iconst (v := -1) hx hb dX6_init_36 (by decide) ?_
  refine va_put (ci := 6) (v := .int (-1)) (T := TX6) (N := 9) (ref := RX6) hx hb (fun w h => X.2.2.2.2.1 w (uwC_6 w h)) (fun w h => h) tyX6 tyX6_ok nmX6 X.2.2.2.1 X.2.2.2.2.2.1 hP hD hS 0 rfl rfl 6 (by decide) (X.2.2.2.2.1 _ kw_81) (fun x h => h) rfl (ty := tyX6 6) (tyX6_ok 6 (by decide)) rfl rfl (show 6 < 9 by decide) dX6_init_37 (fun H locs hP hD hS => ?_)
  have hP : va_P D vwCl [(h0, .inr (6, [.int 0, .int 0, .int (-1), .int (-1), .int 0, .int 99, .int (-1), .int 0, .int 0]))] H := hP
  have hD : va_D A [(h0, .inr (6, [.int 0, .int 0, .int (-1), .int (-1), .int 0, .int 99, .int (-1), .int 0, .int 0]))] := hD
  refine lv_aload_n hx hb dX6_init_40 rfl (lv_at hl 0 rfl) ?_
  refine lv_iconst (v := 0) hx hb dX6_init_41 (by decide) ?_
  refine va_put (ci := 6) (v := .int 0) (T := TX6) (N := 9) (ref := RX6) hx hb (fun w h => X.2.2.2.2.1 w (uwC_6 w h)) (fun w h => h) tyX6 tyX6_ok nmX6 X.2.2.2.1 X.2.2.2.2.2.1 hP hD hS 0 rfl rfl 7 (by decide) (X.2.2.2.2.1 _ kw_83) (fun x h => h) rfl (ty := tyX6 7) (tyX6_ok 7 (by decide)) rfl rfl (show 7 < 9 by decide) dX6_init_42 (fun H locs hP hD hS => ?_)
  have hP : va_P D vwCl [(h0, .inr (6, [.int 0, .int 0, .int (-1), .int (-1), .int 0, .int 99, .int (-1), .int 0, .int 0]))] H := hP
  have hD : va_D A [(h0, .inr (6, [.int 0, .int 0, .int (-1), .int (-1), .int 0, .int 99, .int (-1), .int 0, .int 0]))] := hD
  refine lv_aload_n hx hb dX6_init_45 rfl (lv_at hl 0 rfl) ?_
  refine lv_bipush (v := 9) hx hb dX6_init_46 (by decide) ?_
  refine va_put (ci := 6) (v := .int 9) (T := TX6) (N := 9) (ref := RX6) hx hb (fun w h => X.2.2.2.2.1 w (uwC_6 w h)) (fun w h => h) tyX6 tyX6_ok nmX6 X.2.2.2.1 X.2.2.2.2.2.1 hP hD hS 0 rfl rfl 8 (by decide) (X.2.2.2.2.1 _ kw_85) (fun x h => h) rfl (ty := tyX6 8) (tyX6_ok 8 (by decide)) rfl rfl (show 8 < 9 by decide) dX6_init_48 (fun H locs hP hD hS => ?_)
  have hP : va_P D vwCl [(h0, .inr (6, [.int 0, .int 0, .int (-1), .int (-1), .int 0, .int 99, .int (-1), .int 0, .int 9]))] H := hP
  have hD : va_D A [(h0, .inr (6, [.int 0, .int 0, .int (-1), .int (-1), .int 0, .int 99, .int (-1), .int 0, .int 9]))] := hD
  subst hA
  exact kend (wX := w_X6_init cA h0) X hr hk (fun _ => 0) hP hD hS (Nat.le_of_ble_eq_true rfl) (Nat.le_of_ble_eq_true rfl) dX6_init_51
def w_X9_init (cA : Nat → ClassId) (h0 : Nat) (u : Nat → Nat) : va_W := [(h0, .inr (9, [.int 0, .int 0, .ref (u 1)])), ((u 1), .inl (cA 0, 150, .inl (fun _ => 0)))]
theorem dX9_init_0 : decode cX9_init 0 = .ok (.aload_n 0, 1) := by decide +kernel
theorem dX9_init_1 : decode cX9_init 1 = .ok (.invokespecial 1, 3) := by decide +kernel
theorem dX9_init_4 : decode cX9_init 4 = .ok (.aload_n 0, 1) := by decide +kernel
theorem dX9_init_5 : decode cX9_init 5 = .ok (.iconst 0, 1) := by decide +kernel
theorem dX9_init_6 : decode cX9_init 6 = .ok (.putfield 7, 3) := by decide +kernel
theorem dX9_init_9 : decode cX9_init 9 = .ok (.aload_n 0, 1) := by decide +kernel
theorem dX9_init_10 : decode cX9_init 10 = .ok (.iconst 0, 1) := by decide +kernel
theorem dX9_init_11 : decode cX9_init 11 = .ok (.putfield 13, 3) := by decide +kernel
theorem dX9_init_14 : decode cX9_init 14 = .ok (.aload_n 0, 1) := by decide +kernel
theorem dX9_init_15 : decode cX9_init 15 = .ok (.sipush 150, 3) := by decide +kernel
theorem dX9_init_18 : decode cX9_init 18 = .ok (.newarray .int, 2) := by decide +kernel
theorem dX9_init_20 : decode cX9_init 20 = .ok (.putfield 17, 3) := by decide +kernel
theorem dX9_init_23 : decode cX9_init 23 = .ok (.return_, 1) := by decide +kernel
set_option maxRecDepth 100000 in
set_option maxHeartbeats 8000000 in
theorem k_X9_init (l : Launch) (D : va_G) (cA : Nat → ClassId) (aK aV : Nat → Nat) (h0 sz : Nat) : Met l yX9_init (.code yX9_init cX9_init 1 none :: BW) ({ frames := 1, cells := 1, slots := 150, locals := 12 } : Room) (va_Pc [.ref h0] (KB D cA aK aV [(h0, .inr (9, [.int 0, .int 0, .null]))] sz)) (QK D [(h0, .inr (9, [.int 0, .int 0, .null]))] sz (w_X9_init cA h0)) 1 150 (va_A [(h0, .inr (9, [.int 0, .int 0, .null]))] sz) := by
  refine kMet RX9 (by decide +kernel) rfl rfl (Nat.le_of_ble_eq_true rfl) ?_
  intro p e s m below meth c ls hsz X hr hk hP hD hS hl
  generalize hA : va_A [(h0, .inr (9, [.int 0, .int 0, .null]))] sz = A at X hD hS ⊢
  have hx := X.1
  have hb := X.2.1
  have hl : lv_has ls 1 [(0, .ref h0)] := hl
  refine lv_aload_n hx hb dX9_init_0 rfl (lv_at hl 0 rfl) ?_
  refine W.objInit hx hb X.2.2.2.1 (X.2.2.2.2.1 _ kw_43) (X.2.2.2.2.1 _ kw_26) (X.2.2.2.2.1 _ kw_27) rfl (by rw [X.2.2.1]; exact hl.1) rfl dX9_init_1 (Nat.le_of_ble_eq_true rfl) (Nat.le_of_ble_eq_true rfl) ?_
  refine W.eq (g2 := F0 m 4 ls []) rfl ?_
  refine lv_aload_n hx hb dX9_init_4 rfl (lv_at hl 0 rfl) ?_
  refine lv_iconst (v := 0) hx hb dX9_init_5 (by decide) ?_
  refine va_put (ci := 9) (v := .int 0) (T := TX9) (N := 3) (ref := RX9) hx hb (fun w h => X.2.2.2.2.1 w (uwC_9 w h)) (fun w h => h) tyX9 tyX9_ok nmX9 X.2.2.2.1 X.2.2.2.2.2.1 hP hD hS 0 rfl rfl 0 (by decide) (X.2.2.2.2.1 _ kw_44) (fun x h => h) rfl (ty := tyX9 0) (tyX9_ok 0 (by decide)) rfl rfl (show 0 < 3 by decide) dX9_init_6 (fun H locs hP hD hS => ?_)
  have hP : va_P D vwCl [(h0, .inr (9, [.int 0, .int 0, .null]))] H := hP
  have hD : va_D A [(h0, .inr (9, [.int 0, .int 0, .null]))] := hD
  refine lv_aload_n hx hb dX9_init_9 rfl (lv_at hl 0 rfl) ?_
  refine lv_iconst (v := 0) hx hb dX9_init_10 (by decide) ?_
  refine va_put (ci := 9) (v := .int 0) (T := TX9) (N := 3) (ref := RX9) hx hb (fun w h => X.2.2.2.2.1 w (uwC_9 w h)) (fun w h => h) tyX9 tyX9_ok nmX9 X.2.2.2.1 X.2.2.2.2.2.1 hP hD hS 0 rfl rfl 1 (by decide) (X.2.2.2.2.1 _ kw_47) (fun x h => h) rfl (ty := tyX9 1) (tyX9_ok 1 (by decide)) rfl rfl (show 1 < 3 by decide) dX9_init_11 (fun H locs hP hD hS => ?_)
  have hP : va_P D vwCl [(h0, .inr (9, [.int 0, .int 0, .null]))] H := hP
  have hD : va_D A [(h0, .inr (9, [.int 0, .int 0, .null]))] := hD
  refine lv_aload_n hx hb dX9_init_14 rfl (lv_at hl 0 rfl) ?_
  refine lv_sipush (v := 150) hx hb dX9_init_15 (by decide) ?_
  refine k_arr X hP hD hS (atype := .int) (ty := .int) (t0 := 0) (N' := 150) (a0 := (150, .inl (fun _ => 0))) kw_58 rfl rfl (fun _ h => by cases h) (fun _ => rfl) (by decide) (by decide) (Nat.le_of_ble_eq_true rfl) (Nat.le_of_ble_eq_true rfl) (Nat.le_of_ble_eq_true rfl) dX9_init_18 (fun q1 H hP hD hS => ?_)
  have hP : va_P D vwCl [(h0, .inr (9, [.int 0, .int 0, .null])), (q1, .inl (cA 0, 150, .inl (fun _ => 0)))] H := hP
  have hD : va_D A [(h0, .inr (9, [.int 0, .int 0, .null])), (q1, .inl (cA 0, 150, .inl (fun _ => 0)))] := hD
  refine va_putF (ci := 9) (v := .ref q1) (T := TX9) (N := 3) (ref := RX9) hx hb (fun w h => X.2.2.2.2.1 w (uwC_9 w h)) (fun w h => h) tyX9 tyX9_ok nmX9 X.2.2.2.1 X.2.2.2.2.2.1 hP hD hS 0 rfl rfl 2 (by decide) (X.2.2.2.2.1 _ kw_50) (fun x h => h) rfl X.2.2.2.2.2.2.2.2.2.1 rfl (ty := tyX9 2) (tyX9_ok 2 (by decide)) rfl rfl (show 2 < 3 by decide) dX9_init_20 (fun H locs hP hD hS => ?_)
  have hP : va_P D vwCl [(h0, .inr (9, [.int 0, .int 0, .ref q1])), (q1, .inl (cA 0, 150, .inl (fun _ => 0)))] H := hP
  have hD : va_D A [(h0, .inr (9, [.int 0, .int 0, .ref q1])), (q1, .inl (cA 0, 150, .inl (fun _ => 0)))] := hD
  subst hA
  exact kend (wX := w_X9_init cA h0) X hr hk (fun k => match k with | 1 => q1 | _ => 0) hP hD hS (Nat.le_of_ble_eq_true rfl) (Nat.le_of_ble_eq_true rfl) dX9_init_23
def w_X8_init (cA : Nat → ClassId) (h0 : Nat) (u : Nat → Nat) : va_W := [(h0, .inr (8, [.int (-1), .int 0, .ref (u 1)])), ((u 1), .inl (cA 1, 60, .inr (.inl (fun _ => 0))))]
theorem dX8_init_0 : decode cX8_init 0 = .ok (.aload_n 0, 1) := by decide +kernel
theorem dX8_init_1 : decode cX8_init 1 = .ok (.invokespecial 3, 3) := by decide +kernel
theorem dX8_init_4 : decode cX8_init 4 = .ok (.aload_n 0, 1) := by decide +kernel
theorem dX8_init_5 : decode cX8_init 5 = .ok (.iconst (-1), 1) := by decide +kernel
theorem dX8_init_6 : decode cX8_init 6 = .ok (.putfield 9, 3) := by decide +kernel
theorem dX8_init_9 : decode cX8_init 9 = .ok (.aload_n 0, 1) := by decide +kernel
theorem dX8_init_10 : decode cX8_init 10 = .ok (.iconst 0, 1) := by decide +kernel
theorem dX8_init_11 : decode cX8_init 11 = .ok (.putfield 15, 3) := by decide +kernel
theorem dX8_init_14 : decode cX8_init 14 = .ok (.aload_n 0, 1) := by decide +kernel
theorem dX8_init_15 : decode cX8_init 15 = .ok (.bipush 60, 2) := by decide +kernel
theorem dX8_init_17 : decode cX8_init 17 = .ok (.newarray .long, 2) := by decide +kernel
theorem dX8_init_19 : decode cX8_init 19 = .ok (.putfield 18, 3) := by decide +kernel
theorem dX8_init_22 : decode cX8_init 22 = .ok (.return_, 1) := by decide +kernel
set_option maxRecDepth 100000 in
set_option maxHeartbeats 8000000 in
theorem k_X8_init (l : Launch) (D : va_G) (cA : Nat → ClassId) (aK aV : Nat → Nat) (h0 sz : Nat) : Met l yX8_init (.code yX8_init cX8_init 1 none :: BW) ({ frames := 1, cells := 1, slots := 60, locals := 12 } : Room) (va_Pc [.ref h0] (KB D cA aK aV [(h0, .inr (8, [.int 0, .int 0, .null]))] sz)) (QK D [(h0, .inr (8, [.int 0, .int 0, .null]))] sz (w_X8_init cA h0)) 1 60 (va_A [(h0, .inr (8, [.int 0, .int 0, .null]))] sz) := by
  refine kMet RX8 (by decide +kernel) rfl rfl (Nat.le_of_ble_eq_true rfl) ?_
  intro p e s m below meth c ls hsz X hr hk hP hD hS hl
  generalize hA : va_A [(h0, .inr (8, [.int 0, .int 0, .null]))] sz = A at X hD hS ⊢
  have hx := X.1
  have hb := X.2.1
  have hl : lv_has ls 1 [(0, .ref h0)] := hl
  refine lv_aload_n hx hb dX8_init_0 rfl (lv_at hl 0 rfl) ?_
  refine W.objInit hx hb X.2.2.2.1 (X.2.2.2.2.1 _ kw_210) (X.2.2.2.2.1 _ kw_26) (X.2.2.2.2.1 _ kw_27) rfl (by rw [X.2.2.1]; exact hl.1) rfl dX8_init_1 (Nat.le_of_ble_eq_true rfl) (Nat.le_of_ble_eq_true rfl) ?_
  refine W.eq (g2 := F0 m 4 ls []) rfl ?_
  refine lv_aload_n hx hb dX8_init_4 rfl (lv_at hl 0 rfl) ?_
  refine lv_iconst (v := -1) hx hb dX8_init_5 (by decide) ?_
  refine va_put (ci := 8) (v := .int (-1)) (T := TX8) (N := 3) (ref := RX8) hx hb (fun w h => X.2.2.2.2.1 w (uwC_8 w h)) (fun w h => h) tyX8 tyX8_ok nmX8 X.2.2.2.1 X.2.2.2.2.2.1 hP hD hS 0 rfl rfl 0 (by decide) (X.2.2.2.2.1 _ kw_211) (fun x h => h) rfl (ty := tyX8 0) (tyX8_ok 0 (by decide)) rfl rfl (show 0 < 3 by decide) dX8_init_6 (fun H locs hP hD hS => ?_)
  have hP : va_P D vwCl [(h0, .inr (8, [.int (-1), .int 0, .null]))] H := hP
  have hD : va_D A [(h0, .inr (8, [.int (-1), .int 0, .null]))] := hD
  refine lv_aload_n hx hb dX8_init_9 rfl (lv_at hl 0 rfl) ?_
  refine lv_iconst (v := 0) hx hb dX8_init_10 (by decide) ?_
  refine va_put (ci := 8) (v := .int 0) (T := TX8) (N := 3) (ref := RX8) hx hb (fun w h => X.2.2.2.2.1 w (uwC_8 w h)) (fun w h => h) tyX8 tyX8_ok nmX8 X.2.2.2.1 X.2.2.2.2.2.1 hP hD hS 0 rfl rfl 1 (by decide) (X.2.2.2.2.1 _ kw_213) (fun x h => h) rfl (ty := tyX8 1) (tyX8_ok 1 (by decide)) rfl rfl (show 1 < 3 by decide) dX8_init_11 (fun H locs hP hD hS => ?_)
  have hP : va_P D vwCl [(h0, .inr (8, [.int (-1), .int 0, .null]))] H := hP
  have hD : va_D A [(h0, .inr (8, [.int (-1), .int 0, .null]))] := hD
  refine lv_aload_n hx hb dX8_init_14 rfl (lv_at hl 0 rfl) ?_
  refine lv_bipush (v := 60) hx hb dX8_init_15 (by decide) ?_
  refine k_arr X hP hD hS (atype := .long) (ty := .long) (t0 := 1) (N' := 60) (a0 := (60, .inr (.inl (fun _ => 0)))) kw_59 rfl rfl (fun _ h => by cases h) (fun _ => rfl) (by decide) (by decide) (Nat.le_of_ble_eq_true rfl) (Nat.le_of_ble_eq_true rfl) (Nat.le_of_ble_eq_true rfl) dX8_init_17 (fun q1 H hP hD hS => ?_)
  have hP : va_P D vwCl [(h0, .inr (8, [.int (-1), .int 0, .null])), (q1, .inl (cA 1, 60, .inr (.inl (fun _ => 0))))] H := hP
  have hD : va_D A [(h0, .inr (8, [.int (-1), .int 0, .null])), (q1, .inl (cA 1, 60, .inr (.inl (fun _ => 0))))] := hD
  refine va_putF (ci := 8) (v := .ref q1) (T := TX8) (N := 3) (ref := RX8) hx hb (fun w h => X.2.2.2.2.1 w (uwC_8 w h)) (fun w h => h) tyX8 tyX8_ok nmX8 X.2.2.2.1 X.2.2.2.2.2.1 hP hD hS 0 rfl rfl 2 (by decide) (X.2.2.2.2.1 _ kw_214) (fun x h => h) rfl X.2.2.2.2.2.2.2.2.2.1 rfl (ty := tyX8 2) (tyX8_ok 2 (by decide)) rfl rfl (show 2 < 3 by decide) dX8_init_19 (fun H locs hP hD hS => ?_)
  have hP : va_P D vwCl [(h0, .inr (8, [.int (-1), .int 0, .ref q1])), (q1, .inl (cA 1, 60, .inr (.inl (fun _ => 0))))] H := hP
  have hD : va_D A [(h0, .inr (8, [.int (-1), .int 0, .ref q1])), (q1, .inl (cA 1, 60, .inr (.inl (fun _ => 0))))] := hD
  subst hA
  exact kend (wX := w_X8_init cA h0) X hr hk (fun k => match k with | 1 => q1 | _ => 0) hP hD hS (Nat.le_of_ble_eq_true rfl) (Nat.le_of_ble_eq_true rfl) dX8_init_22
def w_X10_init (cA : Nat → ClassId) (h0 : Nat) (u : Nat → Nat) : va_W := [(h0, .inr (10, [.ref (u 1), .ref (u 2), .int 0])), ((u 1), .inl (cA 0, 8, .inl (fun _ => 0))), ((u 2), .inl (cA 0, 8, .inl (fun _ => 0)))]
theorem dX10_init_0 : decode cX10_init 0 = .ok (.aload_n 0, 1) := by decide +kernel
theorem dX10_init_1 : decode cX10_init 1 = .ok (.invokespecial 3, 3) := by decide +kernel
theorem dX10_init_4 : decode cX10_init 4 = .ok (.aload_n 0, 1) := by decide +kernel
theorem dX10_init_5 : decode cX10_init 5 = .ok (.bipush 8, 2) := by decide +kernel
theorem dX10_init_7 : decode cX10_init 7 = .ok (.newarray .int, 2) := by decide +kernel
theorem dX10_init_9 : decode cX10_init 9 = .ok (.putfield 9, 3) := by decide +kernel
theorem dX10_init_12 : decode cX10_init 12 = .ok (.aload_n 0, 1) := by decide +kernel
theorem dX10_init_13 : decode cX10_init 13 = .ok (.bipush 8, 2) := by decide +kernel
theorem dX10_init_15 : decode cX10_init 15 = .ok (.newarray .int, 2) := by decide +kernel
theorem dX10_init_17 : decode cX10_init 17 = .ok (.putfield 15, 3) := by decide +kernel
theorem dX10_init_20 : decode cX10_init 20 = .ok (.aload_n 0, 1) := by decide +kernel
theorem dX10_init_21 : decode cX10_init 21 = .ok (.iconst 0, 1) := by decide +kernel
theorem dX10_init_22 : decode cX10_init 22 = .ok (.putfield 18, 3) := by decide +kernel
theorem dX10_init_25 : decode cX10_init 25 = .ok (.return_, 1) := by decide +kernel
set_option maxRecDepth 100000 in
set_option maxHeartbeats 8000000 in
theorem k_X10_init (l : Launch) (D : va_G) (cA : Nat → ClassId) (aK aV : Nat → Nat) (h0 sz : Nat) : Met l yX10_init (.code yX10_init cX10_init 1 none :: BW) ({ frames := 1, cells := 2, slots := 16, locals := 12 } : Room) (va_Pc [.ref h0] (KB D cA aK aV [(h0, .inr (10, [.null, .null, .int 0]))] sz)) (QK D [(h0, .inr (10, [.null, .null, .int 0]))] sz (w_X10_init cA h0)) 2 16 (va_A [(h0, .inr (10, [.null, .null, .int 0]))] sz) := by
  refine kMet RX10 (by decide +kernel) rfl rfl (Nat.le_of_ble_eq_true rfl) ?_
  intro p e s m below meth c ls hsz X hr hk hP hD hS hl
  generalize hA : va_A [(h0, .inr (10, [.null, .null, .int 0]))] sz = A at X hD hS ⊢
  have hx := X.1
  have hb := X.2.1
  have hl : lv_has ls 1 [(0, .ref h0)] := hl
  refine lv_aload_n hx hb dX10_init_0 rfl (lv_at hl 0 rfl) ?_
  refine W.objInit hx hb X.2.2.2.1 (X.2.2.2.2.1 _ kw_353) (X.2.2.2.2.1 _ kw_26) (X.2.2.2.2.1 _ kw_27) rfl (by rw [X.2.2.1]; exact hl.1) rfl dX10_init_1 (Nat.le_of_ble_eq_true rfl) (Nat.le_of_ble_eq_true rfl) ?_
  refine W.eq (g2 := F0 m 4 ls []) rfl ?_
  refine lv_aload_n hx hb dX10_init_4 rfl (lv_at hl 0 rfl) ?_
  refine lv_bipush (v := 8) hx hb dX10_init_5 (by decide) ?_
  refine k_arr X hP hD hS (atype := .int) (ty := .int) (t0 := 0) (N' := 8) (a0 := (8, .inl (fun _ => 0))) kw_58 rfl rfl (fun _ h => by cases h) (fun _ => rfl) (by decide) (by decide) (Nat.le_of_ble_eq_true rfl) (Nat.le_of_ble_eq_true rfl) (Nat.le_of_ble_eq_true rfl) dX10_init_7 (fun q1 H hP hD hS => ?_)
  have hP : va_P D vwCl [(h0, .inr (10, [.null, .null, .int 0])), (q1, .inl (cA 0, 8, .inl (fun _ => 0)))] H := hP
  have hD : va_D A [(h0, .inr (10, [.null, .null, .int 0])), (q1, .inl (cA 0, 8, .inl (fun _ => 0)))] := hD
  refine va_putF (ci := 10) (v := .ref q1) (T := TX10) (N := 3) (ref := RX10) hx hb (fun w h => X.2.2.2.2.1 w (uwC_10 w h)) (fun w h => h) tyX10 tyX10_ok nmX10 X.2.2.2.1 X.2.2.2.2.2.1 hP hD hS 0 rfl rfl 0 (by decide) (X.2.2.2.2.1 _ kw_354) (fun x h => h) rfl X.2.2.2.2.2.2.2.2.2.1 rfl (ty := tyX10 0) (tyX10_ok 0 (by decide)) rfl rfl (show 0 < 3 by decide) dX10_init_9 (fun H locs hP hD hS => ?_)
  have hP : va_P D vwCl [(h0, .inr (10, [.ref q1, .null, .int 0])), (q1, .inl (cA 0, 8, .inl (fun _ => 0)))] H := hP
  have hD : va_D A [(h0, .inr (10, [.ref q1, .null, .int 0])), (q1, .inl (cA 0, 8, .inl (fun _ => 0)))] := hD
  refine lv_aload_n hx hb dX10_init_12 rfl (lv_at hl 0 rfl) ?_
  refine lv_bipush (v := 8) hx hb dX10_init_13 (by decide) ?_
  refine k_arr X hP hD hS (atype := .int) (ty := .int) (t0 := 0) (N' := 8) (a0 := (8, .inl (fun _ => 0))) kw_58 rfl rfl (fun _ h => by cases h) (fun _ => rfl) (by decide) (by decide) (Nat.le_of_ble_eq_true rfl) (Nat.le_of_ble_eq_true rfl) (Nat.le_of_ble_eq_true rfl) dX10_init_15 (fun q2 H hP hD hS => ?_)
  have hP : va_P D vwCl [(h0, .inr (10, [.ref q1, .null, .int 0])), (q1, .inl (cA 0, 8, .inl (fun _ => 0))), (q2, .inl (cA 0, 8, .inl (fun _ => 0)))] H := hP
  have hD : va_D A [(h0, .inr (10, [.ref q1, .null, .int 0])), (q1, .inl (cA 0, 8, .inl (fun _ => 0))), (q2, .inl (cA 0, 8, .inl (fun _ => 0)))] := hD
  refine va_putF (ci := 10) (v := .ref q2) (T := TX10) (N := 3) (ref := RX10) hx hb (fun w h => X.2.2.2.2.1 w (uwC_10 w h)) (fun w h => h) tyX10 tyX10_ok nmX10 X.2.2.2.1 X.2.2.2.2.2.1 hP hD hS 0 rfl rfl 1 (by decide) (X.2.2.2.2.1 _ kw_356) (fun x h => h) rfl X.2.2.2.2.2.2.2.2.2.1 rfl (ty := tyX10 1) (tyX10_ok 1 (by decide)) rfl rfl (show 1 < 3 by decide) dX10_init_17 (fun H locs hP hD hS => ?_)
  have hP : va_P D vwCl [(h0, .inr (10, [.ref q1, .ref q2, .int 0])), (q1, .inl (cA 0, 8, .inl (fun _ => 0))), (q2, .inl (cA 0, 8, .inl (fun _ => 0)))] H := hP
  have hD : va_D A [(h0, .inr (10, [.ref q1, .ref q2, .int 0])), (q1, .inl (cA 0, 8, .inl (fun _ => 0))), (q2, .inl (cA 0, 8, .inl (fun _ => 0)))] := hD
  refine lv_aload_n hx hb dX10_init_20 rfl (lv_at hl 0 rfl) ?_
  refine lv_iconst (v := 0) hx hb dX10_init_21 (by decide) ?_
  refine va_put (ci := 10) (v := .int 0) (T := TX10) (N := 3) (ref := RX10) hx hb (fun w h => X.2.2.2.2.1 w (uwC_10 w h)) (fun w h => h) tyX10 tyX10_ok nmX10 X.2.2.2.1 X.2.2.2.2.2.1 hP hD hS 0 rfl rfl 2 (by decide) (X.2.2.2.2.1 _ kw_358) (fun x h => h) rfl (ty := tyX10 2) (tyX10_ok 2 (by decide)) rfl rfl (show 2 < 3 by decide) dX10_init_22 (fun H locs hP hD hS => ?_)
  have hP : va_P D vwCl [(h0, .inr (10, [.ref q1, .ref q2, .int 0])), (q1, .inl (cA 0, 8, .inl (fun _ => 0))), (q2, .inl (cA 0, 8, .inl (fun _ => 0)))] H := hP
  have hD : va_D A [(h0, .inr (10, [.ref q1, .ref q2, .int 0])), (q1, .inl (cA 0, 8, .inl (fun _ => 0))), (q2, .inl (cA 0, 8, .inl (fun _ => 0)))] := hD
  subst hA
  exact kend (wX := w_X10_init cA h0) X hr hk (fun k => match k with | 1 => q1 | 2 => q2 | _ => 0) hP hD hS (Nat.le_of_ble_eq_true rfl) (Nat.le_of_ble_eq_true rfl) dX10_init_25
def w_X3_init (cA : Nat → ClassId) (h0 : Nat) (u : Nat → Nat) : va_W := [(h0, .inr (3, [.ref (u 1), .ref (u 2), .int 0])), ((u 1), .inl (cA 0, 64, .inl (fun _ => 0))), ((u 2), .inl (cA 0, 6, .inl (fun _ => 0)))]
theorem dX3_init_0 : decode cX3_init 0 = .ok (.aload_n 0, 1) := by decide +kernel
theorem dX3_init_1 : decode cX3_init 1 = .ok (.invokespecial 3, 3) := by decide +kernel
theorem dX3_init_4 : decode cX3_init 4 = .ok (.aload_n 0, 1) := by decide +kernel
theorem dX3_init_5 : decode cX3_init 5 = .ok (.bipush 64, 2) := by decide +kernel
theorem dX3_init_7 : decode cX3_init 7 = .ok (.newarray .int, 2) := by decide +kernel
theorem dX3_init_9 : decode cX3_init 9 = .ok (.putfield 9, 3) := by decide +kernel
theorem dX3_init_12 : decode cX3_init 12 = .ok (.aload_n 0, 1) := by decide +kernel
theorem dX3_init_13 : decode cX3_init 13 = .ok (.bipush 6, 2) := by decide +kernel
theorem dX3_init_15 : decode cX3_init 15 = .ok (.newarray .int, 2) := by decide +kernel
theorem dX3_init_17 : decode cX3_init 17 = .ok (.putfield 15, 3) := by decide +kernel
theorem dX3_init_20 : decode cX3_init 20 = .ok (.aload_n 0, 1) := by decide +kernel
theorem dX3_init_21 : decode cX3_init 21 = .ok (.iconst 0, 1) := by decide +kernel
theorem dX3_init_22 : decode cX3_init 22 = .ok (.putfield 18, 3) := by decide +kernel
theorem dX3_init_25 : decode cX3_init 25 = .ok (.return_, 1) := by decide +kernel
set_option maxRecDepth 100000 in
set_option maxHeartbeats 8000000 in
theorem k_X3_init (l : Launch) (D : va_G) (cA : Nat → ClassId) (aK aV : Nat → Nat) (h0 sz : Nat) : Met l yX3_init (.code yX3_init cX3_init 1 none :: BW) ({ frames := 1, cells := 2, slots := 70, locals := 12 } : Room) (va_Pc [.ref h0] (KB D cA aK aV [(h0, .inr (3, [.null, .null, .int 0]))] sz)) (QK D [(h0, .inr (3, [.null, .null, .int 0]))] sz (w_X3_init cA h0)) 2 70 (va_A [(h0, .inr (3, [.null, .null, .int 0]))] sz) := by
  refine kMet RX3 (by decide +kernel) rfl rfl (Nat.le_of_ble_eq_true rfl) ?_
  intro p e s m below meth c ls hsz X hr hk hP hD hS hl
  generalize hA : va_A [(h0, .inr (3, [.null, .null, .int 0]))] sz = A at X hD hS ⊢
  have hx := X.1
  have hb := X.2.1
  have hl : lv_has ls 1 [(0, .ref h0)] := hl
  refine lv_aload_n hx hb dX3_init_0 rfl (lv_at hl 0 rfl) ?_
  refine W.objInit hx hb X.2.2.2.1 (X.2.2.2.2.1 _ kw_372) (X.2.2.2.2.1 _ kw_26) (X.2.2.2.2.1 _ kw_27) rfl (by rw [X.2.2.1]; exact hl.1) rfl dX3_init_1 (Nat.le_of_ble_eq_true rfl) (Nat.le_of_ble_eq_true rfl) ?_
  refine W.eq (g2 := F0 m 4 ls []) rfl ?_
  refine lv_aload_n hx hb dX3_init_4 rfl (lv_at hl 0 rfl) ?_
  refine lv_bipush (v := 64) hx hb dX3_init_5 (by decide) ?_
  refine k_arr X hP hD hS (atype := .int) (ty := .int) (t0 := 0) (N' := 64) (a0 := (64, .inl (fun _ => 0))) kw_58 rfl rfl (fun _ h => by cases h) (fun _ => rfl) (by decide) (by decide) (Nat.le_of_ble_eq_true rfl) (Nat.le_of_ble_eq_true rfl) (Nat.le_of_ble_eq_true rfl) dX3_init_7 (fun q1 H hP hD hS => ?_)
  have hP : va_P D vwCl [(h0, .inr (3, [.null, .null, .int 0])), (q1, .inl (cA 0, 64, .inl (fun _ => 0)))] H := hP
  have hD : va_D A [(h0, .inr (3, [.null, .null, .int 0])), (q1, .inl (cA 0, 64, .inl (fun _ => 0)))] := hD
  refine va_putF (ci := 3) (v := .ref q1) (T := TX3) (N := 3) (ref := RX3) hx hb (fun w h => X.2.2.2.2.1 w (uwC_3 w h)) (fun w h => h) tyX3 tyX3_ok nmX3 X.2.2.2.1 X.2.2.2.2.2.1 hP hD hS 0 rfl rfl 0 (by decide) (X.2.2.2.2.1 _ kw_373) (fun x h => h) rfl X.2.2.2.2.2.2.2.2.2.1 rfl (ty := tyX3 0) (tyX3_ok 0 (by decide)) rfl rfl (show 0 < 3 by decide) dX3_init_9 (fun H locs hP hD hS => ?_)
  have hP : va_P D vwCl [(h0, .inr (3, [.ref q1, .null, .int 0])), (q1, .inl (cA 0, 64, .inl (fun _ => 0)))] H := hP
  have hD : va_D A [(h0, .inr (3, [.ref q1, .null, .int 0])), (q1, .inl (cA 0, 64, .inl (fun _ => 0)))] := hD
  refine lv_aload_n hx hb dX3_init_12 rfl (lv_at hl 0 rfl) ?_
  refine lv_bipush (v := 6) hx hb dX3_init_13 (by decide) ?_
  refine k_arr X hP hD hS (atype := .int) (ty := .int) (t0 := 0) (N' := 6) (a0 := (6, .inl (fun _ => 0))) kw_58 rfl rfl (fun _ h => by cases h) (fun _ => rfl) (by decide) (by decide) (Nat.le_of_ble_eq_true rfl) (Nat.le_of_ble_eq_true rfl) (Nat.le_of_ble_eq_true rfl) dX3_init_15 (fun q2 H hP hD hS => ?_)
  have hP : va_P D vwCl [(h0, .inr (3, [.ref q1, .null, .int 0])), (q1, .inl (cA 0, 64, .inl (fun _ => 0))), (q2, .inl (cA 0, 6, .inl (fun _ => 0)))] H := hP
  have hD : va_D A [(h0, .inr (3, [.ref q1, .null, .int 0])), (q1, .inl (cA 0, 64, .inl (fun _ => 0))), (q2, .inl (cA 0, 6, .inl (fun _ => 0)))] := hD
  refine va_putF (ci := 3) (v := .ref q2) (T := TX3) (N := 3) (ref := RX3) hx hb (fun w h => X.2.2.2.2.1 w (uwC_3 w h)) (fun w h => h) tyX3 tyX3_ok nmX3 X.2.2.2.1 X.2.2.2.2.2.1 hP hD hS 0 rfl rfl 1 (by decide) (X.2.2.2.2.1 _ kw_374) (fun x h => h) rfl X.2.2.2.2.2.2.2.2.2.1 rfl (ty := tyX3 1) (tyX3_ok 1 (by decide)) rfl rfl (show 1 < 3 by decide) dX3_init_17 (fun H locs hP hD hS => ?_)
  have hP : va_P D vwCl [(h0, .inr (3, [.ref q1, .ref q2, .int 0])), (q1, .inl (cA 0, 64, .inl (fun _ => 0))), (q2, .inl (cA 0, 6, .inl (fun _ => 0)))] H := hP
  have hD : va_D A [(h0, .inr (3, [.ref q1, .ref q2, .int 0])), (q1, .inl (cA 0, 64, .inl (fun _ => 0))), (q2, .inl (cA 0, 6, .inl (fun _ => 0)))] := hD
  refine lv_aload_n hx hb dX3_init_20 rfl (lv_at hl 0 rfl) ?_
  refine lv_iconst (v := 0) hx hb dX3_init_21 (by decide) ?_
  refine va_put (ci := 3) (v := .int 0) (T := TX3) (N := 3) (ref := RX3) hx hb (fun w h => X.2.2.2.2.1 w (uwC_3 w h)) (fun w h => h) tyX3 tyX3_ok nmX3 X.2.2.2.1 X.2.2.2.2.2.1 hP hD hS 0 rfl rfl 2 (by decide) (X.2.2.2.2.1 _ kw_376) (fun x h => h) rfl (ty := tyX3 2) (tyX3_ok 2 (by decide)) rfl rfl (show 2 < 3 by decide) dX3_init_22 (fun H locs hP hD hS => ?_)
  have hP : va_P D vwCl [(h0, .inr (3, [.ref q1, .ref q2, .int 0])), (q1, .inl (cA 0, 64, .inl (fun _ => 0))), (q2, .inl (cA 0, 6, .inl (fun _ => 0)))] H := hP
  have hD : va_D A [(h0, .inr (3, [.ref q1, .ref q2, .int 0])), (q1, .inl (cA 0, 64, .inl (fun _ => 0))), (q2, .inl (cA 0, 6, .inl (fun _ => 0)))] := hD
  subst hA
  exact kend (wX := w_X3_init cA h0) X hr hk (fun k => match k with | 1 => q1 | 2 => q2 | _ => 0) hP hD hS (Nat.le_of_ble_eq_true rfl) (Nat.le_of_ble_eq_true rfl) dX3_init_25
def w_X1_init (cA : Nat → ClassId) (h0 : Nat) (u : Nat → Nat) : va_W := [(h0, .inr (1, [.int 36, .int 0]))]
theorem dX1_init_0 : decode cX1_init 0 = .ok (.aload_n 0, 1) := by decide +kernel
theorem dX1_init_1 : decode cX1_init 1 = .ok (.invokespecial 3, 3) := by decide +kernel
theorem dX1_init_4 : decode cX1_init 4 = .ok (.aload_n 0, 1) := by decide +kernel
theorem dX1_init_5 : decode cX1_init 5 = .ok (.bipush 36, 2) := by decide +kernel
theorem dX1_init_7 : decode cX1_init 7 = .ok (.putfield 11, 3) := by decide +kernel
theorem dX1_init_10 : decode cX1_init 10 = .ok (.aload_n 0, 1) := by decide +kernel
theorem dX1_init_11 : decode cX1_init 11 = .ok (.iconst 0, 1) := by decide +kernel
theorem dX1_init_12 : decode cX1_init 12 = .ok (.putfield 15, 3) := by decide +kernel
theorem dX1_init_15 : decode cX1_init 15 = .ok (.return_, 1) := by decide +kernel
set_option maxRecDepth 100000 in
set_option maxHeartbeats 8000000 in
theorem k_X1_init (l : Launch) (D : va_G) (cA : Nat → ClassId) (aK aV : Nat → Nat) (h0 sz : Nat) : Met l yX1_init (.code yX1_init cX1_init 1 none :: BW) ({ frames := 1, cells := 0, slots := 0, locals := 12 } : Room) (va_Pc [.ref h0] (KB D cA aK aV [(h0, .inr (1, [.int 0, .int 0]))] sz)) (QK D [(h0, .inr (1, [.int 0, .int 0]))] sz (w_X1_init cA h0)) 0 0 (va_A [(h0, .inr (1, [.int 0, .int 0]))] sz) := by
  refine kMet RX1 (by decide +kernel) rfl rfl (Nat.le_of_ble_eq_true rfl) ?_
  intro p e s m below meth c ls hsz X hr hk hP hD hS hl
  generalize hA : va_A [(h0, .inr (1, [.int 0, .int 0]))] sz = A at X hD hS ⊢
  have hx := X.1
  have hb := X.2.1
  have hl : lv_has ls 1 [(0, .ref h0)] := hl
  refine lv_aload_n hx hb dX1_init_0 rfl (lv_at hl 0 rfl) ?_
  refine W.objInit hx hb X.2.2.2.1 (X.2.2.2.2.1 _ kw_390) (X.2.2.2.2.1 _ kw_26) (X.2.2.2.2.1 _ kw_27) rfl (by rw [X.2.2.1]; exact hl.1) rfl dX1_init_1 (Nat.le_of_ble_eq_true rfl) (Nat.le_of_ble_eq_true rfl) ?_
  refine W.eq (g2 := F0 m 4 ls []) rfl ?_
  refine lv_aload_n hx hb dX1_init_4 rfl (lv_at hl 0 rfl) ?_
  refine lv_bipush (v := 36) hx hb dX1_init_5 (by decide) ?_
  refine va_put (ci := 1) (v := .int 36) (T := TX1) (N := 2) (ref := RX1) hx hb (fun w h => X.2.2.2.2.1 w (uwC_1 w h)) (fun w h => h) tyX1 tyX1_ok nmX1 X.2.2.2.1 X.2.2.2.2.2.1 hP hD hS 0 rfl rfl 0 (by decide) (X.2.2.2.2.1 _ kw_391) (fun x h => h) rfl (ty := tyX1 0) (tyX1_ok 0 (by decide)) rfl rfl (show 0 < 2 by decide) dX1_init_7 (fun H locs hP hD hS => ?_)
  have hP : va_P D vwCl [(h0, .inr (1, [.int 36, .int 0]))] H := hP
  have hD : va_D A [(h0, .inr (1, [.int 36, .int 0]))] := hD
  refine lv_aload_n hx hb dX1_init_10 rfl (lv_at hl 0 rfl) ?_
  refine lv_iconst (v := 0) hx hb dX1_init_11 (by decide) ?_
  refine va_put (ci := 1) (v := .int 0) (T := TX1) (N := 2) (ref := RX1) hx hb (fun w h => X.2.2.2.2.1 w (uwC_1 w h)) (fun w h => h) tyX1 tyX1_ok nmX1 X.2.2.2.1 X.2.2.2.2.2.1 hP hD hS 0 rfl rfl 1 (by decide) (X.2.2.2.2.1 _ kw_393) (fun x h => h) rfl (ty := tyX1 1) (tyX1_ok 1 (by decide)) rfl rfl (show 1 < 2 by decide) dX1_init_12 (fun H locs hP hD hS => ?_)
  have hP : va_P D vwCl [(h0, .inr (1, [.int 36, .int 0]))] H := hP
  have hD : va_D A [(h0, .inr (1, [.int 36, .int 0]))] := hD
  subst hA
  exact kend (wX := w_X1_init cA h0) X hr hk (fun _ => 0) hP hD hS (Nat.le_of_ble_eq_true rfl) (Nat.le_of_ble_eq_true rfl) dX1_init_15
def w_X2_init (cA : Nat → ClassId) (h0 : Nat) (u : Nat → Nat) : va_W := [(h0, .inr (2, [.ref (u 1), .int 0, .int 0, .int 0, .int 0, .int 0, .int 0])), ((u 1), .inl (cA 0, 5, .inl (fun _ => 0)))]
theorem dX2_init_0 : decode cX2_init 0 = .ok (.aload_n 0, 1) := by decide +kernel
theorem dX2_init_1 : decode cX2_init 1 = .ok (.invokespecial 3, 3) := by decide +kernel
theorem dX2_init_4 : decode cX2_init 4 = .ok (.aload_n 0, 1) := by decide +kernel
theorem dX2_init_5 : decode cX2_init 5 = .ok (.iconst 5, 1) := by decide +kernel
theorem dX2_init_6 : decode cX2_init 6 = .ok (.newarray .int, 2) := by decide +kernel
theorem dX2_init_8 : decode cX2_init 8 = .ok (.putfield 11, 3) := by decide +kernel
theorem dX2_init_11 : decode cX2_init 11 = .ok (.aload_n 0, 1) := by decide +kernel
theorem dX2_init_12 : decode cX2_init 12 = .ok (.iconst 0, 1) := by decide +kernel
theorem dX2_init_13 : decode cX2_init 13 = .ok (.putfield 15, 3) := by decide +kernel
theorem dX2_init_16 : decode cX2_init 16 = .ok (.aload_n 0, 1) := by decide +kernel
theorem dX2_init_17 : decode cX2_init 17 = .ok (.iconst 0, 1) := by decide +kernel
theorem dX2_init_18 : decode cX2_init 18 = .ok (.putfield 19, 3) := by decide +kernel
theorem dX2_init_21 : decode cX2_init 21 = .ok (.aload_n 0, 1) := by decide +kernel
theorem dX2_init_22 : decode cX2_init 22 = .ok (.iconst 0, 1) := by decide +kernel
theorem dX2_init_23 : decode cX2_init 23 = .ok (.putfield 23, 3) := by decide +kernel
theorem dX2_init_26 : decode cX2_init 26 = .ok (.aload_n 0, 1) := by decide +kernel
theorem dX2_init_27 : decode cX2_init 27 = .ok (.iconst 0, 1) := by decide +kernel
theorem dX2_init_28 : decode cX2_init 28 = .ok (.putfield 26, 3) := by decide +kernel
theorem dX2_init_31 : decode cX2_init 31 = .ok (.aload_n 0, 1) := by decide +kernel
theorem dX2_init_32 : decode cX2_init 32 = .ok (.iconst 0, 1) := by decide +kernel
theorem dX2_init_33 : decode cX2_init 33 = .ok (.putfield 29, 3) := by decide +kernel
theorem dX2_init_36 : decode cX2_init 36 = .ok (.aload_n 0, 1) := by decide +kernel
theorem dX2_init_37 : decode cX2_init 37 = .ok (.iconst 0, 1) := by decide +kernel
theorem dX2_init_38 : decode cX2_init 38 = .ok (.putfield 32, 3) := by decide +kernel
theorem dX2_init_41 : decode cX2_init 41 = .ok (.return_, 1) := by decide +kernel
set_option maxRecDepth 100000 in
set_option maxHeartbeats 8000000 in
theorem k_X2_init (l : Launch) (D : va_G) (cA : Nat → ClassId) (aK aV : Nat → Nat) (h0 sz : Nat) : Met l yX2_init (.code yX2_init cX2_init 1 none :: BW) ({ frames := 1, cells := 1, slots := 5, locals := 12 } : Room) (va_Pc [.ref h0] (KB D cA aK aV [(h0, .inr (2, [.null, .int 0, .int 0, .int 0, .int 0, .int 0, .int 0]))] sz)) (QK D [(h0, .inr (2, [.null, .int 0, .int 0, .int 0, .int 0, .int 0, .int 0]))] sz (w_X2_init cA h0)) 1 5 (va_A [(h0, .inr (2, [.null, .int 0, .int 0, .int 0, .int 0, .int 0, .int 0]))] sz) := by
  refine kMet RX2 (by decide +kernel) rfl rfl (Nat.le_of_ble_eq_true rfl) ?_
  intro p e s m below meth c ls hsz X hr hk hP hD hS hl
  generalize hA : va_A [(h0, .inr (2, [.null, .int 0, .int 0, .int 0, .int 0, .int 0, .int 0]))] sz = A at X hD hS ⊢
  have hx := X.1
  have hb := X.2.1
  have hl : lv_has ls 1 [(0, .ref h0)] := hl
  refine lv_aload_n hx hb dX2_init_0 rfl (lv_at hl 0 rfl) ?_
  refine W.objInit hx hb X.2.2.2.1 (X.2.2.2.2.1 _ kw_404) (X.2.2.2.2.1 _ kw_26) (X.2.2.2.2.1 _ kw_27) rfl (by rw [X.2.2.1]; exact hl.1) rfl dX2_init_1 (Nat.le_of_ble_eq_true rfl) (Nat.le_of_ble_eq_true rfl) ?_
  refine W.eq (g2 := F0 m 4 ls []) rfl ?_
  refine lv_aload_n hx hb dX2_init_4 rfl (lv_at hl 0 rfl) ?_
  refine lv_iconst (v := 5) hx hb dX2_init_5 (by decide) ?_
  refine k_arr X hP hD hS (atype := .int) (ty := .int) (t0 := 0) (N' := 5) (a0 := (5, .inl (fun _ => 0))) kw_58 rfl rfl (fun _ h => by cases h) (fun _ => rfl) (by decide) (by decide) (Nat.le_of_ble_eq_true rfl) (Nat.le_of_ble_eq_true rfl) (Nat.le_of_ble_eq_true rfl) dX2_init_6 (fun q1 H hP hD hS => ?_)
  have hP : va_P D vwCl [(h0, .inr (2, [.null, .int 0, .int 0, .int 0, .int 0, .int 0, .int 0])), (q1, .inl (cA 0, 5, .inl (fun _ => 0)))] H := hP
  have hD : va_D A [(h0, .inr (2, [.null, .int 0, .int 0, .int 0, .int 0, .int 0, .int 0])), (q1, .inl (cA 0, 5, .inl (fun _ => 0)))] := hD
  refine va_putF (ci := 2) (v := .ref q1) (T := TX2) (N := 7) (ref := RX2) hx hb (fun w h => X.2.2.2.2.1 w (uwC_2 w h)) (fun w h => h) tyX2 tyX2_ok nmX2 X.2.2.2.1 X.2.2.2.2.2.1 hP hD hS 0 rfl rfl 0 (by decide) (X.2.2.2.2.1 _ kw_405) (fun x h => h) rfl X.2.2.2.2.2.2.2.2.2.1 rfl (ty := tyX2 0) (tyX2_ok 0 (by decide)) rfl rfl (show 0 < 7 by decide) dX2_init_8 (fun H locs hP hD hS => ?_)
  have hP : va_P D vwCl [(h0, .inr (2, [.ref q1, .int 0, .int 0, .int 0, .int 0, .int 0, .int 0])), (q1, .inl (cA 0, 5, .inl (fun _ => 0)))] H := hP
  have hD : va_D A [(h0, .inr (2, [.ref q1, .int 0, .int 0, .int 0, .int 0, .int 0, .int 0])), (q1, .inl (cA 0, 5, .inl (fun _ => 0)))] := hD
  refine lv_aload_n hx hb dX2_init_11 rfl (lv_at hl 0 rfl) ?_
  refine lv_iconst (v := 0) hx hb dX2_init_12 (by decide) ?_
  refine va_put (ci := 2) (v := .int 0) (T := TX2) (N := 7) (ref := RX2) hx hb (fun w h => X.2.2.2.2.1 w (uwC_2 w h)) (fun w h => h) tyX2 tyX2_ok nmX2 X.2.2.2.1 X.2.2.2.2.2.1 hP hD hS 0 rfl rfl 1 (by decide) (X.2.2.2.2.1 _ kw_407) (fun x h => h) rfl (ty := tyX2 1) (tyX2_ok 1 (by decide)) rfl rfl (show 1 < 7 by decide) dX2_init_13 (fun H locs hP hD hS => ?_)
  have hP : va_P D vwCl [(h0, .inr (2, [.ref q1, .int 0, .int 0, .int 0, .int 0, .int 0, .int 0])), (q1, .inl (cA 0, 5, .inl (fun _ => 0)))] H := hP
  have hD : va_D A [(h0, .inr (2, [.ref q1, .int 0, .int 0, .int 0, .int 0, .int 0, .int 0])), (q1, .inl (cA 0, 5, .inl (fun _ => 0)))] := hD
  refine lv_aload_n hx hb dX2_init_16 rfl (lv_at hl 0 rfl) ?_
  refine lv_iconst (v := 0) hx hb dX2_init_17 (by decide) ?_
  refine va_put (ci := 2) (v := .int 0) (T := TX2) (N := 7) (ref := RX2) hx hb (fun w h => X.2.2.2.2.1 w (uwC_2 w h)) (fun w h => h) tyX2 tyX2_ok nmX2 X.2.2.2.1 X.2.2.2.2.2.1 hP hD hS 0 rfl rfl 2 (by decide) (X.2.2.2.2.1 _ kw_409) (fun x h => h) rfl (ty := tyX2 2) (tyX2_ok 2 (by decide)) rfl rfl (show 2 < 7 by decide) dX2_init_18 (fun H locs hP hD hS => ?_)
  have hP : va_P D vwCl [(h0, .inr (2, [.ref q1, .int 0, .int 0, .int 0, .int 0, .int 0, .int 0])), (q1, .inl (cA 0, 5, .inl (fun _ => 0)))] H := hP
  have hD : va_D A [(h0, .inr (2, [.ref q1, .int 0, .int 0, .int 0, .int 0, .int 0, .int 0])), (q1, .inl (cA 0, 5, .inl (fun _ => 0)))] := hD
  refine lv_aload_n hx hb dX2_init_21 rfl (lv_at hl 0 rfl) ?_
  refine lv_iconst (v := 0) hx hb dX2_init_22 (by decide) ?_
  refine va_put (ci := 2) (v := .int 0) (T := TX2) (N := 7) (ref := RX2) hx hb (fun w h => X.2.2.2.2.1 w (uwC_2 w h)) (fun w h => h) tyX2 tyX2_ok nmX2 X.2.2.2.1 X.2.2.2.2.2.1 hP hD hS 0 rfl rfl 3 (by decide) (X.2.2.2.2.1 _ kw_410) (fun x h => h) rfl (ty := tyX2 3) (tyX2_ok 3 (by decide)) rfl rfl (show 3 < 7 by decide) dX2_init_23 (fun H locs hP hD hS => ?_)
  have hP : va_P D vwCl [(h0, .inr (2, [.ref q1, .int 0, .int 0, .int 0, .int 0, .int 0, .int 0])), (q1, .inl (cA 0, 5, .inl (fun _ => 0)))] H := hP
  have hD : va_D A [(h0, .inr (2, [.ref q1, .int 0, .int 0, .int 0, .int 0, .int 0, .int 0])), (q1, .inl (cA 0, 5, .inl (fun _ => 0)))] := hD
  refine lv_aload_n hx hb dX2_init_26 rfl (lv_at hl 0 rfl) ?_
  refine lv_iconst (v := 0) hx hb dX2_init_27 (by decide) ?_
  refine va_put (ci := 2) (v := .int 0) (T := TX2) (N := 7) (ref := RX2) hx hb (fun w h => X.2.2.2.2.1 w (uwC_2 w h)) (fun w h => h) tyX2 tyX2_ok nmX2 X.2.2.2.1 X.2.2.2.2.2.1 hP hD hS 0 rfl rfl 4 (by decide) (X.2.2.2.2.1 _ kw_412) (fun x h => h) rfl (ty := tyX2 4) (tyX2_ok 4 (by decide)) rfl rfl (show 4 < 7 by decide) dX2_init_28 (fun H locs hP hD hS => ?_)
  have hP : va_P D vwCl [(h0, .inr (2, [.ref q1, .int 0, .int 0, .int 0, .int 0, .int 0, .int 0])), (q1, .inl (cA 0, 5, .inl (fun _ => 0)))] H := hP
  have hD : va_D A [(h0, .inr (2, [.ref q1, .int 0, .int 0, .int 0, .int 0, .int 0, .int 0])), (q1, .inl (cA 0, 5, .inl (fun _ => 0)))] := hD
  refine lv_aload_n hx hb dX2_init_31 rfl (lv_at hl 0 rfl) ?_
  refine lv_iconst (v := 0) hx hb dX2_init_32 (by decide) ?_
  refine va_put (ci := 2) (v := .int 0) (T := TX2) (N := 7) (ref := RX2) hx hb (fun w h => X.2.2.2.2.1 w (uwC_2 w h)) (fun w h => h) tyX2 tyX2_ok nmX2 X.2.2.2.1 X.2.2.2.2.2.1 hP hD hS 0 rfl rfl 5 (by decide) (X.2.2.2.2.1 _ kw_413) (fun x h => h) rfl (ty := tyX2 5) (tyX2_ok 5 (by decide)) rfl rfl (show 5 < 7 by decide) dX2_init_33 (fun H locs hP hD hS => ?_)
  have hP : va_P D vwCl [(h0, .inr (2, [.ref q1, .int 0, .int 0, .int 0, .int 0, .int 0, .int 0])), (q1, .inl (cA 0, 5, .inl (fun _ => 0)))] H := hP
  have hD : va_D A [(h0, .inr (2, [.ref q1, .int 0, .int 0, .int 0, .int 0, .int 0, .int 0])), (q1, .inl (cA 0, 5, .inl (fun _ => 0)))] := hD
  refine lv_aload_n hx hb dX2_init_36 rfl (lv_at hl 0 rfl) ?_
  refine lv_iconst (v := 0) hx hb dX2_init_37 (by decide) ?_
  refine va_put (ci := 2) (v := .int 0) (T := TX2) (N := 7) (ref := RX2) hx hb (fun w h => X.2.2.2.2.1 w (uwC_2 w h)) (fun w h => h) tyX2 tyX2_ok nmX2 X.2.2.2.1 X.2.2.2.2.2.1 hP hD hS 0 rfl rfl 6 (by decide) (X.2.2.2.2.1 _ kw_414) (fun x h => h) rfl (ty := tyX2 6) (tyX2_ok 6 (by decide)) rfl rfl (show 6 < 7 by decide) dX2_init_38 (fun H locs hP hD hS => ?_)
  have hP : va_P D vwCl [(h0, .inr (2, [.ref q1, .int 0, .int 0, .int 0, .int 0, .int 0, .int 0])), (q1, .inl (cA 0, 5, .inl (fun _ => 0)))] H := hP
  have hD : va_D A [(h0, .inr (2, [.ref q1, .int 0, .int 0, .int 0, .int 0, .int 0, .int 0])), (q1, .inl (cA 0, 5, .inl (fun _ => 0)))] := hD
  subst hA
  exact kend (wX := w_X2_init cA h0) X hr hk (fun k => match k with | 1 => q1 | _ => 0) hP hD hS (Nat.le_of_ble_eq_true rfl) (Nat.le_of_ble_eq_true rfl) dX2_init_41
def w_X4_init (cA : Nat → ClassId) (h0 : Nat) (t0 : Nat) (u : Nat → Nat) : va_W := [(h0, .inr (4, [.ref t0, .ref (u 1), .int 0, .int 0, .int 0, .int 0])), ((u 1), .inl (cA 0, 3, .inl (fun _ => 0)))]
theorem dX4_init_0 : decode cX4_init 0 = .ok (.aload_n 0, 1) := by decide +kernel
theorem dX4_init_1 : decode cX4_init 1 = .ok (.invokespecial 3, 3) := by decide +kernel
theorem dX4_init_4 : decode cX4_init 4 = .ok (.aload_n 0, 1) := by decide +kernel
theorem dX4_init_5 : decode cX4_init 5 = .ok (.iconst 3, 1) := by decide +kernel
theorem dX4_init_6 : decode cX4_init 6 = .ok (.newarray .int, 2) := by decide +kernel
theorem dX4_init_8 : decode cX4_init 8 = .ok (.putfield 11, 3) := by decide +kernel
theorem dX4_init_11 : decode cX4_init 11 = .ok (.aload_n 0, 1) := by decide +kernel
theorem dX4_init_12 : decode cX4_init 12 = .ok (.iconst 0, 1) := by decide +kernel
theorem dX4_init_13 : decode cX4_init 13 = .ok (.putfield 15, 3) := by decide +kernel
theorem dX4_init_16 : decode cX4_init 16 = .ok (.aload_n 0, 1) := by decide +kernel
theorem dX4_init_17 : decode cX4_init 17 = .ok (.iconst 0, 1) := by decide +kernel
theorem dX4_init_18 : decode cX4_init 18 = .ok (.putfield 19, 3) := by decide +kernel
theorem dX4_init_21 : decode cX4_init 21 = .ok (.aload_n 0, 1) := by decide +kernel
theorem dX4_init_22 : decode cX4_init 22 = .ok (.iconst 0, 1) := by decide +kernel
theorem dX4_init_23 : decode cX4_init 23 = .ok (.putfield 22, 3) := by decide +kernel
theorem dX4_init_26 : decode cX4_init 26 = .ok (.aload_n 0, 1) := by decide +kernel
theorem dX4_init_27 : decode cX4_init 27 = .ok (.iconst 0, 1) := by decide +kernel
theorem dX4_init_28 : decode cX4_init 28 = .ok (.putfield 25, 3) := by decide +kernel
theorem dX4_init_31 : decode cX4_init 31 = .ok (.aload_n 0, 1) := by decide +kernel
theorem dX4_init_32 : decode cX4_init 32 = .ok (.aload_n 1, 1) := by decide +kernel
theorem dX4_init_33 : decode cX4_init 33 = .ok (.putfield 28, 3) := by decide +kernel
theorem dX4_init_36 : decode cX4_init 36 = .ok (.return_, 1) := by decide +kernel
set_option maxRecDepth 100000 in
set_option maxHeartbeats 8000000 in
theorem k_X4_init (l : Launch) (D : va_G) (cA : Nat → ClassId) (aK aV : Nat → Nat) (h0 sz : Nat) (t0 : Nat) : Met l yX4_init (.code yX4_init cX4_init 2 none :: BW) ({ frames := 1, cells := 1, slots := 3, locals := 12 } : Room) (va_Pc [.ref h0, .ref t0] (KB D cA aK aV [(h0, .inr (4, [.null, .null, .int 0, .int 0, .int 0, .int 0]))] sz)) (QK D [(h0, .inr (4, [.null, .null, .int 0, .int 0, .int 0, .int 0]))] sz (w_X4_init cA h0 t0)) 1 3 (va_A [(h0, .inr (4, [.null, .null, .int 0, .int 0, .int 0, .int 0]))] sz) := by
  refine kMet RX4 (by decide +kernel) rfl rfl (Nat.le_of_ble_eq_true rfl) ?_
  intro p e s m below meth c ls hsz X hr hk hP hD hS hl
  generalize hA : va_A [(h0, .inr (4, [.null, .null, .int 0, .int 0, .int 0, .int 0]))] sz = A at X hD hS ⊢
  have hx := X.1
  have hb := X.2.1
  have hl : lv_has ls 2 [(0, .ref h0), (1, .ref t0)] := hl
  refine lv_aload_n hx hb dX4_init_0 rfl (lv_at hl 0 rfl) ?_
  refine W.objInit hx hb X.2.2.2.1 (X.2.2.2.2.1 _ kw_328) (X.2.2.2.2.1 _ kw_26) (X.2.2.2.2.1 _ kw_27) rfl (by rw [X.2.2.1]; exact hl.1) rfl dX4_init_1 (Nat.le_of_ble_eq_true rfl) (Nat.le_of_ble_eq_true rfl) ?_
  refine W.eq (g2 := F0 m 4 ls []) rfl ?_
  refine lv_aload_n hx hb dX4_init_4 rfl (lv_at hl 0 rfl) ?_
  refine lv_iconst (v := 3) hx hb dX4_init_5 (by decide) ?_
  refine k_arr X hP hD hS (atype := .int) (ty := .int) (t0 := 0) (N' := 3) (a0 := (3, .inl (fun _ => 0))) kw_58 rfl rfl (fun _ h => by cases h) (fun _ => rfl) (by decide) (by decide) (Nat.le_of_ble_eq_true rfl) (Nat.le_of_ble_eq_true rfl) (Nat.le_of_ble_eq_true rfl) dX4_init_6 (fun q1 H hP hD hS => ?_)
  have hP : va_P D vwCl [(h0, .inr (4, [.null, .null, .int 0, .int 0, .int 0, .int 0])), (q1, .inl (cA 0, 3, .inl (fun _ => 0)))] H := hP
  have hD : va_D A [(h0, .inr (4, [.null, .null, .int 0, .int 0, .int 0, .int 0])), (q1, .inl (cA 0, 3, .inl (fun _ => 0)))] := hD
  refine va_putF (ci := 4) (v := .ref q1) (T := TX4) (N := 6) (ref := RX4) hx hb (fun w h => X.2.2.2.2.1 w (uwC_4 w h)) (fun w h => h) tyX4 tyX4_ok nmX4 X.2.2.2.1 X.2.2.2.2.2.1 hP hD hS 0 rfl rfl 1 (by decide) (X.2.2.2.2.1 _ kw_330) (fun x h => h) rfl X.2.2.2.2.2.2.2.2.2.1 rfl (ty := tyX4 1) (tyX4_ok 1 (by decide)) rfl rfl (show 1 < 6 by decide) dX4_init_8 (fun H locs hP hD hS => ?_)
  have hP : va_P D vwCl [(h0, .inr (4, [.null, .ref q1, .int 0, .int 0, .int 0, .int 0])), (q1, .inl (cA 0, 3, .inl (fun _ => 0)))] H := hP
  have hD : va_D A [(h0, .inr (4, [.null, .ref q1, .int 0, .int 0, .int 0, .int 0])), (q1, .inl (cA 0, 3, .inl (fun _ => 0)))] := hD
  refine lv_aload_n hx hb dX4_init_11 rfl (lv_at hl 0 rfl) ?_
  refine lv_iconst (v := 0) hx hb dX4_init_12 (by decide) ?_
  refine va_put (ci := 4) (v := .int 0) (T := TX4) (N := 6) (ref := RX4) hx hb (fun w h => X.2.2.2.2.1 w (uwC_4 w h)) (fun w h => h) tyX4 tyX4_ok nmX4 X.2.2.2.1 X.2.2.2.2.2.1 hP hD hS 0 rfl rfl 2 (by decide) (X.2.2.2.2.1 _ kw_331) (fun x h => h) rfl (ty := tyX4 2) (tyX4_ok 2 (by decide)) rfl rfl (show 2 < 6 by decide) dX4_init_13 (fun H locs hP hD hS => ?_)
  have hP : va_P D vwCl [(h0, .inr (4, [.null, .ref q1, .int 0, .int 0, .int 0, .int 0])), (q1, .inl (cA 0, 3, .inl (fun _ => 0)))] H := hP
  have hD : va_D A [(h0, .inr (4, [.null, .ref q1, .int 0, .int 0, .int 0, .int 0])), (q1, .inl (cA 0, 3, .inl (fun _ => 0)))] := hD
  refine lv_aload_n hx hb dX4_init_16 rfl (lv_at hl 0 rfl) ?_
  refine lv_iconst (v := 0) hx hb dX4_init_17 (by decide) ?_
  refine va_put (ci := 4) (v := .int 0) (T := TX4) (N := 6) (ref := RX4) hx hb (fun w h => X.2.2.2.2.1 w (uwC_4 w h)) (fun w h => h) tyX4 tyX4_ok nmX4 X.2.2.2.1 X.2.2.2.2.2.1 hP hD hS 0 rfl rfl 3 (by decide) (X.2.2.2.2.1 _ kw_332) (fun x h => h) rfl (ty := tyX4 3) (tyX4_ok 3 (by decide)) rfl rfl (show 3 < 6 by decide) dX4_init_18 (fun H locs hP hD hS => ?_)
  have hP : va_P D vwCl [(h0, .inr (4, [.null, .ref q1, .int 0, .int 0, .int 0, .int 0])), (q1, .inl (cA 0, 3, .inl (fun _ => 0)))] H := hP
  have hD : va_D A [(h0, .inr (4, [.null, .ref q1, .int 0, .int 0, .int 0, .int 0])), (q1, .inl (cA 0, 3, .inl (fun _ => 0)))] := hD
  refine lv_aload_n hx hb dX4_init_21 rfl (lv_at hl 0 rfl) ?_
  refine lv_iconst (v := 0) hx hb dX4_init_22 (by decide) ?_
  refine va_put (ci := 4) (v := .int 0) (T := TX4) (N := 6) (ref := RX4) hx hb (fun w h => X.2.2.2.2.1 w (uwC_4 w h)) (fun w h => h) tyX4 tyX4_ok nmX4 X.2.2.2.1 X.2.2.2.2.2.1 hP hD hS 0 rfl rfl 4 (by decide) (X.2.2.2.2.1 _ kw_333) (fun x h => h) rfl (ty := tyX4 4) (tyX4_ok 4 (by decide)) rfl rfl (show 4 < 6 by decide) dX4_init_23 (fun H locs hP hD hS => ?_)
  have hP : va_P D vwCl [(h0, .inr (4, [.null, .ref q1, .int 0, .int 0, .int 0, .int 0])), (q1, .inl (cA 0, 3, .inl (fun _ => 0)))] H := hP
  have hD : va_D A [(h0, .inr (4, [.null, .ref q1, .int 0, .int 0, .int 0, .int 0])), (q1, .inl (cA 0, 3, .inl (fun _ => 0)))] := hD
  refine lv_aload_n hx hb dX4_init_26 rfl (lv_at hl 0 rfl) ?_
  refine lv_iconst (v := 0) hx hb dX4_init_27 (by decide) ?_
  refine va_put (ci := 4) (v := .int 0) (T := TX4) (N := 6) (ref := RX4) hx hb (fun w h => X.2.2.2.2.1 w (uwC_4 w h)) (fun w h => h) tyX4 tyX4_ok nmX4 X.2.2.2.1 X.2.2.2.2.2.1 hP hD hS 0 rfl rfl 5 (by decide) (X.2.2.2.2.1 _ kw_334) (fun x h => h) rfl (ty := tyX4 5) (tyX4_ok 5 (by decide)) rfl rfl (show 5 < 6 by decide) dX4_init_28 (fun H locs hP hD hS => ?_)
  have hP : va_P D vwCl [(h0, .inr (4, [.null, .ref q1, .int 0, .int 0, .int 0, .int 0])), (q1, .inl (cA 0, 3, .inl (fun _ => 0)))] H := hP
  have hD : va_D A [(h0, .inr (4, [.null, .ref q1, .int 0, .int 0, .int 0, .int 0])), (q1, .inl (cA 0, 3, .inl (fun _ => 0)))] := hD
  refine lv_aload_n hx hb dX4_init_31 rfl (lv_at hl 0 rfl) ?_
  refine lv_aload_n hx hb dX4_init_32 rfl (lv_at hl 1 rfl) ?_
  refine va_putF (ci := 4) (v := .ref t0) (T := TX4) (N := 6) (ref := RX4) hx hb (fun w h => X.2.2.2.2.1 w (uwC_4 w h)) (fun w h => h) tyX4 tyX4_ok nmX4 X.2.2.2.1 X.2.2.2.2.2.1 hP hD hS 0 rfl rfl 0 (by decide) (X.2.2.2.2.1 _ kw_329) (fun x h => h) rfl X.2.2.2.2.2.2.2.2.2.1 rfl (ty := tyX4 0) (tyX4_ok 0 (by decide)) rfl rfl (show 0 < 6 by decide) dX4_init_33 (fun H locs hP hD hS => ?_)
  have hP : va_P D vwCl [(h0, .inr (4, [.ref t0, .ref q1, .int 0, .int 0, .int 0, .int 0])), (q1, .inl (cA 0, 3, .inl (fun _ => 0)))] H := hP
  have hD : va_D A [(h0, .inr (4, [.ref t0, .ref q1, .int 0, .int 0, .int 0, .int 0])), (q1, .inl (cA 0, 3, .inl (fun _ => 0)))] := hD
  subst hA
  exact kend (wX := w_X4_init cA h0 t0) X hr hk (fun k => match k with | 1 => q1 | _ => 0) hP hD hS (Nat.le_of_ble_eq_true rfl) (Nat.le_of_ble_eq_true rfl) dX4_init_36
