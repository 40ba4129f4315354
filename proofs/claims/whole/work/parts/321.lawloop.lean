/-! THE LAW'S LOOP (written by wip/gen/start.py) -/
theorem dL_law_18 : decode cL_law 18 = .ok (.iload_n 3, 1) := by decide +kernel
theorem dL_law_19 : decode cL_law 19 = .ok (.aload_n 0, 1) := by decide +kernel
theorem dL_law_20 : decode cL_law 20 = .ok (.arraylength, 1) := by decide +kernel
theorem dL_law_21 : decode cL_law 21 = .ok (.bipush 6, 2) := by decide +kernel
theorem dL_law_23 : decode cL_law 23 = .ok (.isub, 1) := by decide +kernel
theorem dL_law_24 : decode cL_law 24 = .ok (.if_icmp .gt 1992, 3) := by decide +kernel
theorem dL_law_27 : decode cL_law 27 = .ok (.aload_n 0, 1) := by decide +kernel
theorem dL_law_28 : decode cL_law 28 = .ok (.iload_n 3, 1) := by decide +kernel
theorem dL_law_29 : decode cL_law 29 = .ok (.iaload, 1) := by decide +kernel
theorem dL_law_30 : decode cL_law 30 = .ok (.bipush 63, 2) := by decide +kernel
theorem dL_law_32 : decode cL_law 32 = .ok (.iand, 1) := by decide +kernel
theorem dL_law_33 : decode cL_law 33 = .ok (.tableswitch 1977 0 60 #[259, 272, 286, 300, 343, 416, 450, 513, 576, 599, 622, 645, 668, 691, 724, 757, 790, 823, 846, 859, 892, 951, 964, 987, 1036, 1069, 1112, 1135, 1168, 1191, 1224, 1247, 1270, 1293, 1316, 1339, 1372, 1415, 1458, 1501, 1534, 1577, 1600, 1613, 1636, 1649, 1672, 1695, 1718, 1731, 1744, 1757, 1770, 1793, 1816, 1849, 1872, 1895, 1918, 1951, 1964], 259) := by decide +kernel
theorem dL_law_2010 : decode cL_law 2010 = .ok (.iinc 3 6, 3) := by decide +kernel
theorem dL_law_2013 : decode cL_law 2013 = .ok (.goto (-1995), 3) := by decide +kernel
theorem dL_law_2016 : decode cL_law 2016 = .ok (.iconst 1, 1) := by decide +kernel
theorem dL_law_2017 : decode cL_law 2017 = .ok (.ireturn, 1) := by decide +kernel
section LAWL
variable {p : Program} {l : Launch} {e : Env} {s : State} {m : MethodId} {args : Array Value} {below : List Frame} {meth : Method} {c : Code} {H : Heap} {locs : List Loc} {cells slots : Nat} {Q : State → Prop} {pc : Nat} {ls : Array Slot} {rest : List Value}
variable {D : va_G} {cA : Nat → ClassId} {q r aK aV : Nat → Nat} {b L : Nat} {xs : Nat → Int32}
set_option maxRecDepth 100000 in
set_option maxHeartbeats 4000000 in
theorem lw_sw {i : Nat} {M N : Mem} (hL : L ≤ 3072) (hi : i + 6 ≤ L) (X : LX p s args m c D cA q r aK aV b L xs) (hR : Rel M N) (hPC : va_P D vwCl (wsG 167 (ceC cA q) q M) H) (hPR : va_P D vwCl (wsG 20 (ceR cA r) r N) H) (hS : va_S (fun x => s.heap.size ≤ x) s.heap H locs) (hl : lv_has ls 4 [(3, .int (nI i)), (2, .ref (r 0)), (1, .ref (q 0)), (0, .ref b)]) (kk : KL p l e s m args below meth c D cA q r Q ls) {t : Nat} (ht : t < 64) : W p l e room_1 s m args below meth c H locs 187 9315 Q (F0 m 33 ls [.int (nI t)]) := by
  obtain ⟨hx, hb, -⟩ := id X
  match t, ht with
  | 0, _ => exact lv_tableIn (tgt := 292) hx hb dL_law_33 (by decide +kernel) (by decide +kernel) (off := 259) (by decide +kernel) (by decide) (lc_0 hL hi X hR hPC hPR hS hl kk)
  | 1, _ => exact lv_tableIn (tgt := 305) hx hb dL_law_33 (by decide +kernel) (by decide +kernel) (off := 272) (by decide +kernel) (by decide) (lc_1 hL hi X hR hPC hPR hS hl kk)
  | 2, _ => exact lv_tableIn (tgt := 319) hx hb dL_law_33 (by decide +kernel) (by decide +kernel) (off := 286) (by decide +kernel) (by decide) (lc_2 hL hi X hR hPC hPR hS hl kk)
  | 3, _ => exact lv_tableIn (tgt := 333) hx hb dL_law_33 (by decide +kernel) (by decide +kernel) (off := 300) (by decide +kernel) (by decide) (lc_3 hL hi X hR hPC hPR hS hl kk)
  | 4, _ => exact lv_tableIn (tgt := 376) hx hb dL_law_33 (by decide +kernel) (by decide +kernel) (off := 343) (by decide +kernel) (by decide) (lc_4 hL hi X hR hPC hPR hS hl kk)
  | 5, _ => exact lv_tableIn (tgt := 449) hx hb dL_law_33 (by decide +kernel) (by decide +kernel) (off := 416) (by decide +kernel) (by decide) (lc_5 hL hi X hR hPC hPR hS hl kk)
  | 6, _ => exact lv_tableIn (tgt := 483) hx hb dL_law_33 (by decide +kernel) (by decide +kernel) (off := 450) (by decide +kernel) (by decide) (lc_6 hL hi X hR hPC hPR hS hl kk)
  | 7, _ => exact lv_tableIn (tgt := 546) hx hb dL_law_33 (by decide +kernel) (by decide +kernel) (off := 513) (by decide +kernel) (by decide) (lc_7 hL hi X hR hPC hPR hS hl kk)
  | 8, _ => exact lv_tableIn (tgt := 609) hx hb dL_law_33 (by decide +kernel) (by decide +kernel) (off := 576) (by decide +kernel) (by decide) (lc_8 hL hi X hR hPC hPR hS hl kk)
  | 9, _ => exact lv_tableIn (tgt := 632) hx hb dL_law_33 (by decide +kernel) (by decide +kernel) (off := 599) (by decide +kernel) (by decide) (lc_9 hL hi X hR hPC hPR hS hl kk)
  | 10, _ => exact lv_tableIn (tgt := 655) hx hb dL_law_33 (by decide +kernel) (by decide +kernel) (off := 622) (by decide +kernel) (by decide) (lc_10 hL hi X hR hPC hPR hS hl kk)
  | 11, _ => exact lv_tableIn (tgt := 678) hx hb dL_law_33 (by decide +kernel) (by decide +kernel) (off := 645) (by decide +kernel) (by decide) (lc_11 hL hi X hR hPC hPR hS hl kk)
  | 12, _ => exact lv_tableIn (tgt := 701) hx hb dL_law_33 (by decide +kernel) (by decide +kernel) (off := 668) (by decide +kernel) (by decide) (lc_12 hL hi X hR hPC hPR hS hl kk)
  | 13, _ => exact lv_tableIn (tgt := 724) hx hb dL_law_33 (by decide +kernel) (by decide +kernel) (off := 691) (by decide +kernel) (by decide) (lc_13 hL hi X hR hPC hPR hS hl kk)
  | 14, _ => exact lv_tableIn (tgt := 757) hx hb dL_law_33 (by decide +kernel) (by decide +kernel) (off := 724) (by decide +kernel) (by decide) (lc_14 hL hi X hR hPC hPR hS hl kk)
  | 15, _ => exact lv_tableIn (tgt := 790) hx hb dL_law_33 (by decide +kernel) (by decide +kernel) (off := 757) (by decide +kernel) (by decide) (lc_15 hL hi X hR hPC hPR hS hl kk)
  | 16, _ => exact lv_tableIn (tgt := 823) hx hb dL_law_33 (by decide +kernel) (by decide +kernel) (off := 790) (by decide +kernel) (by decide) (lc_16 hL hi X hR hPC hPR hS hl kk)
  | 17, _ => exact lv_tableIn (tgt := 856) hx hb dL_law_33 (by decide +kernel) (by decide +kernel) (off := 823) (by decide +kernel) (by decide) (lc_17 hL hi X hR hPC hPR hS hl kk)
  | 18, _ => exact lv_tableIn (tgt := 879) hx hb dL_law_33 (by decide +kernel) (by decide +kernel) (off := 846) (by decide +kernel) (by decide) (lc_18 hL hi X hR hPC hPR hS hl kk)
  | 19, _ => exact lv_tableIn (tgt := 892) hx hb dL_law_33 (by decide +kernel) (by decide +kernel) (off := 859) (by decide +kernel) (by decide) (lc_19 hL hi X hR hPC hPR hS hl kk)
  | 20, _ => exact lv_tableIn (tgt := 925) hx hb dL_law_33 (by decide +kernel) (by decide +kernel) (off := 892) (by decide +kernel) (by decide) (lc_20 hL hi X hR hPC hPR hS hl kk)
  | 21, _ => exact lv_tableIn (tgt := 984) hx hb dL_law_33 (by decide +kernel) (by decide +kernel) (off := 951) (by decide +kernel) (by decide) (lc_21 hL hi X hR hPC hPR hS hl kk)
  | 22, _ => exact lv_tableIn (tgt := 997) hx hb dL_law_33 (by decide +kernel) (by decide +kernel) (off := 964) (by decide +kernel) (by decide) (lc_22 hL hi X hR hPC hPR hS hl kk)
  | 23, _ => exact lv_tableIn (tgt := 1020) hx hb dL_law_33 (by decide +kernel) (by decide +kernel) (off := 987) (by decide +kernel) (by decide) (lc_23 hL hi X hR hPC hPR hS hl kk)
  | 24, _ => exact lv_tableIn (tgt := 1069) hx hb dL_law_33 (by decide +kernel) (by decide +kernel) (off := 1036) (by decide +kernel) (by decide) (lc_24 hL hi X hR hPC hPR hS hl kk)
  | 25, _ => exact lv_tableIn (tgt := 1102) hx hb dL_law_33 (by decide +kernel) (by decide +kernel) (off := 1069) (by decide +kernel) (by decide) (lc_25 hL hi X hR hPC hPR hS hl kk)
  | 26, _ => exact lv_tableIn (tgt := 1145) hx hb dL_law_33 (by decide +kernel) (by decide +kernel) (off := 1112) (by decide +kernel) (by decide) (lc_26 hL hi X hR hPC hPR hS hl kk)
  | 27, _ => exact lv_tableIn (tgt := 1168) hx hb dL_law_33 (by decide +kernel) (by decide +kernel) (off := 1135) (by decide +kernel) (by decide) (lc_27 hL hi X hR hPC hPR hS hl kk)
  | 28, _ => exact lv_tableIn (tgt := 1201) hx hb dL_law_33 (by decide +kernel) (by decide +kernel) (off := 1168) (by decide +kernel) (by decide) (lc_28 hL hi X hR hPC hPR hS hl kk)
  | 29, _ => exact lv_tableIn (tgt := 1224) hx hb dL_law_33 (by decide +kernel) (by decide +kernel) (off := 1191) (by decide +kernel) (by decide) (lc_29 hL hi X hR hPC hPR hS hl kk)
  | 30, _ => exact lv_tableIn (tgt := 1257) hx hb dL_law_33 (by decide +kernel) (by decide +kernel) (off := 1224) (by decide +kernel) (by decide) (lc_30 hL hi X hR hPC hPR hS hl kk)
  | 31, _ => exact lv_tableIn (tgt := 1280) hx hb dL_law_33 (by decide +kernel) (by decide +kernel) (off := 1247) (by decide +kernel) (by decide) (lc_31 hL hi X hR hPC hPR hS hl kk)
  | 32, _ => exact lv_tableIn (tgt := 1303) hx hb dL_law_33 (by decide +kernel) (by decide +kernel) (off := 1270) (by decide +kernel) (by decide) (lc_32 hL hi X hR hPC hPR hS hl kk)
  | 33, _ => exact lv_tableIn (tgt := 1326) hx hb dL_law_33 (by decide +kernel) (by decide +kernel) (off := 1293) (by decide +kernel) (by decide) (lc_33 hL hi X hR hPC hPR hS hl kk)
  | 34, _ => exact lv_tableIn (tgt := 1349) hx hb dL_law_33 (by decide +kernel) (by decide +kernel) (off := 1316) (by decide +kernel) (by decide) (lc_34 hL hi X hR hPC hPR hS hl kk)
  | 35, _ => exact lv_tableIn (tgt := 1372) hx hb dL_law_33 (by decide +kernel) (by decide +kernel) (off := 1339) (by decide +kernel) (by decide) (lc_35 hL hi X hR hPC hPR hS hl kk)
  | 36, _ => exact lv_tableIn (tgt := 1405) hx hb dL_law_33 (by decide +kernel) (by decide +kernel) (off := 1372) (by decide +kernel) (by decide) (lc_36 hL hi X hR hPC hPR hS hl kk)
  | 37, _ => exact lv_tableIn (tgt := 1448) hx hb dL_law_33 (by decide +kernel) (by decide +kernel) (off := 1415) (by decide +kernel) (by decide) (lc_37 hL hi X hR hPC hPR hS hl kk)
  | 38, _ => exact lv_tableIn (tgt := 1491) hx hb dL_law_33 (by decide +kernel) (by decide +kernel) (off := 1458) (by decide +kernel) (by decide) (lc_38 hL hi X hR hPC hPR hS hl kk)
  | 39, _ => exact lv_tableIn (tgt := 1534) hx hb dL_law_33 (by decide +kernel) (by decide +kernel) (off := 1501) (by decide +kernel) (by decide) (lc_39 hL hi X hR hPC hPR hS hl kk)
  | 40, _ => exact lv_tableIn (tgt := 1567) hx hb dL_law_33 (by decide +kernel) (by decide +kernel) (off := 1534) (by decide +kernel) (by decide) (lc_40 hL hi X hR hPC hPR hS hl kk)
  | 41, _ => exact lv_tableIn (tgt := 1610) hx hb dL_law_33 (by decide +kernel) (by decide +kernel) (off := 1577) (by decide +kernel) (by decide) (lc_41 hL hi X hR hPC hPR hS hl kk)
  | 42, _ => exact lv_tableIn (tgt := 1633) hx hb dL_law_33 (by decide +kernel) (by decide +kernel) (off := 1600) (by decide +kernel) (by decide) (lc_42 hL hi X hR hPC hPR hS hl kk)
  | 43, _ => exact lv_tableIn (tgt := 1646) hx hb dL_law_33 (by decide +kernel) (by decide +kernel) (off := 1613) (by decide +kernel) (by decide) (lc_43 hL hi X hR hPC hPR hS hl kk)
  | 44, _ => exact lv_tableIn (tgt := 1669) hx hb dL_law_33 (by decide +kernel) (by decide +kernel) (off := 1636) (by decide +kernel) (by decide) (lc_44 hL hi X hR hPC hPR hS hl kk)
  | 45, _ => exact lv_tableIn (tgt := 1682) hx hb dL_law_33 (by decide +kernel) (by decide +kernel) (off := 1649) (by decide +kernel) (by decide) (lc_45 hL hi X hR hPC hPR hS hl kk)
  | 46, _ => exact lv_tableIn (tgt := 1705) hx hb dL_law_33 (by decide +kernel) (by decide +kernel) (off := 1672) (by decide +kernel) (by decide) (lc_46 hL hi X hR hPC hPR hS hl kk)
  | 47, _ => exact lv_tableIn (tgt := 1728) hx hb dL_law_33 (by decide +kernel) (by decide +kernel) (off := 1695) (by decide +kernel) (by decide) (lc_47 hL hi X hR hPC hPR hS hl kk)
  | 48, _ => exact lv_tableIn (tgt := 1751) hx hb dL_law_33 (by decide +kernel) (by decide +kernel) (off := 1718) (by decide +kernel) (by decide) (lc_48 hL hi X hR hPC hPR hS hl kk)
  | 49, _ => exact lv_tableIn (tgt := 1764) hx hb dL_law_33 (by decide +kernel) (by decide +kernel) (off := 1731) (by decide +kernel) (by decide) (lc_49 hL hi X hR hPC hPR hS hl kk)
  | 50, _ => exact lv_tableIn (tgt := 1777) hx hb dL_law_33 (by decide +kernel) (by decide +kernel) (off := 1744) (by decide +kernel) (by decide) (lc_50 hL hi X hR hPC hPR hS hl kk)
  | 51, _ => exact lv_tableIn (tgt := 1790) hx hb dL_law_33 (by decide +kernel) (by decide +kernel) (off := 1757) (by decide +kernel) (by decide) (lc_51 hL hi X hR hPC hPR hS hl kk)
  | 52, _ => exact lv_tableIn (tgt := 1803) hx hb dL_law_33 (by decide +kernel) (by decide +kernel) (off := 1770) (by decide +kernel) (by decide) (lc_52 hL hi X hR hPC hPR hS hl kk)
  | 53, _ => exact lv_tableIn (tgt := 1826) hx hb dL_law_33 (by decide +kernel) (by decide +kernel) (off := 1793) (by decide +kernel) (by decide) (lc_53 hL hi X hR hPC hPR hS hl kk)
  | 54, _ => exact lv_tableIn (tgt := 1849) hx hb dL_law_33 (by decide +kernel) (by decide +kernel) (off := 1816) (by decide +kernel) (by decide) (lc_54 hL hi X hR hPC hPR hS hl kk)
  | 55, _ => exact lv_tableIn (tgt := 1882) hx hb dL_law_33 (by decide +kernel) (by decide +kernel) (off := 1849) (by decide +kernel) (by decide) (lc_55 hL hi X hR hPC hPR hS hl kk)
  | 56, _ => exact lv_tableIn (tgt := 1905) hx hb dL_law_33 (by decide +kernel) (by decide +kernel) (off := 1872) (by decide +kernel) (by decide) (lc_56 hL hi X hR hPC hPR hS hl kk)
  | 57, _ => exact lv_tableIn (tgt := 1928) hx hb dL_law_33 (by decide +kernel) (by decide +kernel) (off := 1895) (by decide +kernel) (by decide) (lc_57 hL hi X hR hPC hPR hS hl kk)
  | 58, _ => exact lv_tableIn (tgt := 1951) hx hb dL_law_33 (by decide +kernel) (by decide +kernel) (off := 1918) (by decide +kernel) (by decide) (lc_58 hL hi X hR hPC hPR hS hl kk)
  | 59, _ => exact lv_tableIn (tgt := 1984) hx hb dL_law_33 (by decide +kernel) (by decide +kernel) (off := 1951) (by decide +kernel) (by decide) (lc_59 hL hi X hR hPC hPR hS hl kk)
  | 60, _ => exact lv_tableIn (tgt := 1997) hx hb dL_law_33 (by decide +kernel) (by decide +kernel) (off := 1964) (by decide +kernel) (by decide) (lc_60 hL hi X hR hPC hPR hS hl kk)
  | 61, _ => exact lv_tableOut (tgt := 2010) hx hb dL_law_33 (Or.inr (by decide +kernel)) (by decide) (kk M N H locs hR hPC hPR hS)
  | 62, _ => exact lv_tableOut (tgt := 2010) hx hb dL_law_33 (Or.inr (by decide +kernel)) (by decide) (kk M N H locs hR hPC hPR hS)
  | 63, _ => exact lv_tableOut (tgt := 2010) hx hb dL_law_33 (Or.inr (by decide +kernel)) (by decide) (kk M N H locs hR hPC hPR hS)
  | k + 64, z => exact absurd z (by omega)
set_option maxRecDepth 100000 in
set_option maxHeartbeats 4000000 in
theorem law_loop (hL : L ≤ 3072) (hr : meth.sig.returnType = ret) (hlocks : meth.locks = false) (X : LX p s #[Value.ref b] m c D cA q r aK aV b L xs) : ∀ (n i : Nat), i ≤ L → L < i + n → ∀ (M N : Mem) (H : Heap) (locs : List Loc) (ls : Array Slot), Rel M N → va_P D vwCl (wsG 167 (ceC cA q) q M) H → va_P D vwCl (wsG 20 (ceR cA r) r N) H → va_S (fun x => s.heap.size ≤ x) s.heap H locs → lv_has ls 4 [(3, .int (nI i)), (2, .ref (r 0)), (1, .ref (q 0)), (0, .ref b)] → W p l e room_1 s m #[Value.ref b] below meth c H locs 187 9315 (lw_Z below #[Value.ref b] s) (F0 m 18 ls []) := by
  obtain ⟨hx, hb, -, -, -, -, -, -, -, -, -, -, -, hX, hbl⟩ := id X
  have hbA : ¬ (fun x : Nat => s.heap.size ≤ x) b := Nat.not_le.mpr hbl
  intro n
  induction n with
  | zero =>
    intro i h1 h2
    exact absurd h2 (by omega)
  | succ n ih =>
    intro i hi hn M N H locs ls hR hPC hPR hS hl
    refine lv_iload_n hx hb dL_law_18 rfl (lv_at hl 0 rfl) ?_
    refine lv_aload_n hx hb dL_law_19 rfl (lv_at hl 3 rfl) ?_
    refine va_slen hx hb hX hbl hbA hS dL_law_20 ?_
    refine lv_bipush (v := 6) hx hb dL_law_21 (by decide) ?_
    refine lv_isub hx hb dL_law_23 ?_
    refine lv_icmp_gt (tgt := 2016) hx hb dL_law_24 (by decide) (fun z => ?_) (fun z => ?_)
    · refine lv_iconst (v := 1) hx hb dL_law_2016 (by decide) ?_
      refine va_forget (fun q hq => hS.2.2 q hq) ?_
      refine W.widen (k := 600000) (n := 7302249) (Nat.le_of_ble_eq_true rfl) (Nat.le_of_ble_eq_true rfl) ?_
      exact lw_ret hx hb hr hlocks dL_law_2017
    · have hi6 := lx_le hi hL z
      have kk : KL p l e s m #[Value.ref b] below meth c D cA q r (lw_Z below #[Value.ref b] s) ls := by
        intro M1 N1 H1 locs1 hR1 hPC1 hPR1 hS1
        refine lv_iinc (v := nI (i + 6)) (lv' := [(3, .int (nI (i + 6))), (2, .ref (r 0)), (1, .ref (q 0)), (0, .ref b)]) hx hb dL_law_2010 hl (k := 0) rfl (by rw [show Int32.ofInt 6 = nI 6 by decide +kernel, nI_add]) (by decide) rfl (fun ls2 hl2 => ?_)
        refine lv_goto (tgt := 18) hx hb dL_law_2013 (by decide) ?_
        exact ih (i + 6) hi6 (by omega) M1 N1 H1 locs1 ls2 hR1 hPC1 hPR1 hS1 hl2
      refine lv_aload_n hx hb dL_law_27 rfl (lv_at hl 3 rfl) ?_
      refine lv_iload_n hx hb dL_law_28 rfl (lv_at hl 0 rfl) ?_
      refine va_sld hx hb hX hbl hbA hS (vp_in_nI (by omega) (by omega)) dL_law_29 ?_
      refine lv_bipush (v := 63) hx hb dL_law_30 (by decide) ?_
      refine lv_iand hx hb dL_law_32 ?_
      obtain ⟨t, ht, et⟩ := lx_and (xs (nI i).toNatClampNeg)
      rw [et]
      exact lw_sw hL hi6 X hR hPC hPR hS hl kk ht
end LAWL
