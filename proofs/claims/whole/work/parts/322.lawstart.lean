/-! THE LAW, from its entry (written by wip/gen/start.py) -/
theorem dL_law_0 : decode cL_law 0 = .ok (.new 7, 3) := by decide +kernel
theorem dL_law_3 : decode cL_law 3 = .ok (.dup, 1) := by decide +kernel
theorem dL_law_4 : decode cL_law 4 = .ok (.invokespecial 9, 3) := by decide +kernel
theorem dL_law_7 : decode cL_law 7 = .ok (.astore_n 1, 1) := by decide +kernel
theorem dL_law_8 : decode cL_law 8 = .ok (.new 10, 3) := by decide +kernel
theorem dL_law_11 : decode cL_law 11 = .ok (.dup, 1) := by decide +kernel
theorem dL_law_12 : decode cL_law 12 = .ok (.invokespecial 12, 3) := by decide +kernel
theorem dL_law_15 : decode cL_law 15 = .ok (.astore_n 2, 1) := by decide +kernel
theorem dL_law_16 : decode cL_law 16 = .ok (.iconst 0, 1) := by decide +kernel
theorem dL_law_17 : decode cL_law 17 = .ok (.istore_n 3, 1) := by decide +kernel
theorem l_own {s : State} {H : Heap} {locs : List Loc} {a : Nat} {e0 : va_E} (ha : s.heap.size ≤ a) (hS : va_S (fun x => s.heap.size ≤ x) s.heap H locs) : ∀ x, va_A [(a, e0)] H.size x → s.heap.size ≤ x := by
  rintro x (⟨k, e, hk⟩ | hx)
  · have : k < 1 := (List.getElem?_eq_some_iff.mp hk).1
    rw [show k = 0 by omega] at hk
    cases hk
    exact ha
  · exact Nat.le_trans hS.1 hx
theorem l_pre {s : State} {D : va_G} {cA : Nat → ClassId} {aK aV : Nat → Nat} {H : Heap} {locs : List Loc} {a : Nat} {e0 : va_E} {As : List Value} (hK : va_K D vwCl (tysOf cA) s) (hN : ∀ w ∈ NW, va_Nw w s) (hZ : SP aK aV (fun x => s.heap.size ≤ x) s s.heap) (hO : AOs s) (hP : va_P D vwCl [(a, e0)] H) (ha : s.heap.size ≤ a) (hS : va_S (fun x => s.heap.size ≤ x) s.heap H locs) : PreS s H (va_Pc (.ref a :: As) (KB D cA aK aV [(a, e0)] H.size)) (.ref a :: As) := by
  have hD1 : va_D (fun _ => True) [(a, e0)] := ⟨fun i j x y hi hj _ => by
    have := (List.getElem?_eq_some_iff.mp hi).1
    have := (List.getElem?_eq_some_iff.mp hj).1
    simp at *
    omega, fun _ _ _ => trivial⟩
  refine ⟨fun a1 U g mk q => ?_, fun U hU hW => ⟨rfl, by rw [hU], by rw [hU]; exact hP, va_K.moved hW.alike hK, NW_warm hW hN, SP_sub (SP_to hZ hS hU hW) (l_own ha hS), hD1, hO.moved hW.alike⟩⟩
  obtain ⟨q0, q1, qP, qK, qN, qZ, qD, qO⟩ := q
  exact ⟨q0, q1, qP, va_K.moved (u := U) (U := U.calling g mk a1) (Vm.Alike.refl U.vm) qK, NW_same (u := U) (U := U.calling g mk a1) rfl qN, SP_blind qZ, qD, qO.moved (u := U) (U := U.calling g mk a1) (Vm.Alike.refl U.vm)⟩
set_option maxRecDepth 100000 in
set_option maxHeartbeats 16000000 in
theorem whole_start {p : Program} {e : Env} {s : State} {m : MethodId} {below : List Frame} {meth : Method} {c : Code} (l : Launch) (_hflags : l.flags = flags0) {b L : Nat} {xs : Nat → Int32} (hL : L ≤ 3072) (C0 : lw_At p s m meth c b L xs) : W p l e room_1 s m #[Value.ref b] below meth c s.heap [] 0 0 (lw_Z below #[Value.ref b] s) (entryFrame m ([Value.ref b] : List Value).toArray 4) := by
  obtain ⟨hx, hb, hr, hml, hown, hts, hX, hbl, hlocks, hgv⟩ := id C0
  have hbt : ∀ w ∈ BW, w.before #[Value.ref b] s = true := fun w hw => hts w (bw_in hw)
  obtain ⟨aK, aV, hZ⟩ := sp_start (A := fun x : Nat => s.heap.size ≤ x) hts hgv (fun a h => Nat.not_le.mpr h)
  obtain ⟨D, hKn⟩ := kn_start hbt
  obtain ⟨cA, hTy⟩ := ty_start hts
  have hK : va_K D vwCl (tysOf cA) s := ⟨hKn, hTy⟩
  have hN := nw_start hts
  have hO := ov_start hts
  obtain ⟨M1, hpl, g1, g2⟩ := r_plain0 MR0
  have hS : va_S (fun x : Nat => s.heap.size ≤ x) s.heap s.heap [] := va_S.rf
  have hP : va_P D vwCl [] s.heap := fun k q h => by simp at h
  have hD : va_D (fun x : Nat => s.heap.size ≤ x) [] := ⟨fun i j p q h => by simp at h, fun k q h => by simp at h⟩
  have hl := lv_entry ([.ref b]) (n := 4) (Nat.le_of_ble_eq_true rfl)
  rw [lg_entry_eq]
  generalize (lg_sl ([.ref b]) ++ List.replicate (4 - (lg_sl ([.ref b])).length) Slot.unset).toArray = ls at hl ⊢
  have hl : lv_has ls 4 [(0, .ref b)] := hl
  refine va_new (ci := 11) (fs := [.null, .null, .null, .int 0, .null, .null, .null, .null, .null, .null, .null, .null, .int 0, .long 0, .long 0, .int 0, .int 0, .int 0, .int 0]) (C := RX11) (T := TX11) (N := 19) hx hb (fun w h => hbt w (uwC_11 w h)) (fun w h => h) tyX11 tyX11_ok hown (hbt _ lk_20) (hbt _ lk_21) (hbt _ lk_1) hK hP hD hS (fun q h => h) rfl (fun j hj => match j, hj with | 0, _ => rfl | 1, _ => rfl | 2, _ => rfl | 3, _ => rfl | 4, _ => rfl | 5, _ => rfl | 6, _ => rfl | 7, _ => rfl | 8, _ => rfl | 9, _ => rfl | 10, _ => rfl | 11, _ => rfl | 12, _ => rfl | 13, _ => rfl | 14, _ => rfl | 15, _ => rfl | 16, _ => rfl | 17, _ => rfl | 18, _ => rfl | k + 19, h => absurd h (by omega)) (Nat.le_of_ble_eq_true rfl) (Nat.le_of_ble_eq_true rfl) dL_law_0 (fun h0 H hP hD hS => ?_)
  have hPg : va_P D vwCl [(h0, .inr (11, [.null, .null, .null, .int 0, .null, .null, .null, .null, .null, .null, .null, .null, .int 0, .long 0, .long 0, .int 0, .int 0, .int 0, .int 0]))] H := hP
  have hg : s.heap.size ≤ h0 := hD.2 0 (h0, .inr (11, [.null, .null, .null, .int 0, .null, .null, .null, .null, .null, .null, .null, .null, .int 0, .long 0, .long 0, .int 0, .int 0, .int 0, .int 0])) rfl
  refine W.widen (k := 1) (n := 19) (Nat.le_of_ble_eq_true rfl) (Nat.le_of_ble_eq_true rfl) ?_
  refine lv_dup hx hb dL_law_3 rfl ?_
  refine va_callv (va_runI (As := []) (rest := [.ref h0]) ⟨hx, hb, hml, hown, hbt⟩ (k_X11_init l D cA aK aV h0 H.size) ⟨callB_of 0 (Ts := BW) hbt (bw_gi lk_24) rfl rfl rfl (hbt _ lk_1) (hbt _ lk_22) (by decide +kernel) ⟨Nat.le_of_ble_eq_true rfl, Nat.le_of_ble_eq_true rfl⟩, rfl, hbt _ lk_23⟩ (l_pre hK hN hZ hO hPg hg hS) rfl rfl hl.1 rfl (lv_room (Nat.le_of_ble_eq_true rfl)) dL_law_4 ⟨Nat.le_of_ble_eq_true rfl, Nat.le_of_ble_eq_true rfl⟩) hS (fun x _ h => l_own hg hS x h) (fun x h => l_own hg hS x h) (fun u t H1 locs1 ht hvm hw hB hz1 hk1 hS1 => ?_)
  obtain ⟨hP1, hD1⟩ := hB
  rw [ht] at hP1
  obtain ⟨q, q0, iC, aC, hPC⟩ := first_C hP1 hD1
  have aC1 : ∀ x, AqG 167 q x → s.heap.size ≤ x := fun x h => l_own hg hS x (aC x h)
  clear hP1 hD1 aC hk1 hz1 hPg hg hP hD hS
  refine lv_astore_n (lv' := [(1, .ref h0), (0, .ref b)]) hx hb dL_law_7 rfl hl (by decide) rfl (fun ls hl => ?_)
  have hDC : va_D (fun x : Nat => s.heap.size ≤ x) (wsG 167 (ceC cA q) q MC0) := (wsG_D iC).weaken (fun _ x _ h => aC1 x.1 h)
  refine va_new (ci := 12) (fs := [.null, .null, .int 0, .long 0, .long 0, .null, .null, .null, .null, .null, .int 0, .int 0, .int 0, .int 0, .int 0, .int 0, .int 0, .int 0, .int 0, .int 0, .null, .int 0, .int 0, .null, .int 0, .null, .int 0, .int 0, .int 0, .null, .null, .null, .null, .null, .null, .int 0, .int 0, .null, .null, .null, .int 0, .int 0]) (C := RX12) (T := TX12) (N := 42) hx hb (fun w h => hbt w (uwR_12 w h)) (fun w h => h) tyX12 tyX12_ok hown (hbt _ lk_1313) (hbt _ lk_1314) (hbt _ lk_17) hK hPC hDC hS1 (fun q h => h) rfl (fun j hj => match j, hj with | 0, _ => rfl | 1, _ => rfl | 2, _ => rfl | 3, _ => rfl | 4, _ => rfl | 5, _ => rfl | 6, _ => rfl | 7, _ => rfl | 8, _ => rfl | 9, _ => rfl | 10, _ => rfl | 11, _ => rfl | 12, _ => rfl | 13, _ => rfl | 14, _ => rfl | 15, _ => rfl | 16, _ => rfl | 17, _ => rfl | 18, _ => rfl | 19, _ => rfl | 20, _ => rfl | 21, _ => rfl | 22, _ => rfl | 23, _ => rfl | 24, _ => rfl | 25, _ => rfl | 26, _ => rfl | 27, _ => rfl | 28, _ => rfl | 29, _ => rfl | 30, _ => rfl | 31, _ => rfl | 32, _ => rfl | 33, _ => rfl | 34, _ => rfl | 35, _ => rfl | 36, _ => rfl | 37, _ => rfl | 38, _ => rfl | 39, _ => rfl | 40, _ => rfl | 41, _ => rfl | k + 42, h => absurd h (by omega)) (Nat.le_of_ble_eq_true rfl) (Nat.le_of_ble_eq_true rfl) dL_law_8 (fun g0 H hP hD hS => ?_)
  have hPC2 : va_P D vwCl (wsG 167 (ceC cA q) q MC0) H := fun k x hx => hP k x (by rw [List.getElem?_append_left (List.getElem?_eq_some_iff.mp hx).1]; exact hx)
  have hPg : va_P D vwCl [(g0, .inr (12, [.null, .null, .int 0, .long 0, .long 0, .null, .null, .null, .null, .null, .int 0, .int 0, .int 0, .int 0, .int 0, .int 0, .int 0, .int 0, .int 0, .int 0, .null, .int 0, .int 0, .null, .int 0, .null, .int 0, .int 0, .int 0, .null, .null, .null, .null, .null, .null, .int 0, .int 0, .null, .null, .null, .int 0, .int 0]))] H := fun k x hx => hP ((wsG 167 (ceC cA q) q MC0).length + k) x (by rw [List.getElem?_append_right (Nat.le_add_right _ _), Nat.add_sub_cancel_left]; exact hx)
  have hlast : (wsG 167 (ceC cA q) q MC0 ++ [(g0, .inr (12, [.null, .null, .int 0, .long 0, .long 0, .null, .null, .null, .null, .null, .int 0, .int 0, .int 0, .int 0, .int 0, .int 0, .int 0, .int 0, .int 0, .int 0, .null, .int 0, .int 0, .null, .int 0, .null, .int 0, .int 0, .int 0, .null, .null, .null, .null, .null, .null, .int 0, .int 0, .null, .null, .null, .int 0, .int 0]))])[(wsG 167 (ceC cA q) q MC0).length]? = some (g0, .inr (12, [.null, .null, .int 0, .long 0, .long 0, .null, .null, .null, .null, .null, .int 0, .int 0, .int 0, .int 0, .int 0, .int 0, .int 0, .int 0, .int 0, .int 0, .null, .int 0, .int 0, .null, .int 0, .null, .int 0, .int 0, .int 0, .null, .null, .null, .null, .null, .null, .int 0, .int 0, .null, .null, .null, .int 0, .int 0])) := by rw [List.getElem?_append_right (Nat.le_refl _), Nat.sub_self]; rfl
  have hg : s.heap.size ≤ g0 := hD.2 _ (g0, .inr (12, [.null, .null, .int 0, .long 0, .long 0, .null, .null, .null, .null, .null, .int 0, .int 0, .int 0, .int 0, .int 0, .int 0, .int 0, .int 0, .int 0, .int 0, .null, .int 0, .int 0, .null, .int 0, .null, .int 0, .int 0, .int 0, .null, .null, .null, .null, .null, .null, .int 0, .int 0, .null, .null, .null, .int 0, .int 0])) hlast
  have hdj : ∀ x, AqG 167 q x → ¬ va_A [(g0, .inr (12, [.null, .null, .int 0, .long 0, .long 0, .null, .null, .null, .null, .null, .int 0, .int 0, .int 0, .int 0, .int 0, .int 0, .int 0, .int 0, .int 0, .int 0, .null, .int 0, .int 0, .null, .int 0, .null, .int 0, .int 0, .int 0, .null, .null, .null, .null, .null, .null, .int 0, .int 0, .null, .null, .null, .int 0, .int 0]))] H.size x := by
    rintro x ⟨n, hn, rfl⟩ (⟨k, e9, hk⟩ | hz)
    · have hk1 : k < 1 := (List.getElem?_eq_some_iff.mp hk).1
      rw [show k = 0 by omega] at hk
      have hga : g0 = q n := by cases hk; rfl
      have hrow : (wsG 167 (ceC cA q) q MC0)[n]? = some (q n, ceC cA q (gI MC0 n) (gL MC0 n) (gR MC0 n) n) := wsG_get hn rfl
      have hlt := (List.getElem?_eq_some_iff.mp hrow).1
      have := hD.1 n _ _ _ (by rw [List.getElem?_append_left hlt]; exact hrow) hlast hga.symm
      omega
    · have := (hPC2 n _ (wsG_get hn rfl)).lt
      omega
  refine W.widen (k := 168) (n := 3323) (Nat.le_of_ble_eq_true rfl) (Nat.le_of_ble_eq_true rfl) ?_
  refine lv_dup hx hb dL_law_11 rfl ?_
  refine va_callv (va_runI (As := []) (rest := [.ref g0]) ⟨hx, hb, hml, hown, hbt⟩ (k_X12_init l D cA aK aV g0 H.size hpl) ⟨callB_of 0 (Ts := BW) hbt (bw_gi lk_1317) rfl rfl rfl (hbt _ lk_17) (hbt _ lk_1315) (by decide +kernel) ⟨Nat.le_of_ble_eq_true rfl, Nat.le_of_ble_eq_true rfl⟩, rfl, hbt _ lk_1316⟩ (l_pre hK hN hZ hO hPg hg hS) rfl rfl hl.1 rfl (lv_room (Nat.le_of_ble_eq_true rfl)) dL_law_12 ⟨Nat.le_of_ble_eq_true rfl, Nat.le_of_ble_eq_true rfl⟩) hS (fun x _ h => l_own hg hS x h) (fun x h => l_own hg hS x h) (fun r t H1 locs1 ht hvm hw hB hz1 hk1 hS1 => ?_)
  obtain ⟨hP1, hD1⟩ := hB
  rw [ht] at hP1
  have hw : r 0 = g0 := hw
  obtain ⟨iR, aR⟩ := D_inj hD1
  have hPC3 := lP_keep hPC2 hk1 hdj
  have X : LX p s #[Value.ref b] m c D cA q r aK aV b L xs := ⟨hx, hb, hml, hown, hbt, hK, hN, hZ, iC, iR, aC1, fun x h => l_own hg hS x (aR x h), fun x h1 h2 => hdj x h1 (aR x h2), hX, hbl⟩
  refine W.widen (k := 187) (n := 9315) (Nat.le_of_ble_eq_true rfl) (Nat.le_of_ble_eq_true rfl) ?_
  refine lv_astore_n (lv' := [(2, .ref g0), (1, .ref h0), (0, .ref b)]) hx hb dL_law_15 rfl hl (by decide) rfl (fun ls hl => ?_)
  refine lv_iconst (v := nI 0) hx hb dL_law_16 (by decide) ?_
  refine lv_istore_n (lv' := [(3, .int (nI 0)), (2, .ref g0), (1, .ref h0), (0, .ref b)]) hx hb dL_law_17 rfl hl (by decide) rfl (fun ls hl => ?_)
  exact law_loop hL hr hlocks X (L + 1) 0 (Nat.zero_le L) (by omega) MC0 M1 _ _ ls (rel0 g1 g2) hPC3 hP1 hS1 (by rw [q0, hw]; exact hl)
