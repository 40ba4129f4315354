/-! MAKING: the keywords' codes; calls that leave the world alone -/
def wlC (c : Int64) (b : Int32) : Int64 := (((c * (27 : Int64)) + (b.toInt64)) - (97 : Int64)) + (1 : Int64)
def tkS (x : Nat × Int64 × (Nat → Int64)) (b : Int32) : Nat × Int64 × (Nat → Int64) := if b = 32 then (if x.1 < 29 then (x.1 + 1, 0, vp_updL x.2.2 x.1 x.2.1) else x) else (x.1, wlC x.2.1 b, x.2.2)
def bkL : List Int32 := bytKS.getD 0 []
def bkA (i : Nat) : Int32 := bkL.getD i 0
def tkA : Nat → Nat × Int64 × (Nat → Int64)
  | 0 => (0, 0, fun _ => 0)
  | i + 1 => tkS (tkA i) (bkA i)
theorem tkA_s {i : Nat} (_ : i < 158) : tkA (i + 1) = tkS (tkA i) (bkA i) := rfl
theorem tkA_le : ∀ i, (tkA i).1 ≤ i ∧ (tkA i).1 ≤ 29 := by
  intro i
  induction i with
  | zero => exact ⟨Nat.le_refl _, by decide⟩
  | succ i ih =>
    rw [tkA, tkS]
    by_cases h : bkA i = 32
    · rw [if_pos h]
      by_cases h2 : (tkA i).1 < 29
      · rw [if_pos h2]; exact ⟨by have := ih.1; show (tkA i).1 + 1 ≤ i + 1; omega, h2⟩
      · rw [if_neg h2]; exact ⟨by omega, ih.2⟩
    · rw [if_neg h]; exact ⟨by have := ih.1; show (tkA i).1 ≤ i + 1; omega, ih.2⟩
theorem bkL_is : bkL = (kwL.map (fun w => w.map nI ++ [32])).flatten := by decide +kernel
theorem bkL_len : bkL.length = 158 := by decide +kernel
theorem bk_and : ∀ i, i < 158 → bkA i &&& 255 = bkA i := by decide +kernel
theorem tkA_fold : ∀ i, i ≤ 158 → tkA i = (bkL.take i).foldl tkS (0, 0, fun _ => 0) := by
  intro i
  induction i with
  | zero => intro _; rfl
  | succ i ih =>
    intro h
    have hi : i < bkL.length := by rw [bkL_len]; omega
    rw [tkA, ih (by omega), List.take_succ_eq_append_getElem hi, List.foldl_append, List.foldl_cons, List.foldl_nil]
    congr 1
    unfold bkA
    rw [List.getD_eq_getElem?_getD, List.getElem?_eq_getElem hi]
    rfl
theorem tk_letters : ∀ (w : List Nat), lets w → ∀ (k a : Nat) (f : Nat → Int64), (w.map nI).foldl tkS (k, lN a, f) = (k, lN (w.foldl (fun a x => a * 27 + (x - 96)) a), f) := by
  intro w
  induction w with
  | nil => intro _ k a f; rfl
  | cons x w ih =>
    intro hw k a f
    have hx := hw x List.mem_cons_self
    have n32 : ¬ nI x = 32 := fun q => by have := nI_inj (b := 32) (by omega) (by omega) q; omega
    have e : wlC (lN a) (nI x) = lN (a * 27 + (x - 96)) := by
      rw [wlC, lN_mul27, nI_l (by omega), lN_add, lN_sub97 (by omega), show (1 : Int64) = lN 1 from rfl, lN_add]
      congr 1; omega
    rw [List.map_cons, List.foldl_cons, tkS, if_neg n32, e, List.foldl_cons]
    exact ih (fun y hy => hw y (List.mem_cons_of_mem _ hy)) k _ f
theorem tk_words : ∀ (W : List (List Nat)), (∀ w ∈ W, lets w) → ∀ (k : Nat) (f : Nat → Int64), k + W.length ≤ 29 → ((W.map (fun w => w.map nI ++ [32])).flatten).foldl tkS (k, 0, f) = (k + W.length, 0, fun j => if k ≤ j ∧ j < k + W.length then lN (code27 (W.getD (j - k) [])) else f j) := by
  intro W
  induction W with
  | nil =>
    intro _ k f h
    show (k, 0, f) = _
    rw [List.length_nil, Nat.add_zero]
    congr 2
    funext j
    rw [if_neg (by omega)]
  | cons w W ih =>
    intro hW k f h
    rw [List.length_cons] at h
    rw [List.map_cons, List.flatten_cons, List.foldl_append, List.foldl_append, show (0 : Int64) = lN 0 from rfl, tk_letters w (hW w List.mem_cons_self), List.foldl_cons, List.foldl_nil, tkS, if_pos rfl, if_pos (show k < 29 by omega)]
    show List.foldl tkS (k + 1, 0, vp_updL f k (lN (code27 w))) _ = _
    rw [ih (fun x hx => hW x (List.mem_cons_of_mem _ hx)) (k + 1) _ (by omega), List.length_cons]
    congr 1
    · show k + 1 + W.length = k + (W.length + 1); omega
    congr 1
    funext j
    by_cases h1 : j = k
    · subst h1
      rw [if_neg (by omega), if_pos (by omega), Nat.sub_self]
      show (if j = j then _ else _) = _
      rw [if_pos rfl]; rfl
    · by_cases h2 : k + 1 ≤ j ∧ j < k + 1 + W.length
      · rw [if_pos h2, if_pos (by omega)]
        obtain ⟨d, rfl⟩ : ∃ d, j = k + 1 + d := ⟨j - (k + 1), by omega⟩
        rw [show k + 1 + d - (k + 1) = d by omega, show k + 1 + d - k = d + 1 by omega]
        rfl
      · rw [if_neg h2, if_neg (by omega)]
        show (if j = k then _ else _) = _
        rw [if_neg h1]
theorem tk_fin : ∀ j, j < 29 → (tkA 158).2.2 j = lN (code27 (kwL.getD j [])) := by
  intro j hj
  have hl : ∀ w ∈ kwL, lets w := by
    intro w hw
    obtain ⟨i, hi, rfl⟩ := List.mem_iff_getElem.mp hw
    have h29 : i < 29 := by have : kwL.length = 29 := rfl; omega
    have := kw_let h29
    rw [List.getD_eq_getElem?_getD, List.getElem?_eq_getElem hi] at this
    exact this
  have e : tkA 158 = (29, 0, fun j => if 0 ≤ j ∧ j < 0 + 29 then lN (code27 (kwL.getD (j - 0) [])) else 0) := by
    rw [tkA_fold 158 (Nat.le_refl _), show bkL.take 158 = bkL from by rw [← bkL_len]; exact List.take_length, bkL_is]
    exact tk_words kwL hl 0 (fun _ => 0) (by decide)
  rw [e]
  show (if 0 ≤ j ∧ j < 0 + 29 then _ else _) = _
  rw [if_pos (by omega)]; rfl
def ceN : CeT := fun _ _ _ _ => .inr (0, [])
def m0 : Mem := (fun _ _ => 0, fun _ _ => 0, fun _ _ => 0)
theorem chr_bk {i : Nat} (hi : i < 158) : fS_chr 0 (nI i) m0 = some (bkA i, m0) := by
  have e : (nI i).toNatClampNeg = i := nI_clamp (by omega)
  rw [fS_chr, if_neg (show ¬ (nI i < 0 ∨ lenKS.getD 0 0 ≤ (nI i).toNatClampNeg) from nI_in (N := 158) hi (by decide)), e]
  have := bk_and i hi
  unfold bkA bkL at this
  rw [this]; rfl
set_option maxRecDepth 100000 in
set_option maxHeartbeats 8000000 in
theorem c_wl (l : Launch) (D : va_G) (cA : Nat → ClassId) (q aK aV : Nat → Nat) {N : Nat} {ce : CeT} (hq : injG N q) {a0 : Int64} {a2 : Int32} {M : Mem} : Met l yX7_withLetter (.code yX7_withLetter cX7_withLetter 3 (some .long) :: BW) ({ frames := 1, cells := 0, slots := 0, locals := 14 } : Room) (va_Pc [.long a0, .int a2] (CB N ce D cA q aK aV M)) (Ql N ce D q (wlC a0 a2) M) 0 0 (AqG N q) := by
  refine gMet RX7 (by decide +kernel) rfl hq (Nat.le_of_ble_eq_true rfl) ?_
  intro p e s m below meth c ls X hr hk hP hS hl
  have hx := X.1
  have hb := X.2.1
  have hl : lv_has ls 3 [(0, .long a0), (2, .int a2)] := hl
  refine lv_lload_n hx hb dX7_withLetter_0 rfl (lv_at hl 0 rfl) ?_
  refine lv_ldc2 hx hb X.2.2.2.1 (X.2.2.2.2.1 _ bw_280) dX7_withLetter_1 ?_
  refine lv_lmul hx hb dX7_withLetter_4 ?_
  refine lv_iload_n hx hb dX7_withLetter_5 rfl (lv_at hl 1 rfl) ?_
  refine lv_i2l hx hb dX7_withLetter_6 rfl ?_
  refine lv_ladd hx hb dX7_withLetter_7 ?_
  refine lv_ldc2 hx hb X.2.2.2.1 (X.2.2.2.2.1 _ bw_281) dX7_withLetter_8 ?_
  refine lv_lsub hx hb dX7_withLetter_11 ?_
  refine lv_lconst (v := 1) hx hb dX7_withLetter_12 (by decide) ?_
  refine lv_ladd hx hb dX7_withLetter_13 ?_
  exact end_l X hr hk hP hS rfl dX7_withLetter_14
section LONE
variable {p : Program} {l : Launch} {e : Env} {R : Room} {s : State} {m : MethodId} {args : Array Value} {below : List Frame} {meth : Method} {c : Code} {H : Heap} {locs : List Loc} {cells slots : Nat} {Q : State → Prop} {cc : ByteArray} {pc : Nat} {ls : Array Slot} {rest : List Value}
variable {nL : Nat} {own : String} {D : va_G} {cA : Nat → ClassId} {aK aV q : Nat → Nat} {A : Nat → Prop} {ws : va_W}
theorem no0 {a : Nat} : ¬ AqG 0 q a := fun ⟨n, h, _⟩ => absurd h (Nat.not_lt_zero _)
theorem k_pre0 {ce : CeT} {M : Mem} {As : List Value} (X : XK p s args m meth c cc nL own D cA aK aV A) (hS : va_S A s.heap H locs) : PreS s H (va_Pc As (CB 0 ce D cA q aK aV M)) As :=
  ⟨CB_blind, fun U hU hW => ⟨rfl, fun k x h => (by simp [wsG] at h), va_K.moved hW.alike X.2.2.2.2.2.1, NW_warm hW X.2.2.2.2.2.2.2.1, SP_sub (SP_to X.2.2.2.2.2.2.2.2.1 hS hU hW) (fun a h => absurd h no0)⟩⟩
/-- a call on a constant text -/
theorem k_K {ce : CeT} {y : MethodName} {bytes : ByteArray} {maxL n index : Nat} {ret : Option FieldType} {rm : Room} {As st0 : List Value} {i : Nat} {r : Int32} {M M1 : Mem} (X : XK p s args m meth c cc nL own D cA aK aV A) (hP : va_P D vwCl ws H) (hD : va_D A ws) (hS : va_S A s.heap H locs) (hl0 : ls.size = nL) (hM : Met l y (.code y bytes maxL ret :: BW) rm (va_Pc (.ref (aK i) :: As) (CB 0 ce D cA q aK aV M)) (Qi 0 ce D q r M1) 0 0 (AqG 0 q)) (F : SF y bytes maxL ret n) (hl : Cond.methodLink own index y ∈ BW) (hv : Cond.instanceMethod y ∈ BW ∧ Cond.selects RJ0 y y ∈ BW) (hi : i < 2) (hc : rm.cells = 0 ∧ rm.slots = 0) (hR : rm.frames + 1 ≤ R.frames ∧ 8 + (maxL + 11) + rm.locals ≤ R.locals) (hn : As.length = n) (hst : st0 = As.reverse ++ .ref (aK i) :: rest) (hroom : (rest.map fun v => v.category).sum ≤ 8) (hdg : decode cc pc = .ok (.invokevirtual index, 3))
    (hf : cells ≤ R.cells ∧ slots ≤ R.slots)
    (kk : ∀ (H1 : Heap) (locs1 : List Loc), va_P D vwCl ws H1 → va_D A ws → va_S A s.heap H1 locs1 → W p l e R s m args below meth c H1 locs1 cells slots Q (F0 m (pc + 3) ls (.int r :: rest))) : W p l e R s m args below meth c H locs cells slots Q (F0 m pc ls st0) := by
  refine va_calli (va_runV (As := As) (rest := rest) (Ts := BW) ⟨X.1, X.2.1, X.2.2.1, X.2.2.2.1, X.2.2.2.2.1⟩ hM ⟨callB_of n (Ts := BW) X.2.2.2.2.1 (bw_gi F.1) rfl hc.1 hc.2 (X.2.2.2.2.1 _ F.2.1) (X.2.2.2.2.1 _ hl) ⟨F.2.2.1.1, F.2.2.1.2, F.2.2.2⟩ hR, X.2.2.2.2.1 _ hv.1, X.2.2.2.2.1 _ hv.2⟩ ⟨CB_blind, vk_recv X.2.2.2.2.2.2.2.2.1.2.1 hi hS, (k_pre0 X hS).2⟩ rfl hn hl0 hst (lv_room hroom) hdg hf) hS (fun _ _ h => absurd h no0) (fun _ h => absurd h no0) (fun r' u t H1 locs1 ht hvm hw hB hz hk1 hS1 => ?_)
  subst hw
  exact kk H1 locs1 (hP.kept (fun k x hx => hk1 x.1 ((hP k x hx).lt) no0)) hD hS1
/-- a static call that answers a long -/
theorem k_S {ce : CeT} {y : MethodName} {bytes : ByteArray} {maxL n index : Nat} {ret : Option FieldType} {rm : Room} {As st0 : List Value} {r : Int64} {M M1 : Mem} (X : XK p s args m meth c cc nL own D cA aK aV A) (hP : va_P D vwCl ws H) (hD : va_D A ws) (hS : va_S A s.heap H locs) (hl0 : ls.size = nL) (hM : Met l y (.code y bytes maxL ret :: BW) rm (va_Pc As (CB 0 ce D cA q aK aV M)) (Ql 0 ce D q r M1) 0 0 (AqG 0 q)) (F : SF y bytes maxL ret n) (hl : Cond.methodLink own index y ∈ BW) (hv : Cond.static y ∈ BW) (hc : rm.cells = 0 ∧ rm.slots = 0) (hR : rm.frames + 1 ≤ R.frames ∧ 8 + (maxL + 11) + rm.locals ≤ R.locals) (hn : As.length = n) (hst : st0 = As.reverse ++ rest) (hroom : (rest.map fun v => v.category).sum ≤ 8) (hdg : decode cc pc = .ok (.invokestatic index, 3))
    (hf : cells ≤ R.cells ∧ slots ≤ R.slots)
    (kk : ∀ (H1 : Heap) (locs1 : List Loc), va_P D vwCl ws H1 → va_D A ws → va_S A s.heap H1 locs1 → W p l e R s m args below meth c H1 locs1 cells slots Q (F0 m (pc + 3) ls (.long r :: rest))) : W p l e R s m args below meth c H locs cells slots Q (F0 m pc ls st0) := by
  refine va_calll (va_runS (As := As) (rest := rest) (Ts := BW) ⟨X.1, X.2.1, X.2.2.1, X.2.2.2.1, X.2.2.2.2.1⟩ hM ⟨callB_of n (Ts := BW) X.2.2.2.2.1 (bw_gi F.1) rfl hc.1 hc.2 (X.2.2.2.2.1 _ F.2.1) (X.2.2.2.2.1 _ hl) ⟨F.2.2.1.1, F.2.2.1.2, F.2.2.2⟩ hR, X.2.2.2.2.1 _ hv⟩ (k_pre0 X hS) rfl hn hl0 hst (lv_room hroom) hdg hf) hS (fun _ _ h => absurd h no0) (fun _ h => absurd h no0) (fun r' u t H1 locs1 ht hvm hw hB hz hk1 hS1 => ?_)
  subst hw
  exact kk H1 locs1 (hP.kept (fun k x hx => hk1 x.1 ((hP k x hx).lt) no0)) hD hS1
end LONE
