/-! WHAT THE START GIVES (written by wip/gen/start.py) -/
theorem lk_20 : Cond.classLink RL 7 RX11 ∈ BW := bw_of (i := 162) (by decide +kernel) (by decide +kernel)
theorem lk_21 : Cond.instantiable RX11 19 ∈ BW := bw_of (i := 163) (by decide +kernel) (by decide +kernel)
theorem lk_22 : Cond.methodLink RL 9 yX11_init ∈ BW := bw_of (i := 164) (by decide +kernel) (by decide +kernel)
theorem lk_23 : Cond.instanceMethod yX11_init ∈ BW := bw_of (i := 165) (by decide +kernel) (by decide +kernel)
theorem lk_24 : Cond.code yX11_init cX11_init 2 none ∈ BW := bw_of (i := 166) (by decide +kernel) (by decide +kernel)
theorem lk_29 : Cond.instantiable RX0 14 ∈ BW := bw_of (i := 171) (by decide +kernel) (by decide +kernel)
theorem lk_39 : Cond.instantiable RX9 3 ∈ BW := bw_of (i := 181) (by decide +kernel) (by decide +kernel)
theorem lk_58 : Cond.arrayClass .int ∈ BW := bw_of (i := 200) (by decide +kernel) (by decide +kernel)
theorem lk_59 : Cond.arrayClass .long ∈ BW := bw_of (i := 201) (by decide +kernel) (by decide +kernel)
theorem lk_60 : Cond.instantiable RX6 9 ∈ BW := bw_of (i := 202) (by decide +kernel) (by decide +kernel)
theorem lk_106 : Cond.instantiable RX5 5 ∈ BW := bw_of (i := 248) (by decide +kernel) (by decide +kernel)
theorem lk_206 : Cond.instantiable RX8 3 ∈ BW := bw_of (i := 348) (by decide +kernel) (by decide +kernel)
theorem lk_223 : Cond.instantiable RX7 11 ∈ BW := bw_of (i := 365) (by decide +kernel) (by decide +kernel)
theorem lk_322 : Cond.arrayClass .byte ∈ BW := bw_of (i := 464) (by decide +kernel) (by decide +kernel)
theorem lk_324 : Cond.instantiable RX4 6 ∈ BW := bw_of (i := 466) (by decide +kernel) (by decide +kernel)
theorem lk_349 : Cond.instantiable RX10 3 ∈ BW := bw_of (i := 491) (by decide +kernel) (by decide +kernel)
theorem lk_368 : Cond.instantiable RX3 3 ∈ BW := bw_of (i := 510) (by decide +kernel) (by decide +kernel)
theorem lk_386 : Cond.instantiable RX1 2 ∈ BW := bw_of (i := 528) (by decide +kernel) (by decide +kernel)
theorem lk_400 : Cond.instantiable RX2 7 ∈ BW := bw_of (i := 542) (by decide +kernel) (by decide +kernel)
theorem lk_1313 : Cond.classLink RL 10 RX12 ∈ BW := bw_of (i := 1455) (by decide +kernel) (by decide +kernel)
theorem lk_1314 : Cond.instantiable RX12 42 ∈ BW := bw_of (i := 1456) (by decide +kernel) (by decide +kernel)
theorem lk_1315 : Cond.methodLink RL 12 yX12_init ∈ BW := bw_of (i := 1457) (by decide +kernel) (by decide +kernel)
theorem lk_1316 : Cond.instanceMethod yX12_init ∈ BW := bw_of (i := 1458) (by decide +kernel) (by decide +kernel)
theorem lk_1317 : Cond.code yX12_init cX12_init 1 none ∈ BW := bw_of (i := 1459) (by decide +kernel) (by decide +kernel)
theorem lk_1450 : Cond.arrayClass .boolean ∈ BW := bw_of (i := 1592) (by decide +kernel) (by decide +kernel)
def flG : List Cond := flatC (Jvm.Cond.and given_1 narrow_1)
set_option maxRecDepth 100000 in
theorem fl_s0 : ∀ j, j < 158 → flG[22 + j]? = some (Cond.eq (.elem (.field (.string "CatWitness$Tokens" 48) "java/lang/String" "value" "[B") (.int (Int32.ofNat j))) (.int ((bytKS.getD 0 []).getD j 0))) := by decide +kernel
set_option maxRecDepth 100000 in
theorem fl_s1 : ∀ j, j < 159 → flG[184 + j]? = some (Cond.eq (.elem (.field (.string "CatWitnessModel" 184) "java/lang/String" "value" "[B") (.int (Int32.ofNat j))) (.int ((bytKS.getD 1 []).getD j 0))) := by decide +kernel
theorem fl_m : ∀ j, j < 6 → flG[12 + j]? = some (Cond.eq (.elem (.static "CatWitness" "MOST" "[I") (.int (Int32.ofNat j))) (.int (mostL.getD j 0))) := by decide +kernel
def stm : Nat → Term := fun i => if i = 0 then .string "CatWitness$Tokens" 48 else .string "CatWitnessModel" 184
theorem sp_start {args : Array Value} {s : State} {A : Nat → Prop} (hts : ∀ w ∈ lw_tbl, w.before args s = true) (hg : (Jvm.Cond.and given_1 narrow_1).before args s = true) (hA : ∀ a : Nat, a < s.heap.size → ¬ A a) : ∃ aK aV : Nat → Nat, SP aK aV A s s.heap := by
  have hs : ∀ (i : Nat) (w : Cond), flG[i]? = some w → w.before args s = true := fun i w h => flat_of_before _ hg w (List.mem_of_getElem? h)
  have ht : ∀ (i : Nat) (w : Cond), lw_tbl[i]? = some w → w.before args s = true := fun i w h => hts w (List.mem_of_getElem? h)
  have two : ∀ i, i < 2 → i = 0 ∨ i = 1 := fun i h => by omega
  obtain ⟨adK, adV, hK, hev⟩ := vk_Sof (args := args) (s := s) (N := 2) (tm := stm) (len := lenKS) (byt := bytKS) (A := A)
    (fun i hi => by rcases two i hi with rfl | rfl <;> decide)
    (fun i hi => by
      rcases two i hi with rfl | rfl
      · exact hs 18 _ (by decide +kernel)
      · exact hs 180 _ (by decide +kernel))
    (fun i hi => by
      rcases two i hi with rfl | rfl
      · exact hs 19 _ (by decide +kernel)
      · exact hs 181 _ (by decide +kernel))
    (fun i hi => by
      rcases two i hi with rfl | rfl
      · exact hs 20 _ (by decide +kernel)
      · exact hs 182 _ (by decide +kernel))
    (fun i hi => by
      rcases two i hi with rfl | rfl
      · exact hs 21 _ (by decide +kernel)
      · exact hs 183 _ (by decide +kernel))
    (fun i hi j hj => by
      rcases two i hi with rfl | rfl
      · exact hs (22 + j) _ (fl_s0 j hj)
      · exact hs (184 + j) _ (fl_s1 j hj))
    (fun i j hi hj hij => by
      rcases two i hi with rfl | rfl <;> rcases two j hj with rfl | rfl
      · exact absurd rfl hij
      · exact Or.inl (hs 343 _ (by decide +kernel))
      · exact Or.inr (hs 343 _ (by decide +kernel))
      · exact absurd rfl hij) hA
  obtain ⟨t, e1, hT⟩ := va_Tof (args := args) (s := s) (tm := .static "CatWitness" "MOST" "[I") (ty := .int) (N := 6) (f := fun j => .int (mostL.getD j 0)) (A := A) (by decide) (hs 10 _ (by decide +kernel)) (va_eqt (hs 11 _ (by decide +kernel))) (fun j hj => va_eqt (hs (12 + j) _ (fl_m j hj))) hA
  refine ⟨fun i => if i = 2 then t else adK i, adV, ⟨⟨va_Zof (ht 792 _ (by decide +kernel)) (ht 143 _ (by decide +kernel)) e1 hA, hT⟩, ⟨fun i hi => ?_, fun i j hi hj e => ?_⟩, va_Zof (ht 380 _ (by decide +kernel)) (ht 150 _ (by decide +kernel)) (va_eqt (hs 4 _ (by decide +kernel))) hA, va_Zqof (ht 396 _ (by decide +kernel)) (ht 152 _ (by decide +kernel)) (hs 5 _ (by decide +kernel)) hA, vk_R.of (ht 370 _ (by decide +kernel)) (hev 0 (by decide)), vk_R.of (ht 1680 _ (by decide +kernel)) (hev 1 (by decide))⟩⟩
  · rcases two i hi with rfl | rfl
    · exact hK.1 0 hi
    · exact hK.1 1 hi
  · rcases two i hi with rfl | rfl <;> rcases two j hj with rfl | rfl
    · rfl
    · exact hK.2 0 1 hi hj e
    · exact hK.2 1 0 hi hj e
    · rfl
