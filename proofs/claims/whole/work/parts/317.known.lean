/-! THE CLASSES AND ARRAY TYPES at the start (written by wip/gen/start.py) -/
theorem arr_prim {args : Array Value} {s : State} {ty : FieldType} (h : (Cond.arrayClass ty).before args s = true) (hno : ∀ C, ty ≠ .object C) : ∃ c, ArrOfT s c ty ∧ va_RA s c ty := by
  obtain ⟨c, k, comp, h1, h2, h3⟩ := Cond.arrayClass_spec h
  refine ⟨c, fun N z => ⟨(fun k h => by cases h), k, h2, comp, h3⟩, ?_⟩
  cases ty with
  | object C => exact absurd rfl (hno C)
  | _ => exact h1
theorem arr_obj {args : Array Value} {s : State} {C : String} (h : (Cond.arrayOver (.object C)).before args s = true) : ∃ c, ArrOfT s c (.object C) ∧ va_RA s c (.object C) := by
  obtain ⟨comp, c, k, h1, h2, h3, h4, h5⟩ := Cond.arrayOver_spec h
  exact ⟨c, fun N z => ⟨(fun k h => by cases h), k, h3, comp, h4⟩, k, comp, h3, h4, h1, h5⟩
theorem kn_start {args : Array Value} {s : State} (hts : ∀ w ∈ BW, w.before args s = true) : ∃ D : va_G, ∀ (k : Nat) (q : vw_C), vwCl[k]? = some q → u_Kn s q.1 q.2.1 q.2.2 (D.1 k) (D.2 k) := by
  have h : ∀ k : Nat, ∃ d : ClassId × (Nat → Nat), ∀ q : vw_C, vwCl[k]? = some q → u_Kn s q.1 q.2.1 q.2.2 d.1 d.2 := by
    intro k
    match k with
    | 0 =>
      obtain ⟨c, i, z⟩ := u_known (C := RX0) (T := TX0) (N := 14) (n := 14) hts uwC_0 (hts _ lk_29)
      exact ⟨(c, i), fun q hq => by cases hq; exact z⟩
    | 1 =>
      obtain ⟨c, i, z⟩ := u_known (C := RX1) (T := TX1) (N := 2) (n := 2) hts uwC_1 (hts _ lk_386)
      exact ⟨(c, i), fun q hq => by cases hq; exact z⟩
    | 2 =>
      obtain ⟨c, i, z⟩ := u_known (C := RX2) (T := TX2) (N := 7) (n := 7) hts uwC_2 (hts _ lk_400)
      exact ⟨(c, i), fun q hq => by cases hq; exact z⟩
    | 3 =>
      obtain ⟨c, i, z⟩ := u_known (C := RX3) (T := TX3) (N := 3) (n := 3) hts uwC_3 (hts _ lk_368)
      exact ⟨(c, i), fun q hq => by cases hq; exact z⟩
    | 4 =>
      obtain ⟨c, i, z⟩ := u_known (C := RX4) (T := TX4) (N := 6) (n := 6) hts uwC_4 (hts _ lk_324)
      exact ⟨(c, i), fun q hq => by cases hq; exact z⟩
    | 5 =>
      obtain ⟨c, i, z⟩ := u_known (C := RX5) (T := TX5) (N := 5) (n := 5) hts uwC_5 (hts _ lk_106)
      exact ⟨(c, i), fun q hq => by cases hq; exact z⟩
    | 6 =>
      obtain ⟨c, i, z⟩ := u_known (C := RX6) (T := TX6) (N := 9) (n := 9) hts uwC_6 (hts _ lk_60)
      exact ⟨(c, i), fun q hq => by cases hq; exact z⟩
    | 7 =>
      obtain ⟨c, i, z⟩ := u_known (C := RX7) (T := TX7) (N := 11) (n := 11) hts uwC_7 (hts _ lk_223)
      exact ⟨(c, i), fun q hq => by cases hq; exact z⟩
    | 8 =>
      obtain ⟨c, i, z⟩ := u_known (C := RX8) (T := TX8) (N := 3) (n := 3) hts uwC_8 (hts _ lk_206)
      exact ⟨(c, i), fun q hq => by cases hq; exact z⟩
    | 9 =>
      obtain ⟨c, i, z⟩ := u_known (C := RX9) (T := TX9) (N := 3) (n := 3) hts uwC_9 (hts _ lk_39)
      exact ⟨(c, i), fun q hq => by cases hq; exact z⟩
    | 10 =>
      obtain ⟨c, i, z⟩ := u_known (C := RX10) (T := TX10) (N := 3) (n := 3) hts uwC_10 (hts _ lk_349)
      exact ⟨(c, i), fun q hq => by cases hq; exact z⟩
    | 11 =>
      obtain ⟨c, i, z⟩ := u_known (C := RX11) (T := TX11) (N := 19) (n := 19) hts uwC_11 (hts _ lk_21)
      exact ⟨(c, i), fun q hq => by cases hq; exact z⟩
    | 12 =>
      obtain ⟨c, i, z⟩ := u_known (C := RX12) (T := TX12) (N := 42) (n := 42) hts uwR_12 (hts _ lk_1314)
      exact ⟨(c, i), fun q hq => by cases hq; exact z⟩
    | k + 13 => exact ⟨(0, fun _ => 0), fun q hq => by simp [vwCl] at hq⟩
  obtain ⟨f, hf⟩ := Classical.axiomOfChoice h
  exact ⟨(fun k => (f k).1, fun k => (f k).2), fun k q hq => hf k q hq⟩
theorem ov_start {args : Array Value} {s : State} (hts : ∀ w ∈ lw_tbl, w.before args s = true) : AOs s := by
  have ht : ∀ (i : Nat) (w : Cond), lw_tbl[i]? = some w → w.before args s = true := fun i w h => hts w (List.mem_of_getElem? h)
  exact ⟨va_AO.of (ht 345 _ (by decide +kernel)), va_AO.of (ht 179 _ (by decide +kernel)), va_AO.of (ht 177 _ (by decide +kernel)), va_AO.of (ht 347 _ (by decide +kernel))⟩
theorem ty_start {args : Array Value} {s : State} (hts : ∀ w ∈ lw_tbl, w.before args s = true) : ∃ cA : Nat → ClassId, ∀ (k : Nat) (q : ClassId × FieldType), (tysOf cA)[k]? = some q → ArrOfT s q.1 q.2 ∧ va_RA s q.1 q.2 := by
  have ht : ∀ (i : Nat) (w : Cond), lw_tbl[i]? = some w → w.before args s = true := fun i w h => hts w (List.mem_of_getElem? h)
  obtain ⟨c0, h0⟩ := arr_prim (ty := .int) (hts _ (bw_in lk_58)) (fun C h => by cases h)
  obtain ⟨c1, h1⟩ := arr_prim (ty := .long) (hts _ (bw_in lk_59)) (fun C h => by cases h)
  obtain ⟨c2, h2⟩ := arr_prim (ty := .byte) (hts _ (bw_in lk_322)) (fun C h => by cases h)
  obtain ⟨c3, h3⟩ := arr_prim (ty := .boolean) (hts _ (bw_in lk_1450)) (fun C h => by cases h)
  obtain ⟨c4, h4⟩ := arr_obj (C := "CatWitness$Rule") (ht 177 _ (by decide +kernel))
  obtain ⟨c5, h5⟩ := arr_obj (C := "CatWitness$Person") (ht 179 _ (by decide +kernel))
  obtain ⟨c6, h6⟩ := arr_obj (C := "CatWitness$Court") (ht 345 _ (by decide +kernel))
  obtain ⟨c7, h7⟩ := arr_obj (C := "CatWitness$Tray") (ht 347 _ (by decide +kernel))
  refine ⟨fun k => match k with | 0 => c0 | 1 => c1 | 2 => c2 | 3 => c3 | 4 => c4 | 5 => c5 | 6 => c6 | _ => c7, fun k q hq => ?_⟩
  match k, hq with
  | 0, hq => cases hq; exact h0
  | 1, hq => cases hq; exact h1
  | 2, hq => cases hq; exact h2
  | 3, hq => cases hq; exact h3
  | 4, hq => cases hq; exact h4
  | 5, hq => cases hq; exact h5
  | 6, hq => cases hq; exact h6
  | 7, hq => cases hq; exact h7
  | k + 8, hq => simp [tysOf] at hq
theorem nw_start {args : Array Value} {s : State} (hts : ∀ w ∈ lw_tbl, w.before args s = true) : ∀ w ∈ NW, va_Nw w s := fun w hw => va_Nw.of ((by decide +kernel : ∀ w ∈ NW, w.onTables = true) w hw) (hts w ((by decide +kernel : ∀ w ∈ NW, w ∈ lw_tbl) w hw))
