/-! THE FIRST RELATION of the two memories -/
theorem rel0 {M1 : Mem} (h1 : ∀ y k, gI M1 y k = if y = 1 ∧ k < 502 then (if k = 8 then -1 else 0) else gI MR0 y k) (h2 : ∀ y k, gL M1 y k = gL MR0 y k) : Rel MC0 M1 := by
  have hz : ∀ y k, y ≠ 1 → gI M1 y k = gI MR0 y k := fun y k z => by rw [h1, if_neg (fun w => z w.1)]
  have h0 : ∀ k, k < 502 → k ≠ 8 → gI M1 1 k = 0 := fun k z w => by rw [h1, if_pos ⟨rfl, z⟩, if_neg w]
  have hk : RelK MC0 27 M1 0 := by
    refine ⟨K0, wfK0, ⟨0, by omega, rfl⟩, ⟨fun k hk => rfl, fun i hi => ?_, fun i hi => ?_, fun i hi => ?_, fun i hi => ?_, fun i hi => ?_, rfl, rfl⟩, ⟨fun k hk => h0 _ (by omega) (by omega), fun i hi => ?_, fun i hi => ?_, fun i hi => ?_, fun i hi => ?_, fun i hi => ?_, h0 _ (by omega) (by omega), h0 _ (by omega) (by omega)⟩, fun k _ _ i hi => ?_, Or.inl ⟨by decide +kernel, by rw [h1, if_pos ⟨rfl, by omega⟩, if_pos (by omega)]⟩⟩
    all_goals rw [nK0] at hi; omega
  refine ⟨⟨by rw [hz _ _ (by decide)]; rfl, by rw [h2]; rfl, by rw [h2]; rfl, by rw [hz _ _ (by decide)]; rfl, by rw [hz _ _ (by decide)]; rfl⟩, Or.inl ⟨rfl, rfl⟩, fun i hi => Or.inl ?_, ⟨0, by omega, by decide +kernel, by rw [hz _ _ (by decide)]; decide +kernel, fun k hk => absurd hk (Nat.not_lt_zero k)⟩, ⟨⟨by rw [hz _ _ (by decide)]; decide +kernel, Or.inl (by decide +kernel)⟩, fun k hk => by rw [hz _ _ (by decide)]; rfl⟩, fun i hi => by rw [mc15]; exact tk_fin i hi, hk, 0, by omega, by decide +kernel, by rw [hz _ _ (by decide)]; decide +kernel, fun j hj => absurd hj (Nat.not_lt_zero j)⟩
  rcases (show i = 0 ∨ i = 1 ∨ i = 2 ∨ i = 3 by omega) with rfl | rfl | rfl | rfl <;> exact ⟨by decide +kernel, by rw [hz _ _ (by decide)]; decide +kernel⟩
