/-! CHANGES to a court: the value, the class's memory, the reference's -/
def upK (K : Kt) (f i : Nat) (v : Int32) : Kt := fun a b => if a = f ∧ b = i then v else K a b
theorem upK_s (K : Kt) (f i : Nat) (v : Int32) : upK K f i v f i = v := by simp [upK]
theorem upK_n {K : Kt} {f i a b : Nat} {v : Int32} (h : ¬ (a = f ∧ b = i)) : upK K f i v a b = K a b := by simp [upK, h]
theorem upK_nK {K : Kt} {f i : Nat} {v : Int32} (h : 0 < f) (k : Nat) : nK (upK K f i v) k = nK K k := by
  unfold nK; rw [upK_n (by omega)]
/-- a change of one cell of a court, and of the value -/
theorem IsC.up {C C' : Mem} {c : Nat} {K : Kt} (h : IsC C c K) (hw : WFK K) {f i : Nat} {v : Int32} (hf : 0 < f) (n k : Nat) (e : ∀ a b, gI C' a b = if a = n ∧ b = k then v else gI C a b)
    (w : (f = 1 ∧ n = c + 3 ∧ k = i) ∨ (11 ≤ f ∧ f ≤ 15 ∧ n = c + 13 + 1 + i ∧ k + 11 = f ∧ i < 6) ∨ (f = 16 ∧ n = c + 20 ∧ k = i) ∨ (f = 20 ∧ i = 0 ∧ n = c ∧ k = 12) ∨ (f = 20 ∧ i = 1 ∧ n = c ∧ k = 13)) : IsC C' c (upK K f i v) := by
  have hn := hw.n2
  have hn3 := hw.n3
  obtain ⟨h0, h1, h2, h3, h4, h5, h6, h7⟩ := h
  refine ⟨fun j hj => ?_, fun j hj => ?_, fun j hj g hg => ?_, fun j hj g hg => ?_, fun j hj => ⟨?_, ?_⟩, fun j hj => ⟨?_, ?_⟩, ?_, ?_⟩ <;> (try rw [upK_nK hf] at hj) <;> rw [e]
  · rw [if_neg (by omega), upK_n (by omega)]; exact h0 j hj
  · by_cases z : f = 1 ∧ j = i
    · obtain ⟨rfl, rfl⟩ := z
      rw [if_pos (by omega), upK_s]
    · rw [if_neg (by omega), upK_n (by omega)]; exact h1 j hj
  · rw [if_neg (by omega), upK_n (by omega)]; exact h2 j hj g hg
  · by_cases z : 11 + g = f ∧ j = i
    · obtain ⟨rfl, rfl⟩ := z
      rw [if_pos (by omega), upK_s]
    · rw [if_neg (by omega), upK_n (by omega)]; exact h3 j hj g hg
  · by_cases z : 16 = f ∧ j = i
    · obtain ⟨rfl, rfl⟩ := z
      rw [if_pos (by omega), upK_s]
    · rw [if_neg (by omega), upK_n (by omega)]; exact (h4 j hj).1
  · rw [if_neg (by omega), upK_n (by omega)]; exact (h4 j hj).2
  · rw [if_neg (by omega), upK_n (by omega)]; exact (h5 j hj).1
  · rw [if_neg (by omega), upK_n (by omega)]; exact (h5 j hj).2
  · by_cases z : 20 = f ∧ 0 = i
    · obtain ⟨rfl, rfl⟩ := z
      rw [if_pos (by omega), upK_s]
    · rw [if_neg (by omega), upK_n (by omega)]; exact h6
  · by_cases z : 20 = f ∧ 1 = i
    · obtain ⟨rfl, rfl⟩ := z
      rw [if_pos (by omega), upK_s]
    · rw [if_neg (by omega), upK_n (by omega)]; exact h7
/-- the place of a cell in the reference's slot -/
theorem IsR.up {R R' : Mem} {o : Nat} {K : Kt} (h : IsR R o K) (hw : WFK K) {f i : Nat} {v x : Int32} (hf : 0 < f) (k : Nat) (e : ∀ b, gI R' 1 b = if b = k then x else gI R 1 b)
    (hx : x = if f = 11 then 2 - v else v)
    (w : (f = 1 ∧ k = o + 10 + i ∧ i < 6) ∨ (f = 12 ∧ k = o + 72 + 5 * i ∧ i < 6) ∨ (f = 13 ∧ k = o + 72 + 5 * i + 1 ∧ i < 6) ∨ (f = 14 ∧ k = o + 72 + 5 * i + 2 ∧ i < 6) ∨ (f = 11 ∧ k = o + 72 + 5 * i + 3 ∧ i < 6) ∨ (f = 15 ∧ k = o + 72 + 5 * i + 4 ∧ i < 6) ∨ (f = 16 ∧ k = o + 102 + 2 * i ∧ i < 6) ∨ (f = 20 ∧ i = 0 ∧ k = o + 6) ∨ (f = 20 ∧ i = 1 ∧ k = o + 7)) : IsR R' o (upK K f i v) := by
  have hn1 := hw.n1
  have hn := hw.n2
  have hn3 := hw.n3
  have hn4 := hw.n4
  have hn5 := hw.n5
  obtain ⟨h0, h1, h2, h3, h4, h5, h6, h7⟩ := h
  have pt : ∀ (b a j : Nat) (y : Int32), ¬ b = k → ¬ (a = f ∧ j = i) → gI R 1 b = K a j → gI R' 1 b = upK K f i v a j := fun b a j y z1 z2 z3 => by rw [e, if_neg z1, upK_n z2]; exact z3
  have kp : ∀ b, ¬ b = k → gI R' 1 b = gI R 1 b := fun b z => by rw [e, if_neg z]
  refine ⟨fun j hj => pt _ _ _ 0 (by omega) (by omega) (h0 j hj), fun j hj => ?_, fun j hj => ?_, fun j hj => ?_, fun j hj => ?_, fun j hj => ?_, ?_, ?_⟩ <;> (try rw [upK_nK hf] at hj)
  · by_cases z : f = 1 ∧ j = i
    · obtain ⟨rfl, rfl⟩ := z
      rw [e, if_pos (by omega), upK_s, hx]; rfl
    · exact pt _ _ _ 0 (by omega) (by omega) (h1 j hj)
  · obtain ⟨a, b, c, d, g⟩ := h2 j hj
    refine ⟨pt _ _ _ 0 (by omega) (by omega) a, pt _ _ _ 0 (by omega) (by omega) b, pt _ _ _ 0 (by omega) (by omega) c, ?_, ?_⟩
    · rw [kp _ (by omega), kp _ (by omega), upK_n (by omega), upK_n (by omega), upK_n (by omega)]; exact d
    · rw [kp _ (by omega), kp _ (by omega), upK_n (by omega), upK_n (by omega), upK_n (by omega)]; exact g
  · obtain ⟨a, b, c, d, g⟩ := h3 j hj
    refine ⟨?_, ?_, ?_, ?_, ?_⟩
    · by_cases z : f = 12 ∧ j = i
      · obtain ⟨rfl, rfl⟩ := z
        rw [e, if_pos (by omega), upK_s, hx]; rfl
      · exact pt _ _ _ 0 (by omega) (by omega) a
    · by_cases z : f = 13 ∧ j = i
      · obtain ⟨rfl, rfl⟩ := z
        rw [e, if_pos (by omega), upK_s, hx]; rfl
      · exact pt _ _ _ 0 (by omega) (by omega) b
    · by_cases z : f = 14 ∧ j = i
      · obtain ⟨rfl, rfl⟩ := z
        rw [e, if_pos (by omega), upK_s, hx]; rfl
      · exact pt _ _ _ 0 (by omega) (by omega) c
    · by_cases z : f = 11 ∧ j = i
      · obtain ⟨rfl, rfl⟩ := z
        rw [e, if_pos (by omega), upK_s, hx]; rfl
      · rw [kp _ (by omega), upK_n (by omega)]; exact d
    · by_cases z : f = 15 ∧ j = i
      · obtain ⟨rfl, rfl⟩ := z
        rw [e, if_pos (by omega), upK_s, hx]; rfl
      · exact pt _ _ _ 0 (by omega) (by omega) g
  · obtain ⟨a, b⟩ := h4 j hj
    refine ⟨?_, pt _ _ _ 0 (by omega) (by omega) b⟩
    by_cases z : f = 16 ∧ j = i
    · obtain ⟨rfl, rfl⟩ := z
      rw [e, if_pos (by omega), upK_s, hx]; rfl
    · exact pt _ _ _ 0 (by omega) (by omega) a
  · obtain ⟨a, b⟩ := h5 j hj
    exact ⟨pt _ _ _ 0 (by omega) (by omega) a, pt _ _ _ 0 (by omega) (by omega) b⟩
  · by_cases z : f = 20 ∧ 0 = i
    · obtain ⟨rfl, rfl⟩ := z
      rw [e, if_pos (by omega), upK_s, hx]; rfl
    · exact pt _ _ _ 0 (by omega) (by omega) h6
  · by_cases z : f = 20 ∧ 1 = i
    · obtain ⟨rfl, rfl⟩ := z
      rw [e, if_pos (by omega), upK_s, hx]; rfl
    · exact pt _ _ _ 0 (by omega) (by omega) h7
