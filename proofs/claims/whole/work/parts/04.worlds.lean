/-! THE TWO WORLDS: object numbers, shapes, what each cell holds. C: the class; R: the reference -/
def shCL : List Nat := [11, 26, 27, 8, 21, 8, 21, 8, 21, 8, 21, 8, 21, 7, 20, 21, 4, 20, 10, 20, 20, 3, 20, 20, 1, 2, 20, 0, 20, 21, 20, 24, 6, 6, 6, 6, 6, 6, 6, 6, 25, 5, 5, 5, 5, 5, 5, 20, 20, 20, 20, 9, 20, 6, 5, 0, 20, 21, 20, 24, 6, 6, 6, 6, 6, 6, 6, 6, 25, 5, 5, 5, 5, 5, 5, 20, 20, 20, 20, 9, 20, 6, 5, 0, 20, 21, 20, 24, 6, 6, 6, 6, 6, 6, 6, 6, 25, 5, 5, 5, 5, 5, 5, 20, 20, 20, 20, 9, 20, 6, 5, 0, 20, 21, 20, 24, 6, 6, 6, 6, 6, 6, 6, 6, 25, 5, 5, 5, 5, 5, 5, 20, 20, 20, 20, 9, 20, 6, 5, 0, 20, 21, 20, 24, 6, 6, 6, 6, 6, 6, 6, 6, 25, 5, 5, 5, 5, 5, 5, 20, 20, 20, 20, 9, 20, 6, 5]
def alCL : List Nat := [0, 3, 4, 0, 60, 0, 60, 0, 60, 0, 60, 0, 60, 0, 900, 29, 0, 3, 0, 8, 8, 0, 64, 6, 0, 0, 5, 0, 6, 36, 6, 8, 0, 0, 0, 0, 0, 0, 0, 0, 6, 0, 0, 0, 0, 0, 0, 6, 6, 10, 10, 0, 150, 0, 0, 0, 6, 36, 6, 8, 0, 0, 0, 0, 0, 0, 0, 0, 6, 0, 0, 0, 0, 0, 0, 6, 6, 10, 10, 0, 150, 0, 0, 0, 6, 36, 6, 8, 0, 0, 0, 0, 0, 0, 0, 0, 6, 0, 0, 0, 0, 0, 0, 6, 6, 10, 10, 0, 150, 0, 0, 0, 6, 36, 6, 8, 0, 0, 0, 0, 0, 0, 0, 0, 6, 0, 0, 0, 0, 0, 0, 6, 6, 10, 10, 0, 150, 0, 0, 0, 6, 36, 6, 8, 0, 0, 0, 0, 0, 0, 0, 0, 6, 0, 0, 0, 0, 0, 0, 6, 6, 10, 10, 0, 150, 0, 0]
def shC (n : Nat) : Nat := shCL.getD n 99
def alC (n : Nat) : Nat := alCL.getD n 0
theorem shC_lt {n k : Nat} (h : shC n = k) (hk : k < 99) : n < 167 := by
  by_cases hn : n < 167
  · exact hn
  · have e : shC n = 99 := by unfold shC; rw [List.getD_eq_getElem?_getD, List.getElem?_eq_none (show shCL.length ≤ n from Nat.le_of_not_lt hn)]; rfl
    omega
def ceC (cA : Nat → ClassId) (q : Nat → Nat) : CeT := fun I L R n => match shC n with
  | 0 => .inr (0, [.ref (q (n + 1)), .ref (q (n + 2)), .ref (q (n + 3)), .ref (q (n + 4)), .ref (q (n + 13)), .ref (q (n + 20)), .ref (q (n + 21)), .ref (q (n + 22)), .ref (q (n + 23)), .ref (q (n + 24)), .ref (q (n + 26)), .ref (q (n + 27)), .int (I 12), .int (I 13)])
  | 1 => .inr (1, [.int (I 0), .int (I 1)])
  | 2 => .inr (2, [.ref (q 26), .int (I 1), .int (I 2), .int (I 3), .int (I 4), .int (I 5), .int (I 6)])
  | 3 => .inr (3, [.ref (q 22), .ref (q 23), .int (I 2)])
  | 4 => .inr (4, [.ref (q 13), .ref (q 17), .int (I 2), .int (I 3), .int (I 4), .int (I 5)])
  | 5 => .inr (5, [.int (I 0), .int (I 1), .int (I 2), .int (I 3), .int (I 4)])
  | 6 => .inr (6, [.int (I 0), .int (I 1), .int (I 2), .int (I 3), .int (I 4), .int (I 5), .int (I 6), .int (I 7), .int (I 8)])
  | 7 => .inr (7, [.ref (q 14), .ref (q 15), .int (I 2), .int (I 3), .int (I 4), .int (I 5), .int (I 6), .long (L 7), .int (I 8), .int (I 9), .int (I 10)])
  | 8 => .inr (8, [.int (I 0), .int (I 1), .ref (q (n + 1))])
  | 9 => .inr (9, [.int (I 0), .int (I 1), .ref (q (n + 1))])
  | 10 => .inr (10, [.ref (q 19), .ref (q 20), .int (I 2)])
  | 11 => .inr (11, [.ref (q (R 0)), .ref (q (R 1)), .ref (q 1), .int (I 3), .ref (q 2), .ref (q 3), .ref (q 13), .ref (q 16), .ref (q 18), .ref (q 21), .ref (q 24), .ref (q 25), .int (I 12), .long (L 13), .long (L 14), .int (I 15), .int (I 16), .int (I 17), .int (I 18)])
  | 20 => .inl (cA 0, alC n, .inl I)
  | 21 => .inl (cA 1, alC n, .inr (.inl L))
  | 24 => .inl (cA 4, alC n, .inr (.inr (.inr (.inr (fun i => some (q (n + 1 + i)))))))
  | 25 => .inl (cA 5, alC n, .inr (.inr (.inr (.inr (fun i => some (q (n + 1 + i)))))))
  | 26 => .inl (cA 6, alC n, .inr (.inr (.inr (.inr (fun i => some (q (83 + 28 * i)))))))
  | 27 => .inl (cA 7, alC n, .inr (.inr (.inr (.inr (fun i => some (q (5 + 2 * i)))))))
  | _ => .inl (cA 0, 0, .inl I)
theorem ceC_0 {cA : Nat → ClassId} {q : Nat → Nat} {I : Nat → Int32} {L : Nat → Int64} {R : Nat → Nat} {n : Nat} (h : shC n = 0) : ceC cA q I L R n = .inr (0, [.ref (q (n + 1)), .ref (q (n + 2)), .ref (q (n + 3)), .ref (q (n + 4)), .ref (q (n + 13)), .ref (q (n + 20)), .ref (q (n + 21)), .ref (q (n + 22)), .ref (q (n + 23)), .ref (q (n + 24)), .ref (q (n + 26)), .ref (q (n + 27)), .int (I 12), .int (I 13)]) := by simp only [ceC, h]
theorem rcC_0 {cA : Nat → ClassId} {q : Nat → Nat} {M : Mem} {n : Nat} (h : shC n = 0) : (wsG 167 (ceC cA q) q M)[n]? = some (q n, .inr (0, [.ref (q (n + 1)), .ref (q (n + 2)), .ref (q (n + 3)), .ref (q (n + 4)), .ref (q (n + 13)), .ref (q (n + 20)), .ref (q (n + 21)), .ref (q (n + 22)), .ref (q (n + 23)), .ref (q (n + 24)), .ref (q (n + 26)), .ref (q (n + 27)), .int (gI M n 12), .int (gI M n 13)])) := wsG_get (shC_lt h (by decide)) (ceC_0 h)
theorem ceC_1 {cA : Nat → ClassId} {q : Nat → Nat} {I : Nat → Int32} {L : Nat → Int64} {R : Nat → Nat} {n : Nat} (h : shC n = 1) : ceC cA q I L R n = .inr (1, [.int (I 0), .int (I 1)]) := by simp only [ceC, h]
theorem rcC_1 {cA : Nat → ClassId} {q : Nat → Nat} {M : Mem} {n : Nat} (h : shC n = 1) : (wsG 167 (ceC cA q) q M)[n]? = some (q n, .inr (1, [.int (gI M n 0), .int (gI M n 1)])) := wsG_get (shC_lt h (by decide)) (ceC_1 h)
theorem ceC_2 {cA : Nat → ClassId} {q : Nat → Nat} {I : Nat → Int32} {L : Nat → Int64} {R : Nat → Nat} {n : Nat} (h : shC n = 2) : ceC cA q I L R n = .inr (2, [.ref (q 26), .int (I 1), .int (I 2), .int (I 3), .int (I 4), .int (I 5), .int (I 6)]) := by simp only [ceC, h]
theorem rcC_2 {cA : Nat → ClassId} {q : Nat → Nat} {M : Mem} {n : Nat} (h : shC n = 2) : (wsG 167 (ceC cA q) q M)[n]? = some (q n, .inr (2, [.ref (q 26), .int (gI M n 1), .int (gI M n 2), .int (gI M n 3), .int (gI M n 4), .int (gI M n 5), .int (gI M n 6)])) := wsG_get (shC_lt h (by decide)) (ceC_2 h)
theorem ceC_3 {cA : Nat → ClassId} {q : Nat → Nat} {I : Nat → Int32} {L : Nat → Int64} {R : Nat → Nat} {n : Nat} (h : shC n = 3) : ceC cA q I L R n = .inr (3, [.ref (q 22), .ref (q 23), .int (I 2)]) := by simp only [ceC, h]
theorem rcC_3 {cA : Nat → ClassId} {q : Nat → Nat} {M : Mem} {n : Nat} (h : shC n = 3) : (wsG 167 (ceC cA q) q M)[n]? = some (q n, .inr (3, [.ref (q 22), .ref (q 23), .int (gI M n 2)])) := wsG_get (shC_lt h (by decide)) (ceC_3 h)
theorem ceC_4 {cA : Nat → ClassId} {q : Nat → Nat} {I : Nat → Int32} {L : Nat → Int64} {R : Nat → Nat} {n : Nat} (h : shC n = 4) : ceC cA q I L R n = .inr (4, [.ref (q 13), .ref (q 17), .int (I 2), .int (I 3), .int (I 4), .int (I 5)]) := by simp only [ceC, h]
theorem rcC_4 {cA : Nat → ClassId} {q : Nat → Nat} {M : Mem} {n : Nat} (h : shC n = 4) : (wsG 167 (ceC cA q) q M)[n]? = some (q n, .inr (4, [.ref (q 13), .ref (q 17), .int (gI M n 2), .int (gI M n 3), .int (gI M n 4), .int (gI M n 5)])) := wsG_get (shC_lt h (by decide)) (ceC_4 h)
theorem ceC_5 {cA : Nat → ClassId} {q : Nat → Nat} {I : Nat → Int32} {L : Nat → Int64} {R : Nat → Nat} {n : Nat} (h : shC n = 5) : ceC cA q I L R n = .inr (5, [.int (I 0), .int (I 1), .int (I 2), .int (I 3), .int (I 4)]) := by simp only [ceC, h]
theorem rcC_5 {cA : Nat → ClassId} {q : Nat → Nat} {M : Mem} {n : Nat} (h : shC n = 5) : (wsG 167 (ceC cA q) q M)[n]? = some (q n, .inr (5, [.int (gI M n 0), .int (gI M n 1), .int (gI M n 2), .int (gI M n 3), .int (gI M n 4)])) := wsG_get (shC_lt h (by decide)) (ceC_5 h)
theorem ceC_6 {cA : Nat → ClassId} {q : Nat → Nat} {I : Nat → Int32} {L : Nat → Int64} {R : Nat → Nat} {n : Nat} (h : shC n = 6) : ceC cA q I L R n = .inr (6, [.int (I 0), .int (I 1), .int (I 2), .int (I 3), .int (I 4), .int (I 5), .int (I 6), .int (I 7), .int (I 8)]) := by simp only [ceC, h]
theorem rcC_6 {cA : Nat → ClassId} {q : Nat → Nat} {M : Mem} {n : Nat} (h : shC n = 6) : (wsG 167 (ceC cA q) q M)[n]? = some (q n, .inr (6, [.int (gI M n 0), .int (gI M n 1), .int (gI M n 2), .int (gI M n 3), .int (gI M n 4), .int (gI M n 5), .int (gI M n 6), .int (gI M n 7), .int (gI M n 8)])) := wsG_get (shC_lt h (by decide)) (ceC_6 h)
theorem ceC_7 {cA : Nat → ClassId} {q : Nat → Nat} {I : Nat → Int32} {L : Nat → Int64} {R : Nat → Nat} {n : Nat} (h : shC n = 7) : ceC cA q I L R n = .inr (7, [.ref (q 14), .ref (q 15), .int (I 2), .int (I 3), .int (I 4), .int (I 5), .int (I 6), .long (L 7), .int (I 8), .int (I 9), .int (I 10)]) := by simp only [ceC, h]
theorem rcC_7 {cA : Nat → ClassId} {q : Nat → Nat} {M : Mem} {n : Nat} (h : shC n = 7) : (wsG 167 (ceC cA q) q M)[n]? = some (q n, .inr (7, [.ref (q 14), .ref (q 15), .int (gI M n 2), .int (gI M n 3), .int (gI M n 4), .int (gI M n 5), .int (gI M n 6), .long (gL M n 7), .int (gI M n 8), .int (gI M n 9), .int (gI M n 10)])) := wsG_get (shC_lt h (by decide)) (ceC_7 h)
theorem ceC_8 {cA : Nat → ClassId} {q : Nat → Nat} {I : Nat → Int32} {L : Nat → Int64} {R : Nat → Nat} {n : Nat} (h : shC n = 8) : ceC cA q I L R n = .inr (8, [.int (I 0), .int (I 1), .ref (q (n + 1))]) := by simp only [ceC, h]
theorem rcC_8 {cA : Nat → ClassId} {q : Nat → Nat} {M : Mem} {n : Nat} (h : shC n = 8) : (wsG 167 (ceC cA q) q M)[n]? = some (q n, .inr (8, [.int (gI M n 0), .int (gI M n 1), .ref (q (n + 1))])) := wsG_get (shC_lt h (by decide)) (ceC_8 h)
theorem ceC_9 {cA : Nat → ClassId} {q : Nat → Nat} {I : Nat → Int32} {L : Nat → Int64} {R : Nat → Nat} {n : Nat} (h : shC n = 9) : ceC cA q I L R n = .inr (9, [.int (I 0), .int (I 1), .ref (q (n + 1))]) := by simp only [ceC, h]
theorem rcC_9 {cA : Nat → ClassId} {q : Nat → Nat} {M : Mem} {n : Nat} (h : shC n = 9) : (wsG 167 (ceC cA q) q M)[n]? = some (q n, .inr (9, [.int (gI M n 0), .int (gI M n 1), .ref (q (n + 1))])) := wsG_get (shC_lt h (by decide)) (ceC_9 h)
theorem ceC_10 {cA : Nat → ClassId} {q : Nat → Nat} {I : Nat → Int32} {L : Nat → Int64} {R : Nat → Nat} {n : Nat} (h : shC n = 10) : ceC cA q I L R n = .inr (10, [.ref (q 19), .ref (q 20), .int (I 2)]) := by simp only [ceC, h]
theorem rcC_10 {cA : Nat → ClassId} {q : Nat → Nat} {M : Mem} {n : Nat} (h : shC n = 10) : (wsG 167 (ceC cA q) q M)[n]? = some (q n, .inr (10, [.ref (q 19), .ref (q 20), .int (gI M n 2)])) := wsG_get (shC_lt h (by decide)) (ceC_10 h)
theorem ceC_11 {cA : Nat → ClassId} {q : Nat → Nat} {I : Nat → Int32} {L : Nat → Int64} {R : Nat → Nat} {n : Nat} (h : shC n = 11) : ceC cA q I L R n = .inr (11, [.ref (q (R 0)), .ref (q (R 1)), .ref (q 1), .int (I 3), .ref (q 2), .ref (q 3), .ref (q 13), .ref (q 16), .ref (q 18), .ref (q 21), .ref (q 24), .ref (q 25), .int (I 12), .long (L 13), .long (L 14), .int (I 15), .int (I 16), .int (I 17), .int (I 18)]) := by simp only [ceC, h]
theorem rcC_11 {cA : Nat → ClassId} {q : Nat → Nat} {M : Mem} {n : Nat} (h : shC n = 11) : (wsG 167 (ceC cA q) q M)[n]? = some (q n, .inr (11, [.ref (q (gR M n 0)), .ref (q (gR M n 1)), .ref (q 1), .int (gI M n 3), .ref (q 2), .ref (q 3), .ref (q 13), .ref (q 16), .ref (q 18), .ref (q 21), .ref (q 24), .ref (q 25), .int (gI M n 12), .long (gL M n 13), .long (gL M n 14), .int (gI M n 15), .int (gI M n 16), .int (gI M n 17), .int (gI M n 18)])) := wsG_get (shC_lt h (by decide)) (ceC_11 h)
theorem ceC_20 {cA : Nat → ClassId} {q : Nat → Nat} {I : Nat → Int32} {L : Nat → Int64} {R : Nat → Nat} {n : Nat} (h : shC n = 20) : ceC cA q I L R n = .inl (cA 0, alC n, .inl I) := by simp only [ceC, h]
theorem rcC_20 {cA : Nat → ClassId} {q : Nat → Nat} {M : Mem} {n : Nat} (h : shC n = 20) : (wsG 167 (ceC cA q) q M)[n]? = some (q n, ceC cA q (gI M n) (gL M n) (gR M n) n) := wsG_get (shC_lt h (by decide)) rfl
theorem ceC_21 {cA : Nat → ClassId} {q : Nat → Nat} {I : Nat → Int32} {L : Nat → Int64} {R : Nat → Nat} {n : Nat} (h : shC n = 21) : ceC cA q I L R n = .inl (cA 1, alC n, .inr (.inl L)) := by simp only [ceC, h]
theorem rcC_21 {cA : Nat → ClassId} {q : Nat → Nat} {M : Mem} {n : Nat} (h : shC n = 21) : (wsG 167 (ceC cA q) q M)[n]? = some (q n, ceC cA q (gI M n) (gL M n) (gR M n) n) := wsG_get (shC_lt h (by decide)) rfl
theorem ceC_24 {cA : Nat → ClassId} {q : Nat → Nat} {I : Nat → Int32} {L : Nat → Int64} {R : Nat → Nat} {n : Nat} (h : shC n = 24) : ceC cA q I L R n = .inl (cA 4, alC n, .inr (.inr (.inr (.inr (fun i => some (q (n + 1 + i))))))) := by simp only [ceC, h]
theorem rcC_24 {cA : Nat → ClassId} {q : Nat → Nat} {M : Mem} {n : Nat} (h : shC n = 24) : (wsG 167 (ceC cA q) q M)[n]? = some (q n, ceC cA q (gI M n) (gL M n) (gR M n) n) := wsG_get (shC_lt h (by decide)) rfl
theorem ceC_25 {cA : Nat → ClassId} {q : Nat → Nat} {I : Nat → Int32} {L : Nat → Int64} {R : Nat → Nat} {n : Nat} (h : shC n = 25) : ceC cA q I L R n = .inl (cA 5, alC n, .inr (.inr (.inr (.inr (fun i => some (q (n + 1 + i))))))) := by simp only [ceC, h]
theorem rcC_25 {cA : Nat → ClassId} {q : Nat → Nat} {M : Mem} {n : Nat} (h : shC n = 25) : (wsG 167 (ceC cA q) q M)[n]? = some (q n, ceC cA q (gI M n) (gL M n) (gR M n) n) := wsG_get (shC_lt h (by decide)) rfl
theorem ceC_26 {cA : Nat → ClassId} {q : Nat → Nat} {I : Nat → Int32} {L : Nat → Int64} {R : Nat → Nat} {n : Nat} (h : shC n = 26) : ceC cA q I L R n = .inl (cA 6, alC n, .inr (.inr (.inr (.inr (fun i => some (q (83 + 28 * i))))))) := by simp only [ceC, h]
theorem rcC_26 {cA : Nat → ClassId} {q : Nat → Nat} {M : Mem} {n : Nat} (h : shC n = 26) : (wsG 167 (ceC cA q) q M)[n]? = some (q n, ceC cA q (gI M n) (gL M n) (gR M n) n) := wsG_get (shC_lt h (by decide)) rfl
theorem ceC_27 {cA : Nat → ClassId} {q : Nat → Nat} {I : Nat → Int32} {L : Nat → Int64} {R : Nat → Nat} {n : Nat} (h : shC n = 27) : ceC cA q I L R n = .inl (cA 7, alC n, .inr (.inr (.inr (.inr (fun i => some (q (5 + 2 * i))))))) := by simp only [ceC, h]
theorem rcC_27 {cA : Nat → ClassId} {q : Nat → Nat} {M : Mem} {n : Nat} (h : shC n = 27) : (wsG 167 (ceC cA q) q M)[n]? = some (q n, ceC cA q (gI M n) (gL M n) (gR M n) n) := wsG_get (shC_lt h (by decide)) rfl
theorem sC_0 : shC 0 = 11 := by decide +kernel
theorem sC_1 : shC 1 = 26 := by decide +kernel
theorem zC_1 : alC 1 = 3 := by decide +kernel
theorem sC_2 : shC 2 = 27 := by decide +kernel
theorem zC_2 : alC 2 = 4 := by decide +kernel
theorem sC_3 : shC 3 = 8 := by decide +kernel
theorem sC_4 : shC 4 = 21 := by decide +kernel
theorem zC_4 : alC 4 = 60 := by decide +kernel
theorem sC_5 : shC 5 = 8 := by decide +kernel
theorem sC_6 : shC 6 = 21 := by decide +kernel
theorem zC_6 : alC 6 = 60 := by decide +kernel
theorem sC_7 : shC 7 = 8 := by decide +kernel
theorem sC_8 : shC 8 = 21 := by decide +kernel
theorem zC_8 : alC 8 = 60 := by decide +kernel
theorem sC_9 : shC 9 = 8 := by decide +kernel
theorem sC_10 : shC 10 = 21 := by decide +kernel
theorem zC_10 : alC 10 = 60 := by decide +kernel
theorem sC_11 : shC 11 = 8 := by decide +kernel
theorem sC_12 : shC 12 = 21 := by decide +kernel
theorem zC_12 : alC 12 = 60 := by decide +kernel
theorem sC_13 : shC 13 = 7 := by decide +kernel
theorem sC_14 : shC 14 = 20 := by decide +kernel
theorem zC_14 : alC 14 = 900 := by decide +kernel
theorem sC_15 : shC 15 = 21 := by decide +kernel
theorem zC_15 : alC 15 = 29 := by decide +kernel
theorem sC_16 : shC 16 = 4 := by decide +kernel
theorem sC_17 : shC 17 = 20 := by decide +kernel
theorem zC_17 : alC 17 = 3 := by decide +kernel
theorem sC_18 : shC 18 = 10 := by decide +kernel
theorem sC_19 : shC 19 = 20 := by decide +kernel
theorem zC_19 : alC 19 = 8 := by decide +kernel
theorem sC_20 : shC 20 = 20 := by decide +kernel
theorem zC_20 : alC 20 = 8 := by decide +kernel
theorem sC_21 : shC 21 = 3 := by decide +kernel
theorem sC_22 : shC 22 = 20 := by decide +kernel
theorem zC_22 : alC 22 = 64 := by decide +kernel
theorem sC_23 : shC 23 = 20 := by decide +kernel
theorem zC_23 : alC 23 = 6 := by decide +kernel
theorem sC_24 : shC 24 = 1 := by decide +kernel
theorem sC_25 : shC 25 = 2 := by decide +kernel
theorem sC_26 : shC 26 = 20 := by decide +kernel
theorem zC_26 : alC 26 = 5 := by decide +kernel
theorem kC_0_0 {n : Nat} (h : shC n = 0) : shC (n + 1) = 20 ∧ alC (n + 1) = 6 := (by decide +kernel : ∀ n, n < 167 → shC n = 0 → shC (n + 1) = 20 ∧ alC (n + 1) = 6) n (shC_lt h (by decide)) h
theorem kC_0_1 {n : Nat} (h : shC n = 0) : shC (n + 2) = 21 ∧ alC (n + 2) = 36 := (by decide +kernel : ∀ n, n < 167 → shC n = 0 → shC (n + 2) = 21 ∧ alC (n + 2) = 36) n (shC_lt h (by decide)) h
theorem kC_0_2 {n : Nat} (h : shC n = 0) : shC (n + 3) = 20 ∧ alC (n + 3) = 6 := (by decide +kernel : ∀ n, n < 167 → shC n = 0 → shC (n + 3) = 20 ∧ alC (n + 3) = 6) n (shC_lt h (by decide)) h
theorem kC_0_3 {n : Nat} (h : shC n = 0) : shC (n + 4) = 24 ∧ alC (n + 4) = 8 := (by decide +kernel : ∀ n, n < 167 → shC n = 0 → shC (n + 4) = 24 ∧ alC (n + 4) = 8) n (shC_lt h (by decide)) h
theorem kC_0_4 {n : Nat} (h : shC n = 0) : shC (n + 13) = 25 ∧ alC (n + 13) = 6 := (by decide +kernel : ∀ n, n < 167 → shC n = 0 → shC (n + 13) = 25 ∧ alC (n + 13) = 6) n (shC_lt h (by decide)) h
theorem kC_0_5 {n : Nat} (h : shC n = 0) : shC (n + 20) = 20 ∧ alC (n + 20) = 6 := (by decide +kernel : ∀ n, n < 167 → shC n = 0 → shC (n + 20) = 20 ∧ alC (n + 20) = 6) n (shC_lt h (by decide)) h
theorem kC_0_6 {n : Nat} (h : shC n = 0) : shC (n + 21) = 20 ∧ alC (n + 21) = 6 := (by decide +kernel : ∀ n, n < 167 → shC n = 0 → shC (n + 21) = 20 ∧ alC (n + 21) = 6) n (shC_lt h (by decide)) h
theorem kC_0_7 {n : Nat} (h : shC n = 0) : shC (n + 22) = 20 ∧ alC (n + 22) = 10 := (by decide +kernel : ∀ n, n < 167 → shC n = 0 → shC (n + 22) = 20 ∧ alC (n + 22) = 10) n (shC_lt h (by decide)) h
theorem kC_0_8 {n : Nat} (h : shC n = 0) : shC (n + 23) = 20 ∧ alC (n + 23) = 10 := (by decide +kernel : ∀ n, n < 167 → shC n = 0 → shC (n + 23) = 20 ∧ alC (n + 23) = 10) n (shC_lt h (by decide)) h
theorem kC_0_9 {n : Nat} (h : shC n = 0) : shC (n + 24) = 9 := (by decide +kernel : ∀ n, n < 167 → shC n = 0 → shC (n + 24) = 9) n (shC_lt h (by decide)) h
theorem kC_0_10 {n : Nat} (h : shC n = 0) : shC (n + 26) = 6 := (by decide +kernel : ∀ n, n < 167 → shC n = 0 → shC (n + 26) = 6) n (shC_lt h (by decide)) h
theorem kC_0_11 {n : Nat} (h : shC n = 0) : shC (n + 27) = 5 := (by decide +kernel : ∀ n, n < 167 → shC n = 0 → shC (n + 27) = 5) n (shC_lt h (by decide)) h
theorem kC_8_2 {n : Nat} (h : shC n = 8) : shC (n + 1) = 21 ∧ alC (n + 1) = 60 := (by decide +kernel : ∀ n, n < 167 → shC n = 8 → shC (n + 1) = 21 ∧ alC (n + 1) = 60) n (shC_lt h (by decide)) h
theorem kC_9_2 {n : Nat} (h : shC n = 9) : shC (n + 1) = 20 ∧ alC (n + 1) = 150 := (by decide +kernel : ∀ n, n < 167 → shC n = 9 → shC (n + 1) = 20 ∧ alC (n + 1) = 150) n (shC_lt h (by decide)) h
theorem kC_24 {n : Nat} {i : Int32} (h : shC n = 24) (hi : ¬ (i < 0 ∨ 8 ≤ i.toNatClampNeg)) : shC (n + 1 + i.toNatClampNeg) = 6 := (by decide +kernel : ∀ n, n < 167 → shC n = 24 → ∀ i, i < 8 → shC (n + 1 + i) = 6) n (shC_lt h (by decide)) h _ (Nat.lt_of_not_le (fun z => hi (Or.inr z)))
theorem kC_25 {n : Nat} {i : Int32} (h : shC n = 25) (hi : ¬ (i < 0 ∨ 6 ≤ i.toNatClampNeg)) : shC (n + 1 + i.toNatClampNeg) = 5 := (by decide +kernel : ∀ n, n < 167 → shC n = 25 → ∀ i, i < 6 → shC (n + 1 + i) = 5) n (shC_lt h (by decide)) h _ (Nat.lt_of_not_le (fun z => hi (Or.inr z)))
theorem kC_26 {n : Nat} {i : Int32} (h : shC n = 26) (hi : ¬ (i < 0 ∨ 3 ≤ i.toNatClampNeg)) : shC (83 + 28 * i.toNatClampNeg) = 0 := (by decide +kernel : ∀ n, n < 167 → shC n = 26 → ∀ i, i < 3 → shC (83 + 28 * i) = 0) n (shC_lt h (by decide)) h _ (Nat.lt_of_not_le (fun z => hi (Or.inr z)))
theorem kC_27 {n : Nat} {i : Int32} (h : shC n = 27) (hi : ¬ (i < 0 ∨ 4 ≤ i.toNatClampNeg)) : shC (5 + 2 * i.toNatClampNeg) = 8 := (by decide +kernel : ∀ n, n < 167 → shC n = 27 → ∀ i, i < 4 → shC (5 + 2 * i) = 8) n (shC_lt h (by decide)) h _ (Nat.lt_of_not_le (fun z => hi (Or.inr z)))
def shRL : List Nat := [12, 20, 21, 20, 20, 21, 22, 22, 20, 23, 20, 20, 20, 20, 20, 20, 20, 20, 20, 20]
def alRL : List Nat := [0, 3548, 138, 4, 4, 240, 900, 900, 3, 64, 7, 9, 9, 64, 4, 4, 4, 80, 5, 5]
def shR (n : Nat) : Nat := shRL.getD n 99
def alR (n : Nat) : Nat := alRL.getD n 0
theorem shR_lt {n k : Nat} (h : shR n = k) (hk : k < 99) : n < 20 := by
  by_cases hn : n < 20
  · exact hn
  · have e : shR n = 99 := by unfold shR; rw [List.getD_eq_getElem?_getD, List.getElem?_eq_none (show shRL.length ≤ n from Nat.le_of_not_lt hn)]; rfl
    omega
def ceR (cA : Nat → ClassId) (q : Nat → Nat) : CeT := fun I L R n => match shR n with
  | 12 => .inr (12, [.ref (q 1), .ref (q 2), .int (I 2), .long (L 3), .long (L 4), .ref (q 3), .ref (q 4), .ref (q 5), .ref (q 6), .ref (q 7), .int (I 10), .int (I 11), .int (I 12), .int (I 13), .int (I 14), .int (I 15), .int (I 16), .int (I 17), .int (I 18), .int (I 19), .ref (q 8), .int (I 21), .int (I 22), .ref (q 9), .int (I 24), .ref (q 10), .int (I 26), .int (I 27), .int (I 28), .ref (q 11), .ref (q 12), .ref (q 13), .ref (q 14), .ref (q 15), .ref (q 16), .int (I 35), .int (I 36), .ref (q 17), .ref (q 18), .ref (q 19), .int (I 40), .int (I 41)])
  | 20 => .inl (cA 0, alR n, .inl I)
  | 21 => .inl (cA 1, alR n, .inr (.inl L))
  | 22 => .inl (cA 2, alR n, .inl I)
  | 23 => .inl (cA 3, alR n, .inl I)
  | _ => .inl (cA 0, 0, .inl I)
theorem ceR_12 {cA : Nat → ClassId} {q : Nat → Nat} {I : Nat → Int32} {L : Nat → Int64} {R : Nat → Nat} {n : Nat} (h : shR n = 12) : ceR cA q I L R n = .inr (12, [.ref (q 1), .ref (q 2), .int (I 2), .long (L 3), .long (L 4), .ref (q 3), .ref (q 4), .ref (q 5), .ref (q 6), .ref (q 7), .int (I 10), .int (I 11), .int (I 12), .int (I 13), .int (I 14), .int (I 15), .int (I 16), .int (I 17), .int (I 18), .int (I 19), .ref (q 8), .int (I 21), .int (I 22), .ref (q 9), .int (I 24), .ref (q 10), .int (I 26), .int (I 27), .int (I 28), .ref (q 11), .ref (q 12), .ref (q 13), .ref (q 14), .ref (q 15), .ref (q 16), .int (I 35), .int (I 36), .ref (q 17), .ref (q 18), .ref (q 19), .int (I 40), .int (I 41)]) := by simp only [ceR, h]
theorem rcR_12 {cA : Nat → ClassId} {q : Nat → Nat} {M : Mem} {n : Nat} (h : shR n = 12) : (wsG 20 (ceR cA q) q M)[n]? = some (q n, .inr (12, [.ref (q 1), .ref (q 2), .int (gI M n 2), .long (gL M n 3), .long (gL M n 4), .ref (q 3), .ref (q 4), .ref (q 5), .ref (q 6), .ref (q 7), .int (gI M n 10), .int (gI M n 11), .int (gI M n 12), .int (gI M n 13), .int (gI M n 14), .int (gI M n 15), .int (gI M n 16), .int (gI M n 17), .int (gI M n 18), .int (gI M n 19), .ref (q 8), .int (gI M n 21), .int (gI M n 22), .ref (q 9), .int (gI M n 24), .ref (q 10), .int (gI M n 26), .int (gI M n 27), .int (gI M n 28), .ref (q 11), .ref (q 12), .ref (q 13), .ref (q 14), .ref (q 15), .ref (q 16), .int (gI M n 35), .int (gI M n 36), .ref (q 17), .ref (q 18), .ref (q 19), .int (gI M n 40), .int (gI M n 41)])) := wsG_get (shR_lt h (by decide)) (ceR_12 h)
theorem ceR_20 {cA : Nat → ClassId} {q : Nat → Nat} {I : Nat → Int32} {L : Nat → Int64} {R : Nat → Nat} {n : Nat} (h : shR n = 20) : ceR cA q I L R n = .inl (cA 0, alR n, .inl I) := by simp only [ceR, h]
theorem rcR_20 {cA : Nat → ClassId} {q : Nat → Nat} {M : Mem} {n : Nat} (h : shR n = 20) : (wsG 20 (ceR cA q) q M)[n]? = some (q n, ceR cA q (gI M n) (gL M n) (gR M n) n) := wsG_get (shR_lt h (by decide)) rfl
theorem ceR_21 {cA : Nat → ClassId} {q : Nat → Nat} {I : Nat → Int32} {L : Nat → Int64} {R : Nat → Nat} {n : Nat} (h : shR n = 21) : ceR cA q I L R n = .inl (cA 1, alR n, .inr (.inl L)) := by simp only [ceR, h]
theorem rcR_21 {cA : Nat → ClassId} {q : Nat → Nat} {M : Mem} {n : Nat} (h : shR n = 21) : (wsG 20 (ceR cA q) q M)[n]? = some (q n, ceR cA q (gI M n) (gL M n) (gR M n) n) := wsG_get (shR_lt h (by decide)) rfl
theorem ceR_22 {cA : Nat → ClassId} {q : Nat → Nat} {I : Nat → Int32} {L : Nat → Int64} {R : Nat → Nat} {n : Nat} (h : shR n = 22) : ceR cA q I L R n = .inl (cA 2, alR n, .inl I) := by simp only [ceR, h]
theorem rcR_22 {cA : Nat → ClassId} {q : Nat → Nat} {M : Mem} {n : Nat} (h : shR n = 22) : (wsG 20 (ceR cA q) q M)[n]? = some (q n, ceR cA q (gI M n) (gL M n) (gR M n) n) := wsG_get (shR_lt h (by decide)) rfl
theorem ceR_23 {cA : Nat → ClassId} {q : Nat → Nat} {I : Nat → Int32} {L : Nat → Int64} {R : Nat → Nat} {n : Nat} (h : shR n = 23) : ceR cA q I L R n = .inl (cA 3, alR n, .inl I) := by simp only [ceR, h]
theorem rcR_23 {cA : Nat → ClassId} {q : Nat → Nat} {M : Mem} {n : Nat} (h : shR n = 23) : (wsG 20 (ceR cA q) q M)[n]? = some (q n, ceR cA q (gI M n) (gL M n) (gR M n) n) := wsG_get (shR_lt h (by decide)) rfl
theorem sR_0 : shR 0 = 12 := by decide +kernel
theorem sR_1 : shR 1 = 20 := by decide +kernel
theorem zR_1 : alR 1 = 3548 := by decide +kernel
theorem sR_2 : shR 2 = 21 := by decide +kernel
theorem zR_2 : alR 2 = 138 := by decide +kernel
theorem sR_3 : shR 3 = 20 := by decide +kernel
theorem zR_3 : alR 3 = 4 := by decide +kernel
theorem sR_4 : shR 4 = 20 := by decide +kernel
theorem zR_4 : alR 4 = 4 := by decide +kernel
theorem sR_5 : shR 5 = 21 := by decide +kernel
theorem zR_5 : alR 5 = 240 := by decide +kernel
theorem sR_6 : shR 6 = 22 := by decide +kernel
theorem zR_6 : alR 6 = 900 := by decide +kernel
theorem sR_7 : shR 7 = 22 := by decide +kernel
theorem zR_7 : alR 7 = 900 := by decide +kernel
theorem sR_8 : shR 8 = 20 := by decide +kernel
theorem zR_8 : alR 8 = 3 := by decide +kernel
theorem sR_9 : shR 9 = 23 := by decide +kernel
theorem zR_9 : alR 9 = 64 := by decide +kernel
theorem sR_10 : shR 10 = 20 := by decide +kernel
theorem zR_10 : alR 10 = 7 := by decide +kernel
theorem sR_11 : shR 11 = 20 := by decide +kernel
theorem zR_11 : alR 11 = 9 := by decide +kernel
theorem sR_12 : shR 12 = 20 := by decide +kernel
theorem zR_12 : alR 12 = 9 := by decide +kernel
theorem sR_13 : shR 13 = 20 := by decide +kernel
theorem zR_13 : alR 13 = 64 := by decide +kernel
theorem sR_14 : shR 14 = 20 := by decide +kernel
theorem zR_14 : alR 14 = 4 := by decide +kernel
theorem sR_15 : shR 15 = 20 := by decide +kernel
theorem zR_15 : alR 15 = 4 := by decide +kernel
theorem sR_16 : shR 16 = 20 := by decide +kernel
theorem zR_16 : alR 16 = 4 := by decide +kernel
theorem sR_17 : shR 17 = 20 := by decide +kernel
theorem zR_17 : alR 17 = 80 := by decide +kernel
theorem sR_18 : shR 18 = 20 := by decide +kernel
theorem zR_18 : alR 18 = 5 := by decide +kernel
theorem sR_19 : shR 19 = 20 := by decide +kernel
theorem zR_19 : alR 19 = 5 := by decide +kernel
