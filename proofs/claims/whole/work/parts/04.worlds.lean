/-! THE TWO WORLDS: object numbers, shapes, what each cell holds. C: the class; R: the reference -/
def shCL : List Nat := [11, 26, 27, 8, 21, 8, 21, 8, 21, 8, 21, 8, 21, 7, 20, 21, 4, 20, 10, 20, 20, 3, 20, 20, 1, 2, 20, 0, 20, 21, 20, 24, 6, 6, 6, 6, 6, 6, 6, 6, 25, 5, 5, 5, 5, 5, 5, 20, 20, 20, 20, 9, 20, 6, 5, 0, 20, 21, 20, 24, 6, 6, 6, 6, 6, 6, 6, 6, 25, 5, 5, 5, 5, 5, 5, 20, 20, 20, 20, 9, 20, 6, 5, 0, 20, 21, 20, 24, 6, 6, 6, 6, 6, 6, 6, 6, 25, 5, 5, 5, 5, 5, 5, 20, 20, 20, 20, 9, 20, 6, 5, 0, 20, 21, 20, 24, 6, 6, 6, 6, 6, 6, 6, 6, 25, 5, 5, 5, 5, 5, 5, 20, 20, 20, 20, 9, 20, 6, 5, 0, 20, 21, 20, 24, 6, 6, 6, 6, 6, 6, 6, 6, 25, 5, 5, 5, 5, 5, 5, 20, 20, 20, 20, 9, 20, 6, 5]
def alCL : List Nat := [0, 3, 4, 0, 60, 0, 60, 0, 60, 0, 60, 0, 60, 0, 900, 29, 0, 3, 0, 8, 8, 0, 64, 6, 0, 0, 5, 0, 6, 36, 6, 8, 0, 0, 0, 0, 0, 0, 0, 0, 6, 0, 0, 0, 0, 0, 0, 6, 6, 10, 10, 0, 150, 0, 0, 0, 6, 36, 6, 8, 0, 0, 0, 0, 0, 0, 0, 0, 6, 0, 0, 0, 0, 0, 0, 6, 6, 10, 10, 0, 150, 0, 0, 0, 6, 36, 6, 8, 0, 0, 0, 0, 0, 0, 0, 0, 6, 0, 0, 0, 0, 0, 0, 6, 6, 10, 10, 0, 150, 0, 0, 0, 6, 36, 6, 8, 0, 0, 0, 0, 0, 0, 0, 0, 6, 0, 0, 0, 0, 0, 0, 6, 6, 10, 10, 0, 150, 0, 0, 0, 6, 36, 6, 8, 0, 0, 0, 0, 0, 0, 0, 0, 6, 0, 0, 0, 0, 0, 0, 6, 6, 10, 10, 0, 150, 0, 0]
def kdCL : List (List Nat) := [[0, 0, 1, 0, 2, 3, 13, 16, 18, 21, 24, 25], [83, 111, 139], [5, 7, 9, 11], [0, 0, 4], [], [0, 0, 6], [], [0, 0, 8], [], [0, 0, 10], [], [0, 0, 12], [], [14, 15], [], [], [13, 17], [], [19, 20], [], [], [22, 23], [], [], [], [26], [], [28, 29, 30, 31, 40, 47, 48, 49, 50, 51, 53, 54], [], [], [], [32, 33, 34, 35, 36, 37, 38, 39], [], [], [], [], [], [], [], [], [41, 42, 43, 44, 45, 46], [], [], [], [], [], [], [], [], [], [], [0, 0, 52], [], [], [], [56, 57, 58, 59, 68, 75, 76, 77, 78, 79, 81, 82], [], [], [], [60, 61, 62, 63, 64, 65, 66, 67], [], [], [], [], [], [], [], [], [69, 70, 71, 72, 73, 74], [], [], [], [], [], [], [], [], [], [], [0, 0, 80], [], [], [], [84, 85, 86, 87, 96, 103, 104, 105, 106, 107, 109, 110], [], [], [], [88, 89, 90, 91, 92, 93, 94, 95], [], [], [], [], [], [], [], [], [97, 98, 99, 100, 101, 102], [], [], [], [], [], [], [], [], [], [], [0, 0, 108], [], [], [], [112, 113, 114, 115, 124, 131, 132, 133, 134, 135, 137, 138], [], [], [], [116, 117, 118, 119, 120, 121, 122, 123], [], [], [], [], [], [], [], [], [125, 126, 127, 128, 129, 130], [], [], [], [], [], [], [], [], [], [], [0, 0, 136], [], [], [], [140, 141, 142, 143, 152, 159, 160, 161, 162, 163, 165, 166], [], [], [], [144, 145, 146, 147, 148, 149, 150, 151], [], [], [], [], [], [], [], [], [153, 154, 155, 156, 157, 158], [], [], [], [], [], [], [], [], [], [], [0, 0, 164], [], [], []]
def shC (n : Nat) : Nat := shCL.getD n 99
def alC (n : Nat) : Nat := alCL.getD n 0
def kdC (n k : Nat) : Nat := (kdCL.getD n []).getD k 0
theorem shC_lt {n k : Nat} (h : shC n = k) (hk : k < 99) : n < 167 := by
  by_cases hn : n < 167
  · exact hn
  · have e : shC n = 99 := by unfold shC; rw [List.getD_eq_getElem?_getD, List.getElem?_eq_none (show shCL.length ≤ n from Nat.le_of_not_lt hn)]; rfl
    omega
def ceC (cA : Nat → ClassId) (q : Nat → Nat) : CeT := fun I L R n => match shC n with
  | 0 => .inr (0, [.ref (q (kdC n 0)), .ref (q (kdC n 1)), .ref (q (kdC n 2)), .ref (q (kdC n 3)), .ref (q (kdC n 4)), .ref (q (kdC n 5)), .ref (q (kdC n 6)), .ref (q (kdC n 7)), .ref (q (kdC n 8)), .ref (q (kdC n 9)), .ref (q (kdC n 10)), .ref (q (kdC n 11)), .int (I 12), .int (I 13)])
  | 1 => .inr (1, [.int (I 0), .int (I 1)])
  | 2 => .inr (2, [.ref (q (kdC n 0)), .int (I 1), .int (I 2), .int (I 3), .int (I 4), .int (I 5), .int (I 6)])
  | 3 => .inr (3, [.ref (q (kdC n 0)), .ref (q (kdC n 1)), .int (I 2)])
  | 4 => .inr (4, [.ref (q (kdC n 0)), .ref (q (kdC n 1)), .int (I 2), .int (I 3), .int (I 4), .int (I 5)])
  | 5 => .inr (5, [.int (I 0), .int (I 1), .int (I 2), .int (I 3), .int (I 4)])
  | 6 => .inr (6, [.int (I 0), .int (I 1), .int (I 2), .int (I 3), .int (I 4), .int (I 5), .int (I 6), .int (I 7), .int (I 8)])
  | 7 => .inr (7, [.ref (q (kdC n 0)), .ref (q (kdC n 1)), .int (I 2), .int (I 3), .int (I 4), .int (I 5), .int (I 6), .long (L 7), .int (I 8), .int (I 9), .int (I 10)])
  | 8 => .inr (8, [.int (I 0), .int (I 1), .ref (q (kdC n 2))])
  | 9 => .inr (9, [.int (I 0), .int (I 1), .ref (q (kdC n 2))])
  | 10 => .inr (10, [.ref (q (kdC n 0)), .ref (q (kdC n 1)), .int (I 2)])
  | 11 => .inr (11, [.ref (q (R 0)), .ref (q (R 1)), .ref (q (kdC n 2)), .int (I 3), .ref (q (kdC n 4)), .ref (q (kdC n 5)), .ref (q (kdC n 6)), .ref (q (kdC n 7)), .ref (q (kdC n 8)), .ref (q (kdC n 9)), .ref (q (kdC n 10)), .ref (q (kdC n 11)), .int (I 12), .long (L 13), .long (L 14), .int (I 15), .int (I 16), .int (I 17), .int (I 18)])
  | 20 => .inl (cA 0, alC n, .inl I)
  | 21 => .inl (cA 1, alC n, .inr (.inl L))
  | 24 => .inl (cA 4, alC n, .inr (.inr (.inr (.inr (fun i => some (q (kdC n i)))))))
  | 25 => .inl (cA 5, alC n, .inr (.inr (.inr (.inr (fun i => some (q (kdC n i)))))))
  | 26 => .inl (cA 6, alC n, .inr (.inr (.inr (.inr (fun i => some (q (kdC n i)))))))
  | 27 => .inl (cA 7, alC n, .inr (.inr (.inr (.inr (fun i => some (q (kdC n i)))))))
  | _ => .inl (cA 0, 0, .inl I)
theorem ceC_0 {cA : Nat → ClassId} {q : Nat → Nat} {I : Nat → Int32} {L : Nat → Int64} {R : Nat → Nat} {n : Nat} (h : shC n = 0) : ceC cA q I L R n = .inr (0, [.ref (q (kdC n 0)), .ref (q (kdC n 1)), .ref (q (kdC n 2)), .ref (q (kdC n 3)), .ref (q (kdC n 4)), .ref (q (kdC n 5)), .ref (q (kdC n 6)), .ref (q (kdC n 7)), .ref (q (kdC n 8)), .ref (q (kdC n 9)), .ref (q (kdC n 10)), .ref (q (kdC n 11)), .int (I 12), .int (I 13)]) := by simp only [ceC, h]
theorem ceC_1 {cA : Nat → ClassId} {q : Nat → Nat} {I : Nat → Int32} {L : Nat → Int64} {R : Nat → Nat} {n : Nat} (h : shC n = 1) : ceC cA q I L R n = .inr (1, [.int (I 0), .int (I 1)]) := by simp only [ceC, h]
theorem ceC_2 {cA : Nat → ClassId} {q : Nat → Nat} {I : Nat → Int32} {L : Nat → Int64} {R : Nat → Nat} {n : Nat} (h : shC n = 2) : ceC cA q I L R n = .inr (2, [.ref (q (kdC n 0)), .int (I 1), .int (I 2), .int (I 3), .int (I 4), .int (I 5), .int (I 6)]) := by simp only [ceC, h]
theorem ceC_3 {cA : Nat → ClassId} {q : Nat → Nat} {I : Nat → Int32} {L : Nat → Int64} {R : Nat → Nat} {n : Nat} (h : shC n = 3) : ceC cA q I L R n = .inr (3, [.ref (q (kdC n 0)), .ref (q (kdC n 1)), .int (I 2)]) := by simp only [ceC, h]
theorem ceC_4 {cA : Nat → ClassId} {q : Nat → Nat} {I : Nat → Int32} {L : Nat → Int64} {R : Nat → Nat} {n : Nat} (h : shC n = 4) : ceC cA q I L R n = .inr (4, [.ref (q (kdC n 0)), .ref (q (kdC n 1)), .int (I 2), .int (I 3), .int (I 4), .int (I 5)]) := by simp only [ceC, h]
theorem ceC_5 {cA : Nat → ClassId} {q : Nat → Nat} {I : Nat → Int32} {L : Nat → Int64} {R : Nat → Nat} {n : Nat} (h : shC n = 5) : ceC cA q I L R n = .inr (5, [.int (I 0), .int (I 1), .int (I 2), .int (I 3), .int (I 4)]) := by simp only [ceC, h]
theorem ceC_6 {cA : Nat → ClassId} {q : Nat → Nat} {I : Nat → Int32} {L : Nat → Int64} {R : Nat → Nat} {n : Nat} (h : shC n = 6) : ceC cA q I L R n = .inr (6, [.int (I 0), .int (I 1), .int (I 2), .int (I 3), .int (I 4), .int (I 5), .int (I 6), .int (I 7), .int (I 8)]) := by simp only [ceC, h]
theorem ceC_7 {cA : Nat → ClassId} {q : Nat → Nat} {I : Nat → Int32} {L : Nat → Int64} {R : Nat → Nat} {n : Nat} (h : shC n = 7) : ceC cA q I L R n = .inr (7, [.ref (q (kdC n 0)), .ref (q (kdC n 1)), .int (I 2), .int (I 3), .int (I 4), .int (I 5), .int (I 6), .long (L 7), .int (I 8), .int (I 9), .int (I 10)]) := by simp only [ceC, h]
theorem ceC_8 {cA : Nat → ClassId} {q : Nat → Nat} {I : Nat → Int32} {L : Nat → Int64} {R : Nat → Nat} {n : Nat} (h : shC n = 8) : ceC cA q I L R n = .inr (8, [.int (I 0), .int (I 1), .ref (q (kdC n 2))]) := by simp only [ceC, h]
theorem ceC_9 {cA : Nat → ClassId} {q : Nat → Nat} {I : Nat → Int32} {L : Nat → Int64} {R : Nat → Nat} {n : Nat} (h : shC n = 9) : ceC cA q I L R n = .inr (9, [.int (I 0), .int (I 1), .ref (q (kdC n 2))]) := by simp only [ceC, h]
theorem ceC_10 {cA : Nat → ClassId} {q : Nat → Nat} {I : Nat → Int32} {L : Nat → Int64} {R : Nat → Nat} {n : Nat} (h : shC n = 10) : ceC cA q I L R n = .inr (10, [.ref (q (kdC n 0)), .ref (q (kdC n 1)), .int (I 2)]) := by simp only [ceC, h]
theorem ceC_11 {cA : Nat → ClassId} {q : Nat → Nat} {I : Nat → Int32} {L : Nat → Int64} {R : Nat → Nat} {n : Nat} (h : shC n = 11) : ceC cA q I L R n = .inr (11, [.ref (q (R 0)), .ref (q (R 1)), .ref (q (kdC n 2)), .int (I 3), .ref (q (kdC n 4)), .ref (q (kdC n 5)), .ref (q (kdC n 6)), .ref (q (kdC n 7)), .ref (q (kdC n 8)), .ref (q (kdC n 9)), .ref (q (kdC n 10)), .ref (q (kdC n 11)), .int (I 12), .long (L 13), .long (L 14), .int (I 15), .int (I 16), .int (I 17), .int (I 18)]) := by simp only [ceC, h]
theorem ceC_20 {cA : Nat → ClassId} {q : Nat → Nat} {I : Nat → Int32} {L : Nat → Int64} {R : Nat → Nat} {n : Nat} (h : shC n = 20) : ceC cA q I L R n = .inl (cA 0, alC n, .inl I) := by simp only [ceC, h]
theorem ceC_21 {cA : Nat → ClassId} {q : Nat → Nat} {I : Nat → Int32} {L : Nat → Int64} {R : Nat → Nat} {n : Nat} (h : shC n = 21) : ceC cA q I L R n = .inl (cA 1, alC n, .inr (.inl L)) := by simp only [ceC, h]
theorem ceC_24 {cA : Nat → ClassId} {q : Nat → Nat} {I : Nat → Int32} {L : Nat → Int64} {R : Nat → Nat} {n : Nat} (h : shC n = 24) : ceC cA q I L R n = .inl (cA 4, alC n, .inr (.inr (.inr (.inr (fun i => some (q (kdC n i))))))) := by simp only [ceC, h]
theorem ceC_25 {cA : Nat → ClassId} {q : Nat → Nat} {I : Nat → Int32} {L : Nat → Int64} {R : Nat → Nat} {n : Nat} (h : shC n = 25) : ceC cA q I L R n = .inl (cA 5, alC n, .inr (.inr (.inr (.inr (fun i => some (q (kdC n i))))))) := by simp only [ceC, h]
theorem ceC_26 {cA : Nat → ClassId} {q : Nat → Nat} {I : Nat → Int32} {L : Nat → Int64} {R : Nat → Nat} {n : Nat} (h : shC n = 26) : ceC cA q I L R n = .inl (cA 6, alC n, .inr (.inr (.inr (.inr (fun i => some (q (kdC n i))))))) := by simp only [ceC, h]
theorem ceC_27 {cA : Nat → ClassId} {q : Nat → Nat} {I : Nat → Int32} {L : Nat → Int64} {R : Nat → Nat} {n : Nat} (h : shC n = 27) : ceC cA q I L R n = .inl (cA 7, alC n, .inr (.inr (.inr (.inr (fun i => some (q (kdC n i))))))) := by simp only [ceC, h]
theorem kC_0_0 {n : Nat} (h : shC n = 0) : shC (kdC n 0) = 20 ∧ alC (kdC n 0) = 6 := (by decide +kernel : ∀ n, n < 167 → shC n = 0 → shC (kdC n 0) = 20 ∧ alC (kdC n 0) = 6) n (shC_lt h (by decide)) h
theorem kC_0_1 {n : Nat} (h : shC n = 0) : shC (kdC n 1) = 21 ∧ alC (kdC n 1) = 36 := (by decide +kernel : ∀ n, n < 167 → shC n = 0 → shC (kdC n 1) = 21 ∧ alC (kdC n 1) = 36) n (shC_lt h (by decide)) h
theorem kC_0_2 {n : Nat} (h : shC n = 0) : shC (kdC n 2) = 20 ∧ alC (kdC n 2) = 6 := (by decide +kernel : ∀ n, n < 167 → shC n = 0 → shC (kdC n 2) = 20 ∧ alC (kdC n 2) = 6) n (shC_lt h (by decide)) h
theorem kC_0_3 {n : Nat} (h : shC n = 0) : shC (kdC n 3) = 24 ∧ alC (kdC n 3) = 8 := (by decide +kernel : ∀ n, n < 167 → shC n = 0 → shC (kdC n 3) = 24 ∧ alC (kdC n 3) = 8) n (shC_lt h (by decide)) h
theorem kC_0_4 {n : Nat} (h : shC n = 0) : shC (kdC n 4) = 25 ∧ alC (kdC n 4) = 6 := (by decide +kernel : ∀ n, n < 167 → shC n = 0 → shC (kdC n 4) = 25 ∧ alC (kdC n 4) = 6) n (shC_lt h (by decide)) h
theorem kC_0_5 {n : Nat} (h : shC n = 0) : shC (kdC n 5) = 20 ∧ alC (kdC n 5) = 6 := (by decide +kernel : ∀ n, n < 167 → shC n = 0 → shC (kdC n 5) = 20 ∧ alC (kdC n 5) = 6) n (shC_lt h (by decide)) h
theorem kC_0_6 {n : Nat} (h : shC n = 0) : shC (kdC n 6) = 20 ∧ alC (kdC n 6) = 6 := (by decide +kernel : ∀ n, n < 167 → shC n = 0 → shC (kdC n 6) = 20 ∧ alC (kdC n 6) = 6) n (shC_lt h (by decide)) h
theorem kC_0_7 {n : Nat} (h : shC n = 0) : shC (kdC n 7) = 20 ∧ alC (kdC n 7) = 10 := (by decide +kernel : ∀ n, n < 167 → shC n = 0 → shC (kdC n 7) = 20 ∧ alC (kdC n 7) = 10) n (shC_lt h (by decide)) h
theorem kC_0_8 {n : Nat} (h : shC n = 0) : shC (kdC n 8) = 20 ∧ alC (kdC n 8) = 10 := (by decide +kernel : ∀ n, n < 167 → shC n = 0 → shC (kdC n 8) = 20 ∧ alC (kdC n 8) = 10) n (shC_lt h (by decide)) h
theorem kC_0_9 {n : Nat} (h : shC n = 0) : shC (kdC n 9) = 9 := (by decide +kernel : ∀ n, n < 167 → shC n = 0 → shC (kdC n 9) = 9) n (shC_lt h (by decide)) h
theorem kC_0_10 {n : Nat} (h : shC n = 0) : shC (kdC n 10) = 6 := (by decide +kernel : ∀ n, n < 167 → shC n = 0 → shC (kdC n 10) = 6) n (shC_lt h (by decide)) h
theorem kC_0_11 {n : Nat} (h : shC n = 0) : shC (kdC n 11) = 5 := (by decide +kernel : ∀ n, n < 167 → shC n = 0 → shC (kdC n 11) = 5) n (shC_lt h (by decide)) h
theorem kC_2_0 {n : Nat} (h : shC n = 2) : shC (kdC n 0) = 20 ∧ alC (kdC n 0) = 5 := (by decide +kernel : ∀ n, n < 167 → shC n = 2 → shC (kdC n 0) = 20 ∧ alC (kdC n 0) = 5) n (shC_lt h (by decide)) h
theorem kC_3_0 {n : Nat} (h : shC n = 3) : shC (kdC n 0) = 20 ∧ alC (kdC n 0) = 64 := (by decide +kernel : ∀ n, n < 167 → shC n = 3 → shC (kdC n 0) = 20 ∧ alC (kdC n 0) = 64) n (shC_lt h (by decide)) h
theorem kC_3_1 {n : Nat} (h : shC n = 3) : shC (kdC n 1) = 20 ∧ alC (kdC n 1) = 6 := (by decide +kernel : ∀ n, n < 167 → shC n = 3 → shC (kdC n 1) = 20 ∧ alC (kdC n 1) = 6) n (shC_lt h (by decide)) h
theorem kC_4_0 {n : Nat} (h : shC n = 4) : shC (kdC n 0) = 7 := (by decide +kernel : ∀ n, n < 167 → shC n = 4 → shC (kdC n 0) = 7) n (shC_lt h (by decide)) h
theorem kC_4_1 {n : Nat} (h : shC n = 4) : shC (kdC n 1) = 20 ∧ alC (kdC n 1) = 3 := (by decide +kernel : ∀ n, n < 167 → shC n = 4 → shC (kdC n 1) = 20 ∧ alC (kdC n 1) = 3) n (shC_lt h (by decide)) h
theorem kC_7_0 {n : Nat} (h : shC n = 7) : shC (kdC n 0) = 20 ∧ alC (kdC n 0) = 900 := (by decide +kernel : ∀ n, n < 167 → shC n = 7 → shC (kdC n 0) = 20 ∧ alC (kdC n 0) = 900) n (shC_lt h (by decide)) h
theorem kC_7_1 {n : Nat} (h : shC n = 7) : shC (kdC n 1) = 21 ∧ alC (kdC n 1) = 29 := (by decide +kernel : ∀ n, n < 167 → shC n = 7 → shC (kdC n 1) = 21 ∧ alC (kdC n 1) = 29) n (shC_lt h (by decide)) h
theorem kC_8_2 {n : Nat} (h : shC n = 8) : shC (kdC n 2) = 21 ∧ alC (kdC n 2) = 60 := (by decide +kernel : ∀ n, n < 167 → shC n = 8 → shC (kdC n 2) = 21 ∧ alC (kdC n 2) = 60) n (shC_lt h (by decide)) h
theorem kC_9_2 {n : Nat} (h : shC n = 9) : shC (kdC n 2) = 20 ∧ alC (kdC n 2) = 150 := (by decide +kernel : ∀ n, n < 167 → shC n = 9 → shC (kdC n 2) = 20 ∧ alC (kdC n 2) = 150) n (shC_lt h (by decide)) h
theorem kC_10_0 {n : Nat} (h : shC n = 10) : shC (kdC n 0) = 20 ∧ alC (kdC n 0) = 8 := (by decide +kernel : ∀ n, n < 167 → shC n = 10 → shC (kdC n 0) = 20 ∧ alC (kdC n 0) = 8) n (shC_lt h (by decide)) h
theorem kC_10_1 {n : Nat} (h : shC n = 10) : shC (kdC n 1) = 20 ∧ alC (kdC n 1) = 8 := (by decide +kernel : ∀ n, n < 167 → shC n = 10 → shC (kdC n 1) = 20 ∧ alC (kdC n 1) = 8) n (shC_lt h (by decide)) h
theorem kC_11_2 {n : Nat} (h : shC n = 11) : shC (kdC n 2) = 26 ∧ alC (kdC n 2) = 3 := (by decide +kernel : ∀ n, n < 167 → shC n = 11 → shC (kdC n 2) = 26 ∧ alC (kdC n 2) = 3) n (shC_lt h (by decide)) h
theorem kC_11_4 {n : Nat} (h : shC n = 11) : shC (kdC n 4) = 27 ∧ alC (kdC n 4) = 4 := (by decide +kernel : ∀ n, n < 167 → shC n = 11 → shC (kdC n 4) = 27 ∧ alC (kdC n 4) = 4) n (shC_lt h (by decide)) h
theorem kC_11_5 {n : Nat} (h : shC n = 11) : shC (kdC n 5) = 8 := (by decide +kernel : ∀ n, n < 167 → shC n = 11 → shC (kdC n 5) = 8) n (shC_lt h (by decide)) h
theorem kC_11_6 {n : Nat} (h : shC n = 11) : shC (kdC n 6) = 7 := (by decide +kernel : ∀ n, n < 167 → shC n = 11 → shC (kdC n 6) = 7) n (shC_lt h (by decide)) h
theorem kC_11_7 {n : Nat} (h : shC n = 11) : shC (kdC n 7) = 4 := (by decide +kernel : ∀ n, n < 167 → shC n = 11 → shC (kdC n 7) = 4) n (shC_lt h (by decide)) h
theorem kC_11_8 {n : Nat} (h : shC n = 11) : shC (kdC n 8) = 10 := (by decide +kernel : ∀ n, n < 167 → shC n = 11 → shC (kdC n 8) = 10) n (shC_lt h (by decide)) h
theorem kC_11_9 {n : Nat} (h : shC n = 11) : shC (kdC n 9) = 3 := (by decide +kernel : ∀ n, n < 167 → shC n = 11 → shC (kdC n 9) = 3) n (shC_lt h (by decide)) h
theorem kC_11_10 {n : Nat} (h : shC n = 11) : shC (kdC n 10) = 1 := (by decide +kernel : ∀ n, n < 167 → shC n = 11 → shC (kdC n 10) = 1) n (shC_lt h (by decide)) h
theorem kC_11_11 {n : Nat} (h : shC n = 11) : shC (kdC n 11) = 2 := (by decide +kernel : ∀ n, n < 167 → shC n = 11 → shC (kdC n 11) = 2) n (shC_lt h (by decide)) h
theorem kC_24 {n i : Nat} (h : shC n = 24) (hi : i < 8) : shC (kdC n i) = 6 := (by decide +kernel : ∀ n, n < 167 → shC n = 24 → ∀ i, i < 8 → shC (kdC n i) = 6) n (shC_lt h (by decide)) h i hi
theorem kC_25 {n i : Nat} (h : shC n = 25) (hi : i < 6) : shC (kdC n i) = 5 := (by decide +kernel : ∀ n, n < 167 → shC n = 25 → ∀ i, i < 6 → shC (kdC n i) = 5) n (shC_lt h (by decide)) h i hi
theorem kC_26 {n i : Nat} (h : shC n = 26) (hi : i < 3) : shC (kdC n i) = 0 := (by decide +kernel : ∀ n, n < 167 → shC n = 26 → ∀ i, i < 3 → shC (kdC n i) = 0) n (shC_lt h (by decide)) h i hi
theorem kC_27 {n i : Nat} (h : shC n = 27) (hi : i < 4) : shC (kdC n i) = 8 := (by decide +kernel : ∀ n, n < 167 → shC n = 27 → ∀ i, i < 4 → shC (kdC n i) = 8) n (shC_lt h (by decide)) h i hi
def shRL : List Nat := [12, 20, 21, 20, 20, 21, 22, 22, 20, 23, 20, 20, 20, 20, 20, 20, 20, 20, 20, 20]
def alRL : List Nat := [0, 3548, 138, 4, 4, 240, 900, 900, 3, 64, 7, 9, 9, 64, 4, 4, 4, 80, 5, 5]
def kdRL : List (List Nat) := [[1, 2, 0, 0, 0, 3, 4, 5, 6, 7, 0, 0, 0, 0, 0, 0, 0, 0, 0, 0, 8, 0, 0, 9, 0, 10, 0, 0, 0, 11, 12, 13, 14, 15, 16, 0, 0, 17, 18, 19, 0, 0], [], [], [], [], [], [], [], [], [], [], [], [], [], [], [], [], [], [], []]
def shR (n : Nat) : Nat := shRL.getD n 99
def alR (n : Nat) : Nat := alRL.getD n 0
def kdR (n k : Nat) : Nat := (kdRL.getD n []).getD k 0
theorem shR_lt {n k : Nat} (h : shR n = k) (hk : k < 99) : n < 20 := by
  by_cases hn : n < 20
  · exact hn
  · have e : shR n = 99 := by unfold shR; rw [List.getD_eq_getElem?_getD, List.getElem?_eq_none (show shRL.length ≤ n from Nat.le_of_not_lt hn)]; rfl
    omega
def ceR (cA : Nat → ClassId) (q : Nat → Nat) : CeT := fun I L R n => match shR n with
  | 12 => .inr (12, [.ref (q (kdR n 0)), .ref (q (kdR n 1)), .int (I 2), .long (L 3), .long (L 4), .ref (q (kdR n 5)), .ref (q (kdR n 6)), .ref (q (kdR n 7)), .ref (q (kdR n 8)), .ref (q (kdR n 9)), .int (I 10), .int (I 11), .int (I 12), .int (I 13), .int (I 14), .int (I 15), .int (I 16), .int (I 17), .int (I 18), .int (I 19), .ref (q (kdR n 20)), .int (I 21), .int (I 22), .ref (q (kdR n 23)), .int (I 24), .ref (q (kdR n 25)), .int (I 26), .int (I 27), .int (I 28), .ref (q (kdR n 29)), .ref (q (kdR n 30)), .ref (q (kdR n 31)), .ref (q (kdR n 32)), .ref (q (kdR n 33)), .ref (q (kdR n 34)), .int (I 35), .int (I 36), .ref (q (kdR n 37)), .ref (q (kdR n 38)), .ref (q (kdR n 39)), .int (I 40), .int (I 41)])
  | 20 => .inl (cA 0, alR n, .inl I)
  | 21 => .inl (cA 1, alR n, .inr (.inl L))
  | 22 => .inl (cA 2, alR n, .inl I)
  | 23 => .inl (cA 3, alR n, .inl I)
  | _ => .inl (cA 0, 0, .inl I)
theorem ceR_12 {cA : Nat → ClassId} {q : Nat → Nat} {I : Nat → Int32} {L : Nat → Int64} {R : Nat → Nat} {n : Nat} (h : shR n = 12) : ceR cA q I L R n = .inr (12, [.ref (q (kdR n 0)), .ref (q (kdR n 1)), .int (I 2), .long (L 3), .long (L 4), .ref (q (kdR n 5)), .ref (q (kdR n 6)), .ref (q (kdR n 7)), .ref (q (kdR n 8)), .ref (q (kdR n 9)), .int (I 10), .int (I 11), .int (I 12), .int (I 13), .int (I 14), .int (I 15), .int (I 16), .int (I 17), .int (I 18), .int (I 19), .ref (q (kdR n 20)), .int (I 21), .int (I 22), .ref (q (kdR n 23)), .int (I 24), .ref (q (kdR n 25)), .int (I 26), .int (I 27), .int (I 28), .ref (q (kdR n 29)), .ref (q (kdR n 30)), .ref (q (kdR n 31)), .ref (q (kdR n 32)), .ref (q (kdR n 33)), .ref (q (kdR n 34)), .int (I 35), .int (I 36), .ref (q (kdR n 37)), .ref (q (kdR n 38)), .ref (q (kdR n 39)), .int (I 40), .int (I 41)]) := by simp only [ceR, h]
theorem ceR_20 {cA : Nat → ClassId} {q : Nat → Nat} {I : Nat → Int32} {L : Nat → Int64} {R : Nat → Nat} {n : Nat} (h : shR n = 20) : ceR cA q I L R n = .inl (cA 0, alR n, .inl I) := by simp only [ceR, h]
theorem ceR_21 {cA : Nat → ClassId} {q : Nat → Nat} {I : Nat → Int32} {L : Nat → Int64} {R : Nat → Nat} {n : Nat} (h : shR n = 21) : ceR cA q I L R n = .inl (cA 1, alR n, .inr (.inl L)) := by simp only [ceR, h]
theorem ceR_22 {cA : Nat → ClassId} {q : Nat → Nat} {I : Nat → Int32} {L : Nat → Int64} {R : Nat → Nat} {n : Nat} (h : shR n = 22) : ceR cA q I L R n = .inl (cA 2, alR n, .inl I) := by simp only [ceR, h]
theorem ceR_23 {cA : Nat → ClassId} {q : Nat → Nat} {I : Nat → Int32} {L : Nat → Int64} {R : Nat → Nat} {n : Nat} (h : shR n = 23) : ceR cA q I L R n = .inl (cA 3, alR n, .inl I) := by simp only [ceR, h]
theorem kR_12_0 {n : Nat} (h : shR n = 12) : shR (kdR n 0) = 20 ∧ alR (kdR n 0) = 3548 := (by decide +kernel : ∀ n, n < 20 → shR n = 12 → shR (kdR n 0) = 20 ∧ alR (kdR n 0) = 3548) n (shR_lt h (by decide)) h
theorem kR_12_1 {n : Nat} (h : shR n = 12) : shR (kdR n 1) = 21 ∧ alR (kdR n 1) = 138 := (by decide +kernel : ∀ n, n < 20 → shR n = 12 → shR (kdR n 1) = 21 ∧ alR (kdR n 1) = 138) n (shR_lt h (by decide)) h
theorem kR_12_5 {n : Nat} (h : shR n = 12) : shR (kdR n 5) = 20 ∧ alR (kdR n 5) = 4 := (by decide +kernel : ∀ n, n < 20 → shR n = 12 → shR (kdR n 5) = 20 ∧ alR (kdR n 5) = 4) n (shR_lt h (by decide)) h
theorem kR_12_6 {n : Nat} (h : shR n = 12) : shR (kdR n 6) = 20 ∧ alR (kdR n 6) = 4 := (by decide +kernel : ∀ n, n < 20 → shR n = 12 → shR (kdR n 6) = 20 ∧ alR (kdR n 6) = 4) n (shR_lt h (by decide)) h
theorem kR_12_7 {n : Nat} (h : shR n = 12) : shR (kdR n 7) = 21 ∧ alR (kdR n 7) = 240 := (by decide +kernel : ∀ n, n < 20 → shR n = 12 → shR (kdR n 7) = 21 ∧ alR (kdR n 7) = 240) n (shR_lt h (by decide)) h
theorem kR_12_8 {n : Nat} (h : shR n = 12) : shR (kdR n 8) = 22 ∧ alR (kdR n 8) = 900 := (by decide +kernel : ∀ n, n < 20 → shR n = 12 → shR (kdR n 8) = 22 ∧ alR (kdR n 8) = 900) n (shR_lt h (by decide)) h
theorem kR_12_9 {n : Nat} (h : shR n = 12) : shR (kdR n 9) = 22 ∧ alR (kdR n 9) = 900 := (by decide +kernel : ∀ n, n < 20 → shR n = 12 → shR (kdR n 9) = 22 ∧ alR (kdR n 9) = 900) n (shR_lt h (by decide)) h
theorem kR_12_20 {n : Nat} (h : shR n = 12) : shR (kdR n 20) = 20 ∧ alR (kdR n 20) = 3 := (by decide +kernel : ∀ n, n < 20 → shR n = 12 → shR (kdR n 20) = 20 ∧ alR (kdR n 20) = 3) n (shR_lt h (by decide)) h
theorem kR_12_23 {n : Nat} (h : shR n = 12) : shR (kdR n 23) = 23 ∧ alR (kdR n 23) = 64 := (by decide +kernel : ∀ n, n < 20 → shR n = 12 → shR (kdR n 23) = 23 ∧ alR (kdR n 23) = 64) n (shR_lt h (by decide)) h
theorem kR_12_25 {n : Nat} (h : shR n = 12) : shR (kdR n 25) = 20 ∧ alR (kdR n 25) = 7 := (by decide +kernel : ∀ n, n < 20 → shR n = 12 → shR (kdR n 25) = 20 ∧ alR (kdR n 25) = 7) n (shR_lt h (by decide)) h
theorem kR_12_29 {n : Nat} (h : shR n = 12) : shR (kdR n 29) = 20 ∧ alR (kdR n 29) = 9 := (by decide +kernel : ∀ n, n < 20 → shR n = 12 → shR (kdR n 29) = 20 ∧ alR (kdR n 29) = 9) n (shR_lt h (by decide)) h
theorem kR_12_30 {n : Nat} (h : shR n = 12) : shR (kdR n 30) = 20 ∧ alR (kdR n 30) = 9 := (by decide +kernel : ∀ n, n < 20 → shR n = 12 → shR (kdR n 30) = 20 ∧ alR (kdR n 30) = 9) n (shR_lt h (by decide)) h
theorem kR_12_31 {n : Nat} (h : shR n = 12) : shR (kdR n 31) = 20 ∧ alR (kdR n 31) = 64 := (by decide +kernel : ∀ n, n < 20 → shR n = 12 → shR (kdR n 31) = 20 ∧ alR (kdR n 31) = 64) n (shR_lt h (by decide)) h
theorem kR_12_32 {n : Nat} (h : shR n = 12) : shR (kdR n 32) = 20 ∧ alR (kdR n 32) = 4 := (by decide +kernel : ∀ n, n < 20 → shR n = 12 → shR (kdR n 32) = 20 ∧ alR (kdR n 32) = 4) n (shR_lt h (by decide)) h
theorem kR_12_33 {n : Nat} (h : shR n = 12) : shR (kdR n 33) = 20 ∧ alR (kdR n 33) = 4 := (by decide +kernel : ∀ n, n < 20 → shR n = 12 → shR (kdR n 33) = 20 ∧ alR (kdR n 33) = 4) n (shR_lt h (by decide)) h
theorem kR_12_34 {n : Nat} (h : shR n = 12) : shR (kdR n 34) = 20 ∧ alR (kdR n 34) = 4 := (by decide +kernel : ∀ n, n < 20 → shR n = 12 → shR (kdR n 34) = 20 ∧ alR (kdR n 34) = 4) n (shR_lt h (by decide)) h
theorem kR_12_37 {n : Nat} (h : shR n = 12) : shR (kdR n 37) = 20 ∧ alR (kdR n 37) = 80 := (by decide +kernel : ∀ n, n < 20 → shR n = 12 → shR (kdR n 37) = 20 ∧ alR (kdR n 37) = 80) n (shR_lt h (by decide)) h
theorem kR_12_38 {n : Nat} (h : shR n = 12) : shR (kdR n 38) = 20 ∧ alR (kdR n 38) = 5 := (by decide +kernel : ∀ n, n < 20 → shR n = 12 → shR (kdR n 38) = 20 ∧ alR (kdR n 38) = 5) n (shR_lt h (by decide)) h
theorem kR_12_39 {n : Nat} (h : shR n = 12) : shR (kdR n 39) = 20 ∧ alR (kdR n 39) = 5 := (by decide +kernel : ∀ n, n < 20 → shR n = 12 → shR (kdR n 39) = 20 ∧ alR (kdR n 39) = 5) n (shR_lt h (by decide)) h
