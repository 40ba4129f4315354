/-! THE FIRST WORLD of the class, in the order of the walks (written by wip/gen/init.py) -/
def gpL : List Nat := [0, 1, 2, 3, 4, 19, 20, 21, 22, 23, 24, 25, 26, 5, 6, 7, 8, 9, 10, 11, 12, 13, 14, 15, 16, 17, 18, 27, 28, 29, 30, 31, 41, 42, 43, 44, 45, 46, 47, 48, 32, 49, 50, 51, 52, 53, 54, 33, 34, 35, 36, 37, 38, 39, 40, 55, 56, 57, 58, 59, 69, 70, 71, 72, 73, 74, 75, 76, 60, 77, 78, 79, 80, 81, 82, 61, 62, 63, 64, 65, 66, 67, 68, 83, 84, 85, 86, 87, 97, 98, 99, 100, 101, 102, 103, 104, 88, 105, 106, 107, 108, 109, 110, 89, 90, 91, 92, 93, 94, 95, 96, 111, 112, 113, 114, 115, 125, 126, 127, 128, 129, 130, 131, 132, 116, 133, 134, 135, 136, 137, 138, 117, 118, 119, 120, 121, 122, 123, 124, 139, 140, 141, 142, 143, 153, 154, 155, 156, 157, 158, 159, 160, 144, 161, 162, 163, 164, 165, 166, 145, 146, 147, 148, 149, 150, 151, 152]
def gp (n : Nat) : Nat := gpL.getD n 0
def MC0 : Mem := (fun n k => match shC n with
  | 6 => [0, 0, -1, -1, 0, 99, -1, 0, 9].getD k 0
  | 5 => [2, 0, 0, 0, 0].getD k 0
  | 8 => [-1, 0].getD k 0
  | 7 => [0, 0, 0, 0, 0, 0, 32, 0, 0, 0, -1].getD k 0
  | 1 => [36, 0].getD k 0
  | 11 => [0, 0, 0, 0, 0, 0, 0, 0, 0, 0, 0, 0, 0, 0, 0, -1, -1, 0, 0].getD k 0
  | _ => 0, fun n k => if n = 15 then (tkA 158).2.2 k else if n = 0 then [0, 0, 0, 0, 0, 0, 0, 0, 0, 0, 0, 0, 0, 0, 1].getD k 0 else 0, fun n k => if n = 0 then [27, 55].getD k 0 else 0)
set_option maxRecDepth 100000 in
theorem mc15 (k : Nat) : gL MC0 15 k = (tkA 158).2.2 k := by simp [gL, MC0]
theorem mcL15 : gL MC0 15 = (tkA 158).2.2 := funext mc15
theorem vp_arr {cA : ClassId} {n : Nat} {f g : Nat → Option Nat} (h : ∀ j, j < n → f j = g j) : vp_cell cA (n, .inr (.inr (.inr (.inr f)))) = vp_cell cA (n, .inr (.inr (.inr (.inr g)))) := by
  rw [vp_cell_q, vp_cell_q]
  unfold arrV
  congr 1
  apply Array.ext
  · simp
  · intro i h1 h2
    simp at h1
    simp [h i h1]
theorem at_row {D : va_G} {c : ClassId} {n a : Nat} {f g : Nat → Option Nat} {H : Heap} (h : ∀ j, j < n → f j = g j) (w : va_at D vwCl (a, .inl (c, n, .inr (.inr (.inr (.inr f))))) H) : va_at D vwCl (a, .inl (c, n, .inr (.inr (.inr (.inr g))))) H := by
  have w' : H[a]? = some (vp_cell c (n, .inr (.inr (.inr (.inr f))))) := w
  show H[a]? = some (vp_cell c (n, .inr (.inr (.inr (.inr g)))))
  rw [w', vp_arr h]
def qof (ws : va_W) (n : Nat) : Nat := (ws[gp n]?.map Prod.fst).getD 0
def okN (D : va_G) (cA : Nat → ClassId) (ws : va_W) (n : Nat) : Prop := ∃ e', ws[gp n]? = some (qof ws n, e') ∧ ∀ H : Heap, va_at D vwCl (qof ws n, e') H → va_at D vwCl (qof ws n, ceC cA (qof ws) (gI MC0 n) (gL MC0 n) (gR MC0 n) n) H
section FIRSTC
variable {D : va_G} {cA : Nat → ClassId} {h0 : Nat} {a : Nat → Nat} {u : Nat → Nat → Nat}
theorem fw_0 : okN D cA (w_X11_init cA h0 a u) 0 := ⟨_, rfl, fun H h => h⟩
theorem fw_1 : okN D cA (w_X11_init cA h0 a u) 1 := ⟨_, rfl, fun H h => at_row (fun j hj => match j, hj with | 0, _ => rfl | 1, _ => rfl | 2, _ => rfl | k + 3, z => absurd (show k + 3 < 3 from z) (by omega)) h⟩
theorem fw_2 : okN D cA (w_X11_init cA h0 a u) 2 := ⟨_, rfl, fun H h => at_row (fun j hj => match j, hj with | 0, _ => rfl | 1, _ => rfl | 2, _ => rfl | 3, _ => rfl | k + 4, z => absurd (show k + 4 < 4 from z) (by omega)) h⟩
theorem fw_3 : okN D cA (w_X11_init cA h0 a u) 3 := ⟨_, rfl, fun H h => h⟩
theorem fw_4 : okN D cA (w_X11_init cA h0 a u) 4 := ⟨_, rfl, fun H h => h⟩
theorem fw_5 : okN D cA (w_X11_init cA h0 a u) 5 := ⟨_, rfl, fun H h => h⟩
theorem fw_6 : okN D cA (w_X11_init cA h0 a u) 6 := ⟨_, rfl, fun H h => h⟩
theorem fw_7 : okN D cA (w_X11_init cA h0 a u) 7 := ⟨_, rfl, fun H h => h⟩
theorem fw_8 : okN D cA (w_X11_init cA h0 a u) 8 := ⟨_, rfl, fun H h => h⟩
theorem fw_9 : okN D cA (w_X11_init cA h0 a u) 9 := ⟨_, rfl, fun H h => h⟩
theorem fw_10 : okN D cA (w_X11_init cA h0 a u) 10 := ⟨_, rfl, fun H h => h⟩
theorem fw_11 : okN D cA (w_X11_init cA h0 a u) 11 := ⟨_, rfl, fun H h => h⟩
theorem fw_12 : okN D cA (w_X11_init cA h0 a u) 12 := ⟨_, rfl, fun H h => h⟩
theorem fw_13 : okN D cA (w_X11_init cA h0 a u) 13 := ⟨_, rfl, fun H h => h⟩
theorem fw_14 : okN D cA (w_X11_init cA h0 a u) 14 := ⟨_, rfl, fun H h => h⟩
theorem fw_15 : okN D cA (w_X11_init cA h0 a u) 15 := ⟨_, rfl, fun H h => by
  rw [mcL15]
  exact h⟩
theorem fw_16 : okN D cA (w_X11_init cA h0 a u) 16 := ⟨_, rfl, fun H h => h⟩
theorem fw_17 : okN D cA (w_X11_init cA h0 a u) 17 := ⟨_, rfl, fun H h => h⟩
theorem fw_18 : okN D cA (w_X11_init cA h0 a u) 18 := ⟨_, rfl, fun H h => h⟩
theorem fw_19 : okN D cA (w_X11_init cA h0 a u) 19 := ⟨_, rfl, fun H h => h⟩
theorem fw_20 : okN D cA (w_X11_init cA h0 a u) 20 := ⟨_, rfl, fun H h => h⟩
theorem fw_21 : okN D cA (w_X11_init cA h0 a u) 21 := ⟨_, rfl, fun H h => h⟩
theorem fw_22 : okN D cA (w_X11_init cA h0 a u) 22 := ⟨_, rfl, fun H h => h⟩
theorem fw_23 : okN D cA (w_X11_init cA h0 a u) 23 := ⟨_, rfl, fun H h => h⟩
theorem fw_24 : okN D cA (w_X11_init cA h0 a u) 24 := ⟨_, rfl, fun H h => h⟩
theorem fw_25 : okN D cA (w_X11_init cA h0 a u) 25 := ⟨_, rfl, fun H h => h⟩
theorem fw_26 : okN D cA (w_X11_init cA h0 a u) 26 := ⟨_, rfl, fun H h => h⟩
theorem fw_27 : okN D cA (w_X11_init cA h0 a u) 27 := ⟨_, rfl, fun H h => h⟩
theorem fw_28 : okN D cA (w_X11_init cA h0 a u) 28 := ⟨_, rfl, fun H h => h⟩
theorem fw_29 : okN D cA (w_X11_init cA h0 a u) 29 := ⟨_, rfl, fun H h => h⟩
theorem fw_30 : okN D cA (w_X11_init cA h0 a u) 30 := ⟨_, rfl, fun H h => h⟩
theorem fw_31 : okN D cA (w_X11_init cA h0 a u) 31 := ⟨_, rfl, fun H h => at_row (fun j hj => match j, hj with | 0, _ => rfl | 1, _ => rfl | 2, _ => rfl | 3, _ => rfl | 4, _ => rfl | 5, _ => rfl | 6, _ => rfl | 7, _ => rfl | k + 8, z => absurd (show k + 8 < 8 from z) (by omega)) h⟩
theorem fw_32 : okN D cA (w_X11_init cA h0 a u) 32 := ⟨_, rfl, fun H h => h⟩
theorem fw_33 : okN D cA (w_X11_init cA h0 a u) 33 := ⟨_, rfl, fun H h => h⟩
theorem fw_34 : okN D cA (w_X11_init cA h0 a u) 34 := ⟨_, rfl, fun H h => h⟩
theorem fw_35 : okN D cA (w_X11_init cA h0 a u) 35 := ⟨_, rfl, fun H h => h⟩
theorem fw_36 : okN D cA (w_X11_init cA h0 a u) 36 := ⟨_, rfl, fun H h => h⟩
theorem fw_37 : okN D cA (w_X11_init cA h0 a u) 37 := ⟨_, rfl, fun H h => h⟩
theorem fw_38 : okN D cA (w_X11_init cA h0 a u) 38 := ⟨_, rfl, fun H h => h⟩
theorem fw_39 : okN D cA (w_X11_init cA h0 a u) 39 := ⟨_, rfl, fun H h => h⟩
theorem fw_40 : okN D cA (w_X11_init cA h0 a u) 40 := ⟨_, rfl, fun H h => at_row (fun j hj => match j, hj with | 0, _ => rfl | 1, _ => rfl | 2, _ => rfl | 3, _ => rfl | 4, _ => rfl | 5, _ => rfl | k + 6, z => absurd (show k + 6 < 6 from z) (by omega)) h⟩
theorem fw_41 : okN D cA (w_X11_init cA h0 a u) 41 := ⟨_, rfl, fun H h => h⟩
theorem fw_42 : okN D cA (w_X11_init cA h0 a u) 42 := ⟨_, rfl, fun H h => h⟩
theorem fw_43 : okN D cA (w_X11_init cA h0 a u) 43 := ⟨_, rfl, fun H h => h⟩
theorem fw_44 : okN D cA (w_X11_init cA h0 a u) 44 := ⟨_, rfl, fun H h => h⟩
theorem fw_45 : okN D cA (w_X11_init cA h0 a u) 45 := ⟨_, rfl, fun H h => h⟩
theorem fw_46 : okN D cA (w_X11_init cA h0 a u) 46 := ⟨_, rfl, fun H h => h⟩
theorem fw_47 : okN D cA (w_X11_init cA h0 a u) 47 := ⟨_, rfl, fun H h => h⟩
theorem fw_48 : okN D cA (w_X11_init cA h0 a u) 48 := ⟨_, rfl, fun H h => h⟩
theorem fw_49 : okN D cA (w_X11_init cA h0 a u) 49 := ⟨_, rfl, fun H h => h⟩
theorem fw_50 : okN D cA (w_X11_init cA h0 a u) 50 := ⟨_, rfl, fun H h => h⟩
theorem fw_51 : okN D cA (w_X11_init cA h0 a u) 51 := ⟨_, rfl, fun H h => h⟩
theorem fw_52 : okN D cA (w_X11_init cA h0 a u) 52 := ⟨_, rfl, fun H h => h⟩
theorem fw_53 : okN D cA (w_X11_init cA h0 a u) 53 := ⟨_, rfl, fun H h => h⟩
theorem fw_54 : okN D cA (w_X11_init cA h0 a u) 54 := ⟨_, rfl, fun H h => h⟩
theorem fw_55 : okN D cA (w_X11_init cA h0 a u) 55 := ⟨_, rfl, fun H h => h⟩
theorem fw_56 : okN D cA (w_X11_init cA h0 a u) 56 := ⟨_, rfl, fun H h => h⟩
theorem fw_57 : okN D cA (w_X11_init cA h0 a u) 57 := ⟨_, rfl, fun H h => h⟩
theorem fw_58 : okN D cA (w_X11_init cA h0 a u) 58 := ⟨_, rfl, fun H h => h⟩
theorem fw_59 : okN D cA (w_X11_init cA h0 a u) 59 := ⟨_, rfl, fun H h => at_row (fun j hj => match j, hj with | 0, _ => rfl | 1, _ => rfl | 2, _ => rfl | 3, _ => rfl | 4, _ => rfl | 5, _ => rfl | 6, _ => rfl | 7, _ => rfl | k + 8, z => absurd (show k + 8 < 8 from z) (by omega)) h⟩
theorem fw_60 : okN D cA (w_X11_init cA h0 a u) 60 := ⟨_, rfl, fun H h => h⟩
theorem fw_61 : okN D cA (w_X11_init cA h0 a u) 61 := ⟨_, rfl, fun H h => h⟩
theorem fw_62 : okN D cA (w_X11_init cA h0 a u) 62 := ⟨_, rfl, fun H h => h⟩
theorem fw_63 : okN D cA (w_X11_init cA h0 a u) 63 := ⟨_, rfl, fun H h => h⟩
theorem fw_64 : okN D cA (w_X11_init cA h0 a u) 64 := ⟨_, rfl, fun H h => h⟩
theorem fw_65 : okN D cA (w_X11_init cA h0 a u) 65 := ⟨_, rfl, fun H h => h⟩
theorem fw_66 : okN D cA (w_X11_init cA h0 a u) 66 := ⟨_, rfl, fun H h => h⟩
theorem fw_67 : okN D cA (w_X11_init cA h0 a u) 67 := ⟨_, rfl, fun H h => h⟩
theorem fw_68 : okN D cA (w_X11_init cA h0 a u) 68 := ⟨_, rfl, fun H h => at_row (fun j hj => match j, hj with | 0, _ => rfl | 1, _ => rfl | 2, _ => rfl | 3, _ => rfl | 4, _ => rfl | 5, _ => rfl | k + 6, z => absurd (show k + 6 < 6 from z) (by omega)) h⟩
theorem fw_69 : okN D cA (w_X11_init cA h0 a u) 69 := ⟨_, rfl, fun H h => h⟩
theorem fw_70 : okN D cA (w_X11_init cA h0 a u) 70 := ⟨_, rfl, fun H h => h⟩
theorem fw_71 : okN D cA (w_X11_init cA h0 a u) 71 := ⟨_, rfl, fun H h => h⟩
theorem fw_72 : okN D cA (w_X11_init cA h0 a u) 72 := ⟨_, rfl, fun H h => h⟩
theorem fw_73 : okN D cA (w_X11_init cA h0 a u) 73 := ⟨_, rfl, fun H h => h⟩
theorem fw_74 : okN D cA (w_X11_init cA h0 a u) 74 := ⟨_, rfl, fun H h => h⟩
theorem fw_75 : okN D cA (w_X11_init cA h0 a u) 75 := ⟨_, rfl, fun H h => h⟩
theorem fw_76 : okN D cA (w_X11_init cA h0 a u) 76 := ⟨_, rfl, fun H h => h⟩
theorem fw_77 : okN D cA (w_X11_init cA h0 a u) 77 := ⟨_, rfl, fun H h => h⟩
theorem fw_78 : okN D cA (w_X11_init cA h0 a u) 78 := ⟨_, rfl, fun H h => h⟩
theorem fw_79 : okN D cA (w_X11_init cA h0 a u) 79 := ⟨_, rfl, fun H h => h⟩
theorem fw_80 : okN D cA (w_X11_init cA h0 a u) 80 := ⟨_, rfl, fun H h => h⟩
theorem fw_81 : okN D cA (w_X11_init cA h0 a u) 81 := ⟨_, rfl, fun H h => h⟩
theorem fw_82 : okN D cA (w_X11_init cA h0 a u) 82 := ⟨_, rfl, fun H h => h⟩
theorem fw_83 : okN D cA (w_X11_init cA h0 a u) 83 := ⟨_, rfl, fun H h => h⟩
theorem fw_84 : okN D cA (w_X11_init cA h0 a u) 84 := ⟨_, rfl, fun H h => h⟩
theorem fw_85 : okN D cA (w_X11_init cA h0 a u) 85 := ⟨_, rfl, fun H h => h⟩
theorem fw_86 : okN D cA (w_X11_init cA h0 a u) 86 := ⟨_, rfl, fun H h => h⟩
theorem fw_87 : okN D cA (w_X11_init cA h0 a u) 87 := ⟨_, rfl, fun H h => at_row (fun j hj => match j, hj with | 0, _ => rfl | 1, _ => rfl | 2, _ => rfl | 3, _ => rfl | 4, _ => rfl | 5, _ => rfl | 6, _ => rfl | 7, _ => rfl | k + 8, z => absurd (show k + 8 < 8 from z) (by omega)) h⟩
theorem fw_88 : okN D cA (w_X11_init cA h0 a u) 88 := ⟨_, rfl, fun H h => h⟩
theorem fw_89 : okN D cA (w_X11_init cA h0 a u) 89 := ⟨_, rfl, fun H h => h⟩
theorem fw_90 : okN D cA (w_X11_init cA h0 a u) 90 := ⟨_, rfl, fun H h => h⟩
theorem fw_91 : okN D cA (w_X11_init cA h0 a u) 91 := ⟨_, rfl, fun H h => h⟩
theorem fw_92 : okN D cA (w_X11_init cA h0 a u) 92 := ⟨_, rfl, fun H h => h⟩
theorem fw_93 : okN D cA (w_X11_init cA h0 a u) 93 := ⟨_, rfl, fun H h => h⟩
theorem fw_94 : okN D cA (w_X11_init cA h0 a u) 94 := ⟨_, rfl, fun H h => h⟩
theorem fw_95 : okN D cA (w_X11_init cA h0 a u) 95 := ⟨_, rfl, fun H h => h⟩
theorem fw_96 : okN D cA (w_X11_init cA h0 a u) 96 := ⟨_, rfl, fun H h => at_row (fun j hj => match j, hj with | 0, _ => rfl | 1, _ => rfl | 2, _ => rfl | 3, _ => rfl | 4, _ => rfl | 5, _ => rfl | k + 6, z => absurd (show k + 6 < 6 from z) (by omega)) h⟩
theorem fw_97 : okN D cA (w_X11_init cA h0 a u) 97 := ⟨_, rfl, fun H h => h⟩
theorem fw_98 : okN D cA (w_X11_init cA h0 a u) 98 := ⟨_, rfl, fun H h => h⟩
theorem fw_99 : okN D cA (w_X11_init cA h0 a u) 99 := ⟨_, rfl, fun H h => h⟩
theorem fw_100 : okN D cA (w_X11_init cA h0 a u) 100 := ⟨_, rfl, fun H h => h⟩
theorem fw_101 : okN D cA (w_X11_init cA h0 a u) 101 := ⟨_, rfl, fun H h => h⟩
theorem fw_102 : okN D cA (w_X11_init cA h0 a u) 102 := ⟨_, rfl, fun H h => h⟩
theorem fw_103 : okN D cA (w_X11_init cA h0 a u) 103 := ⟨_, rfl, fun H h => h⟩
theorem fw_104 : okN D cA (w_X11_init cA h0 a u) 104 := ⟨_, rfl, fun H h => h⟩
theorem fw_105 : okN D cA (w_X11_init cA h0 a u) 105 := ⟨_, rfl, fun H h => h⟩
theorem fw_106 : okN D cA (w_X11_init cA h0 a u) 106 := ⟨_, rfl, fun H h => h⟩
theorem fw_107 : okN D cA (w_X11_init cA h0 a u) 107 := ⟨_, rfl, fun H h => h⟩
theorem fw_108 : okN D cA (w_X11_init cA h0 a u) 108 := ⟨_, rfl, fun H h => h⟩
theorem fw_109 : okN D cA (w_X11_init cA h0 a u) 109 := ⟨_, rfl, fun H h => h⟩
theorem fw_110 : okN D cA (w_X11_init cA h0 a u) 110 := ⟨_, rfl, fun H h => h⟩
theorem fw_111 : okN D cA (w_X11_init cA h0 a u) 111 := ⟨_, rfl, fun H h => h⟩
theorem fw_112 : okN D cA (w_X11_init cA h0 a u) 112 := ⟨_, rfl, fun H h => h⟩
theorem fw_113 : okN D cA (w_X11_init cA h0 a u) 113 := ⟨_, rfl, fun H h => h⟩
theorem fw_114 : okN D cA (w_X11_init cA h0 a u) 114 := ⟨_, rfl, fun H h => h⟩
theorem fw_115 : okN D cA (w_X11_init cA h0 a u) 115 := ⟨_, rfl, fun H h => at_row (fun j hj => match j, hj with | 0, _ => rfl | 1, _ => rfl | 2, _ => rfl | 3, _ => rfl | 4, _ => rfl | 5, _ => rfl | 6, _ => rfl | 7, _ => rfl | k + 8, z => absurd (show k + 8 < 8 from z) (by omega)) h⟩
theorem fw_116 : okN D cA (w_X11_init cA h0 a u) 116 := ⟨_, rfl, fun H h => h⟩
theorem fw_117 : okN D cA (w_X11_init cA h0 a u) 117 := ⟨_, rfl, fun H h => h⟩
theorem fw_118 : okN D cA (w_X11_init cA h0 a u) 118 := ⟨_, rfl, fun H h => h⟩
theorem fw_119 : okN D cA (w_X11_init cA h0 a u) 119 := ⟨_, rfl, fun H h => h⟩
theorem fw_120 : okN D cA (w_X11_init cA h0 a u) 120 := ⟨_, rfl, fun H h => h⟩
theorem fw_121 : okN D cA (w_X11_init cA h0 a u) 121 := ⟨_, rfl, fun H h => h⟩
theorem fw_122 : okN D cA (w_X11_init cA h0 a u) 122 := ⟨_, rfl, fun H h => h⟩
theorem fw_123 : okN D cA (w_X11_init cA h0 a u) 123 := ⟨_, rfl, fun H h => h⟩
theorem fw_124 : okN D cA (w_X11_init cA h0 a u) 124 := ⟨_, rfl, fun H h => at_row (fun j hj => match j, hj with | 0, _ => rfl | 1, _ => rfl | 2, _ => rfl | 3, _ => rfl | 4, _ => rfl | 5, _ => rfl | k + 6, z => absurd (show k + 6 < 6 from z) (by omega)) h⟩
theorem fw_125 : okN D cA (w_X11_init cA h0 a u) 125 := ⟨_, rfl, fun H h => h⟩
theorem fw_126 : okN D cA (w_X11_init cA h0 a u) 126 := ⟨_, rfl, fun H h => h⟩
theorem fw_127 : okN D cA (w_X11_init cA h0 a u) 127 := ⟨_, rfl, fun H h => h⟩
theorem fw_128 : okN D cA (w_X11_init cA h0 a u) 128 := ⟨_, rfl, fun H h => h⟩
theorem fw_129 : okN D cA (w_X11_init cA h0 a u) 129 := ⟨_, rfl, fun H h => h⟩
theorem fw_130 : okN D cA (w_X11_init cA h0 a u) 130 := ⟨_, rfl, fun H h => h⟩
theorem fw_131 : okN D cA (w_X11_init cA h0 a u) 131 := ⟨_, rfl, fun H h => h⟩
theorem fw_132 : okN D cA (w_X11_init cA h0 a u) 132 := ⟨_, rfl, fun H h => h⟩
theorem fw_133 : okN D cA (w_X11_init cA h0 a u) 133 := ⟨_, rfl, fun H h => h⟩
theorem fw_134 : okN D cA (w_X11_init cA h0 a u) 134 := ⟨_, rfl, fun H h => h⟩
theorem fw_135 : okN D cA (w_X11_init cA h0 a u) 135 := ⟨_, rfl, fun H h => h⟩
theorem fw_136 : okN D cA (w_X11_init cA h0 a u) 136 := ⟨_, rfl, fun H h => h⟩
theorem fw_137 : okN D cA (w_X11_init cA h0 a u) 137 := ⟨_, rfl, fun H h => h⟩
theorem fw_138 : okN D cA (w_X11_init cA h0 a u) 138 := ⟨_, rfl, fun H h => h⟩
theorem fw_139 : okN D cA (w_X11_init cA h0 a u) 139 := ⟨_, rfl, fun H h => h⟩
theorem fw_140 : okN D cA (w_X11_init cA h0 a u) 140 := ⟨_, rfl, fun H h => h⟩
theorem fw_141 : okN D cA (w_X11_init cA h0 a u) 141 := ⟨_, rfl, fun H h => h⟩
theorem fw_142 : okN D cA (w_X11_init cA h0 a u) 142 := ⟨_, rfl, fun H h => h⟩
theorem fw_143 : okN D cA (w_X11_init cA h0 a u) 143 := ⟨_, rfl, fun H h => at_row (fun j hj => match j, hj with | 0, _ => rfl | 1, _ => rfl | 2, _ => rfl | 3, _ => rfl | 4, _ => rfl | 5, _ => rfl | 6, _ => rfl | 7, _ => rfl | k + 8, z => absurd (show k + 8 < 8 from z) (by omega)) h⟩
theorem fw_144 : okN D cA (w_X11_init cA h0 a u) 144 := ⟨_, rfl, fun H h => h⟩
theorem fw_145 : okN D cA (w_X11_init cA h0 a u) 145 := ⟨_, rfl, fun H h => h⟩
theorem fw_146 : okN D cA (w_X11_init cA h0 a u) 146 := ⟨_, rfl, fun H h => h⟩
theorem fw_147 : okN D cA (w_X11_init cA h0 a u) 147 := ⟨_, rfl, fun H h => h⟩
theorem fw_148 : okN D cA (w_X11_init cA h0 a u) 148 := ⟨_, rfl, fun H h => h⟩
theorem fw_149 : okN D cA (w_X11_init cA h0 a u) 149 := ⟨_, rfl, fun H h => h⟩
theorem fw_150 : okN D cA (w_X11_init cA h0 a u) 150 := ⟨_, rfl, fun H h => h⟩
theorem fw_151 : okN D cA (w_X11_init cA h0 a u) 151 := ⟨_, rfl, fun H h => h⟩
theorem fw_152 : okN D cA (w_X11_init cA h0 a u) 152 := ⟨_, rfl, fun H h => at_row (fun j hj => match j, hj with | 0, _ => rfl | 1, _ => rfl | 2, _ => rfl | 3, _ => rfl | 4, _ => rfl | 5, _ => rfl | k + 6, z => absurd (show k + 6 < 6 from z) (by omega)) h⟩
theorem fw_153 : okN D cA (w_X11_init cA h0 a u) 153 := ⟨_, rfl, fun H h => h⟩
theorem fw_154 : okN D cA (w_X11_init cA h0 a u) 154 := ⟨_, rfl, fun H h => h⟩
theorem fw_155 : okN D cA (w_X11_init cA h0 a u) 155 := ⟨_, rfl, fun H h => h⟩
theorem fw_156 : okN D cA (w_X11_init cA h0 a u) 156 := ⟨_, rfl, fun H h => h⟩
theorem fw_157 : okN D cA (w_X11_init cA h0 a u) 157 := ⟨_, rfl, fun H h => h⟩
theorem fw_158 : okN D cA (w_X11_init cA h0 a u) 158 := ⟨_, rfl, fun H h => h⟩
theorem fw_159 : okN D cA (w_X11_init cA h0 a u) 159 := ⟨_, rfl, fun H h => h⟩
theorem fw_160 : okN D cA (w_X11_init cA h0 a u) 160 := ⟨_, rfl, fun H h => h⟩
theorem fw_161 : okN D cA (w_X11_init cA h0 a u) 161 := ⟨_, rfl, fun H h => h⟩
theorem fw_162 : okN D cA (w_X11_init cA h0 a u) 162 := ⟨_, rfl, fun H h => h⟩
theorem fw_163 : okN D cA (w_X11_init cA h0 a u) 163 := ⟨_, rfl, fun H h => h⟩
theorem fw_164 : okN D cA (w_X11_init cA h0 a u) 164 := ⟨_, rfl, fun H h => h⟩
theorem fw_165 : okN D cA (w_X11_init cA h0 a u) 165 := ⟨_, rfl, fun H h => h⟩
theorem fw_166 : okN D cA (w_X11_init cA h0 a u) 166 := ⟨_, rfl, fun H h => h⟩
theorem fw_all : ∀ n, n < 167 → okN D cA (w_X11_init cA h0 a u) n := fun n hn => match n, hn with
  | 0, _ => fw_0
  | 1, _ => fw_1
  | 2, _ => fw_2
  | 3, _ => fw_3
  | 4, _ => fw_4
  | 5, _ => fw_5
  | 6, _ => fw_6
  | 7, _ => fw_7
  | 8, _ => fw_8
  | 9, _ => fw_9
  | 10, _ => fw_10
  | 11, _ => fw_11
  | 12, _ => fw_12
  | 13, _ => fw_13
  | 14, _ => fw_14
  | 15, _ => fw_15
  | 16, _ => fw_16
  | 17, _ => fw_17
  | 18, _ => fw_18
  | 19, _ => fw_19
  | 20, _ => fw_20
  | 21, _ => fw_21
  | 22, _ => fw_22
  | 23, _ => fw_23
  | 24, _ => fw_24
  | 25, _ => fw_25
  | 26, _ => fw_26
  | 27, _ => fw_27
  | 28, _ => fw_28
  | 29, _ => fw_29
  | 30, _ => fw_30
  | 31, _ => fw_31
  | 32, _ => fw_32
  | 33, _ => fw_33
  | 34, _ => fw_34
  | 35, _ => fw_35
  | 36, _ => fw_36
  | 37, _ => fw_37
  | 38, _ => fw_38
  | 39, _ => fw_39
  | 40, _ => fw_40
  | 41, _ => fw_41
  | 42, _ => fw_42
  | 43, _ => fw_43
  | 44, _ => fw_44
  | 45, _ => fw_45
  | 46, _ => fw_46
  | 47, _ => fw_47
  | 48, _ => fw_48
  | 49, _ => fw_49
  | 50, _ => fw_50
  | 51, _ => fw_51
  | 52, _ => fw_52
  | 53, _ => fw_53
  | 54, _ => fw_54
  | 55, _ => fw_55
  | 56, _ => fw_56
  | 57, _ => fw_57
  | 58, _ => fw_58
  | 59, _ => fw_59
  | 60, _ => fw_60
  | 61, _ => fw_61
  | 62, _ => fw_62
  | 63, _ => fw_63
  | 64, _ => fw_64
  | 65, _ => fw_65
  | 66, _ => fw_66
  | 67, _ => fw_67
  | 68, _ => fw_68
  | 69, _ => fw_69
  | 70, _ => fw_70
  | 71, _ => fw_71
  | 72, _ => fw_72
  | 73, _ => fw_73
  | 74, _ => fw_74
  | 75, _ => fw_75
  | 76, _ => fw_76
  | 77, _ => fw_77
  | 78, _ => fw_78
  | 79, _ => fw_79
  | 80, _ => fw_80
  | 81, _ => fw_81
  | 82, _ => fw_82
  | 83, _ => fw_83
  | 84, _ => fw_84
  | 85, _ => fw_85
  | 86, _ => fw_86
  | 87, _ => fw_87
  | 88, _ => fw_88
  | 89, _ => fw_89
  | 90, _ => fw_90
  | 91, _ => fw_91
  | 92, _ => fw_92
  | 93, _ => fw_93
  | 94, _ => fw_94
  | 95, _ => fw_95
  | 96, _ => fw_96
  | 97, _ => fw_97
  | 98, _ => fw_98
  | 99, _ => fw_99
  | 100, _ => fw_100
  | 101, _ => fw_101
  | 102, _ => fw_102
  | 103, _ => fw_103
  | 104, _ => fw_104
  | 105, _ => fw_105
  | 106, _ => fw_106
  | 107, _ => fw_107
  | 108, _ => fw_108
  | 109, _ => fw_109
  | 110, _ => fw_110
  | 111, _ => fw_111
  | 112, _ => fw_112
  | 113, _ => fw_113
  | 114, _ => fw_114
  | 115, _ => fw_115
  | 116, _ => fw_116
  | 117, _ => fw_117
  | 118, _ => fw_118
  | 119, _ => fw_119
  | 120, _ => fw_120
  | 121, _ => fw_121
  | 122, _ => fw_122
  | 123, _ => fw_123
  | 124, _ => fw_124
  | 125, _ => fw_125
  | 126, _ => fw_126
  | 127, _ => fw_127
  | 128, _ => fw_128
  | 129, _ => fw_129
  | 130, _ => fw_130
  | 131, _ => fw_131
  | 132, _ => fw_132
  | 133, _ => fw_133
  | 134, _ => fw_134
  | 135, _ => fw_135
  | 136, _ => fw_136
  | 137, _ => fw_137
  | 138, _ => fw_138
  | 139, _ => fw_139
  | 140, _ => fw_140
  | 141, _ => fw_141
  | 142, _ => fw_142
  | 143, _ => fw_143
  | 144, _ => fw_144
  | 145, _ => fw_145
  | 146, _ => fw_146
  | 147, _ => fw_147
  | 148, _ => fw_148
  | 149, _ => fw_149
  | 150, _ => fw_150
  | 151, _ => fw_151
  | 152, _ => fw_152
  | 153, _ => fw_153
  | 154, _ => fw_154
  | 155, _ => fw_155
  | 156, _ => fw_156
  | 157, _ => fw_157
  | 158, _ => fw_158
  | 159, _ => fw_159
  | 160, _ => fw_160
  | 161, _ => fw_161
  | 162, _ => fw_162
  | 163, _ => fw_163
  | 164, _ => fw_164
  | 165, _ => fw_165
  | 166, _ => fw_166
  | k + 167, z => absurd (show k + 167 < 167 from z) (by omega)
theorem gp_inj : ∀ i, i < 167 → ∀ j, j < 167 → gp i = gp j → i = j := by decide +kernel
theorem first_C {A : Nat → Prop} {H : Heap} (hP : va_P D vwCl (w_X11_init cA h0 a u) H) (hD : va_D A (w_X11_init cA h0 a u)) : ∃ q : Nat → Nat, q 0 = h0 ∧ injG 167 q ∧ (∀ x, AqG 167 q x → A x) ∧ va_P D vwCl (wsG 167 (ceC cA q) q MC0) H := by
  refine ⟨qof (w_X11_init cA h0 a u), rfl, fun i j hi hj e => ?_, fun x ⟨n, hn, e⟩ => ?_, fun k x hx => ?_⟩
  · obtain ⟨e1, p1, -⟩ := fw_all (D := D) (cA := cA) (h0 := h0) (a := a) (u := u) i hi
    obtain ⟨e2, p2, -⟩ := fw_all (D := D) (cA := cA) (h0 := h0) (a := a) (u := u) j hj
    exact gp_inj i hi j hj (hD.1 _ _ _ _ p1 p2 e)
  · obtain ⟨e1, p1, -⟩ := fw_all (D := D) (cA := cA) (h0 := h0) (a := a) (u := u) n hn
    rw [e]
    exact hD.2 _ _ p1
  · obtain ⟨hk, -⟩ := wsG_inv hx
    rw [wsG_get hk rfl] at hx
    cases hx
    obtain ⟨e1, p1, p2⟩ := fw_all (D := D) (cA := cA) (h0 := h0) (a := a) (u := u) k hk
    exact p2 H (hP _ _ p1)
end FIRSTC
