/-! WEEKS: the STEPS kind by kind -/
section KINDS
variable {B : Nat → Nat} {n c d w s m : Nat} {C0 R0 C R : Mem} {K : Kt}
theorem ib_kp (X : Bx B n c w s m) {XX YY : Rs Int32} {P : Nat → Prop} {i ci : Nat} {kA k2 : Int32 → Mem → Rs Int32} {Q : Mem → Mem → Prop} (hci : ci < 5) (h : Par c C0 R0 XX YY (fun C' R' => InB B n w s m C0 R0 C' R' ∧ ∃ v, P v ∧ GoC (sI C 16 3 (nI v)) C' ∧ GoR (sI R 1 (2142 + (6 * m + i)) (nI v)) R')) (z2 : ∀ M, k2 0 M = some (0, M))
    (cont : ∀ C' R' v, InB B n w s m C0 R0 C' R' → P v → gI C' (w + 1) (5 * s + ci) = nI v → gI R' 1 (2142 + (6 * m + i)) = nI v → (∀ j, j ≠ 5 * s + ci → gI C' (w + 1) j = gI C (w + 1) j) → (∀ j, j ≠ 2142 + (6 * m + i) → gI R' 1 j = gI R 1 j) → Par c C0 R0 (kA 1 C') (k2 1 R') Q) :
    Par c C0 R0 (bnd XX fun r M => if r = 0 then some ((0 : Int32), M) else bnd (f_X4_keepFound w (nI s) (nI ci) M) kA) (bnd YY k2) Q := by
  have lo := isC_lo X.2.2.2.1
  have hw := X.2.2.1
  refine h.b (fun M => if_pos rfl) z2 fun C1 R1 ⟨p1, v, p2, p3, p4⟩ => ?_
  obtain ⟨s1, s2, s3⟩ := go16 p3
  obtain ⟨t1, t2, t3⟩ := go1 p4
  rw [if_neg i10, p_keepF X hci, bnd_some, s2]
  exact cont _ _ v (p1.wC X _ (Or.inr ⟨rfl, by omega, by omega⟩)) p2 (gI_same _ _ _ _) t2 (fun j y => by rw [gI_I, if_neg (by omega), s1 _ _ (by omega) (by omega)]) t1
def SmpQ (B : Nat → Nat) (n w s m : Nat) (K : Kt) (C0 R0 C R : Mem) : Prop := InB B n w s m C0 R0 C R ∧ SmpR K (fun k => gI C (w + 1) k) (fun k => gI R 1 (2142 + k)) m s
def OpnQ (B : Nat → Nat) (n w s m : Nat) (K : Kt) (C0 R0 C R : Mem) : Prop := InB B n w s m C0 R0 C R ∧ OpnR K (fun k => gI C (w + 1) k) (fun k => gI R 1 (2142 + k)) m s ∧ gI R 1 (2142 + (6 * m + 4)) = 0
theorem q6 (m i : Nat) : nI (2142 + 6 * m) + nI i = nI (2142 + (6 * m + i)) := by rw [nI_add, Nat.add_assoc]
theorem body_plain (h : InB B n w s m C0 R0 C R) {t : Nat} (ht : t = 16 ∨ t = 20 ∨ t = 21) (c0 : gI C (w + 1) (5 * s) = nI t) (r0 : gI R 1 (2142 + 6 * m) = nI t) : Par c C0 R0 (f_X4_readStep (nI t) (nI s) d w C) (f_X12_weekOrder (nI t) (nI (2142 + 6 * m)) R) (SmpQ B n w s m K C0 R0) := by
  have q : SmpQ B n w s m K C0 R0 C R := ⟨h, Or.inl ⟨t, by omega, by omega, r0, c0, by omega⟩⟩
  rcases ht with rfl | rfl | rfl
  · have a : f_X4_readStep (nI 16) (nI s) d w C = some (1, C) := rfl
    have b : f_X12_weekOrder (nI 16) (nI (2142 + 6 * m)) R = some (1, R) := rfl
    rw [a, b]; exact Par.ok q
  · have a : f_X4_readStep (nI 20) (nI s) d w C = some (1, C) := rfl
    have b : f_X12_weekOrder (nI 20) (nI (2142 + 6 * m)) R = some (1, R) := rfl
    rw [a, b]; exact Par.ok q
  · have a : f_X4_readStep (nI 21) (nI s) d w C = some (1, C) := rfl
    have b : f_X12_weekOrder (nI 21) (nI (2142 + 6 * m)) R = some (1, R) := rfl
    rw [a, b]; exact Par.ok q
theorem body_stop (h : InB B n w s m C0 R0 C R) (c0 : gI C (w + 1) (5 * s) = nI 24) (r0 : gI R 1 (2142 + 6 * m) = nI 25) : Par c C0 R0 (f_X4_readStep (nI 24) (nI s) d w C) (f_X12_weekOrder (nI 25) (nI (2142 + 6 * m)) R) (SmpQ B n w s m K C0 R0) := by
  have a : f_X4_readStep (nI 24) (nI s) d w C = some (1, C) := rfl
  have b : f_X12_weekOrder (nI 25) (nI (2142 + 6 * m)) R = some (1, R) := rfl
  rw [a, b]; exact Par.ok ⟨h, Or.inr ⟨r0, c0⟩⟩
theorem body_sit (X : Bx B n c w s m) (h : InB B n w s m C0 R0 C R) (hK : CrtW K d C0 R0) (hd : 27 ≤ d ∧ (d + 28 ≤ c ∨ c + 28 ≤ d)) (c0 : gI C (w + 1) (5 * s) = nI 15) (r0 : gI R 1 (2142 + 6 * m) = nI 15) : Par c C0 R0 (f_X4_readStep (nI 15) (nI s) d w C) (f_X12_weekOrder (nI 15) (nI (2142 + 6 * m)) R) (SmpQ B n w s m K C0 R0) := by
  have e1 : nI (2142 + 6 * m) + (1 : Int32) = nI (2142 + (6 * m + 1)) := q6 m 1
  rw [f_X4_readStep, if_pos (show nI 15 = 15 from rfl), f_X12_weekOrder, if_pos (show nI 15 = 15 from rfl), e1]
  refine ib_kp X (ci := 2) (by omega) (ib_person X h hK hd (i := 1) (by omega)) (fun M => fin_b (Or.inl rfl)) fun C1 R1 v p1 p2 p3 p4 p5 p6 => ?_
  rw [if_neg i10, fin_b (Or.inr rfl)]
  exact Par.ok ⟨p1, Or.inl ⟨15, by omega, by omega, (p6 _ (by omega)).trans r0, (p5 _ (by omega)).trans c0, Or.inl ⟨rfl, v, p2, p4, p3⟩⟩⟩
theorem body_feed (X : Bx B n c w s m) (h : InB B n w s m C0 R0 C R) (hK : CrtW K d C0 R0) (hd : 27 ≤ d ∧ (d + 28 ≤ c ∨ c + 28 ≤ d)) (c0 : gI C (w + 1) (5 * s) = nI 17) (r0 : gI R 1 (2142 + 6 * m) = nI 17) : Par c C0 R0 (f_X4_readStep (nI 17) (nI s) d w C) (f_X12_weekOrder (nI 17) (nI (2142 + 6 * m)) R) (SmpQ B n w s m K C0 R0) := by
  have e1 : nI (2142 + 6 * m) + (1 : Int32) = nI (2142 + (6 * m + 1)) := q6 m 1
  have e2 : nI (2142 + 6 * m) + (2 : Int32) = nI (2142 + (6 * m + 2)) := q6 m 2
  rw [f_X4_readStep, if_neg (show ¬ nI 17 = 15 by decide), if_neg (show ¬ nI 17 = 16 by decide), if_pos (show nI 17 = 17 from rfl), f_X12_weekOrder, if_neg (show ¬ nI 17 = 15 by decide), if_neg (show ¬ nI 17 = 16 by decide), if_pos (show nI 17 = 17 from rfl), e1, e2]
  refine ib_kp X (ci := 2) (by omega) (ib_person X h hK hd (i := 1) (by omega)) (fun M => if_pos rfl) fun C1 R1 v p1 p2 p3 p4 p5 p6 => ?_
  rw [if_neg i10, if_neg i10]
  refine ib_kp X (ci := 3) (by omega) (ib_num X p1 (lo := 1) (hi := 9) (i := 2) (by omega) (by omega) (by omega)) (fun M => if_pos rfl) fun C2 R2 v2 u1 u2 u3 u4 u5 u6 => ?_
  rw [if_neg i10, if_neg i10]
  exact Par.ok ⟨u1, Or.inl ⟨17, by omega, by omega, (u6 _ (by omega)).trans ((p6 _ (by omega)).trans r0), (u5 _ (by omega)).trans ((p5 _ (by omega)).trans c0), Or.inr (Or.inr (Or.inl ⟨rfl, v, p2, (u6 _ (by omega)).trans p4, (u5 _ (by omega)).trans p3, v2, u2.1, u2.2, u4, u3⟩))⟩⟩
theorem body_rub (X : Bx B n c w s m) (h : InB B n w s m C0 R0 C R) (hK : CrtW K d C0 R0) (hd : 27 ≤ d ∧ (d + 28 ≤ c ∨ c + 28 ≤ d)) {t : Nat} (ht : t = 18 ∨ t = 19) (c0 : gI C (w + 1) (5 * s) = nI t) (r0 : gI R 1 (2142 + 6 * m) = nI t) : Par c C0 R0 (f_X4_readStep (nI t) (nI s) d w C) (f_X12_weekOrder (nI t) (nI (2142 + 6 * m)) R) (SmpQ B n w s m K C0 R0) := by
  have e1 : nI (2142 + 6 * m) + (1 : Int32) = nI (2142 + (6 * m + 1)) := q6 m 1
  have e2 : nI (2142 + 6 * m) + (2 : Int32) = nI (2142 + (6 * m + 2)) := q6 m 2
  have go : Par c C0 R0 (bnd (f_X4_takeName (3 : Int32) d C) fun r28 M29 => if r28 = 0 then (some ((0 : Int32), M29)) else (bnd (f_X4_keepFound w (nI s) (2 : Int32) M29) fun r32 M33 => if r32 = 0 then (some ((0 : Int32), M33)) else (bnd (f_X4_takeName (0 : Int32) d M33) fun r36 M37 => if r36 = 0 then (some ((0 : Int32), M37)) else (bnd (f_X4_keepFound w (nI s) (3 : Int32) M37) fun r40 M41 => if r40 = 0 then (some ((0 : Int32), M41)) else (some ((1 : Int32), M41))))))
      (bnd (f_X12_personTo (nI (2142 + (6 * m + 1))) R) fun r16 M17 => if r16 = 0 then (some ((0 : Int32), M17)) else (bnd (f_X12_smellTo (nI (2142 + (6 * m + 2))) M17) fun r20 M21 => if r20 = 0 then (some ((0 : Int32), M21)) else (some ((1 : Int32), M21)))) (SmpQ B n w s m K C0 R0) := by
    refine ib_kp X (ci := 2) (by omega) (ib_person X h hK hd (i := 1) (by omega)) (fun M => if_pos rfl) fun C1 R1 v p1 p2 p3 p4 p5 p6 => ?_
    rw [if_neg i10, if_neg i10]
    refine ib_kp X (ci := 3) (by omega) (ib_smell X p1 hK hd (i := 2) (by omega)) (fun M => if_pos rfl) fun C2 R2 v2 u1 u2 u3 u4 u5 u6 => ?_
    rw [if_neg i10, if_neg i10]
    exact Par.ok ⟨u1, Or.inl ⟨t, by omega, by omega, (u6 _ (by omega)).trans ((p6 _ (by omega)).trans r0), (u5 _ (by omega)).trans ((p5 _ (by omega)).trans c0), Or.inr (Or.inr (Or.inr (Or.inl ⟨ht, v, p2, (u6 _ (by omega)).trans p4, (u5 _ (by omega)).trans p3, v2, u2, u4, u3⟩)))⟩⟩
  rcases ht with rfl | rfl
  · rw [f_X4_readStep, if_neg (show ¬ nI 18 = 15 by decide), if_neg (show ¬ nI 18 = 16 by decide), if_neg (show ¬ nI 18 = 17 by decide), if_pos (show nI 18 = 18 from rfl), f_X12_weekOrder, if_neg (show ¬ nI 18 = 15 by decide), if_neg (show ¬ nI 18 = 16 by decide), if_neg (show ¬ nI 18 = 17 by decide), if_pos (show nI 18 = 18 from rfl), e1, e2]
    exact go
  · rw [f_X4_readStep, if_neg (show ¬ nI 19 = 15 by decide), if_neg (show ¬ nI 19 = 16 by decide), if_neg (show ¬ nI 19 = 17 by decide), if_neg (show ¬ nI 19 = 18 by decide), if_pos (show nI 19 = 19 from rfl), f_X12_weekOrder, if_neg (show ¬ nI 19 = 15 by decide), if_neg (show ¬ nI 19 = 16 by decide), if_neg (show ¬ nI 19 = 17 by decide), if_neg (show ¬ nI 19 = 18 by decide), if_pos (show nI 19 = 19 from rfl), e1, e2]
    exact go
theorem body_loop (X : Bx B n c w s m) (h : InB B n w s m C0 R0 C R) (c0 : gI C (w + 1) (5 * s) = nI 23) (r0 : gI R 1 (2142 + 6 * m) = nI 23) (r4 : gI R 1 (2142 + (6 * m + 4)) = 0) : Par c C0 R0 (f_X4_readStep (nI 23) (nI s) d w C) (f_X12_weekOrder (nI 23) (nI (2142 + 6 * m)) R) (OpnQ B n w s m K C0 R0) := by
  have e1 : nI (2142 + 6 * m) + (1 : Int32) = nI (2142 + (6 * m + 1)) := q6 m 1
  have a : f_X4_readStep (nI 23) (nI s) d w C = (bnd (f_X4_takeNumber (1 : Int32) (99 : Int32) C) fun r69 M70 => if r69 = 0 then (some ((0 : Int32), M70)) else (bnd (f_X4_keepFound w (nI s) (2 : Int32) M70) fun r73 M74 => if r73 = 0 then (some ((0 : Int32), M74)) else (some ((1 : Int32), M74)))) := rfl
  have b : f_X12_weekOrder (nI 23) (nI (2142 + 6 * m)) R = (bnd (f_X12_number ((nI (2142 + 6 * m) + (1 : Int32))) (1 : Int32) (99 : Int32) R) fun r41 M42 => if ¬ (r41 = 0 ∨ r41 = 1) then none else some (r41, M42)) := rfl
  rw [a, b, e1]
  refine ib_kp X (ci := 2) (by omega) (ib_num X h (lo := 1) (hi := 99) (i := 1) (by omega) (by omega) (by omega)) (fun M => fin_b (Or.inl rfl)) fun C1 R1 v p1 p2 p3 p4 p5 p6 => ?_
  rw [if_neg i10, fin_b (Or.inr rfl)]
  exact Par.ok ⟨p1, Or.inl ⟨(p6 _ (by omega)).trans r0, (p5 _ (by omega)).trans c0, v, p2.1, p2.2, p4, p3⟩, (p6 _ (by omega)).trans r4⟩
end KINDS
