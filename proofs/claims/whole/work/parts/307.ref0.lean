/-! MAKING: the reference (written by wip/gen/ctor.py) -/
/-- the reference's memory ahead of plain -/
def MR0 : Mem := (fun n k => if n = 0 then (match k with | 16 => (-1) | 17 => (-1) | _ => 0) else if n = 4 then (upd (upd (upd (upd (fun _ => 0) 0 (-1)) 1 (-1)) 2 (-1)) 3 (-1)) k else 0, fun n k => if n = 0 then (match k with | 4 => 1 | _ => 0) else 0, fun _ _ => 0)
theorem r_plain0 (R : Mem) : ∃ R', f_X12_plain 0 R = some ((), R') ∧ (∀ y k, gI R' y k = if y = 1 ∧ k < 502 then (if k = 8 then -1 else 0) else gI R y k) ∧ ∀ y k, gL R' y k = gL R y k := by
  have key := loopI (fun fu (D : Mem) i => f_X12_plain_L2 0 fu (nI i) D) 502 (fun i D => (∀ y k, gI D y k = if y = 1 ∧ k < i then 0 else gI R y k) ∧ ∀ y k, gL D y k = gL R y k)
    (fun r => r.1 = () ∧ (∀ y k, gI r.2 y k = if y = 1 ∧ k < 502 then 0 else gI R y k) ∧ ∀ y k, gL r.2 y k = gL R y k)
    (fun fu D hI => ⟨((), D), ?_, rfl, hI⟩)
    (fun fu D i hi hI => Or.inl ?_) 502 0 R fz (by omega) (by rw [fz_is]; omega) ⟨fun n k => by rw [if_neg (by omega)], fun n k => rfl⟩
  · obtain ⟨⟨u, D⟩, e1, -, e2, e3⟩ := key
    have e1' : f_X12_plain_L2 0 fz 0 R = some (u, D) := e1
    have q : ¬ (((0 : Int32) + (8 : Int32)) < 0 ∨ 3548 ≤ (((0 : Int32) + (8 : Int32))).toNatClampNeg) := by decide
    refine ⟨sI D 1 8 (-1), by rw [f_X12_plain, e1', bnd_some, if_neg q, letF]; rfl, fun y k => ?_, e3⟩
    rw [gI_I, e2]
    by_cases z : y = 1 ∧ k = 8
    · rw [if_pos z, if_pos (by omega), if_pos z.2]
    · rw [if_neg z]
      by_cases z2 : y = 1 ∧ k < 502
      · rw [if_pos z2, if_pos z2, if_neg (by omega)]
      · rw [if_neg z2, if_neg z2]
  · rw [f_X12_plain_L2, if_pos (show (502 : Int32) ≤ nI 502 by decide)]
  · obtain ⟨q1, q2⟩ := r_rd (e := (0 : Int32) + nI i) (j := i) (by rw [show (0 : Int32) = nI 0 from rfl, nI_add, Nat.zero_add]) (by omega)
    refine ⟨sI D 1 i 0, ⟨fun y k => ?_, fun y k => hI.2 y k⟩, ?_⟩
    · rw [gI_I, hI.1]
      by_cases z : y = 1 ∧ k = i
      · rw [if_pos z, if_pos (by omega)]
      · rw [if_neg z]
        by_cases z2 : y = 1 ∧ k < i
        · rw [if_pos z2, if_pos (by omega)]
        · rw [if_neg z2, if_neg (by omega)]
    · rw [f_X12_plain_L2, if_neg (show ¬ (502 : Int32) ≤ nI i from nI_ge (b := 502) hi (by omega)), if_neg q1, letF, letF, q2, nI_s]
theorem D_inj {A : Nat → Prop} {N : Nat} {ce : CeT} {q : Nat → Nat} {M : Mem} (h : va_D A (wsG N ce q M)) : injG N q ∧ ∀ a, AqG N q a → A a :=
  ⟨fun i j hi hj e => h.1 i j _ _ (wsG_get hi rfl) (wsG_get hj rfl) e, fun a ⟨n, hn, e⟩ => by rw [e]; exact h.2 n _ (wsG_get hn rfl)⟩
