/-! THE CORE: a memory of numbered objects; worlds of any such memory; rows over them -/
def BW : List Cond := lw_tbl.filter goodWord
theorem bw_of {w : Cond} {i : Nat} (h : lw_tbl[i]? = some w) (hg : goodWord w = true) : w ∈ BW := List.mem_filter.mpr ⟨List.mem_of_getElem? h, hg⟩
theorem bw_in {w : Cond} (h : w ∈ BW) : w ∈ lw_tbl := (List.mem_filter.mp h).1
theorem bw_good {w : Cond} (h : w ∈ BW) : goodWord w = true := (List.mem_filter.mp h).2
theorem bw_goodIn (w0 : Cond) (h0 : w0 ∈ BW) (w1 : Cond) : GoodIn (w1 :: BW) (w0 :: BW) := by
  intro w hw
  rcases List.mem_cons.mp hw with rfl | h
  · exact ⟨List.mem_cons_of_mem _ h0, good_of_word (bw_good h0)⟩
  · exact ⟨List.mem_cons_of_mem _ h, good_of_word (bw_good h)⟩
abbrev Mem : Type := (Nat → Nat → Int32) × (Nat → Nat → Int64) × (Nat → Nat → Nat)
def gI (M : Mem) (n k : Nat) : Int32 := M.1 n k
def gL (M : Mem) (n k : Nat) : Int64 := M.2.1 n k
def gR (M : Mem) (n k : Nat) : Nat := M.2.2 n k
def sI (M : Mem) (n k : Nat) (v : Int32) : Mem := (fun a b => if a = n ∧ b = k then v else M.1 a b, M.2)
def sL (M : Mem) (n k : Nat) (v : Int64) : Mem := (M.1, fun a b => if a = n ∧ b = k then v else M.2.1 a b, M.2.2)
def sR (M : Mem) (n k : Nat) (v : Nat) : Mem := (M.1, M.2.1, fun a b => if a = n ∧ b = k then v else M.2.2 a b)
abbrev Rs (α : Type) : Type := Option (α × Mem)
def bnd {α β : Type} (o : Rs α) (k : α → Mem → Rs β) : Rs β := match o with
  | none => none
  | some x => k x.1 x.2
theorem bnd_some {α β : Type} (r : α) (M : Mem) (k : α → Mem → Rs β) : bnd (some (r, M)) k = k r M := rfl
theorem bnd_inv {α β : Type} {o : Rs α} {k : α → Mem → Rs β} {x : β × Mem} (h : bnd o k = some x) : ∃ (r : α) (M1 : Mem), o = some (r, M1) ∧ k r M1 = some x := by
  cases o with
  | none => cases h
  | some y => exact ⟨y.1, y.2, rfl, h⟩
theorem gd_inv {α : Type} {c : Prop} [Decidable c] {A : Option α} {x : α} (h : (if c then none else A) = some x) : ¬ c ∧ A = some x := by
  by_cases hc : c
  · rw [if_pos hc] at h; cases h
  · rw [if_neg hc] at h; exact ⟨hc, h⟩
def letF {α β : Type} (v : α) (k : α → β) : β := k v
theorem lt_inv {α β : Type} {v : α} {k : α → Option β} {x : β} (h : letF v k = some x) : ∃ y, y = v ∧ k y = some x := ⟨v, rfl, h⟩
def fz : Nat := 1000000
abbrev CeT : Type := (Nat → Int32) → (Nat → Int64) → (Nat → Nat) → Nat → va_E
def wsG (N : Nat) (ce : CeT) (q : Nat → Nat) (M : Mem) : va_W := (List.range N).map (fun n => (q n, ce (gI M n) (gL M n) (gR M n) n))
theorem wsG_get {N : Nat} {ce : CeT} {q : Nat → Nat} {M : Mem} {n : Nat} {e : va_E} (hn : n < N) (he : ce (gI M n) (gL M n) (gR M n) n = e) : (wsG N ce q M)[n]? = some (q n, e) := by
  simp [wsG, hn, he]
theorem wsG_inv {N : Nat} {ce : CeT} {q : Nat → Nat} {M : Mem} {n : Nat} {x : Nat × va_E} (h : (wsG N ce q M)[n]? = some x) : n < N ∧ x.1 = q n := by
  have hl := (List.getElem?_eq_some_iff.mp h).1
  have hn : n < N := by simpa [wsG] using hl
  rw [wsG_get hn rfl] at h
  cases h
  exact ⟨hn, rfl⟩
def AqG (N : Nat) (q : Nat → Nat) : Nat → Prop := fun a => ∃ n, n < N ∧ a = q n
def injG (N : Nat) (q : Nat → Nat) : Prop := ∀ i j, i < N → j < N → q i = q j → i = j
theorem wsG_D {N : Nat} {ce : CeT} {q : Nat → Nat} {M : Mem} (hq : injG N q) : va_D (AqG N q) (wsG N ce q M) := by
  refine ⟨fun i j x y hi hj hxy => ?_, fun k x hk => ?_⟩
  · obtain ⟨a1, a2⟩ := wsG_inv hi
    obtain ⟨b1, b2⟩ := wsG_inv hj
    exact hq i j a1 b1 (by rw [← a2, ← b2]; exact hxy)
  · obtain ⟨a1, a2⟩ := wsG_inv hk
    exact ⟨k, a1, a2⟩
theorem wsG_set {N : Nat} {ce : CeT} {q : Nat → Nat} {M M1 : Mem} {n : Nat} {e : va_E} (he : ce (gI M1 n) (gL M1 n) (gR M1 n) n = e) (ho : ∀ j, j ≠ n → gI M1 j = gI M j ∧ gL M1 j = gL M j ∧ gR M1 j = gR M j) : (wsG N ce q M).set n (q n, e) = wsG N ce q M1 := by
  apply List.ext_getElem?
  intro k
  by_cases hk : k < N
  · rw [wsG_get (M := M1) hk rfl]
    by_cases hkn : n = k
    · subst hkn
      rw [List.getElem?_set_self (by simpa [wsG] using hk), he]
    · rw [List.getElem?_set_ne hkn, wsG_get hk rfl]
      obtain ⟨h1, h2, h3⟩ := ho k (fun z => hkn z.symm)
      rw [h1, h2, h3]
  · rw [List.getElem?_eq_none (by simpa [wsG] using hk), List.getElem?_eq_none (by simpa [wsG] using hk)]
theorem sI_o {M : Mem} {n k : Nat} {v : Int32} : ∀ j, j ≠ n → gI (sI M n k v) j = gI M j ∧ gL (sI M n k v) j = gL M j ∧ gR (sI M n k v) j = gR M j :=
  fun j hj => ⟨by funext b; simp [gI, sI, hj], rfl, rfl⟩
theorem sL_o {M : Mem} {n k : Nat} {v : Int64} : ∀ j, j ≠ n → gI (sL M n k v) j = gI M j ∧ gL (sL M n k v) j = gL M j ∧ gR (sL M n k v) j = gR M j :=
  fun j hj => ⟨rfl, by funext b; simp [gL, sL, hj], rfl⟩
theorem sR_o {M : Mem} {n k : Nat} {v : Nat} : ∀ j, j ≠ n → gI (sR M n k v) j = gI M j ∧ gL (sR M n k v) j = gL M j ∧ gR (sR M n k v) j = gR M j :=
  fun j hj => ⟨rfl, rfl, by funext b; simp [gR, sR, hj]⟩
theorem sI_u {M : Mem} {n k : Nat} {v : Int32} : gI (sI M n k v) n = upd (gI M n) k v := by
  funext b; simp [gI, sI, upd]
theorem sL_u {M : Mem} {n k : Nat} {v : Int64} : gL (sL M n k v) n = vp_updL (gL M n) k v := by
  funext b; simp [gL, sL, vp_updL]
theorem gI_I (M : Mem) (n k a b : Nat) (v : Int32) : gI (sI M n k v) a b = if a = n ∧ b = k then v else gI M a b := rfl
theorem gI_L (M : Mem) (n k a b : Nat) (v : Int64) : gI (sL M n k v) a b = gI M a b := rfl
theorem gI_R (M : Mem) (n k a b : Nat) (v : Nat) : gI (sR M n k v) a b = gI M a b := rfl
theorem gL_I (M : Mem) (n k a b : Nat) (v : Int32) : gL (sI M n k v) a b = gL M a b := rfl
theorem gL_L (M : Mem) (n k a b : Nat) (v : Int64) : gL (sL M n k v) a b = if a = n ∧ b = k then v else gL M a b := rfl
theorem gL_R (M : Mem) (n k a b : Nat) (v : Nat) : gL (sR M n k v) a b = gL M a b := rfl
theorem gR_I (M : Mem) (n k a b : Nat) (v : Int32) : gR (sI M n k v) a b = gR M a b := rfl
theorem gR_L (M : Mem) (n k a b : Nat) (v : Int64) : gR (sL M n k v) a b = gR M a b := rfl
theorem gR_R (M : Mem) (n k a b : Nat) (v : Nat) : gR (sR M n k v) a b = if a = n ∧ b = k then v else gR M a b := rfl
/-- the array types of both worlds -/
def tysOf (cA : Nat → ClassId) : List (ClassId × FieldType) := [(cA 0, .int), (cA 1, .long), (cA 2, .byte), (cA 3, .boolean), (cA 4, .object "CatWitness$Rule"), (cA 5, .object "CatWitness$Person"), (cA 6, .object "CatWitness$Court"), (cA 7, .object "CatWitness$Tray")]
