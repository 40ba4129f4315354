/-! MAKING: rows for constructors, over worlds that are lists -/
theorem SP_sub {aK aV : Nat → Nat} {A B : Nat → Prop} {U : State} {H : Heap} (h : SP aK aV A U H) (hb : ∀ q, B q → A q) : SP aK aV B U H := by
  have z : ∀ {C n d : String} {v : Value}, va_Z C n d v A U H → va_Z C n d v B U H := fun ⟨cf, kf, fi, f, a, ce, h1, h2, h3, h4, h5, h6, h7, h8⟩ => ⟨cf, kf, fi, f, a, ce, h1, h2, h3, h4, h5, h6, h7, fun q => h8 (hb _ q)⟩
  have t : ∀ {ty : FieldType} {t N : Nat} {f : Nat → Value}, va_T ty t N f A U H → va_T ty t N f B U H := fun ⟨ce, h1, h2, h3, h4, h5, h6, h7⟩ => ⟨ce, h1, h2, h3, h4, h5, h6, fun q => h7 (hb _ q)⟩
  have o : ∀ {E : String} {t : Nat}, va_O E t A U H → va_O E t B U H := fun ⟨ce, h1, h2, h3, h4⟩ => ⟨ce, h1, h2, h3, fun q => h4 (hb _ q)⟩
  have f : ∀ {E n d : String} {v : Value} {t : Nat}, va_OF E n d v t A U H → va_OF E n d v t B U H := fun ⟨cf, k, i, f, ce, h1, h2, h3, h4, h5, h6⟩ => ⟨cf, k, i, f, ce, h1, h2, h3, h4, h5, fun q => h6 (hb _ q)⟩
  obtain ⟨⟨h1, h2⟩, ⟨h3, h3'⟩, h4, hq, h5, h6⟩ := h
  refine ⟨⟨z h1, t h2⟩, ⟨fun i hi => ?_, h3'⟩, z h4, ?_, h5, h6⟩
  · obtain ⟨a, b, c, d⟩ := h3 i hi
    exact ⟨o a, f b, f c, t d⟩
  · rcases hq with hq | ⟨x, hq⟩
    · exact Or.inl (z hq)
    · exact Or.inr ⟨x, z hq⟩
/-- rows of references can be made of these -/
def AOs (U : State) : Prop := va_AO RX0 U ∧ va_AO RX5 U ∧ va_AO RX6 U ∧ va_AO RX8 U
theorem AOs.moved {u U : State} (hvm : u.vm.Alike U.vm) (h : AOs u) : AOs U := ⟨va_AO.moved hvm h.1, va_AO.moved hvm h.2.1, va_AO.moved hvm h.2.2.1, va_AO.moved hvm h.2.2.2⟩
def KB (D : va_G) (cA : Nat → ClassId) (aK aV : Nat → Nat) (w0 : va_W) (sz : Nat) (U : State) : Prop := U.heap.size = sz ∧ va_P D vwCl w0 U.heap ∧ va_K D vwCl (tysOf cA) U ∧ (∀ w ∈ NW, va_Nw w U) ∧ SP aK aV (va_A w0 sz) U U.heap ∧ va_D (fun _ => True) w0 ∧ AOs U
def XK (p : Program) (s : State) (args : Array Value) (m : MethodId) (meth : Method) (c : Code) (cc : ByteArray) (nL : Nat) (own : String) (D : va_G) (cA : Nat → ClassId) (aK aV : Nat → Nat) (A : Nat → Prop) : Prop :=
  p.tables.exec = Jvm.exec ∧ c.code = cc ∧ c.maxLocals = nL ∧ s.vm.findClass own = some m.cls ∧ (∀ w ∈ BW, w.before args s = true) ∧ va_K D vwCl (tysOf cA) s ∧ (∀ q, s.heap.size ≤ q → A q) ∧ (∀ w ∈ NW, va_Nw w s) ∧ SP aK aV A s s.heap ∧ meth.name = "<init>" ∧ AOs s
/-- a constructor's end: what it made, at addresses u -/
abbrev QK (D : va_G) (w0 : va_W) (sz : Nat) (wX : (Nat → Nat) → va_W) : Array Value → State → Outcome → State → Prop := va_Qv (fun _ : Nat → Nat => True) (fun u t => va_P D vwCl (wX u) t.heap ∧ va_D (va_A w0 sz) (wX u)) (va_A w0 sz)
theorem kMet {y : MethodName} {l : Launch} {rm : Room} {D : va_G} {cA : Nat → ClassId} {aK aV : Nat → Nat} {w0 : va_W} {sz mc ms : Nat} {As : List Value} {Qc : Array Value → State → Outcome → State → Prop} {cc : ByteArray} {maxL : Nat} (own : String)
    (hy : plainName y.cls = true) (hown : y.cls = own) (hnm : y.name = "<init>") (hlen : (lg_sl As).length ≤ maxL)
    (body : ∀ (p : Program) (e : Env) (s : State) (m : MethodId) (below : List Frame) (meth : Method) (c : Code) (ls : Array Slot), s.heap.size = sz → XK p s As.toArray m meth c cc maxL own D cA aK aV (va_A w0 sz) → meth.sig.returnType = none → meth.locks = false → va_P D vwCl w0 s.heap → va_D (va_A w0 sz) w0 → va_S (va_A w0 sz) s.heap s.heap [] → lv_has ls maxL (lv_args 0 As) → W p l e rm s m As.toArray below meth c s.heap [] 0 0 (MQ below Qc As.toArray s mc ms (va_A w0 sz)) (F0 m 0 ls [])) :
    Met l y (.code y cc maxL none :: BW) rm (va_Pc As (KB D cA aK aV w0 sz)) Qc mc ms (va_A w0 sz) := by
  refine Met.ofW (cc := cc) (maxL := maxL) (ret := none) hy rfl ?_
  intro p e s m args below meth c s₁ B hml hv
  obtain ⟨rfl, hsz, hP, hK, hN, hZ, hD, hO⟩ := hv
  rw [lg_entry_eq]
  have hin : meth.name = "<init>" := ((name_of_methodNamed B.named B.method).1).trans hnm
  exact body p e s m below meth c _ hsz ⟨B.exec, B.bytes, hml, hown ▸ findClass_of_methodNamed B.named, fun w h => atoms_spec (ws := .code y cc maxL none :: BW) B.pre w (List.mem_cons_of_mem _ h), hK, fun q h => Or.inr (by rw [← hsz]; exact h), hN, hZ, hin, hO⟩ B.returns B.notSynchronized hP hD.self va_S.rf (lv_entry As hlen)
section MADE
variable {p : Program} {l : Launch} {e : Env} {R : Room} {s : State} {m : MethodId} {args : Array Value} {below : List Frame} {meth : Method} {c : Code} {H : Heap} {locs : List Loc} {cells slots : Nat} {Q : State → Prop} {cc : ByteArray} {pc : Nat} {ls : Array Slot} {rest : List Value}
variable {nL : Nat} {own : String} {D : va_G} {cA : Nat → ClassId} {aK aV : Nat → Nat} {A : Nat → Prop} {ws : va_W}
theorem kend {w0 : va_W} {sz mc ms : Nat} {wX : (Nat → Nat) → va_W} (X : XK p s args m meth c cc nL own D cA aK aV (va_A w0 sz)) (hr : meth.sig.returnType = none) (hk : meth.locks = false) (u : Nat → Nat) (hP : va_P D vwCl (wX u) H) (hD : va_D (va_A w0 sz) (wX u)) (hS : va_S (va_A w0 sz) s.heap H locs) (hc : cells ≤ mc) (hs : slots ≤ ms) (hdg : decode cc pc = .ok (.return_, 1)) :
    W p l e R s m args below meth c H locs cells slots (MQ below (QK D w0 sz wX) args s mc ms (va_A w0 sz)) (F0 m pc ls []) :=
  W.widen (k := mc) (n := ms) hc hs (W.vret X.1 X.2.1 hr (fun t ht hW => ⟨⟨u, rfl, trivial, by rw [ht]; exact hP, hD⟩, hS.F ht⟩) hS.2.2 hdg hk)
/-- a new array, of a type of the tables -/
theorem k_arr (X : XK p s args m meth c cc nL own D cA aK aV A) (hP : va_P D vwCl ws H) (hD : va_D A ws) (hS : va_S A s.heap H locs) {atype : ArrayType} {ty : FieldType} {t0 : Nat} (harr : Cond.arrayClass (newarray.typeOf atype) ∈ BW) (hty : newarray.typeOf atype = ty) (ht : (tysOf cA)[t0]? = some (cA t0, ty)) (hno : ∀ C, ty ≠ .object C)
    {n : Int32} {N' : Nat} {a0 : vp_A} (ha : ∀ cA : ClassId, vp_cell cA a0 = arrV cA N' (fun _ => defaultValue ty)) (hn : ¬ n < 0) (hN : n.toNatClampNeg = N') (hbytes : N' * componentBytes ty ≤ 536870912) (hcells : cells + 1 ≤ R.cells) (hslots : slots + N' ≤ R.slots) (hdg : decode cc pc = .ok (.newarray atype, 2))
    (kk : ∀ (q : Nat) (H1 : Heap), va_P D vwCl (ws ++ [(q, .inl (cA t0, a0))]) H1 → va_D A (ws ++ [(q, .inl (cA t0, a0))]) → va_S A s.heap H1 locs → W p l e R s m args below meth c H1 locs (cells + 1) (slots + N') Q (F0 m (pc + 2) ls (.ref q :: rest))) : W p l e R s m args below meth c H locs cells slots Q (F0 m pc ls (.int n :: rest)) := by
  refine va_newa X.1 X.2.1 (X.2.2.2.2.1 _ harr) hty X.2.2.2.2.2.1 hP hD hS X.2.2.2.2.2.2.1 ha hn hN hbytes hcells hslots hdg (fun q c1 H1 hK1 hP1 hD1 hS1 => ?_)
  have e1 := (hK1.2 t0 _ (by rw [List.getElem?_append_left (List.getElem?_eq_some_iff.mp ht).1]; exact ht)).2
  have e2 := (hK1.2 (tysOf cA).length (c1, ty) (by rw [List.getElem?_append_right (Nat.le_refl _), Nat.sub_self]; rfl)).2
  have e : c1 = cA t0 := by
    cases ty with
    | object C => exact absurd rfl (hno C)
    | _ => exact Option.some.inj (Eq.trans (Eq.symm e2) e1)
  subst e
  exact kk q H1 hP1 hD1 hS1
/-- a new row of references -/
theorem k_row (X : XK p s args m meth c cc nL own D cA aK aV A) (hP : va_P D vwCl ws H) (hD : va_D A ws) (hS : va_S A s.heap H locs) {C : String} {index t0 : Nat} (hclink : Cond.classLink own index C ∈ BW) (hover : va_AO C s) (ht : (tysOf cA)[t0]? = some (cA t0, .object C))
    {n : Int32} {N' : Nat} (hn : ¬ n < 0) (hN : n.toNatClampNeg = N') (hbytes : N' * 4 ≤ 536870912) (hcells : cells + 1 ≤ R.cells) (hslots : slots + N' ≤ R.slots) (hdg : decode cc pc = .ok (.anewarray index, 3))
    (kk : ∀ (q : Nat) (H1 : Heap), va_P D vwCl (ws ++ [(q, .inl (cA t0, N', .inr (.inr (.inr (.inr (fun _ => none))))))]) H1 → va_D A (ws ++ [(q, .inl (cA t0, N', .inr (.inr (.inr (.inr (fun _ => none))))))]) → va_S A s.heap H1 locs → W p l e R s m args below meth c H1 locs (cells + 1) (slots + N') Q (F0 m (pc + 3) ls (.ref q :: rest))) : W p l e R s m args below meth c H locs cells slots Q (F0 m pc ls (.int n :: rest)) := by
  refine va_newq X.1 X.2.1 X.2.2.2.1 (X.2.2.2.2.1 _ hclink) hover X.2.2.2.2.2.1 hP hD hS X.2.2.2.2.2.2.1 hn hN hbytes hcells hslots hdg (fun q c1 H1 hK1 hP1 hD1 hS1 => ?_)
  have e1 := (hK1.2 t0 _ (by rw [List.getElem?_append_left (List.getElem?_eq_some_iff.mp ht).1]; exact ht)).2
  have e2 := (hK1.2 (tysOf cA).length (c1, .object C) (by rw [List.getElem?_append_right (Nat.le_refl _), Nat.sub_self]; rfl)).2
  obtain ⟨-, -, -, -, -, e1⟩ := e1
  obtain ⟨-, -, -, -, -, e2⟩ := e2
  have e : c1 = cA t0 := Option.some.inj (e2.symm.trans e1)
  subst e
  exact kk q H1 hP1 hD1 hS1
/-- what a constructor is called with -/
theorem k_pre {a : Nat} {e0 : va_E} {As : List Value} (X : XK p s args m meth c cc nL own D cA aK aV A) (hP : va_P D vwCl (ws ++ [(a, e0)]) H) (hD : va_D A (ws ++ [(a, e0)])) (hS : va_S A s.heap H locs) : PreS s H (va_Pc (.ref a :: As) (KB D cA aK aV [(a, e0)] H.size)) (.ref a :: As) := by
  have hF : ∀ q, va_A [(a, e0)] H.size q → A q := by
    rintro q (⟨k, e, hk⟩ | hq)
    · have : k < 1 := (List.getElem?_eq_some_iff.mp hk).1
      rw [show k = 0 by omega] at hk
      cases hk
      exact hD.2 ws.length (a, e0) (by rw [List.getElem?_append_right (Nat.le_refl _), Nat.sub_self]; rfl)
    · exact X.2.2.2.2.2.2.1 q (Nat.le_trans hS.1 hq)
  have hP1 : va_P D vwCl [(a, e0)] H := fun k q hk => hP (ws.length + k) q (by rw [List.getElem?_append_right (Nat.le_add_right _ _), Nat.add_sub_cancel_left]; exact hk)
  have hD1 : va_D (fun _ => True) [(a, e0)] := ⟨fun i j x y hi hj _ => by
    have := (List.getElem?_eq_some_iff.mp hi).1
    have := (List.getElem?_eq_some_iff.mp hj).1
    simp at *
    omega, fun _ _ _ => trivial⟩
  refine ⟨fun a1 U g mk q => ?_, fun U hU hW => ⟨rfl, by rw [hU], by rw [hU]; exact hP1, va_K.moved hW.alike X.2.2.2.2.2.1, NW_warm hW X.2.2.2.2.2.2.2.1, SP_sub (SP_to X.2.2.2.2.2.2.2.2.1 hS hU hW) hF, hD1, X.2.2.2.2.2.2.2.2.2.2.moved hW.alike⟩⟩
  obtain ⟨q0, q1, qP, qK, qN, qZ, qD, qO⟩ := q
  exact ⟨q0, q1, qP, va_K.moved (u := U) (U := U.calling g mk a1) (Vm.Alike.refl U.vm) qK, NW_same (u := U) (U := U.calling g mk a1) rfl qN, SP_blind qZ, qD, qO.moved (u := U) (U := U.calling g mk a1) (Vm.Alike.refl U.vm)⟩
/-- and how it comes back -/
theorem k_back {a : Nat} {e0 : va_E} {As : List Value} {mc ms : Nat} {wX : (Nat → Nat) → va_W} {st0 : List Value} (hr : va_Run p l e R s m args below meth c H locs cells slots mc ms (F0 m pc ls st0) rest (QK D [(a, e0)] H.size wX As.toArray) (va_A [(a, e0)] H.size)) (X : XK p s args m meth c cc nL own D cA aK aV A) (hP : va_P D vwCl (ws ++ [(a, e0)]) H) (hD : va_D A (ws ++ [(a, e0)])) (hS : va_S A s.heap H locs)
    (kk : ∀ (u : Nat → Nat) (H1 : Heap) (locs1 : List Loc), va_P D vwCl (ws ++ wX u) H1 → va_D A (ws ++ wX u) → va_S A s.heap H1 locs1 → W p l e R s m args below meth c H1 locs1 (cells + mc) (slots + ms) Q (F0 m (pc + 3) ls rest)) : W p l e R s m args below meth c H locs cells slots Q (F0 m pc ls st0) := by
  have hF : ∀ q, va_A [(a, e0)] H.size q → A q := by
    rintro q (⟨k, e, hk⟩ | hq)
    · have : k < 1 := (List.getElem?_eq_some_iff.mp hk).1
      rw [show k = 0 by omega] at hk
      cases hk
      exact hD.2 ws.length (a, e0) (by rw [List.getElem?_append_right (Nat.le_refl _), Nat.sub_self]; rfl)
    · exact X.2.2.2.2.2.2.1 q (Nat.le_trans hS.1 hq)
  refine va_callv hr hS (fun q _ h => hF q h) hF (fun u t H1 locs1 ht hvm hw hB hz1 hk1 hS1 => ?_)
  obtain ⟨hP1, hD1⟩ := hB
  rw [ht] at hP1
  have pl : ∀ (k : Nat) (q : Nat × va_E), ws[k]? = some q → (ws ++ [(a, e0)])[k]? = some q := fun k q h => by rw [List.getElem?_append_left (List.getElem?_eq_some_iff.mp h).1]; exact h
  have na : ∀ (k : Nat) (q : Nat × va_E), ws[k]? = some q → ¬ va_A [(a, e0)] H.size q.1 := by
    intro k q hk hq
    rcases hq with ⟨j, e, hj⟩ | hq
    · have : j < 1 := (List.getElem?_eq_some_iff.mp hj).1
      rw [show j = 0 by omega] at hj
      have hqa : a = q.1 := by cases hj; rfl
      have := hD.1 k ws.length q (a, e0) (pl k q hk) (by rw [List.getElem?_append_right (Nat.le_refl _), Nat.sub_self]; rfl) hqa.symm
      have := (List.getElem?_eq_some_iff.mp hk).1
      omega
    · have := (hP k q (pl k q hk)).lt
      omega
  have hPr : va_P D vwCl ws H1 := fun k q hk => (hP k q (pl k q hk)).kept (hk1 q.1 ((hP k q (pl k q hk)).lt) (na k q hk))
  have hDr : va_D A ws := ⟨fun i j x y hi hj h => hD.1 i j x y (pl i x hi) (pl j y hj) h, fun k q hk => hD.2 k q (pl k q hk)⟩
  refine kk u H1 locs1 (hPr.app hP1) (hDr.app (hD1.weaken (fun _ _ _ h => hF _ h)) (fun i j x y hi hj h => ?_)) hS1
  exact na i x hi (h ▸ hD1.2 j y hj)
end MADE
