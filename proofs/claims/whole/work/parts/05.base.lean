/-! base: one object's world, tables, contracts in one shape, calls in one row -/
/-- static tables of ints: class, name, address, length, content -/
abbrev zt_T : Type := List (String × String × Nat × Nat × (Nat → Int32))
def zt_ok (Z : zt_T) (A : Nat → Prop) (U : State) (H : Heap) : Prop := ∀ (k : Nat) (q : String × String × Nat × Nat × (Nat → Int32)), Z[k]? = some q → va_Z q.1 q.2.1 "[I" (.ref q.2.2.1) A U H ∧ va_T .int q.2.2.1 q.2.2.2.1 (fun j => .int (q.2.2.2.2 j)) A U H
theorem zt_ok.moved {Z : zt_T} {A : Nat → Prop} {u U : State} {H : Heap} (hvm : u.vm.Alike U.vm) (h : zt_ok Z A u H) : zt_ok Z A U H := fun k q hk => ⟨(h k q hk).1.moved hvm, (h k q hk).2.moved hvm⟩
theorem zt_ok.kept {Z : zt_T} {A : Nat → Prop} {U : State} {H H1 : Heap} (h : zt_ok Z A U H) (hq : ∀ a : Nat, a < H.size → ¬ A a → H1[a]? = H[a]?) : zt_ok Z A U H1 := fun k q hk => ⟨(h k q hk).1.kept hq, (h k q hk).2.kept hq⟩
theorem zt_ok.narrow {Z : zt_T} {A B : Nat → Prop} {U : State} {H : Heap} (h : zt_ok Z A U H) (hAB : ∀ q, B q → A q) : zt_ok Z B U H := fun k q hk => ⟨(h k q hk).1.narrow hAB, (h k q hk).2.narrow hAB⟩
def xw_Pc (D : va_G) (cl : List vw_C) (tys : List (ClassId × FieldType)) (Z : zt_T) (ws : va_W) (sz : Nat) (U : State) : Prop :=
  U.heap.size = sz ∧ va_P D cl ws U.heap ∧ va_K D cl tys U ∧ va_D (fun _ => True) ws ∧ zt_ok Z (va_A ws sz) U U.heap
def xw_B (D : va_G) (cl : List vw_C) (tys : List (ClassId × FieldType)) (A : Nat → Prop) (ws : va_W) (t : State) : Prop := va_P D cl ws t.heap ∧ va_K D cl tys t ∧ va_D A ws
theorem xw_blind {D : va_G} {cl : List vw_C} {tys : List (ClassId × FieldType)} {Z : zt_T} {ws : va_W} {sz : Nat} {av : List Value} : FrameBlind (va_Pc av (xw_Pc D cl tys Z ws sz)) := by
  intro a U g mk q
  obtain ⟨q0, q1, qP, qK, qD, qZ⟩ := q
  exact ⟨q0, q1, qP, va_K.moved (u := U) (U := U.calling g mk a) (Vm.Alike.refl U.vm) qK, qD, zt_ok.moved (u := U) (U := U.calling g mk a) (Vm.Alike.refl U.vm) qZ⟩
/-- a contract: an int comes back, the state goes from u to u' -/
def xw_Ct (l : Launch) (y : MethodName) (wds : List Cond) (rm : Room) (D : va_G) (cl : List vw_C) (tys : List (ClassId × FieldType)) (Z : zt_T) (ws ws' : va_W) (av : List Value) (r : Int32) : Prop :=
  ∀ sz : Nat, Met l y wds rm (va_Pc av (xw_Pc D cl tys Z ws sz)) (va_Qi (fun (r2 : Int32) (_ : Unit) => r2 = r) (fun _ t => xw_B D cl tys (va_A ws sz) ws' t) (va_A ws sz)) 0 0 (va_A ws sz)
def xw_Cv (l : Launch) (y : MethodName) (wds : List Cond) (rm : Room) (D : va_G) (cl : List vw_C) (tys : List (ClassId × FieldType)) (Z : zt_T) (ws ws' : va_W) (av : List Value) : Prop :=
  ∀ sz : Nat, Met l y wds rm (va_Pc av (xw_Pc D cl tys Z ws sz)) (va_Qv (fun (_ : Unit) => True) (fun _ t => xw_B D cl tys (va_A ws sz) ws' t) (va_A ws sz)) 0 0 (va_A ws sz)
/-- what stands at a method's entry -/
abbrev xw_At (p : Program) (s : State) (m : MethodId) (meth : Method) (c : Code) (cc : ByteArray) (maxL : Nat) (ret : Option FieldType) (own : String) (wds : List Cond) (av : List Value) (D : va_G) (cl : List vw_C) (tys : List (ClassId × FieldType)) (Z : zt_T) (A : Nat → Prop) : Prop :=
  p.tables.exec = Jvm.exec ∧ c.code = cc ∧ meth.sig.returnType = ret ∧ c.maxLocals = maxL ∧ s.vm.findClass own = some m.cls ∧ (∀ w ∈ wds, w.before av.toArray s = true) ∧ meth.locks = false ∧ va_K D cl tys s ∧ zt_ok Z A s s.heap ∧ (∀ q : Nat, s.heap.size ≤ q → A q)
theorem xw_ofW {l : Launch} {y : MethodName} {wds ws0 : List Cond} {rm : Room} {D : va_G} {cl : List vw_C} {tys : List (ClassId × FieldType)} {Z : zt_T} {ws ws' : va_W} {av : List Value} {r : Int32} {cc : ByteArray} {maxL : Nat} {ret : Option FieldType} {lv : List (Nat × Value)}
    (hy : plainName y.cls = true) (hw : wds = Cond.code y cc maxL ret :: ws0) (hl0 : (lg_sl av).length ≤ maxL) (hlv : lv_args 0 av = lv)
    (body : ∀ (p : Program) (e : Env) (s : State) (m : MethodId) (below : List Frame) (meth : Method) (c : Code) (A : Nat → Prop), xw_At p s m meth c cc maxL ret y.cls wds av D cl tys Z A → va_P D cl ws s.heap → va_D A ws → va_S A s.heap s.heap [] → ∀ ls : Array Slot, lv_has ls maxL lv →
      W p l e rm s m av.toArray below meth c s.heap [] 0 0 (MQ below (va_Qi (fun (r2 : Int32) (_ : Unit) => r2 = r) (fun _ t => xw_B D cl tys A ws' t) A) av.toArray s 0 0 A) (F0 m 0 ls [])) : xw_Ct l y wds rm D cl tys Z ws ws' av r := by
  intro sz
  refine Met.ofW (cc := cc) (maxL := maxL) (ret := ret) hy hw ?_
  intro p e s m args below meth c s₁ B hml hv
  obtain ⟨rfl, hsz, hP, hK, hD0, hZ⟩ := hv
  subst hsz
  have hl := lv_entry av (n := maxL) hl0
  rw [lg_entry_eq]
  rw [hlv] at hl
  exact body p e s m below meth c (va_A ws s.heap.size) ⟨B.exec, B.bytes, B.returns, hml, findClass_of_methodNamed B.named, atoms_spec (ws := wds) B.pre, B.notSynchronized, hK, hZ, fun q h => Or.inr h⟩ hP hD0.self va_S.rf _ hl
theorem xw_ofWv {l : Launch} {y : MethodName} {wds ws0 : List Cond} {rm : Room} {D : va_G} {cl : List vw_C} {tys : List (ClassId × FieldType)} {Z : zt_T} {ws ws' : va_W} {av : List Value} {cc : ByteArray} {maxL : Nat} {ret : Option FieldType} {lv : List (Nat × Value)}
    (hy : plainName y.cls = true) (hw : wds = Cond.code y cc maxL ret :: ws0) (hl0 : (lg_sl av).length ≤ maxL) (hlv : lv_args 0 av = lv)
    (body : ∀ (p : Program) (e : Env) (s : State) (m : MethodId) (below : List Frame) (meth : Method) (c : Code) (A : Nat → Prop), xw_At p s m meth c cc maxL ret y.cls wds av D cl tys Z A → va_P D cl ws s.heap → va_D A ws → va_S A s.heap s.heap [] → ∀ ls : Array Slot, lv_has ls maxL lv →
      W p l e rm s m av.toArray below meth c s.heap [] 0 0 (MQ below (va_Qv (fun (_ : Unit) => True) (fun _ t => xw_B D cl tys A ws' t) A) av.toArray s 0 0 A) (F0 m 0 ls [])) : xw_Cv l y wds rm D cl tys Z ws ws' av := by
  intro sz
  refine Met.ofW (cc := cc) (maxL := maxL) (ret := ret) hy hw ?_
  intro p e s m args below meth c s₁ B hml hv
  obtain ⟨rfl, hsz, hP, hK, hD0, hZ⟩ := hv
  subst hsz
  have hl := lv_entry av (n := maxL) hl0
  rw [lg_entry_eq]
  rw [hlv] at hl
  exact body p e s m below meth c (va_A ws s.heap.size) ⟨B.exec, B.bytes, B.returns, hml, findClass_of_methodNamed B.named, atoms_spec (ws := wds) B.pre, B.notSynchronized, hK, hZ, fun q h => Or.inr h⟩ hP hD0.self va_S.rf _ hl
-- pure rows
theorem it_t {α : Type} {c : Prop} {hd : Decidable c} {a b o : α} (h : (if c then a else b) = o) (hc : c) : a = o := by rw [if_pos hc] at h; exact h
theorem it_f {α : Type} {c : Prop} {hd : Decidable c} {a b o : α} (h : (if c then a else b) = o) (hc : ¬ c) : b = o := by rw [if_neg hc] at h; exact h
theorem gd_f {α : Type} {c : Prop} {hd : Decidable c} {a : Option α} {o : α} (h : (if c then none else a) = some o) : ¬ c ∧ a = some o := by
  by_cases hc : c
  · rw [if_pos hc] at h; cases h
  · rw [if_neg hc] at h; exact ⟨hc, h⟩
theorem bd_s {α β : Type} {x : Option α} {f : α → Option β} {o : β} (h : x.bind f = some o) : ∃ q, x = some q ∧ f q = some o := by
  cases x with
  | none => cases h
  | some q => exact ⟨q, rfl, h⟩
theorem nb_01 {v : Int32} (h : ¬ ¬ (v = 0 ∨ v = 1)) : narrow .boolean (.int v) = .int v := by
  rcases Classical.not_not.mp h with rfl | rfl <;> rfl
section XWR
variable {p : Program} {l : Launch} {e : Env} {R : Room} {s : State} {m : MethodId} {args : Array Value} {below : List Frame} {meth : Method} {c : Code} {H : Heap} {locs : List Loc} {Q : State → Prop}
variable {cc : ByteArray} {pc : Nat} {ls : Array Slot} {rest : List Value} {D : va_G} {cl : List vw_C} {A : Nat → Prop} {tys : List (ClassId × FieldType)} {Z : zt_T}
/-- an answer -/
theorem xw_iret {S : Type} {wf : S → va_W} {v r : Int32} {u u' : S} {ty : FieldType} (hx : p.tables.exec = Jvm.exec) (hb : c.code = cc) (hr : meth.sig.returnType = some ty) (hlocks : meth.locks = false) (hn : narrow ty (.int v) = .int v) (hK : va_K D cl tys s) (hP : va_P D cl (wf u) H) (hD : va_D A (wf u)) (hS : va_S A s.heap H locs) (hf : some (v, u) = some (r, u')) (hdg : decode cc pc = .ok (.ireturn, 1)) :
    W p l e R s m args below meth c H locs 0 0 (MQ below (va_Qi (fun (r2 : Int32) (_ : Unit) => r2 = r) (fun _ t => xw_B D cl tys A (wf u') t) A) args s 0 0 A) (F0 m pc ls [.int v]) := by
  cases hf
  exact W.zret hx hb hr hn (fun t ht hW => ⟨⟨v, (), rfl, rfl, by rw [ht]; exact hP, va_K.moved hW.alike hK, hD⟩, hS.F ht⟩) hS.2.2 hdg
theorem xw_vret {S : Type} {wf : S → va_W} {v r : Int32} {u u' : S} (hx : p.tables.exec = Jvm.exec) (hb : c.code = cc) (hr : meth.sig.returnType = none) (hlocks : meth.locks = false) (hK : va_K D cl tys s) (hP : va_P D cl (wf u) H) (hD : va_D A (wf u)) (hS : va_S A s.heap H locs) (hf : some (v, u) = some (r, u')) (hdg : decode cc pc = .ok (.return_, 1)) :
    W p l e R s m args below meth c H locs 0 0 (MQ below (va_Qv (fun (_ : Unit) => True) (fun _ t => xw_B D cl tys A (wf u') t) A) args s 0 0 A) (F0 m pc ls []) := by
  cases hf
  exact W.vret hx hb hr (fun t ht hW => ⟨⟨(), rfl, trivial, by rw [ht]; exact hP, va_K.moved hW.alike hK, hD⟩, hS.F ht⟩) hS.2.2 hdg
theorem xw_free {ws : va_W} {H0 : Heap} (hD : va_D A ws) (hS : va_S A H0 H locs) (hA : ∀ q, H0.size ≤ q → A q) : ∀ q, va_A ws H.size q → A q := by
  intro q h
  rcases h with ⟨k, e, h⟩ | h
  · exact hD.2 k (q, e) h
  · exact hA q (Nat.le_trans hS.1 h)
theorem xw_pre {ws : va_W} {av : List Value} (hK : va_K D cl tys s) (hP : va_P D cl ws H) (hD : va_D A ws) (hS : va_S A s.heap H locs) (hA : ∀ q, s.heap.size ≤ q → A q) (hZ : zt_ok Z A s s.heap) : ∀ U : State, U.heap = H → s.WarmedH U.vm → va_Pc av (xw_Pc D cl tys Z ws H.size) av.toArray U := by
  intro U hU hW
  refine ⟨rfl, by rw [hU], by rw [hU]; exact hP, va_K.moved hW.alike hK, hD.weaken (fun _ _ _ _ => trivial), ?_⟩
  rw [hU]
  exact ((hZ.kept hS.2.1).narrow (xw_free hD hS hA)).moved hW.alike
variable {nL index n maxL : Nat} {own C : String} {y : MethodName} {bytes : ByteArray} {ret : Option FieldType} {wds : List Cond} {Ts : List Cond} {rm : Room} {As : List Value} {b : Nat} {st : List Value} {ws ws' : va_W}
/-- an own instance method, the whole world goes in -/
theorem xw_callV {r : Int32} {ci q0 : Nat} {fs : List Value} {q : vw_C} {cells slots : Nat} (hM : xw_Ct l y wds rm D cl tys Z ws ws' (.ref b :: As) r) (S : CallFix p m c cc nL s args Ts own) (cw : CallW R s args own q.1 index y bytes maxL ret wds rm 0 0 n)
    (hK : va_K D cl tys s) (hP : va_P D cl ws H) (hD : va_D A ws) (hS : va_S A s.heap H locs) (hA : ∀ q, s.heap.size ≤ q → A q) (hZ : zt_ok Z A s s.heap) (hc : cl[ci]? = some q) (he : ws[q0]? = some (b, .inr (ci, fs)))
    (hn : As.length = n) (hsize : ls.size = nL) (hst : st = As.reverse ++ .ref b :: rest) (hW : (rest.map fun v => v.category).sum ≤ 8) (hdg : decode cc pc = .ok (.invokevirtual index, 3)) (hf : cells ≤ R.cells ∧ slots ≤ R.slots)
    (kk : ∀ (H1 : Heap) (locs1 : List Loc), va_P D cl ws' H1 → va_D A ws' → va_S A s.heap H1 locs1 → W p l e R s m args below meth c H1 locs1 cells slots Q (F0 m (pc + 3) ls (.int r :: rest))) : W p l e R s m args below meth c H locs cells slots Q (F0 m pc ls st) := by
  have hF := xw_free hD hS hA
  refine va_calli (va_runV S (hM H.size) cw ⟨xw_blind, va_recv hK hP hc he, xw_pre hK hP hD hS hA hZ⟩ rfl hn hsize hst (lv_room hW) hdg hf) hS (fun q _ h => hF q h) hF (fun r2 u t H1 locs1 ht hvm hw hB hz1 hk1 hS1 => ?_)
  obtain ⟨hP1, hK1, hD1⟩ := hB
  subst hw
  rw [ht] at hP1
  exact kk H1 locs1 hP1 (hD1.weaken fun _ q _ h => hF q.1 h) hS1
theorem xw_callVv {ci q0 : Nat} {fs : List Value} {q : vw_C} {cells slots : Nat} (hM : xw_Cv l y wds rm D cl tys Z ws ws' (.ref b :: As)) (S : CallFix p m c cc nL s args Ts own) (cw : CallW R s args own q.1 index y bytes maxL ret wds rm 0 0 n)
    (hK : va_K D cl tys s) (hP : va_P D cl ws H) (hD : va_D A ws) (hS : va_S A s.heap H locs) (hA : ∀ q, s.heap.size ≤ q → A q) (hZ : zt_ok Z A s s.heap) (hc : cl[ci]? = some q) (he : ws[q0]? = some (b, .inr (ci, fs)))
    (hn : As.length = n) (hsize : ls.size = nL) (hst : st = As.reverse ++ .ref b :: rest) (hW : (rest.map fun v => v.category).sum ≤ 8) (hdg : decode cc pc = .ok (.invokevirtual index, 3)) (hf : cells ≤ R.cells ∧ slots ≤ R.slots)
    (kk : ∀ (H1 : Heap) (locs1 : List Loc), va_P D cl ws' H1 → va_D A ws' → va_S A s.heap H1 locs1 → W p l e R s m args below meth c H1 locs1 cells slots Q (F0 m (pc + 3) ls rest)) : W p l e R s m args below meth c H locs cells slots Q (F0 m pc ls st) := by
  have hF := xw_free hD hS hA
  refine va_callv (va_runV S (hM H.size) cw ⟨xw_blind, va_recv hK hP hc he, xw_pre hK hP hD hS hA hZ⟩ rfl hn hsize hst (lv_room hW) hdg hf) hS (fun q _ h => hF q h) hF (fun u t H1 locs1 ht hvm hw hB hz1 hk1 hS1 => ?_)
  obtain ⟨hP1, hK1, hD1⟩ := hB
  rw [ht] at hP1
  exact kk H1 locs1 hP1 (hD1.weaken fun _ q _ h => hF q.1 h) hS1
theorem xw_callS {r : Int32} {cells slots : Nat} (hM : xw_Ct l y wds rm D cl tys Z ws ws' As r) (S : CallFix p m c cc nL s args Ts own) (cw : CallB R s args own index y bytes maxL ret wds rm 0 0 n ∧ (Cond.static y).before args s = true)
    (hK : va_K D cl tys s) (hP : va_P D cl ws H) (hD : va_D A ws) (hS : va_S A s.heap H locs) (hA : ∀ q, s.heap.size ≤ q → A q) (hZ : zt_ok Z A s s.heap)
    (hn : As.length = n) (hsize : ls.size = nL) (hst : st = As.reverse ++ rest) (hW : (rest.map fun v => v.category).sum ≤ 8) (hdg : decode cc pc = .ok (.invokestatic index, 3)) (hf : cells ≤ R.cells ∧ slots ≤ R.slots)
    (kk : ∀ (H1 : Heap) (locs1 : List Loc), va_P D cl ws' H1 → va_D A ws' → va_S A s.heap H1 locs1 → W p l e R s m args below meth c H1 locs1 cells slots Q (F0 m (pc + 3) ls (.int r :: rest))) : W p l e R s m args below meth c H locs cells slots Q (F0 m pc ls st) := by
  have hF := xw_free hD hS hA
  refine va_calli (va_runS S (hM H.size) cw ⟨xw_blind, xw_pre hK hP hD hS hA hZ⟩ rfl hn hsize hst (lv_room hW) hdg hf) hS (fun q _ h => hF q h) hF (fun r2 u t H1 locs1 ht hvm hw hB hz1 hk1 hS1 => ?_)
  obtain ⟨hP1, hK1, hD1⟩ := hB
  subst hw
  rw [ht] at hP1
  exact kk H1 locs1 hP1 (hD1.weaken fun _ q _ h => hF q.1 h) hS1
end XWR

/-! two objects side by side: a call on the left one, on the right one -/
theorem vp_left {D : va_G} {cl : List vw_C} {w1 w2 : va_W} {H : Heap} (h : va_P D cl (w1 ++ w2) H) : va_P D cl w1 H := fun k q hk => h k q (by rw [List.getElem?_append_left (List.getElem?_eq_some_iff.mp hk).1]; exact hk)
theorem vp_right {D : va_G} {cl : List vw_C} {w1 w2 : va_W} {H : Heap} (h : va_P D cl (w1 ++ w2) H) : va_P D cl w2 H := fun k q hk => h (w1.length + k) q (by rw [List.getElem?_append_right (Nat.le_add_right _ _), Nat.add_sub_cancel_left]; exact hk)
theorem vd_left {A : Nat → Prop} {w1 w2 : va_W} (h : va_D A (w1 ++ w2)) : va_D A w1 := by
  have up : ∀ (k : Nat) (q : Nat × va_E), w1[k]? = some q → (w1 ++ w2)[k]? = some q := fun k q hk => by rw [List.getElem?_append_left (List.getElem?_eq_some_iff.mp hk).1]; exact hk
  exact ⟨fun i j p q hi hj e => h.1 i j p q (up i p hi) (up j q hj) e, fun k q hk => h.2 k q (up k q hk)⟩
theorem vd_right {A : Nat → Prop} {w1 w2 : va_W} (h : va_D A (w1 ++ w2)) : va_D A w2 := by
  have up : ∀ (k : Nat) (q : Nat × va_E), w2[k]? = some q → (w1 ++ w2)[w1.length + k]? = some q := fun k q hk => by rw [List.getElem?_append_right (Nat.le_add_right _ _), Nat.add_sub_cancel_left]; exact hk
  exact ⟨fun i j p q hi hj e => Nat.add_left_cancel (h.1 _ _ p q (up i p hi) (up j q hj) e), fun k q hk => h.2 _ q (up k q hk)⟩
theorem vd_apart {A : Nat → Prop} {w1 w2 : va_W} (h : va_D A (w1 ++ w2)) {i j : Nat} {x y : Nat × va_E} (hx : w1[i]? = some x) (hy : w2[j]? = some y) : x.1 ≠ y.1 := by
  intro e
  have hl := (List.getElem?_eq_some_iff.mp hx).1
  have h1 : (w1 ++ w2)[i]? = some x := by rw [List.getElem?_append_left hl]; exact hx
  have h2 : (w1 ++ w2)[w1.length + j]? = some y := by rw [List.getElem?_append_right (Nat.le_add_right _ _), Nat.add_sub_cancel_left]; exact hy
  have := h.1 i (w1.length + j) x y h1 h2 e
  omega
theorem vj_left {A : Nat → Prop} {D : va_G} {cl : List vw_C} {w1 w2 w3 : va_W} {H H1 : Heap} (hP : va_P D cl (w1 ++ w2) H) (hD : va_D A (w1 ++ w2)) (hF : ∀ q, va_A w1 H.size q → A q) (hk : ∀ q : Nat, q < H.size → ¬ va_A w1 H.size q → H1[q]? = H[q]?) (hP1 : va_P D cl w3 H1) (hD1 : va_D (va_A w1 H.size) w3) : va_P D cl (w3 ++ w2) H1 ∧ va_D A (w3 ++ w2) := by
  have ap : ∀ (k : Nat) (q : Nat × va_E), w2[k]? = some q → q.1 < H.size ∧ ¬ va_A w1 H.size q.1 := by
    intro k q hq
    have hl := (vp_right hP k q hq).lt
    refine ⟨hl, fun h => ?_⟩
    rcases h with ⟨k2, e, h⟩ | h
    · exact vd_apart hD h hq rfl
    · omega
  refine ⟨hP1.app (fun k q hq => (vp_right hP k q hq).kept (hk q.1 (ap k q hq).1 (ap k q hq).2)), va_D.app (hD1.weaken (fun k q _ h => hF q.1 h)) (vd_right hD) (fun i j x y hx hy hxy => ?_)⟩
  exact (ap j y hy).2 (by rw [← hxy]; exact hD1.2 i x hx)
theorem vj_right {A : Nat → Prop} {D : va_G} {cl : List vw_C} {w1 w2 w3 : va_W} {H H1 : Heap} (hP : va_P D cl (w1 ++ w2) H) (hD : va_D A (w1 ++ w2)) (hF : ∀ q, va_A w2 H.size q → A q) (hk : ∀ q : Nat, q < H.size → ¬ va_A w2 H.size q → H1[q]? = H[q]?) (hP1 : va_P D cl w3 H1) (hD1 : va_D (va_A w2 H.size) w3) : va_P D cl (w1 ++ w3) H1 ∧ va_D A (w1 ++ w3) := by
  have ap : ∀ (k : Nat) (q : Nat × va_E), w1[k]? = some q → q.1 < H.size ∧ ¬ va_A w2 H.size q.1 := by
    intro k q hq
    have hl := (vp_left hP k q hq).lt
    refine ⟨hl, fun h => ?_⟩
    rcases h with ⟨k2, e, h⟩ | h
    · exact vd_apart hD hq h rfl
    · omega
  refine ⟨va_P.app (fun k q hq => (vp_left hP k q hq).kept (hk q.1 (ap k q hq).1 (ap k q hq).2)) hP1, va_D.app (vd_left hD) (hD1.weaken (fun k q _ h => hF q.1 h)) (fun i j x y hx hy hxy => ?_)⟩
  exact (ap i x hx).2 (by rw [hxy]; exact hD1.2 j y hy)
section XWL
variable {p : Program} {l : Launch} {e : Env} {R : Room} {s : State} {m : MethodId} {args : Array Value} {below : List Frame} {meth : Method} {c : Code} {H : Heap} {locs : List Loc} {Q : State → Prop}
variable {cc : ByteArray} {pc : Nat} {ls : Array Slot} {rest : List Value} {D : va_G} {cl : List vw_C} {A : Nat → Prop} {tys : List (ClassId × FieldType)} {Z : zt_T}
variable {nL index n maxL : Nat} {own C : String} {y : MethodName} {bytes : ByteArray} {ret : Option FieldType} {wds : List Cond} {Ts : List Cond} {rm : Room} {As : List Value} {b : Nat} {st : List Value} {w1 w2 w3 : va_W}
theorem xw_callL {r : Int32} {ci q0 : Nat} {fs : List Value} {q : vw_C} {cells slots : Nat} (hM : xw_Ct l y wds rm D cl tys Z w1 w3 (.ref b :: As) r) (S : CallFix p m c cc nL s args Ts own) (cw : CallW R s args own q.1 index y bytes maxL ret wds rm 0 0 n)
    (hK : va_K D cl tys s) (hP : va_P D cl (w1 ++ w2) H) (hD : va_D A (w1 ++ w2)) (hS : va_S A s.heap H locs) (hA : ∀ q, s.heap.size ≤ q → A q) (hZ : zt_ok Z A s s.heap) (hc : cl[ci]? = some q) (he : w1[q0]? = some (b, .inr (ci, fs)))
    (hn : As.length = n) (hsize : ls.size = nL) (hst : st = As.reverse ++ .ref b :: rest) (hW : (rest.map fun v => v.category).sum ≤ 8) (hdg : decode cc pc = .ok (.invokevirtual index, 3)) (hf : cells ≤ R.cells ∧ slots ≤ R.slots)
    (kk : ∀ (H1 : Heap) (locs1 : List Loc), va_P D cl (w3 ++ w2) H1 → va_D A (w3 ++ w2) → va_S A s.heap H1 locs1 → W p l e R s m args below meth c H1 locs1 cells slots Q (F0 m (pc + 3) ls (.int r :: rest))) : W p l e R s m args below meth c H locs cells slots Q (F0 m pc ls st) := by
  have hPl := vp_left hP
  have hDl := vd_left hD
  have hF := xw_free hDl hS hA
  refine va_calli (va_runV S (hM H.size) cw ⟨xw_blind, va_recv hK hPl hc he, xw_pre hK hPl hDl hS hA hZ⟩ rfl hn hsize hst (lv_room hW) hdg hf) hS (fun q _ h => hF q h) hF (fun r2 u t H1 locs1 ht hvm hw hB hz1 hk1 hS1 => ?_)
  obtain ⟨hP1, hK1, hD1⟩ := hB
  subst hw
  rw [ht] at hP1
  obtain ⟨g1, g2⟩ := vj_left hP hD hF hk1 hP1 hD1
  exact kk H1 locs1 g1 g2 hS1
theorem xw_callR {r : Int32} {ci q0 : Nat} {fs : List Value} {q : vw_C} {cells slots : Nat} (hM : xw_Ct l y wds rm D cl tys Z w2 w3 (.ref b :: As) r) (S : CallFix p m c cc nL s args Ts own) (cw : CallW R s args own q.1 index y bytes maxL ret wds rm 0 0 n)
    (hK : va_K D cl tys s) (hP : va_P D cl (w1 ++ w2) H) (hD : va_D A (w1 ++ w2)) (hS : va_S A s.heap H locs) (hA : ∀ q, s.heap.size ≤ q → A q) (hZ : zt_ok Z A s s.heap) (hc : cl[ci]? = some q) (he : w2[q0]? = some (b, .inr (ci, fs)))
    (hn : As.length = n) (hsize : ls.size = nL) (hst : st = As.reverse ++ .ref b :: rest) (hW : (rest.map fun v => v.category).sum ≤ 8) (hdg : decode cc pc = .ok (.invokevirtual index, 3)) (hf : cells ≤ R.cells ∧ slots ≤ R.slots)
    (kk : ∀ (H1 : Heap) (locs1 : List Loc), va_P D cl (w1 ++ w3) H1 → va_D A (w1 ++ w3) → va_S A s.heap H1 locs1 → W p l e R s m args below meth c H1 locs1 cells slots Q (F0 m (pc + 3) ls (.int r :: rest))) : W p l e R s m args below meth c H locs cells slots Q (F0 m pc ls st) := by
  have hPr := vp_right hP
  have hDr := vd_right hD
  have hF := xw_free hDr hS hA
  refine va_calli (va_runV S (hM H.size) cw ⟨xw_blind, va_recv hK hPr hc he, xw_pre hK hPr hDr hS hA hZ⟩ rfl hn hsize hst (lv_room hW) hdg hf) hS (fun q _ h => hF q h) hF (fun r2 u t H1 locs1 ht hvm hw hB hz1 hk1 hS1 => ?_)
  obtain ⟨hP1, hK1, hD1⟩ := hB
  subst hw
  rw [ht] at hP1
  obtain ⟨g1, g2⟩ := vj_right hP hD hF hk1 hP1 hD1
  exact kk H1 locs1 g1 g2 hS1
end XWL

/-! the states and their worlds -/
abbrev XSt : Type := (Nat → Int32) × (Nat → Int32) × (Nat → Int32) × (Nat → Int32) × (Nat → Int32) × Int32 × (Nat → Int32) × (Nat → Int32) × (Nat → Int32) × Int32 × (Nat → Int32) × Int32 × Int32
def x_live (s : XSt) : (Nat → Int32) := s.1
def x_houses (s : XSt) : (Nat → Int32) := s.2.1
def x_hosts (s : XSt) : (Nat → Int32) := s.2.2.1
def x_changeCounts (s : XSt) : (Nat → Int32) := s.2.2.2.1
def x_changeMoments (s : XSt) : (Nat → Int32) := s.2.2.2.2.1
def x_records (s : XSt) : Int32 := s.2.2.2.2.2.1
def x_linkFrom (s : XSt) : (Nat → Int32) := s.2.2.2.2.2.2.1
def x_linkField (s : XSt) : (Nat → Int32) := s.2.2.2.2.2.2.2.1
def x_linkTo (s : XSt) : (Nat → Int32) := s.2.2.2.2.2.2.2.2.1
def x_links (s : XSt) : Int32 := s.2.2.2.2.2.2.2.2.2.1
def x_refusedWay (s : XSt) : (Nat → Int32) := s.2.2.2.2.2.2.2.2.2.2.1
def x_refusedWayLength (s : XSt) : Int32 := s.2.2.2.2.2.2.2.2.2.2.2.1
def x_moment (s : XSt) : Int32 := s.2.2.2.2.2.2.2.2.2.2.2.2
def x_plive (s : XSt) (v : (Nat → Int32)) : XSt := (v, s.2.1, s.2.2.1, s.2.2.2.1, s.2.2.2.2.1, s.2.2.2.2.2.1, s.2.2.2.2.2.2.1, s.2.2.2.2.2.2.2.1, s.2.2.2.2.2.2.2.2.1, s.2.2.2.2.2.2.2.2.2.1, s.2.2.2.2.2.2.2.2.2.2.1, s.2.2.2.2.2.2.2.2.2.2.2.1, s.2.2.2.2.2.2.2.2.2.2.2.2)
def x_phouses (s : XSt) (v : (Nat → Int32)) : XSt := (s.1, v, s.2.2.1, s.2.2.2.1, s.2.2.2.2.1, s.2.2.2.2.2.1, s.2.2.2.2.2.2.1, s.2.2.2.2.2.2.2.1, s.2.2.2.2.2.2.2.2.1, s.2.2.2.2.2.2.2.2.2.1, s.2.2.2.2.2.2.2.2.2.2.1, s.2.2.2.2.2.2.2.2.2.2.2.1, s.2.2.2.2.2.2.2.2.2.2.2.2)
def x_phosts (s : XSt) (v : (Nat → Int32)) : XSt := (s.1, s.2.1, v, s.2.2.2.1, s.2.2.2.2.1, s.2.2.2.2.2.1, s.2.2.2.2.2.2.1, s.2.2.2.2.2.2.2.1, s.2.2.2.2.2.2.2.2.1, s.2.2.2.2.2.2.2.2.2.1, s.2.2.2.2.2.2.2.2.2.2.1, s.2.2.2.2.2.2.2.2.2.2.2.1, s.2.2.2.2.2.2.2.2.2.2.2.2)
def x_pchangeCounts (s : XSt) (v : (Nat → Int32)) : XSt := (s.1, s.2.1, s.2.2.1, v, s.2.2.2.2.1, s.2.2.2.2.2.1, s.2.2.2.2.2.2.1, s.2.2.2.2.2.2.2.1, s.2.2.2.2.2.2.2.2.1, s.2.2.2.2.2.2.2.2.2.1, s.2.2.2.2.2.2.2.2.2.2.1, s.2.2.2.2.2.2.2.2.2.2.2.1, s.2.2.2.2.2.2.2.2.2.2.2.2)
def x_pchangeMoments (s : XSt) (v : (Nat → Int32)) : XSt := (s.1, s.2.1, s.2.2.1, s.2.2.2.1, v, s.2.2.2.2.2.1, s.2.2.2.2.2.2.1, s.2.2.2.2.2.2.2.1, s.2.2.2.2.2.2.2.2.1, s.2.2.2.2.2.2.2.2.2.1, s.2.2.2.2.2.2.2.2.2.2.1, s.2.2.2.2.2.2.2.2.2.2.2.1, s.2.2.2.2.2.2.2.2.2.2.2.2)
def x_precords (s : XSt) (v : Int32) : XSt := (s.1, s.2.1, s.2.2.1, s.2.2.2.1, s.2.2.2.2.1, v, s.2.2.2.2.2.2.1, s.2.2.2.2.2.2.2.1, s.2.2.2.2.2.2.2.2.1, s.2.2.2.2.2.2.2.2.2.1, s.2.2.2.2.2.2.2.2.2.2.1, s.2.2.2.2.2.2.2.2.2.2.2.1, s.2.2.2.2.2.2.2.2.2.2.2.2)
def x_plinkFrom (s : XSt) (v : (Nat → Int32)) : XSt := (s.1, s.2.1, s.2.2.1, s.2.2.2.1, s.2.2.2.2.1, s.2.2.2.2.2.1, v, s.2.2.2.2.2.2.2.1, s.2.2.2.2.2.2.2.2.1, s.2.2.2.2.2.2.2.2.2.1, s.2.2.2.2.2.2.2.2.2.2.1, s.2.2.2.2.2.2.2.2.2.2.2.1, s.2.2.2.2.2.2.2.2.2.2.2.2)
def x_plinkField (s : XSt) (v : (Nat → Int32)) : XSt := (s.1, s.2.1, s.2.2.1, s.2.2.2.1, s.2.2.2.2.1, s.2.2.2.2.2.1, s.2.2.2.2.2.2.1, v, s.2.2.2.2.2.2.2.2.1, s.2.2.2.2.2.2.2.2.2.1, s.2.2.2.2.2.2.2.2.2.2.1, s.2.2.2.2.2.2.2.2.2.2.2.1, s.2.2.2.2.2.2.2.2.2.2.2.2)
def x_plinkTo (s : XSt) (v : (Nat → Int32)) : XSt := (s.1, s.2.1, s.2.2.1, s.2.2.2.1, s.2.2.2.2.1, s.2.2.2.2.2.1, s.2.2.2.2.2.2.1, s.2.2.2.2.2.2.2.1, v, s.2.2.2.2.2.2.2.2.2.1, s.2.2.2.2.2.2.2.2.2.2.1, s.2.2.2.2.2.2.2.2.2.2.2.1, s.2.2.2.2.2.2.2.2.2.2.2.2)
def x_plinks (s : XSt) (v : Int32) : XSt := (s.1, s.2.1, s.2.2.1, s.2.2.2.1, s.2.2.2.2.1, s.2.2.2.2.2.1, s.2.2.2.2.2.2.1, s.2.2.2.2.2.2.2.1, s.2.2.2.2.2.2.2.2.1, v, s.2.2.2.2.2.2.2.2.2.2.1, s.2.2.2.2.2.2.2.2.2.2.2.1, s.2.2.2.2.2.2.2.2.2.2.2.2)
def x_prefusedWay (s : XSt) (v : (Nat → Int32)) : XSt := (s.1, s.2.1, s.2.2.1, s.2.2.2.1, s.2.2.2.2.1, s.2.2.2.2.2.1, s.2.2.2.2.2.2.1, s.2.2.2.2.2.2.2.1, s.2.2.2.2.2.2.2.2.1, s.2.2.2.2.2.2.2.2.2.1, v, s.2.2.2.2.2.2.2.2.2.2.2.1, s.2.2.2.2.2.2.2.2.2.2.2.2)
def x_prefusedWayLength (s : XSt) (v : Int32) : XSt := (s.1, s.2.1, s.2.2.1, s.2.2.2.1, s.2.2.2.2.1, s.2.2.2.2.2.1, s.2.2.2.2.2.2.1, s.2.2.2.2.2.2.2.1, s.2.2.2.2.2.2.2.2.1, s.2.2.2.2.2.2.2.2.2.1, s.2.2.2.2.2.2.2.2.2.2.1, v, s.2.2.2.2.2.2.2.2.2.2.2.2)
def x_pmoment (s : XSt) (v : Int32) : XSt := (s.1, s.2.1, s.2.2.1, s.2.2.2.1, s.2.2.2.2.1, s.2.2.2.2.2.1, s.2.2.2.2.2.2.1, s.2.2.2.2.2.2.2.1, s.2.2.2.2.2.2.2.2.1, s.2.2.2.2.2.2.2.2.2.1, s.2.2.2.2.2.2.2.2.2.2.1, s.2.2.2.2.2.2.2.2.2.2.2.1, v)
abbrev w_X (a : Nat → Nat) (cI cZ : ClassId) (s : XSt) : va_W := [(a 0, .inr (0, [.ref (a 1), .ref (a 2), .ref (a 3), .ref (a 4), .ref (a 5), .int (x_records s), .ref (a 6), .ref (a 7), .ref (a 8), .int (x_links s), .ref (a 9), .int (x_refusedWayLength s), .int (x_moment s)])), (a 1, .inl (cZ, 61, .inl (x_live s))), (a 2, .inl (cI, 61, .inl (x_houses s))), (a 3, .inl (cI, 61, .inl (x_hosts s))), (a 4, .inl (cI, 61, .inl (x_changeCounts s))), (a 5, .inl (cI, 2440, .inl (x_changeMoments s))), (a 6, .inl (cI, 200, .inl (x_linkFrom s))), (a 7, .inl (cI, 200, .inl (x_linkField s))), (a 8, .inl (cI, 200, .inl (x_linkTo s))), (a 9, .inl (cI, 60, .inl (x_refusedWay s)))]
abbrev MSt : Type := Int32 × Int32 × (Nat → Int32) × (Nat → Int32) × (Nat → Int32) × (Nat → Int32) × (Nat → Int32) × Int32 × Int32 × (Nat → Int32) × (Nat → Int32) × (Nat → Int32) × (Nat → Int32) × Int32
def m_thrown (s : MSt) : Int32 := s.1
def m_records (s : MSt) : Int32 := s.2.1
def m_live (s : MSt) : (Nat → Int32) := s.2.2.1
def m_houses (s : MSt) : (Nat → Int32) := s.2.2.2.1
def m_hadHost (s : MSt) : (Nat → Int32) := s.2.2.2.2.1
def m_times (s : MSt) : (Nat → Int32) := s.2.2.2.2.2.1
def m_timeCount (s : MSt) : (Nat → Int32) := s.2.2.2.2.2.2.1
def m_moment (s : MSt) : Int32 := s.2.2.2.2.2.2.2.1
def m_links (s : MSt) : Int32 := s.2.2.2.2.2.2.2.2.1
def m_from (s : MSt) : (Nat → Int32) := s.2.2.2.2.2.2.2.2.2.1
def m_field (s : MSt) : (Nat → Int32) := s.2.2.2.2.2.2.2.2.2.2.1
def m_to (s : MSt) : (Nat → Int32) := s.2.2.2.2.2.2.2.2.2.2.2.1
def m_ring (s : MSt) : (Nat → Int32) := s.2.2.2.2.2.2.2.2.2.2.2.2.1
def m_ringLength (s : MSt) : Int32 := s.2.2.2.2.2.2.2.2.2.2.2.2.2
def m_pthrown (s : MSt) (v : Int32) : MSt := (v, s.2.1, s.2.2.1, s.2.2.2.1, s.2.2.2.2.1, s.2.2.2.2.2.1, s.2.2.2.2.2.2.1, s.2.2.2.2.2.2.2.1, s.2.2.2.2.2.2.2.2.1, s.2.2.2.2.2.2.2.2.2.1, s.2.2.2.2.2.2.2.2.2.2.1, s.2.2.2.2.2.2.2.2.2.2.2.1, s.2.2.2.2.2.2.2.2.2.2.2.2.1, s.2.2.2.2.2.2.2.2.2.2.2.2.2)
def m_precords (s : MSt) (v : Int32) : MSt := (s.1, v, s.2.2.1, s.2.2.2.1, s.2.2.2.2.1, s.2.2.2.2.2.1, s.2.2.2.2.2.2.1, s.2.2.2.2.2.2.2.1, s.2.2.2.2.2.2.2.2.1, s.2.2.2.2.2.2.2.2.2.1, s.2.2.2.2.2.2.2.2.2.2.1, s.2.2.2.2.2.2.2.2.2.2.2.1, s.2.2.2.2.2.2.2.2.2.2.2.2.1, s.2.2.2.2.2.2.2.2.2.2.2.2.2)
def m_plive (s : MSt) (v : (Nat → Int32)) : MSt := (s.1, s.2.1, v, s.2.2.2.1, s.2.2.2.2.1, s.2.2.2.2.2.1, s.2.2.2.2.2.2.1, s.2.2.2.2.2.2.2.1, s.2.2.2.2.2.2.2.2.1, s.2.2.2.2.2.2.2.2.2.1, s.2.2.2.2.2.2.2.2.2.2.1, s.2.2.2.2.2.2.2.2.2.2.2.1, s.2.2.2.2.2.2.2.2.2.2.2.2.1, s.2.2.2.2.2.2.2.2.2.2.2.2.2)
def m_phouses (s : MSt) (v : (Nat → Int32)) : MSt := (s.1, s.2.1, s.2.2.1, v, s.2.2.2.2.1, s.2.2.2.2.2.1, s.2.2.2.2.2.2.1, s.2.2.2.2.2.2.2.1, s.2.2.2.2.2.2.2.2.1, s.2.2.2.2.2.2.2.2.2.1, s.2.2.2.2.2.2.2.2.2.2.1, s.2.2.2.2.2.2.2.2.2.2.2.1, s.2.2.2.2.2.2.2.2.2.2.2.2.1, s.2.2.2.2.2.2.2.2.2.2.2.2.2)
def m_phadHost (s : MSt) (v : (Nat → Int32)) : MSt := (s.1, s.2.1, s.2.2.1, s.2.2.2.1, v, s.2.2.2.2.2.1, s.2.2.2.2.2.2.1, s.2.2.2.2.2.2.2.1, s.2.2.2.2.2.2.2.2.1, s.2.2.2.2.2.2.2.2.2.1, s.2.2.2.2.2.2.2.2.2.2.1, s.2.2.2.2.2.2.2.2.2.2.2.1, s.2.2.2.2.2.2.2.2.2.2.2.2.1, s.2.2.2.2.2.2.2.2.2.2.2.2.2)
def m_ptimes (s : MSt) (v : (Nat → Int32)) : MSt := (s.1, s.2.1, s.2.2.1, s.2.2.2.1, s.2.2.2.2.1, v, s.2.2.2.2.2.2.1, s.2.2.2.2.2.2.2.1, s.2.2.2.2.2.2.2.2.1, s.2.2.2.2.2.2.2.2.2.1, s.2.2.2.2.2.2.2.2.2.2.1, s.2.2.2.2.2.2.2.2.2.2.2.1, s.2.2.2.2.2.2.2.2.2.2.2.2.1, s.2.2.2.2.2.2.2.2.2.2.2.2.2)
def m_ptimeCount (s : MSt) (v : (Nat → Int32)) : MSt := (s.1, s.2.1, s.2.2.1, s.2.2.2.1, s.2.2.2.2.1, s.2.2.2.2.2.1, v, s.2.2.2.2.2.2.2.1, s.2.2.2.2.2.2.2.2.1, s.2.2.2.2.2.2.2.2.2.1, s.2.2.2.2.2.2.2.2.2.2.1, s.2.2.2.2.2.2.2.2.2.2.2.1, s.2.2.2.2.2.2.2.2.2.2.2.2.1, s.2.2.2.2.2.2.2.2.2.2.2.2.2)
def m_pmoment (s : MSt) (v : Int32) : MSt := (s.1, s.2.1, s.2.2.1, s.2.2.2.1, s.2.2.2.2.1, s.2.2.2.2.2.1, s.2.2.2.2.2.2.1, v, s.2.2.2.2.2.2.2.2.1, s.2.2.2.2.2.2.2.2.2.1, s.2.2.2.2.2.2.2.2.2.2.1, s.2.2.2.2.2.2.2.2.2.2.2.1, s.2.2.2.2.2.2.2.2.2.2.2.2.1, s.2.2.2.2.2.2.2.2.2.2.2.2.2)
def m_plinks (s : MSt) (v : Int32) : MSt := (s.1, s.2.1, s.2.2.1, s.2.2.2.1, s.2.2.2.2.1, s.2.2.2.2.2.1, s.2.2.2.2.2.2.1, s.2.2.2.2.2.2.2.1, v, s.2.2.2.2.2.2.2.2.2.1, s.2.2.2.2.2.2.2.2.2.2.1, s.2.2.2.2.2.2.2.2.2.2.2.1, s.2.2.2.2.2.2.2.2.2.2.2.2.1, s.2.2.2.2.2.2.2.2.2.2.2.2.2)
def m_pfrom (s : MSt) (v : (Nat → Int32)) : MSt := (s.1, s.2.1, s.2.2.1, s.2.2.2.1, s.2.2.2.2.1, s.2.2.2.2.2.1, s.2.2.2.2.2.2.1, s.2.2.2.2.2.2.2.1, s.2.2.2.2.2.2.2.2.1, v, s.2.2.2.2.2.2.2.2.2.2.1, s.2.2.2.2.2.2.2.2.2.2.2.1, s.2.2.2.2.2.2.2.2.2.2.2.2.1, s.2.2.2.2.2.2.2.2.2.2.2.2.2)
def m_pfield (s : MSt) (v : (Nat → Int32)) : MSt := (s.1, s.2.1, s.2.2.1, s.2.2.2.1, s.2.2.2.2.1, s.2.2.2.2.2.1, s.2.2.2.2.2.2.1, s.2.2.2.2.2.2.2.1, s.2.2.2.2.2.2.2.2.1, s.2.2.2.2.2.2.2.2.2.1, v, s.2.2.2.2.2.2.2.2.2.2.2.1, s.2.2.2.2.2.2.2.2.2.2.2.2.1, s.2.2.2.2.2.2.2.2.2.2.2.2.2)
def m_pto (s : MSt) (v : (Nat → Int32)) : MSt := (s.1, s.2.1, s.2.2.1, s.2.2.2.1, s.2.2.2.2.1, s.2.2.2.2.2.1, s.2.2.2.2.2.2.1, s.2.2.2.2.2.2.2.1, s.2.2.2.2.2.2.2.2.1, s.2.2.2.2.2.2.2.2.2.1, s.2.2.2.2.2.2.2.2.2.2.1, v, s.2.2.2.2.2.2.2.2.2.2.2.2.1, s.2.2.2.2.2.2.2.2.2.2.2.2.2)
def m_pring (s : MSt) (v : (Nat → Int32)) : MSt := (s.1, s.2.1, s.2.2.1, s.2.2.2.1, s.2.2.2.2.1, s.2.2.2.2.2.1, s.2.2.2.2.2.2.1, s.2.2.2.2.2.2.2.1, s.2.2.2.2.2.2.2.2.1, s.2.2.2.2.2.2.2.2.2.1, s.2.2.2.2.2.2.2.2.2.2.1, s.2.2.2.2.2.2.2.2.2.2.2.1, v, s.2.2.2.2.2.2.2.2.2.2.2.2.2)
def m_pringLength (s : MSt) (v : Int32) : MSt := (s.1, s.2.1, s.2.2.1, s.2.2.2.1, s.2.2.2.2.1, s.2.2.2.2.2.1, s.2.2.2.2.2.2.1, s.2.2.2.2.2.2.2.1, s.2.2.2.2.2.2.2.2.1, s.2.2.2.2.2.2.2.2.2.1, s.2.2.2.2.2.2.2.2.2.2.1, s.2.2.2.2.2.2.2.2.2.2.2.1, s.2.2.2.2.2.2.2.2.2.2.2.2.1, v)
abbrev w_M (a : Nat → Nat) (cI cZ : ClassId) (s : MSt) : va_W := [(a 0, .inr (1, [.int (m_thrown s), .int (m_records s), .ref (a 1), .ref (a 2), .ref (a 3), .ref (a 4), .ref (a 5), .int (m_moment s), .int (m_links s), .ref (a 6), .ref (a 7), .ref (a 8), .ref (a 9), .int (m_ringLength s)])), (a 1, .inl (cZ, 61, .inl (m_live s))), (a 2, .inl (cI, 61, .inl (m_houses s))), (a 3, .inl (cI, 61, .inl (m_hadHost s))), (a 4, .inl (cI, 2440, .inl (m_times s))), (a 5, .inl (cI, 61, .inl (m_timeCount s))), (a 6, .inl (cI, 200, .inl (m_from s))), (a 7, .inl (cI, 200, .inl (m_field s))), (a 8, .inl (cI, 200, .inl (m_to s))), (a 9, .inl (cI, 61, .inl (m_ring s)))]
def most_f : Nat → Int32 := fun k => match k with
  | 0 => 1
  | 1 => 2
  | 2 => 5
  | 3 => 5
  | _ => 3
abbrev zz (tb : Nat) : zt_T := [("LinkKeeper", "MOST_OF_FIELD", tb, 10, most_f)]
