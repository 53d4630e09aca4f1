def x_zero : XSt := ((fun _ => 0), (fun _ => 0), (fun _ => 0), (fun _ => 0), (fun _ => 0), 0, (fun _ => 0), (fun _ => 0), (fun _ => 0), 0, (fun _ => 0), 0, 0)
def at_X (dC : Nat → ClassId) (dI : Nat → Nat → Nat) (A : Nat → Prop) (h0 : Nat) (t : State) : Prop := ∃ (a : Nat → Nat) (cI cZ : ClassId), a 0 = h0 ∧ va_P (dC, dI) vwCl (w_X a cI cZ x_zero) t.heap ∧ va_K (dC, dI) vwCl [(cI, .int), (cZ, .boolean)] t ∧ va_D A (w_X a cI cZ x_zero)
set_option maxHeartbeats 4000000 in
set_option maxRecDepth 100000 in
theorem kX_init (l : Launch) (dC : Nat → ClassId) (dI : Nat → Nat → Nat) (h0 : Nat) (sz : Nat) : Met l yX_init wdX_init ({ frames := 1, cells := 9, slots := 3344, locals := 12 } : Room) (va_Pc [.ref h0] (fun U => U.heap.size = sz ∧ va_P (dC, dI) vwCl [(h0, .inr (0, [.null, .null, .null, .null, .null, .int 0, .null, .null, .null, .int 0, .null, .int 0, .int 0]))] U.heap ∧ va_K (dC, dI) vwCl [] U ∧ va_D (fun _ => True) [(h0, .inr (0, [.null, .null, .null, .null, .null, .int 0, .null, .null, .null, .int 0, .null, .int 0, .int 0]))])) (va_Qv (fun _ : Unit => True) (fun _ t => at_X dC dI (va_A [(h0, .inr (0, [.null, .null, .null, .null, .null, .int 0, .null, .null, .null, .int 0, .null, .int 0, .int 0]))] sz) h0 t) (va_A [(h0, .inr (0, [.null, .null, .null, .null, .null, .int 0, .null, .null, .null, .int 0, .null, .int 0, .int 0]))] sz)) 9 3344 (va_A [(h0, .inr (0, [.null, .null, .null, .null, .null, .int 0, .null, .null, .null, .int 0, .null, .int 0, .int 0]))] sz) := by
  refine Met.ofW (cc := cX_init) (maxL := 1) (ret := none) (by decide) rfl ?_
  intro p e s m args below meth c s₁ B hml hv
  obtain ⟨rfl, hsz, hP, hK, hD0⟩ := hv
  have hx := B.exec
  have hb := B.bytes
  have hr := B.returns
  have hts0 := atoms_spec (ws := wdX_init) B.pre
  have hts : ∀ w ∈ lw_g, w.before _ s = true := fun w h => hts0 w (List.mem_cons_of_mem _ h)
  have hown : s.vm.findClass RX = some m.cls := findClass_of_methodNamed B.named
  have hlocks := B.notSynchronized
  have hin : meth.name = "<init>" := (name_of_methodNamed B.named B.method).1
  subst hsz
  have hD := hD0.self (sz := s.heap.size)
  generalize hAe : va_A [(h0, .inr (0, [.null, .null, .null, .null, .null, .int 0, .null, .null, .null, .int 0, .null, .int 0, .int 0]))] s.heap.size = A at hD ⊢
  have hA : ∀ q : Nat, s.heap.size ≤ q → A q := fun q h => by rw [← hAe]; exact Or.inr h
  have hS : va_S A s.heap s.heap [] := va_S.rf
  have hl := lv_entry ([.ref h0]) (n := 1) (Nat.le_of_ble_eq_true rfl)
  rw [lg_entry_eq]
  generalize (lg_sl ([.ref h0]) ++ List.replicate (1 - (lg_sl ([.ref h0])).length) Slot.unset).toArray = ls at hl ⊢
  have hl : lv_has ls 1 [(0, .ref h0)] := hl
  refine lv_aload_n hx hb dX_init_0 rfl (lv_at hl 0 rfl) ?_
  refine W.objInit hx hb hown (hts _ mt_34) (hts _ mt_35) (hts _ mt_36) rfl (by rw [hml]; exact hl.1) rfl dX_init_1 (Nat.le_of_ble_eq_true rfl) (Nat.le_of_ble_eq_true rfl) ?_
  refine W.eq (g2 := F0 m 4 ls []) rfl ?_
  refine lv_aload_n hx hb dX_init_4 rfl (lv_at hl 0 rfl) ?_
  refine lv_bipush (v := (61 : Int32)) hx hb dX_init_5 (by decide) ?_
  refine va_newa (atype := .boolean) (ty := .boolean) (a0 := (61, .inl (fun _ => 0))) (N' := 61) hx hb (hts _ mt_77) rfl hK hP hD hS hA (fun cA => rfl) (by decide) rfl (Nat.le_of_ble_eq_true rfl) (Nat.le_of_ble_eq_true rfl) (Nat.le_of_ble_eq_true rfl) dX_init_7 (fun q1 c1 H hK hP hD hS => ?_)
  have hP : va_P (dC, dI) vwCl [(h0, .inr (0, [.null, .null, .null, .null, .null, .int 0, .null, .null, .null, .int 0, .null, .int 0, .int 0])), (q1, .inl (c1, 61, .inl (fun _ => 0)))] H := hP
  have hD : va_D A [(h0, .inr (0, [.null, .null, .null, .null, .null, .int 0, .null, .null, .null, .int 0, .null, .int 0, .int 0])), (q1, .inl (c1, 61, .inl (fun _ => 0)))] := hD
  refine W.widen (k := 1) (n := 61) (Nat.le_of_ble_eq_true rfl) (Nat.le_of_ble_eq_true rfl) ?_
  refine va_putF (D := (dC, dI)) (ci := 0) (v := .ref q1) (ty := .array .boolean) (C := RX) (T := TX) (N := 13) hx hb hts inX tyX tyX_ok nmX hown hK hP hD hS 0 rfl rfl 0 (by decide) (hts _ mt_37) (fun _ h9 => h9) rfl hin rfl (by decide +kernel) rfl rfl (Nat.le_of_ble_eq_true rfl) dX_init_9 (fun H locs hP hD hS => ?_)
  have hP : va_P (dC, dI) vwCl [(h0, .inr (0, [.ref q1, .null, .null, .null, .null, .int 0, .null, .null, .null, .int 0, .null, .int 0, .int 0])), (q1, .inl (c1, 61, .inl (fun _ => 0)))] H := hP
  have hD : va_D A [(h0, .inr (0, [.ref q1, .null, .null, .null, .null, .int 0, .null, .null, .null, .int 0, .null, .int 0, .int 0])), (q1, .inl (c1, 61, .inl (fun _ => 0)))] := hD
  refine lv_aload_n hx hb dX_init_12 rfl (lv_at hl 0 rfl) ?_
  refine lv_bipush (v := (61 : Int32)) hx hb dX_init_13 (by decide) ?_
  refine va_newa (atype := .int) (ty := .int) (a0 := (61, .inl (fun _ => 0))) (N' := 61) hx hb (hts _ mt_78) rfl hK hP hD hS hA (fun cA => rfl) (by decide) rfl (Nat.le_of_ble_eq_true rfl) (Nat.le_of_ble_eq_true rfl) (Nat.le_of_ble_eq_true rfl) dX_init_15 (fun q2 c2 H hK hP hD hS => ?_)
  have hP : va_P (dC, dI) vwCl [(h0, .inr (0, [.ref q1, .null, .null, .null, .null, .int 0, .null, .null, .null, .int 0, .null, .int 0, .int 0])), (q1, .inl (c1, 61, .inl (fun _ => 0))), (q2, .inl (c2, 61, .inl (fun _ => 0)))] H := hP
  have hD : va_D A [(h0, .inr (0, [.ref q1, .null, .null, .null, .null, .int 0, .null, .null, .null, .int 0, .null, .int 0, .int 0])), (q1, .inl (c1, 61, .inl (fun _ => 0))), (q2, .inl (c2, 61, .inl (fun _ => 0)))] := hD
  refine W.widen (k := 2) (n := 122) (Nat.le_of_ble_eq_true rfl) (Nat.le_of_ble_eq_true rfl) ?_
  refine va_putF (D := (dC, dI)) (ci := 0) (v := .ref q2) (ty := .array .int) (C := RX) (T := TX) (N := 13) hx hb hts inX tyX tyX_ok nmX hown hK hP hD hS 0 rfl rfl 1 (by decide) (hts _ mt_38) (fun _ h9 => h9) rfl hin rfl (by decide +kernel) rfl rfl (Nat.le_of_ble_eq_true rfl) dX_init_17 (fun H locs hP hD hS => ?_)
  have hP : va_P (dC, dI) vwCl [(h0, .inr (0, [.ref q1, .ref q2, .null, .null, .null, .int 0, .null, .null, .null, .int 0, .null, .int 0, .int 0])), (q1, .inl (c1, 61, .inl (fun _ => 0))), (q2, .inl (c2, 61, .inl (fun _ => 0)))] H := hP
  have hD : va_D A [(h0, .inr (0, [.ref q1, .ref q2, .null, .null, .null, .int 0, .null, .null, .null, .int 0, .null, .int 0, .int 0])), (q1, .inl (c1, 61, .inl (fun _ => 0))), (q2, .inl (c2, 61, .inl (fun _ => 0)))] := hD
  refine lv_aload_n hx hb dX_init_20 rfl (lv_at hl 0 rfl) ?_
  refine lv_bipush (v := (61 : Int32)) hx hb dX_init_21 (by decide) ?_
  refine va_newa (atype := .int) (ty := .int) (a0 := (61, .inl (fun _ => 0))) (N' := 61) hx hb (hts _ mt_78) rfl hK hP hD hS hA (fun cA => rfl) (by decide) rfl (Nat.le_of_ble_eq_true rfl) (Nat.le_of_ble_eq_true rfl) (Nat.le_of_ble_eq_true rfl) dX_init_23 (fun q3 c3 H hK hP hD hS => ?_)
  have hP : va_P (dC, dI) vwCl [(h0, .inr (0, [.ref q1, .ref q2, .null, .null, .null, .int 0, .null, .null, .null, .int 0, .null, .int 0, .int 0])), (q1, .inl (c1, 61, .inl (fun _ => 0))), (q2, .inl (c2, 61, .inl (fun _ => 0))), (q3, .inl (c3, 61, .inl (fun _ => 0)))] H := hP
  have hD : va_D A [(h0, .inr (0, [.ref q1, .ref q2, .null, .null, .null, .int 0, .null, .null, .null, .int 0, .null, .int 0, .int 0])), (q1, .inl (c1, 61, .inl (fun _ => 0))), (q2, .inl (c2, 61, .inl (fun _ => 0))), (q3, .inl (c3, 61, .inl (fun _ => 0)))] := hD
  refine W.widen (k := 3) (n := 183) (Nat.le_of_ble_eq_true rfl) (Nat.le_of_ble_eq_true rfl) ?_
  refine va_putF (D := (dC, dI)) (ci := 0) (v := .ref q3) (ty := .array .int) (C := RX) (T := TX) (N := 13) hx hb hts inX tyX tyX_ok nmX hown hK hP hD hS 0 rfl rfl 2 (by decide) (hts _ mt_39) (fun _ h9 => h9) rfl hin rfl (by decide +kernel) rfl rfl (Nat.le_of_ble_eq_true rfl) dX_init_25 (fun H locs hP hD hS => ?_)
  have hP : va_P (dC, dI) vwCl [(h0, .inr (0, [.ref q1, .ref q2, .ref q3, .null, .null, .int 0, .null, .null, .null, .int 0, .null, .int 0, .int 0])), (q1, .inl (c1, 61, .inl (fun _ => 0))), (q2, .inl (c2, 61, .inl (fun _ => 0))), (q3, .inl (c3, 61, .inl (fun _ => 0)))] H := hP
  have hD : va_D A [(h0, .inr (0, [.ref q1, .ref q2, .ref q3, .null, .null, .int 0, .null, .null, .null, .int 0, .null, .int 0, .int 0])), (q1, .inl (c1, 61, .inl (fun _ => 0))), (q2, .inl (c2, 61, .inl (fun _ => 0))), (q3, .inl (c3, 61, .inl (fun _ => 0)))] := hD
  refine lv_aload_n hx hb dX_init_28 rfl (lv_at hl 0 rfl) ?_
  refine lv_bipush (v := (61 : Int32)) hx hb dX_init_29 (by decide) ?_
  refine va_newa (atype := .int) (ty := .int) (a0 := (61, .inl (fun _ => 0))) (N' := 61) hx hb (hts _ mt_78) rfl hK hP hD hS hA (fun cA => rfl) (by decide) rfl (Nat.le_of_ble_eq_true rfl) (Nat.le_of_ble_eq_true rfl) (Nat.le_of_ble_eq_true rfl) dX_init_31 (fun q4 c4 H hK hP hD hS => ?_)
  have hP : va_P (dC, dI) vwCl [(h0, .inr (0, [.ref q1, .ref q2, .ref q3, .null, .null, .int 0, .null, .null, .null, .int 0, .null, .int 0, .int 0])), (q1, .inl (c1, 61, .inl (fun _ => 0))), (q2, .inl (c2, 61, .inl (fun _ => 0))), (q3, .inl (c3, 61, .inl (fun _ => 0))), (q4, .inl (c4, 61, .inl (fun _ => 0)))] H := hP
  have hD : va_D A [(h0, .inr (0, [.ref q1, .ref q2, .ref q3, .null, .null, .int 0, .null, .null, .null, .int 0, .null, .int 0, .int 0])), (q1, .inl (c1, 61, .inl (fun _ => 0))), (q2, .inl (c2, 61, .inl (fun _ => 0))), (q3, .inl (c3, 61, .inl (fun _ => 0))), (q4, .inl (c4, 61, .inl (fun _ => 0)))] := hD
  refine W.widen (k := 4) (n := 244) (Nat.le_of_ble_eq_true rfl) (Nat.le_of_ble_eq_true rfl) ?_
  refine va_putF (D := (dC, dI)) (ci := 0) (v := .ref q4) (ty := .array .int) (C := RX) (T := TX) (N := 13) hx hb hts inX tyX tyX_ok nmX hown hK hP hD hS 0 rfl rfl 3 (by decide) (hts _ mt_40) (fun _ h9 => h9) rfl hin rfl (by decide +kernel) rfl rfl (Nat.le_of_ble_eq_true rfl) dX_init_33 (fun H locs hP hD hS => ?_)
  have hP : va_P (dC, dI) vwCl [(h0, .inr (0, [.ref q1, .ref q2, .ref q3, .ref q4, .null, .int 0, .null, .null, .null, .int 0, .null, .int 0, .int 0])), (q1, .inl (c1, 61, .inl (fun _ => 0))), (q2, .inl (c2, 61, .inl (fun _ => 0))), (q3, .inl (c3, 61, .inl (fun _ => 0))), (q4, .inl (c4, 61, .inl (fun _ => 0)))] H := hP
  have hD : va_D A [(h0, .inr (0, [.ref q1, .ref q2, .ref q3, .ref q4, .null, .int 0, .null, .null, .null, .int 0, .null, .int 0, .int 0])), (q1, .inl (c1, 61, .inl (fun _ => 0))), (q2, .inl (c2, 61, .inl (fun _ => 0))), (q3, .inl (c3, 61, .inl (fun _ => 0))), (q4, .inl (c4, 61, .inl (fun _ => 0)))] := hD
  refine lv_aload_n hx hb dX_init_36 rfl (lv_at hl 0 rfl) ?_
  refine lv_sipush (v := (2440 : Int32)) hx hb dX_init_37 (by decide) ?_
  refine va_newa (atype := .int) (ty := .int) (a0 := (2440, .inl (fun _ => 0))) (N' := 2440) hx hb (hts _ mt_78) rfl hK hP hD hS hA (fun cA => rfl) (by decide) rfl (Nat.le_of_ble_eq_true rfl) (Nat.le_of_ble_eq_true rfl) (Nat.le_of_ble_eq_true rfl) dX_init_40 (fun q5 c5 H hK hP hD hS => ?_)
  have hP : va_P (dC, dI) vwCl [(h0, .inr (0, [.ref q1, .ref q2, .ref q3, .ref q4, .null, .int 0, .null, .null, .null, .int 0, .null, .int 0, .int 0])), (q1, .inl (c1, 61, .inl (fun _ => 0))), (q2, .inl (c2, 61, .inl (fun _ => 0))), (q3, .inl (c3, 61, .inl (fun _ => 0))), (q4, .inl (c4, 61, .inl (fun _ => 0))), (q5, .inl (c5, 2440, .inl (fun _ => 0)))] H := hP
  have hD : va_D A [(h0, .inr (0, [.ref q1, .ref q2, .ref q3, .ref q4, .null, .int 0, .null, .null, .null, .int 0, .null, .int 0, .int 0])), (q1, .inl (c1, 61, .inl (fun _ => 0))), (q2, .inl (c2, 61, .inl (fun _ => 0))), (q3, .inl (c3, 61, .inl (fun _ => 0))), (q4, .inl (c4, 61, .inl (fun _ => 0))), (q5, .inl (c5, 2440, .inl (fun _ => 0)))] := hD
  refine W.widen (k := 5) (n := 2684) (Nat.le_of_ble_eq_true rfl) (Nat.le_of_ble_eq_true rfl) ?_
  refine va_putF (D := (dC, dI)) (ci := 0) (v := .ref q5) (ty := .array .int) (C := RX) (T := TX) (N := 13) hx hb hts inX tyX tyX_ok nmX hown hK hP hD hS 0 rfl rfl 4 (by decide) (hts _ mt_41) (fun _ h9 => h9) rfl hin rfl (by decide +kernel) rfl rfl (Nat.le_of_ble_eq_true rfl) dX_init_42 (fun H locs hP hD hS => ?_)
  have hP : va_P (dC, dI) vwCl [(h0, .inr (0, [.ref q1, .ref q2, .ref q3, .ref q4, .ref q5, .int 0, .null, .null, .null, .int 0, .null, .int 0, .int 0])), (q1, .inl (c1, 61, .inl (fun _ => 0))), (q2, .inl (c2, 61, .inl (fun _ => 0))), (q3, .inl (c3, 61, .inl (fun _ => 0))), (q4, .inl (c4, 61, .inl (fun _ => 0))), (q5, .inl (c5, 2440, .inl (fun _ => 0)))] H := hP
  have hD : va_D A [(h0, .inr (0, [.ref q1, .ref q2, .ref q3, .ref q4, .ref q5, .int 0, .null, .null, .null, .int 0, .null, .int 0, .int 0])), (q1, .inl (c1, 61, .inl (fun _ => 0))), (q2, .inl (c2, 61, .inl (fun _ => 0))), (q3, .inl (c3, 61, .inl (fun _ => 0))), (q4, .inl (c4, 61, .inl (fun _ => 0))), (q5, .inl (c5, 2440, .inl (fun _ => 0)))] := hD
  refine lv_aload_n hx hb dX_init_45 rfl (lv_at hl 0 rfl) ?_
  refine lv_iconst (v := (0 : Int32)) hx hb dX_init_46 (by decide) ?_
  refine va_put (D := (dC, dI)) (ci := 0) (v := .int 0) (ty := .int) (C := RX) (T := TX) (N := 13) hx hb hts inX tyX tyX_ok nmX hown hK hP hD hS 0 rfl rfl 5 (by decide) (hts _ mt_42) (fun _ h9 => h9) rfl (by decide +kernel) rfl rfl (Nat.le_of_ble_eq_true rfl) dX_init_47 (fun H locs hP hD hS => ?_)
  have hP : va_P (dC, dI) vwCl [(h0, .inr (0, [.ref q1, .ref q2, .ref q3, .ref q4, .ref q5, .int 0, .null, .null, .null, .int 0, .null, .int 0, .int 0])), (q1, .inl (c1, 61, .inl (fun _ => 0))), (q2, .inl (c2, 61, .inl (fun _ => 0))), (q3, .inl (c3, 61, .inl (fun _ => 0))), (q4, .inl (c4, 61, .inl (fun _ => 0))), (q5, .inl (c5, 2440, .inl (fun _ => 0)))] H := hP
  have hD : va_D A [(h0, .inr (0, [.ref q1, .ref q2, .ref q3, .ref q4, .ref q5, .int 0, .null, .null, .null, .int 0, .null, .int 0, .int 0])), (q1, .inl (c1, 61, .inl (fun _ => 0))), (q2, .inl (c2, 61, .inl (fun _ => 0))), (q3, .inl (c3, 61, .inl (fun _ => 0))), (q4, .inl (c4, 61, .inl (fun _ => 0))), (q5, .inl (c5, 2440, .inl (fun _ => 0)))] := hD
  refine lv_aload_n hx hb dX_init_50 rfl (lv_at hl 0 rfl) ?_
  refine lv_sipush (v := (200 : Int32)) hx hb dX_init_51 (by decide) ?_
  refine va_newa (atype := .int) (ty := .int) (a0 := (200, .inl (fun _ => 0))) (N' := 200) hx hb (hts _ mt_78) rfl hK hP hD hS hA (fun cA => rfl) (by decide) rfl (Nat.le_of_ble_eq_true rfl) (Nat.le_of_ble_eq_true rfl) (Nat.le_of_ble_eq_true rfl) dX_init_54 (fun q6 c6 H hK hP hD hS => ?_)
  have hP : va_P (dC, dI) vwCl [(h0, .inr (0, [.ref q1, .ref q2, .ref q3, .ref q4, .ref q5, .int 0, .null, .null, .null, .int 0, .null, .int 0, .int 0])), (q1, .inl (c1, 61, .inl (fun _ => 0))), (q2, .inl (c2, 61, .inl (fun _ => 0))), (q3, .inl (c3, 61, .inl (fun _ => 0))), (q4, .inl (c4, 61, .inl (fun _ => 0))), (q5, .inl (c5, 2440, .inl (fun _ => 0))), (q6, .inl (c6, 200, .inl (fun _ => 0)))] H := hP
  have hD : va_D A [(h0, .inr (0, [.ref q1, .ref q2, .ref q3, .ref q4, .ref q5, .int 0, .null, .null, .null, .int 0, .null, .int 0, .int 0])), (q1, .inl (c1, 61, .inl (fun _ => 0))), (q2, .inl (c2, 61, .inl (fun _ => 0))), (q3, .inl (c3, 61, .inl (fun _ => 0))), (q4, .inl (c4, 61, .inl (fun _ => 0))), (q5, .inl (c5, 2440, .inl (fun _ => 0))), (q6, .inl (c6, 200, .inl (fun _ => 0)))] := hD
  refine W.widen (k := 6) (n := 2884) (Nat.le_of_ble_eq_true rfl) (Nat.le_of_ble_eq_true rfl) ?_
  refine va_putF (D := (dC, dI)) (ci := 0) (v := .ref q6) (ty := .array .int) (C := RX) (T := TX) (N := 13) hx hb hts inX tyX tyX_ok nmX hown hK hP hD hS 0 rfl rfl 6 (by decide) (hts _ mt_43) (fun _ h9 => h9) rfl hin rfl (by decide +kernel) rfl rfl (Nat.le_of_ble_eq_true rfl) dX_init_56 (fun H locs hP hD hS => ?_)
  have hP : va_P (dC, dI) vwCl [(h0, .inr (0, [.ref q1, .ref q2, .ref q3, .ref q4, .ref q5, .int 0, .ref q6, .null, .null, .int 0, .null, .int 0, .int 0])), (q1, .inl (c1, 61, .inl (fun _ => 0))), (q2, .inl (c2, 61, .inl (fun _ => 0))), (q3, .inl (c3, 61, .inl (fun _ => 0))), (q4, .inl (c4, 61, .inl (fun _ => 0))), (q5, .inl (c5, 2440, .inl (fun _ => 0))), (q6, .inl (c6, 200, .inl (fun _ => 0)))] H := hP
  have hD : va_D A [(h0, .inr (0, [.ref q1, .ref q2, .ref q3, .ref q4, .ref q5, .int 0, .ref q6, .null, .null, .int 0, .null, .int 0, .int 0])), (q1, .inl (c1, 61, .inl (fun _ => 0))), (q2, .inl (c2, 61, .inl (fun _ => 0))), (q3, .inl (c3, 61, .inl (fun _ => 0))), (q4, .inl (c4, 61, .inl (fun _ => 0))), (q5, .inl (c5, 2440, .inl (fun _ => 0))), (q6, .inl (c6, 200, .inl (fun _ => 0)))] := hD
  refine lv_aload_n hx hb dX_init_59 rfl (lv_at hl 0 rfl) ?_
  refine lv_sipush (v := (200 : Int32)) hx hb dX_init_60 (by decide) ?_
  refine va_newa (atype := .int) (ty := .int) (a0 := (200, .inl (fun _ => 0))) (N' := 200) hx hb (hts _ mt_78) rfl hK hP hD hS hA (fun cA => rfl) (by decide) rfl (Nat.le_of_ble_eq_true rfl) (Nat.le_of_ble_eq_true rfl) (Nat.le_of_ble_eq_true rfl) dX_init_63 (fun q7 c7 H hK hP hD hS => ?_)
  have hP : va_P (dC, dI) vwCl [(h0, .inr (0, [.ref q1, .ref q2, .ref q3, .ref q4, .ref q5, .int 0, .ref q6, .null, .null, .int 0, .null, .int 0, .int 0])), (q1, .inl (c1, 61, .inl (fun _ => 0))), (q2, .inl (c2, 61, .inl (fun _ => 0))), (q3, .inl (c3, 61, .inl (fun _ => 0))), (q4, .inl (c4, 61, .inl (fun _ => 0))), (q5, .inl (c5, 2440, .inl (fun _ => 0))), (q6, .inl (c6, 200, .inl (fun _ => 0))), (q7, .inl (c7, 200, .inl (fun _ => 0)))] H := hP
  have hD : va_D A [(h0, .inr (0, [.ref q1, .ref q2, .ref q3, .ref q4, .ref q5, .int 0, .ref q6, .null, .null, .int 0, .null, .int 0, .int 0])), (q1, .inl (c1, 61, .inl (fun _ => 0))), (q2, .inl (c2, 61, .inl (fun _ => 0))), (q3, .inl (c3, 61, .inl (fun _ => 0))), (q4, .inl (c4, 61, .inl (fun _ => 0))), (q5, .inl (c5, 2440, .inl (fun _ => 0))), (q6, .inl (c6, 200, .inl (fun _ => 0))), (q7, .inl (c7, 200, .inl (fun _ => 0)))] := hD
  refine W.widen (k := 7) (n := 3084) (Nat.le_of_ble_eq_true rfl) (Nat.le_of_ble_eq_true rfl) ?_
  refine va_putF (D := (dC, dI)) (ci := 0) (v := .ref q7) (ty := .array .int) (C := RX) (T := TX) (N := 13) hx hb hts inX tyX tyX_ok nmX hown hK hP hD hS 0 rfl rfl 7 (by decide) (hts _ mt_44) (fun _ h9 => h9) rfl hin rfl (by decide +kernel) rfl rfl (Nat.le_of_ble_eq_true rfl) dX_init_65 (fun H locs hP hD hS => ?_)
  have hP : va_P (dC, dI) vwCl [(h0, .inr (0, [.ref q1, .ref q2, .ref q3, .ref q4, .ref q5, .int 0, .ref q6, .ref q7, .null, .int 0, .null, .int 0, .int 0])), (q1, .inl (c1, 61, .inl (fun _ => 0))), (q2, .inl (c2, 61, .inl (fun _ => 0))), (q3, .inl (c3, 61, .inl (fun _ => 0))), (q4, .inl (c4, 61, .inl (fun _ => 0))), (q5, .inl (c5, 2440, .inl (fun _ => 0))), (q6, .inl (c6, 200, .inl (fun _ => 0))), (q7, .inl (c7, 200, .inl (fun _ => 0)))] H := hP
  have hD : va_D A [(h0, .inr (0, [.ref q1, .ref q2, .ref q3, .ref q4, .ref q5, .int 0, .ref q6, .ref q7, .null, .int 0, .null, .int 0, .int 0])), (q1, .inl (c1, 61, .inl (fun _ => 0))), (q2, .inl (c2, 61, .inl (fun _ => 0))), (q3, .inl (c3, 61, .inl (fun _ => 0))), (q4, .inl (c4, 61, .inl (fun _ => 0))), (q5, .inl (c5, 2440, .inl (fun _ => 0))), (q6, .inl (c6, 200, .inl (fun _ => 0))), (q7, .inl (c7, 200, .inl (fun _ => 0)))] := hD
  refine lv_aload_n hx hb dX_init_68 rfl (lv_at hl 0 rfl) ?_
  refine lv_sipush (v := (200 : Int32)) hx hb dX_init_69 (by decide) ?_
  refine va_newa (atype := .int) (ty := .int) (a0 := (200, .inl (fun _ => 0))) (N' := 200) hx hb (hts _ mt_78) rfl hK hP hD hS hA (fun cA => rfl) (by decide) rfl (Nat.le_of_ble_eq_true rfl) (Nat.le_of_ble_eq_true rfl) (Nat.le_of_ble_eq_true rfl) dX_init_72 (fun q8 c8 H hK hP hD hS => ?_)
  have hP : va_P (dC, dI) vwCl [(h0, .inr (0, [.ref q1, .ref q2, .ref q3, .ref q4, .ref q5, .int 0, .ref q6, .ref q7, .null, .int 0, .null, .int 0, .int 0])), (q1, .inl (c1, 61, .inl (fun _ => 0))), (q2, .inl (c2, 61, .inl (fun _ => 0))), (q3, .inl (c3, 61, .inl (fun _ => 0))), (q4, .inl (c4, 61, .inl (fun _ => 0))), (q5, .inl (c5, 2440, .inl (fun _ => 0))), (q6, .inl (c6, 200, .inl (fun _ => 0))), (q7, .inl (c7, 200, .inl (fun _ => 0))), (q8, .inl (c8, 200, .inl (fun _ => 0)))] H := hP
  have hD : va_D A [(h0, .inr (0, [.ref q1, .ref q2, .ref q3, .ref q4, .ref q5, .int 0, .ref q6, .ref q7, .null, .int 0, .null, .int 0, .int 0])), (q1, .inl (c1, 61, .inl (fun _ => 0))), (q2, .inl (c2, 61, .inl (fun _ => 0))), (q3, .inl (c3, 61, .inl (fun _ => 0))), (q4, .inl (c4, 61, .inl (fun _ => 0))), (q5, .inl (c5, 2440, .inl (fun _ => 0))), (q6, .inl (c6, 200, .inl (fun _ => 0))), (q7, .inl (c7, 200, .inl (fun _ => 0))), (q8, .inl (c8, 200, .inl (fun _ => 0)))] := hD
  refine W.widen (k := 8) (n := 3284) (Nat.le_of_ble_eq_true rfl) (Nat.le_of_ble_eq_true rfl) ?_
  refine va_putF (D := (dC, dI)) (ci := 0) (v := .ref q8) (ty := .array .int) (C := RX) (T := TX) (N := 13) hx hb hts inX tyX tyX_ok nmX hown hK hP hD hS 0 rfl rfl 8 (by decide) (hts _ mt_45) (fun _ h9 => h9) rfl hin rfl (by decide +kernel) rfl rfl (Nat.le_of_ble_eq_true rfl) dX_init_74 (fun H locs hP hD hS => ?_)
  have hP : va_P (dC, dI) vwCl [(h0, .inr (0, [.ref q1, .ref q2, .ref q3, .ref q4, .ref q5, .int 0, .ref q6, .ref q7, .ref q8, .int 0, .null, .int 0, .int 0])), (q1, .inl (c1, 61, .inl (fun _ => 0))), (q2, .inl (c2, 61, .inl (fun _ => 0))), (q3, .inl (c3, 61, .inl (fun _ => 0))), (q4, .inl (c4, 61, .inl (fun _ => 0))), (q5, .inl (c5, 2440, .inl (fun _ => 0))), (q6, .inl (c6, 200, .inl (fun _ => 0))), (q7, .inl (c7, 200, .inl (fun _ => 0))), (q8, .inl (c8, 200, .inl (fun _ => 0)))] H := hP
  have hD : va_D A [(h0, .inr (0, [.ref q1, .ref q2, .ref q3, .ref q4, .ref q5, .int 0, .ref q6, .ref q7, .ref q8, .int 0, .null, .int 0, .int 0])), (q1, .inl (c1, 61, .inl (fun _ => 0))), (q2, .inl (c2, 61, .inl (fun _ => 0))), (q3, .inl (c3, 61, .inl (fun _ => 0))), (q4, .inl (c4, 61, .inl (fun _ => 0))), (q5, .inl (c5, 2440, .inl (fun _ => 0))), (q6, .inl (c6, 200, .inl (fun _ => 0))), (q7, .inl (c7, 200, .inl (fun _ => 0))), (q8, .inl (c8, 200, .inl (fun _ => 0)))] := hD
  refine lv_aload_n hx hb dX_init_77 rfl (lv_at hl 0 rfl) ?_
  refine lv_iconst (v := (0 : Int32)) hx hb dX_init_78 (by decide) ?_
  refine va_put (D := (dC, dI)) (ci := 0) (v := .int 0) (ty := .int) (C := RX) (T := TX) (N := 13) hx hb hts inX tyX tyX_ok nmX hown hK hP hD hS 0 rfl rfl 9 (by decide) (hts _ mt_46) (fun _ h9 => h9) rfl (by decide +kernel) rfl rfl (Nat.le_of_ble_eq_true rfl) dX_init_79 (fun H locs hP hD hS => ?_)
  have hP : va_P (dC, dI) vwCl [(h0, .inr (0, [.ref q1, .ref q2, .ref q3, .ref q4, .ref q5, .int 0, .ref q6, .ref q7, .ref q8, .int 0, .null, .int 0, .int 0])), (q1, .inl (c1, 61, .inl (fun _ => 0))), (q2, .inl (c2, 61, .inl (fun _ => 0))), (q3, .inl (c3, 61, .inl (fun _ => 0))), (q4, .inl (c4, 61, .inl (fun _ => 0))), (q5, .inl (c5, 2440, .inl (fun _ => 0))), (q6, .inl (c6, 200, .inl (fun _ => 0))), (q7, .inl (c7, 200, .inl (fun _ => 0))), (q8, .inl (c8, 200, .inl (fun _ => 0)))] H := hP
  have hD : va_D A [(h0, .inr (0, [.ref q1, .ref q2, .ref q3, .ref q4, .ref q5, .int 0, .ref q6, .ref q7, .ref q8, .int 0, .null, .int 0, .int 0])), (q1, .inl (c1, 61, .inl (fun _ => 0))), (q2, .inl (c2, 61, .inl (fun _ => 0))), (q3, .inl (c3, 61, .inl (fun _ => 0))), (q4, .inl (c4, 61, .inl (fun _ => 0))), (q5, .inl (c5, 2440, .inl (fun _ => 0))), (q6, .inl (c6, 200, .inl (fun _ => 0))), (q7, .inl (c7, 200, .inl (fun _ => 0))), (q8, .inl (c8, 200, .inl (fun _ => 0)))] := hD
  refine lv_aload_n hx hb dX_init_82 rfl (lv_at hl 0 rfl) ?_
  refine lv_bipush (v := (60 : Int32)) hx hb dX_init_83 (by decide) ?_
  refine va_newa (atype := .int) (ty := .int) (a0 := (60, .inl (fun _ => 0))) (N' := 60) hx hb (hts _ mt_78) rfl hK hP hD hS hA (fun cA => rfl) (by decide) rfl (Nat.le_of_ble_eq_true rfl) (Nat.le_of_ble_eq_true rfl) (Nat.le_of_ble_eq_true rfl) dX_init_85 (fun q9 c9 H hK hP hD hS => ?_)
  have hP : va_P (dC, dI) vwCl [(h0, .inr (0, [.ref q1, .ref q2, .ref q3, .ref q4, .ref q5, .int 0, .ref q6, .ref q7, .ref q8, .int 0, .null, .int 0, .int 0])), (q1, .inl (c1, 61, .inl (fun _ => 0))), (q2, .inl (c2, 61, .inl (fun _ => 0))), (q3, .inl (c3, 61, .inl (fun _ => 0))), (q4, .inl (c4, 61, .inl (fun _ => 0))), (q5, .inl (c5, 2440, .inl (fun _ => 0))), (q6, .inl (c6, 200, .inl (fun _ => 0))), (q7, .inl (c7, 200, .inl (fun _ => 0))), (q8, .inl (c8, 200, .inl (fun _ => 0))), (q9, .inl (c9, 60, .inl (fun _ => 0)))] H := hP
  have hD : va_D A [(h0, .inr (0, [.ref q1, .ref q2, .ref q3, .ref q4, .ref q5, .int 0, .ref q6, .ref q7, .ref q8, .int 0, .null, .int 0, .int 0])), (q1, .inl (c1, 61, .inl (fun _ => 0))), (q2, .inl (c2, 61, .inl (fun _ => 0))), (q3, .inl (c3, 61, .inl (fun _ => 0))), (q4, .inl (c4, 61, .inl (fun _ => 0))), (q5, .inl (c5, 2440, .inl (fun _ => 0))), (q6, .inl (c6, 200, .inl (fun _ => 0))), (q7, .inl (c7, 200, .inl (fun _ => 0))), (q8, .inl (c8, 200, .inl (fun _ => 0))), (q9, .inl (c9, 60, .inl (fun _ => 0)))] := hD
  refine W.widen (k := 9) (n := 3344) (Nat.le_of_ble_eq_true rfl) (Nat.le_of_ble_eq_true rfl) ?_
  refine va_putF (D := (dC, dI)) (ci := 0) (v := .ref q9) (ty := .array .int) (C := RX) (T := TX) (N := 13) hx hb hts inX tyX tyX_ok nmX hown hK hP hD hS 0 rfl rfl 10 (by decide) (hts _ mt_47) (fun _ h9 => h9) rfl hin rfl (by decide +kernel) rfl rfl (Nat.le_of_ble_eq_true rfl) dX_init_87 (fun H locs hP hD hS => ?_)
  have hP : va_P (dC, dI) vwCl [(h0, .inr (0, [.ref q1, .ref q2, .ref q3, .ref q4, .ref q5, .int 0, .ref q6, .ref q7, .ref q8, .int 0, .ref q9, .int 0, .int 0])), (q1, .inl (c1, 61, .inl (fun _ => 0))), (q2, .inl (c2, 61, .inl (fun _ => 0))), (q3, .inl (c3, 61, .inl (fun _ => 0))), (q4, .inl (c4, 61, .inl (fun _ => 0))), (q5, .inl (c5, 2440, .inl (fun _ => 0))), (q6, .inl (c6, 200, .inl (fun _ => 0))), (q7, .inl (c7, 200, .inl (fun _ => 0))), (q8, .inl (c8, 200, .inl (fun _ => 0))), (q9, .inl (c9, 60, .inl (fun _ => 0)))] H := hP
  have hD : va_D A [(h0, .inr (0, [.ref q1, .ref q2, .ref q3, .ref q4, .ref q5, .int 0, .ref q6, .ref q7, .ref q8, .int 0, .ref q9, .int 0, .int 0])), (q1, .inl (c1, 61, .inl (fun _ => 0))), (q2, .inl (c2, 61, .inl (fun _ => 0))), (q3, .inl (c3, 61, .inl (fun _ => 0))), (q4, .inl (c4, 61, .inl (fun _ => 0))), (q5, .inl (c5, 2440, .inl (fun _ => 0))), (q6, .inl (c6, 200, .inl (fun _ => 0))), (q7, .inl (c7, 200, .inl (fun _ => 0))), (q8, .inl (c8, 200, .inl (fun _ => 0))), (q9, .inl (c9, 60, .inl (fun _ => 0)))] := hD
  refine lv_aload_n hx hb dX_init_90 rfl (lv_at hl 0 rfl) ?_
  refine lv_iconst (v := (0 : Int32)) hx hb dX_init_91 (by decide) ?_
  refine va_put (D := (dC, dI)) (ci := 0) (v := .int 0) (ty := .int) (C := RX) (T := TX) (N := 13) hx hb hts inX tyX tyX_ok nmX hown hK hP hD hS 0 rfl rfl 11 (by decide) (hts _ mt_48) (fun _ h9 => h9) rfl (by decide +kernel) rfl rfl (Nat.le_of_ble_eq_true rfl) dX_init_92 (fun H locs hP hD hS => ?_)
  have hP : va_P (dC, dI) vwCl [(h0, .inr (0, [.ref q1, .ref q2, .ref q3, .ref q4, .ref q5, .int 0, .ref q6, .ref q7, .ref q8, .int 0, .ref q9, .int 0, .int 0])), (q1, .inl (c1, 61, .inl (fun _ => 0))), (q2, .inl (c2, 61, .inl (fun _ => 0))), (q3, .inl (c3, 61, .inl (fun _ => 0))), (q4, .inl (c4, 61, .inl (fun _ => 0))), (q5, .inl (c5, 2440, .inl (fun _ => 0))), (q6, .inl (c6, 200, .inl (fun _ => 0))), (q7, .inl (c7, 200, .inl (fun _ => 0))), (q8, .inl (c8, 200, .inl (fun _ => 0))), (q9, .inl (c9, 60, .inl (fun _ => 0)))] H := hP
  have hD : va_D A [(h0, .inr (0, [.ref q1, .ref q2, .ref q3, .ref q4, .ref q5, .int 0, .ref q6, .ref q7, .ref q8, .int 0, .ref q9, .int 0, .int 0])), (q1, .inl (c1, 61, .inl (fun _ => 0))), (q2, .inl (c2, 61, .inl (fun _ => 0))), (q3, .inl (c3, 61, .inl (fun _ => 0))), (q4, .inl (c4, 61, .inl (fun _ => 0))), (q5, .inl (c5, 2440, .inl (fun _ => 0))), (q6, .inl (c6, 200, .inl (fun _ => 0))), (q7, .inl (c7, 200, .inl (fun _ => 0))), (q8, .inl (c8, 200, .inl (fun _ => 0))), (q9, .inl (c9, 60, .inl (fun _ => 0)))] := hD
  refine lv_aload_n hx hb dX_init_95 rfl (lv_at hl 0 rfl) ?_
  refine lv_iconst (v := (0 : Int32)) hx hb dX_init_96 (by decide) ?_
  refine va_put (D := (dC, dI)) (ci := 0) (v := .int 0) (ty := .int) (C := RX) (T := TX) (N := 13) hx hb hts inX tyX tyX_ok nmX hown hK hP hD hS 0 rfl rfl 12 (by decide) (hts _ mt_49) (fun _ h9 => h9) rfl (by decide +kernel) rfl rfl (Nat.le_of_ble_eq_true rfl) dX_init_97 (fun H locs hP hD hS => ?_)
  have hP : va_P (dC, dI) vwCl [(h0, .inr (0, [.ref q1, .ref q2, .ref q3, .ref q4, .ref q5, .int 0, .ref q6, .ref q7, .ref q8, .int 0, .ref q9, .int 0, .int 0])), (q1, .inl (c1, 61, .inl (fun _ => 0))), (q2, .inl (c2, 61, .inl (fun _ => 0))), (q3, .inl (c3, 61, .inl (fun _ => 0))), (q4, .inl (c4, 61, .inl (fun _ => 0))), (q5, .inl (c5, 2440, .inl (fun _ => 0))), (q6, .inl (c6, 200, .inl (fun _ => 0))), (q7, .inl (c7, 200, .inl (fun _ => 0))), (q8, .inl (c8, 200, .inl (fun _ => 0))), (q9, .inl (c9, 60, .inl (fun _ => 0)))] H := hP
  have hD : va_D A [(h0, .inr (0, [.ref q1, .ref q2, .ref q3, .ref q4, .ref q5, .int 0, .ref q6, .ref q7, .ref q8, .int 0, .ref q9, .int 0, .int 0])), (q1, .inl (c1, 61, .inl (fun _ => 0))), (q2, .inl (c2, 61, .inl (fun _ => 0))), (q3, .inl (c3, 61, .inl (fun _ => 0))), (q4, .inl (c4, 61, .inl (fun _ => 0))), (q5, .inl (c5, 2440, .inl (fun _ => 0))), (q6, .inl (c6, 200, .inl (fun _ => 0))), (q7, .inl (c7, 200, .inl (fun _ => 0))), (q8, .inl (c8, 200, .inl (fun _ => 0))), (q9, .inl (c9, 60, .inl (fun _ => 0)))] := hD
  have e3 : c2 = c3 := Option.some.inj ((show s.vm.findClass ("[" ++ FieldType.int.toString) = some c2 from (hK.2 1 _ rfl).2).symm.trans (show s.vm.findClass ("[" ++ FieldType.int.toString) = some c3 from (hK.2 2 _ rfl).2))
  subst e3
  have e4 : c2 = c4 := Option.some.inj ((show s.vm.findClass ("[" ++ FieldType.int.toString) = some c2 from (hK.2 1 _ rfl).2).symm.trans (show s.vm.findClass ("[" ++ FieldType.int.toString) = some c4 from (hK.2 3 _ rfl).2))
  subst e4
  have e5 : c2 = c5 := Option.some.inj ((show s.vm.findClass ("[" ++ FieldType.int.toString) = some c2 from (hK.2 1 _ rfl).2).symm.trans (show s.vm.findClass ("[" ++ FieldType.int.toString) = some c5 from (hK.2 4 _ rfl).2))
  subst e5
  have e6 : c2 = c6 := Option.some.inj ((show s.vm.findClass ("[" ++ FieldType.int.toString) = some c2 from (hK.2 1 _ rfl).2).symm.trans (show s.vm.findClass ("[" ++ FieldType.int.toString) = some c6 from (hK.2 5 _ rfl).2))
  subst e6
  have e7 : c2 = c7 := Option.some.inj ((show s.vm.findClass ("[" ++ FieldType.int.toString) = some c2 from (hK.2 1 _ rfl).2).symm.trans (show s.vm.findClass ("[" ++ FieldType.int.toString) = some c7 from (hK.2 6 _ rfl).2))
  subst e7
  have e8 : c2 = c8 := Option.some.inj ((show s.vm.findClass ("[" ++ FieldType.int.toString) = some c2 from (hK.2 1 _ rfl).2).symm.trans (show s.vm.findClass ("[" ++ FieldType.int.toString) = some c8 from (hK.2 7 _ rfl).2))
  subst e8
  have e9 : c2 = c9 := Option.some.inj ((show s.vm.findClass ("[" ++ FieldType.int.toString) = some c2 from (hK.2 1 _ rfl).2).symm.trans (show s.vm.findClass ("[" ++ FieldType.int.toString) = some c9 from (hK.2 8 _ rfl).2))
  subst e9
  have hK9 := hK.sub (tys' := [(c2, .int), (c1, .boolean)]) [1, 0] rfl
  exact W.vret hx hb hr (fun t ht hW => ⟨⟨(), rfl, trivial, fun k => match k with
    | 0 => h0
    | 1 => q1
    | 2 => q2
    | 3 => q3
    | 4 => q4
    | 5 => q5
    | 6 => q6
    | 7 => q7
    | 8 => q8
    | _ => q9, c2, c1, rfl, by rw [ht]; exact hP, va_K.moved hW.alike hK9, hD⟩, hS.F ht⟩) hS.2.2 dX_init_100
def m_zero : MSt := (0, 0, (fun _ => 0), (fun _ => 0), (fun _ => 0), (fun _ => 0), (fun _ => 0), 0, 0, (fun _ => 0), (fun _ => 0), (fun _ => 0), (fun _ => 0), 0)
def at_M (dC : Nat → ClassId) (dI : Nat → Nat → Nat) (A : Nat → Prop) (h0 : Nat) (t : State) : Prop := ∃ (a : Nat → Nat) (cI cZ : ClassId), a 0 = h0 ∧ va_P (dC, dI) vwCl (w_M a cI cZ m_zero) t.heap ∧ va_K (dC, dI) vwCl [(cI, .int), (cZ, .boolean)] t ∧ va_D A (w_M a cI cZ m_zero)
set_option maxHeartbeats 4000000 in
set_option maxRecDepth 100000 in
theorem kM_init (l : Launch) (dC : Nat → ClassId) (dI : Nat → Nat → Nat) (h0 : Nat) (sz : Nat) : Met l yM_init wdM_init ({ frames := 1, cells := 9, slots := 3345, locals := 12 } : Room) (va_Pc [.ref h0] (fun U => U.heap.size = sz ∧ va_P (dC, dI) vwCl [(h0, .inr (1, [.int 0, .int 0, .null, .null, .null, .null, .null, .int 0, .int 0, .null, .null, .null, .null, .int 0]))] U.heap ∧ va_K (dC, dI) vwCl [] U ∧ va_D (fun _ => True) [(h0, .inr (1, [.int 0, .int 0, .null, .null, .null, .null, .null, .int 0, .int 0, .null, .null, .null, .null, .int 0]))])) (va_Qv (fun _ : Unit => True) (fun _ t => at_M dC dI (va_A [(h0, .inr (1, [.int 0, .int 0, .null, .null, .null, .null, .null, .int 0, .int 0, .null, .null, .null, .null, .int 0]))] sz) h0 t) (va_A [(h0, .inr (1, [.int 0, .int 0, .null, .null, .null, .null, .null, .int 0, .int 0, .null, .null, .null, .null, .int 0]))] sz)) 9 3345 (va_A [(h0, .inr (1, [.int 0, .int 0, .null, .null, .null, .null, .null, .int 0, .int 0, .null, .null, .null, .null, .int 0]))] sz) := by
  refine Met.ofW (cc := cM_init) (maxL := 1) (ret := none) (by decide) rfl ?_
  intro p e s m args below meth c s₁ B hml hv
  obtain ⟨rfl, hsz, hP, hK, hD0⟩ := hv
  have hx := B.exec
  have hb := B.bytes
  have hr := B.returns
  have hts0 := atoms_spec (ws := wdM_init) B.pre
  have hts : ∀ w ∈ lw_g, w.before _ s = true := fun w h => hts0 w (List.mem_cons_of_mem _ h)
  have hown : s.vm.findClass RM = some m.cls := findClass_of_methodNamed B.named
  have hlocks := B.notSynchronized
  have hin : meth.name = "<init>" := (name_of_methodNamed B.named B.method).1
  subst hsz
  have hD := hD0.self (sz := s.heap.size)
  generalize hAe : va_A [(h0, .inr (1, [.int 0, .int 0, .null, .null, .null, .null, .null, .int 0, .int 0, .null, .null, .null, .null, .int 0]))] s.heap.size = A at hD ⊢
  have hA : ∀ q : Nat, s.heap.size ≤ q → A q := fun q h => by rw [← hAe]; exact Or.inr h
  have hS : va_S A s.heap s.heap [] := va_S.rf
  have hl := lv_entry ([.ref h0]) (n := 1) (Nat.le_of_ble_eq_true rfl)
  rw [lg_entry_eq]
  generalize (lg_sl ([.ref h0]) ++ List.replicate (1 - (lg_sl ([.ref h0])).length) Slot.unset).toArray = ls at hl ⊢
  have hl : lv_has ls 1 [(0, .ref h0)] := hl
  refine lv_aload_n hx hb dM_init_0 rfl (lv_at hl 0 rfl) ?_
  refine W.objInit hx hb hown (hts _ mt_211) (hts _ mt_35) (hts _ mt_36) rfl (by rw [hml]; exact hl.1) rfl dM_init_1 (Nat.le_of_ble_eq_true rfl) (Nat.le_of_ble_eq_true rfl) ?_
  refine W.eq (g2 := F0 m 4 ls []) rfl ?_
  refine lv_aload_n hx hb dM_init_4 rfl (lv_at hl 0 rfl) ?_
  refine lv_bipush (v := (61 : Int32)) hx hb dM_init_5 (by decide) ?_
  refine va_newa (atype := .boolean) (ty := .boolean) (a0 := (61, .inl (fun _ => 0))) (N' := 61) hx hb (hts _ mt_77) rfl hK hP hD hS hA (fun cA => rfl) (by decide) rfl (Nat.le_of_ble_eq_true rfl) (Nat.le_of_ble_eq_true rfl) (Nat.le_of_ble_eq_true rfl) dM_init_7 (fun q1 c1 H hK hP hD hS => ?_)
  have hP : va_P (dC, dI) vwCl [(h0, .inr (1, [.int 0, .int 0, .null, .null, .null, .null, .null, .int 0, .int 0, .null, .null, .null, .null, .int 0])), (q1, .inl (c1, 61, .inl (fun _ => 0)))] H := hP
  have hD : va_D A [(h0, .inr (1, [.int 0, .int 0, .null, .null, .null, .null, .null, .int 0, .int 0, .null, .null, .null, .null, .int 0])), (q1, .inl (c1, 61, .inl (fun _ => 0)))] := hD
  refine W.widen (k := 1) (n := 61) (Nat.le_of_ble_eq_true rfl) (Nat.le_of_ble_eq_true rfl) ?_
  refine va_putF (D := (dC, dI)) (ci := 1) (v := .ref q1) (ty := .array .boolean) (C := RM) (T := TM) (N := 14) hx hb hts inM tyM tyM_ok nmM hown hK hP hD hS 0 rfl rfl 2 (by decide) (hts _ mt_214) (fun _ h9 => h9) rfl hin rfl (by decide +kernel) rfl rfl (Nat.le_of_ble_eq_true rfl) dM_init_9 (fun H locs hP hD hS => ?_)
  have hP : va_P (dC, dI) vwCl [(h0, .inr (1, [.int 0, .int 0, .ref q1, .null, .null, .null, .null, .int 0, .int 0, .null, .null, .null, .null, .int 0])), (q1, .inl (c1, 61, .inl (fun _ => 0)))] H := hP
  have hD : va_D A [(h0, .inr (1, [.int 0, .int 0, .ref q1, .null, .null, .null, .null, .int 0, .int 0, .null, .null, .null, .null, .int 0])), (q1, .inl (c1, 61, .inl (fun _ => 0)))] := hD
  refine lv_aload_n hx hb dM_init_12 rfl (lv_at hl 0 rfl) ?_
  refine lv_bipush (v := (61 : Int32)) hx hb dM_init_13 (by decide) ?_
  refine va_newa (atype := .int) (ty := .int) (a0 := (61, .inl (fun _ => 0))) (N' := 61) hx hb (hts _ mt_78) rfl hK hP hD hS hA (fun cA => rfl) (by decide) rfl (Nat.le_of_ble_eq_true rfl) (Nat.le_of_ble_eq_true rfl) (Nat.le_of_ble_eq_true rfl) dM_init_15 (fun q2 c2 H hK hP hD hS => ?_)
  have hP : va_P (dC, dI) vwCl [(h0, .inr (1, [.int 0, .int 0, .ref q1, .null, .null, .null, .null, .int 0, .int 0, .null, .null, .null, .null, .int 0])), (q1, .inl (c1, 61, .inl (fun _ => 0))), (q2, .inl (c2, 61, .inl (fun _ => 0)))] H := hP
  have hD : va_D A [(h0, .inr (1, [.int 0, .int 0, .ref q1, .null, .null, .null, .null, .int 0, .int 0, .null, .null, .null, .null, .int 0])), (q1, .inl (c1, 61, .inl (fun _ => 0))), (q2, .inl (c2, 61, .inl (fun _ => 0)))] := hD
  refine W.widen (k := 2) (n := 122) (Nat.le_of_ble_eq_true rfl) (Nat.le_of_ble_eq_true rfl) ?_
  refine va_putF (D := (dC, dI)) (ci := 1) (v := .ref q2) (ty := .array .int) (C := RM) (T := TM) (N := 14) hx hb hts inM tyM tyM_ok nmM hown hK hP hD hS 0 rfl rfl 3 (by decide) (hts _ mt_215) (fun _ h9 => h9) rfl hin rfl (by decide +kernel) rfl rfl (Nat.le_of_ble_eq_true rfl) dM_init_17 (fun H locs hP hD hS => ?_)
  have hP : va_P (dC, dI) vwCl [(h0, .inr (1, [.int 0, .int 0, .ref q1, .ref q2, .null, .null, .null, .int 0, .int 0, .null, .null, .null, .null, .int 0])), (q1, .inl (c1, 61, .inl (fun _ => 0))), (q2, .inl (c2, 61, .inl (fun _ => 0)))] H := hP
  have hD : va_D A [(h0, .inr (1, [.int 0, .int 0, .ref q1, .ref q2, .null, .null, .null, .int 0, .int 0, .null, .null, .null, .null, .int 0])), (q1, .inl (c1, 61, .inl (fun _ => 0))), (q2, .inl (c2, 61, .inl (fun _ => 0)))] := hD
  refine lv_aload_n hx hb dM_init_20 rfl (lv_at hl 0 rfl) ?_
  refine lv_bipush (v := (61 : Int32)) hx hb dM_init_21 (by decide) ?_
  refine va_newa (atype := .int) (ty := .int) (a0 := (61, .inl (fun _ => 0))) (N' := 61) hx hb (hts _ mt_78) rfl hK hP hD hS hA (fun cA => rfl) (by decide) rfl (Nat.le_of_ble_eq_true rfl) (Nat.le_of_ble_eq_true rfl) (Nat.le_of_ble_eq_true rfl) dM_init_23 (fun q3 c3 H hK hP hD hS => ?_)
  have hP : va_P (dC, dI) vwCl [(h0, .inr (1, [.int 0, .int 0, .ref q1, .ref q2, .null, .null, .null, .int 0, .int 0, .null, .null, .null, .null, .int 0])), (q1, .inl (c1, 61, .inl (fun _ => 0))), (q2, .inl (c2, 61, .inl (fun _ => 0))), (q3, .inl (c3, 61, .inl (fun _ => 0)))] H := hP
  have hD : va_D A [(h0, .inr (1, [.int 0, .int 0, .ref q1, .ref q2, .null, .null, .null, .int 0, .int 0, .null, .null, .null, .null, .int 0])), (q1, .inl (c1, 61, .inl (fun _ => 0))), (q2, .inl (c2, 61, .inl (fun _ => 0))), (q3, .inl (c3, 61, .inl (fun _ => 0)))] := hD
  refine W.widen (k := 3) (n := 183) (Nat.le_of_ble_eq_true rfl) (Nat.le_of_ble_eq_true rfl) ?_
  refine va_putF (D := (dC, dI)) (ci := 1) (v := .ref q3) (ty := .array .int) (C := RM) (T := TM) (N := 14) hx hb hts inM tyM tyM_ok nmM hown hK hP hD hS 0 rfl rfl 4 (by decide) (hts _ mt_216) (fun _ h9 => h9) rfl hin rfl (by decide +kernel) rfl rfl (Nat.le_of_ble_eq_true rfl) dM_init_25 (fun H locs hP hD hS => ?_)
  have hP : va_P (dC, dI) vwCl [(h0, .inr (1, [.int 0, .int 0, .ref q1, .ref q2, .ref q3, .null, .null, .int 0, .int 0, .null, .null, .null, .null, .int 0])), (q1, .inl (c1, 61, .inl (fun _ => 0))), (q2, .inl (c2, 61, .inl (fun _ => 0))), (q3, .inl (c3, 61, .inl (fun _ => 0)))] H := hP
  have hD : va_D A [(h0, .inr (1, [.int 0, .int 0, .ref q1, .ref q2, .ref q3, .null, .null, .int 0, .int 0, .null, .null, .null, .null, .int 0])), (q1, .inl (c1, 61, .inl (fun _ => 0))), (q2, .inl (c2, 61, .inl (fun _ => 0))), (q3, .inl (c3, 61, .inl (fun _ => 0)))] := hD
  refine lv_aload_n hx hb dM_init_28 rfl (lv_at hl 0 rfl) ?_
  refine lv_sipush (v := (2440 : Int32)) hx hb dM_init_29 (by decide) ?_
  refine va_newa (atype := .int) (ty := .int) (a0 := (2440, .inl (fun _ => 0))) (N' := 2440) hx hb (hts _ mt_78) rfl hK hP hD hS hA (fun cA => rfl) (by decide) rfl (Nat.le_of_ble_eq_true rfl) (Nat.le_of_ble_eq_true rfl) (Nat.le_of_ble_eq_true rfl) dM_init_32 (fun q4 c4 H hK hP hD hS => ?_)
  have hP : va_P (dC, dI) vwCl [(h0, .inr (1, [.int 0, .int 0, .ref q1, .ref q2, .ref q3, .null, .null, .int 0, .int 0, .null, .null, .null, .null, .int 0])), (q1, .inl (c1, 61, .inl (fun _ => 0))), (q2, .inl (c2, 61, .inl (fun _ => 0))), (q3, .inl (c3, 61, .inl (fun _ => 0))), (q4, .inl (c4, 2440, .inl (fun _ => 0)))] H := hP
  have hD : va_D A [(h0, .inr (1, [.int 0, .int 0, .ref q1, .ref q2, .ref q3, .null, .null, .int 0, .int 0, .null, .null, .null, .null, .int 0])), (q1, .inl (c1, 61, .inl (fun _ => 0))), (q2, .inl (c2, 61, .inl (fun _ => 0))), (q3, .inl (c3, 61, .inl (fun _ => 0))), (q4, .inl (c4, 2440, .inl (fun _ => 0)))] := hD
  refine W.widen (k := 4) (n := 2623) (Nat.le_of_ble_eq_true rfl) (Nat.le_of_ble_eq_true rfl) ?_
  refine va_putF (D := (dC, dI)) (ci := 1) (v := .ref q4) (ty := .array .int) (C := RM) (T := TM) (N := 14) hx hb hts inM tyM tyM_ok nmM hown hK hP hD hS 0 rfl rfl 5 (by decide) (hts _ mt_217) (fun _ h9 => h9) rfl hin rfl (by decide +kernel) rfl rfl (Nat.le_of_ble_eq_true rfl) dM_init_34 (fun H locs hP hD hS => ?_)
  have hP : va_P (dC, dI) vwCl [(h0, .inr (1, [.int 0, .int 0, .ref q1, .ref q2, .ref q3, .ref q4, .null, .int 0, .int 0, .null, .null, .null, .null, .int 0])), (q1, .inl (c1, 61, .inl (fun _ => 0))), (q2, .inl (c2, 61, .inl (fun _ => 0))), (q3, .inl (c3, 61, .inl (fun _ => 0))), (q4, .inl (c4, 2440, .inl (fun _ => 0)))] H := hP
  have hD : va_D A [(h0, .inr (1, [.int 0, .int 0, .ref q1, .ref q2, .ref q3, .ref q4, .null, .int 0, .int 0, .null, .null, .null, .null, .int 0])), (q1, .inl (c1, 61, .inl (fun _ => 0))), (q2, .inl (c2, 61, .inl (fun _ => 0))), (q3, .inl (c3, 61, .inl (fun _ => 0))), (q4, .inl (c4, 2440, .inl (fun _ => 0)))] := hD
  refine lv_aload_n hx hb dM_init_37 rfl (lv_at hl 0 rfl) ?_
  refine lv_bipush (v := (61 : Int32)) hx hb dM_init_38 (by decide) ?_
  refine va_newa (atype := .int) (ty := .int) (a0 := (61, .inl (fun _ => 0))) (N' := 61) hx hb (hts _ mt_78) rfl hK hP hD hS hA (fun cA => rfl) (by decide) rfl (Nat.le_of_ble_eq_true rfl) (Nat.le_of_ble_eq_true rfl) (Nat.le_of_ble_eq_true rfl) dM_init_40 (fun q5 c5 H hK hP hD hS => ?_)
  have hP : va_P (dC, dI) vwCl [(h0, .inr (1, [.int 0, .int 0, .ref q1, .ref q2, .ref q3, .ref q4, .null, .int 0, .int 0, .null, .null, .null, .null, .int 0])), (q1, .inl (c1, 61, .inl (fun _ => 0))), (q2, .inl (c2, 61, .inl (fun _ => 0))), (q3, .inl (c3, 61, .inl (fun _ => 0))), (q4, .inl (c4, 2440, .inl (fun _ => 0))), (q5, .inl (c5, 61, .inl (fun _ => 0)))] H := hP
  have hD : va_D A [(h0, .inr (1, [.int 0, .int 0, .ref q1, .ref q2, .ref q3, .ref q4, .null, .int 0, .int 0, .null, .null, .null, .null, .int 0])), (q1, .inl (c1, 61, .inl (fun _ => 0))), (q2, .inl (c2, 61, .inl (fun _ => 0))), (q3, .inl (c3, 61, .inl (fun _ => 0))), (q4, .inl (c4, 2440, .inl (fun _ => 0))), (q5, .inl (c5, 61, .inl (fun _ => 0)))] := hD
  refine W.widen (k := 5) (n := 2684) (Nat.le_of_ble_eq_true rfl) (Nat.le_of_ble_eq_true rfl) ?_
  refine va_putF (D := (dC, dI)) (ci := 1) (v := .ref q5) (ty := .array .int) (C := RM) (T := TM) (N := 14) hx hb hts inM tyM tyM_ok nmM hown hK hP hD hS 0 rfl rfl 6 (by decide) (hts _ mt_218) (fun _ h9 => h9) rfl hin rfl (by decide +kernel) rfl rfl (Nat.le_of_ble_eq_true rfl) dM_init_42 (fun H locs hP hD hS => ?_)
  have hP : va_P (dC, dI) vwCl [(h0, .inr (1, [.int 0, .int 0, .ref q1, .ref q2, .ref q3, .ref q4, .ref q5, .int 0, .int 0, .null, .null, .null, .null, .int 0])), (q1, .inl (c1, 61, .inl (fun _ => 0))), (q2, .inl (c2, 61, .inl (fun _ => 0))), (q3, .inl (c3, 61, .inl (fun _ => 0))), (q4, .inl (c4, 2440, .inl (fun _ => 0))), (q5, .inl (c5, 61, .inl (fun _ => 0)))] H := hP
  have hD : va_D A [(h0, .inr (1, [.int 0, .int 0, .ref q1, .ref q2, .ref q3, .ref q4, .ref q5, .int 0, .int 0, .null, .null, .null, .null, .int 0])), (q1, .inl (c1, 61, .inl (fun _ => 0))), (q2, .inl (c2, 61, .inl (fun _ => 0))), (q3, .inl (c3, 61, .inl (fun _ => 0))), (q4, .inl (c4, 2440, .inl (fun _ => 0))), (q5, .inl (c5, 61, .inl (fun _ => 0)))] := hD
  refine lv_aload_n hx hb dM_init_45 rfl (lv_at hl 0 rfl) ?_
  refine lv_sipush (v := (200 : Int32)) hx hb dM_init_46 (by decide) ?_
  refine va_newa (atype := .int) (ty := .int) (a0 := (200, .inl (fun _ => 0))) (N' := 200) hx hb (hts _ mt_78) rfl hK hP hD hS hA (fun cA => rfl) (by decide) rfl (Nat.le_of_ble_eq_true rfl) (Nat.le_of_ble_eq_true rfl) (Nat.le_of_ble_eq_true rfl) dM_init_49 (fun q6 c6 H hK hP hD hS => ?_)
  have hP : va_P (dC, dI) vwCl [(h0, .inr (1, [.int 0, .int 0, .ref q1, .ref q2, .ref q3, .ref q4, .ref q5, .int 0, .int 0, .null, .null, .null, .null, .int 0])), (q1, .inl (c1, 61, .inl (fun _ => 0))), (q2, .inl (c2, 61, .inl (fun _ => 0))), (q3, .inl (c3, 61, .inl (fun _ => 0))), (q4, .inl (c4, 2440, .inl (fun _ => 0))), (q5, .inl (c5, 61, .inl (fun _ => 0))), (q6, .inl (c6, 200, .inl (fun _ => 0)))] H := hP
  have hD : va_D A [(h0, .inr (1, [.int 0, .int 0, .ref q1, .ref q2, .ref q3, .ref q4, .ref q5, .int 0, .int 0, .null, .null, .null, .null, .int 0])), (q1, .inl (c1, 61, .inl (fun _ => 0))), (q2, .inl (c2, 61, .inl (fun _ => 0))), (q3, .inl (c3, 61, .inl (fun _ => 0))), (q4, .inl (c4, 2440, .inl (fun _ => 0))), (q5, .inl (c5, 61, .inl (fun _ => 0))), (q6, .inl (c6, 200, .inl (fun _ => 0)))] := hD
  refine W.widen (k := 6) (n := 2884) (Nat.le_of_ble_eq_true rfl) (Nat.le_of_ble_eq_true rfl) ?_
  refine va_putF (D := (dC, dI)) (ci := 1) (v := .ref q6) (ty := .array .int) (C := RM) (T := TM) (N := 14) hx hb hts inM tyM tyM_ok nmM hown hK hP hD hS 0 rfl rfl 9 (by decide) (hts _ mt_221) (fun _ h9 => h9) rfl hin rfl (by decide +kernel) rfl rfl (Nat.le_of_ble_eq_true rfl) dM_init_51 (fun H locs hP hD hS => ?_)
  have hP : va_P (dC, dI) vwCl [(h0, .inr (1, [.int 0, .int 0, .ref q1, .ref q2, .ref q3, .ref q4, .ref q5, .int 0, .int 0, .ref q6, .null, .null, .null, .int 0])), (q1, .inl (c1, 61, .inl (fun _ => 0))), (q2, .inl (c2, 61, .inl (fun _ => 0))), (q3, .inl (c3, 61, .inl (fun _ => 0))), (q4, .inl (c4, 2440, .inl (fun _ => 0))), (q5, .inl (c5, 61, .inl (fun _ => 0))), (q6, .inl (c6, 200, .inl (fun _ => 0)))] H := hP
  have hD : va_D A [(h0, .inr (1, [.int 0, .int 0, .ref q1, .ref q2, .ref q3, .ref q4, .ref q5, .int 0, .int 0, .ref q6, .null, .null, .null, .int 0])), (q1, .inl (c1, 61, .inl (fun _ => 0))), (q2, .inl (c2, 61, .inl (fun _ => 0))), (q3, .inl (c3, 61, .inl (fun _ => 0))), (q4, .inl (c4, 2440, .inl (fun _ => 0))), (q5, .inl (c5, 61, .inl (fun _ => 0))), (q6, .inl (c6, 200, .inl (fun _ => 0)))] := hD
  refine lv_aload_n hx hb dM_init_54 rfl (lv_at hl 0 rfl) ?_
  refine lv_sipush (v := (200 : Int32)) hx hb dM_init_55 (by decide) ?_
  refine va_newa (atype := .int) (ty := .int) (a0 := (200, .inl (fun _ => 0))) (N' := 200) hx hb (hts _ mt_78) rfl hK hP hD hS hA (fun cA => rfl) (by decide) rfl (Nat.le_of_ble_eq_true rfl) (Nat.le_of_ble_eq_true rfl) (Nat.le_of_ble_eq_true rfl) dM_init_58 (fun q7 c7 H hK hP hD hS => ?_)
  have hP : va_P (dC, dI) vwCl [(h0, .inr (1, [.int 0, .int 0, .ref q1, .ref q2, .ref q3, .ref q4, .ref q5, .int 0, .int 0, .ref q6, .null, .null, .null, .int 0])), (q1, .inl (c1, 61, .inl (fun _ => 0))), (q2, .inl (c2, 61, .inl (fun _ => 0))), (q3, .inl (c3, 61, .inl (fun _ => 0))), (q4, .inl (c4, 2440, .inl (fun _ => 0))), (q5, .inl (c5, 61, .inl (fun _ => 0))), (q6, .inl (c6, 200, .inl (fun _ => 0))), (q7, .inl (c7, 200, .inl (fun _ => 0)))] H := hP
  have hD : va_D A [(h0, .inr (1, [.int 0, .int 0, .ref q1, .ref q2, .ref q3, .ref q4, .ref q5, .int 0, .int 0, .ref q6, .null, .null, .null, .int 0])), (q1, .inl (c1, 61, .inl (fun _ => 0))), (q2, .inl (c2, 61, .inl (fun _ => 0))), (q3, .inl (c3, 61, .inl (fun _ => 0))), (q4, .inl (c4, 2440, .inl (fun _ => 0))), (q5, .inl (c5, 61, .inl (fun _ => 0))), (q6, .inl (c6, 200, .inl (fun _ => 0))), (q7, .inl (c7, 200, .inl (fun _ => 0)))] := hD
  refine W.widen (k := 7) (n := 3084) (Nat.le_of_ble_eq_true rfl) (Nat.le_of_ble_eq_true rfl) ?_
  refine va_putF (D := (dC, dI)) (ci := 1) (v := .ref q7) (ty := .array .int) (C := RM) (T := TM) (N := 14) hx hb hts inM tyM tyM_ok nmM hown hK hP hD hS 0 rfl rfl 10 (by decide) (hts _ mt_222) (fun _ h9 => h9) rfl hin rfl (by decide +kernel) rfl rfl (Nat.le_of_ble_eq_true rfl) dM_init_60 (fun H locs hP hD hS => ?_)
  have hP : va_P (dC, dI) vwCl [(h0, .inr (1, [.int 0, .int 0, .ref q1, .ref q2, .ref q3, .ref q4, .ref q5, .int 0, .int 0, .ref q6, .ref q7, .null, .null, .int 0])), (q1, .inl (c1, 61, .inl (fun _ => 0))), (q2, .inl (c2, 61, .inl (fun _ => 0))), (q3, .inl (c3, 61, .inl (fun _ => 0))), (q4, .inl (c4, 2440, .inl (fun _ => 0))), (q5, .inl (c5, 61, .inl (fun _ => 0))), (q6, .inl (c6, 200, .inl (fun _ => 0))), (q7, .inl (c7, 200, .inl (fun _ => 0)))] H := hP
  have hD : va_D A [(h0, .inr (1, [.int 0, .int 0, .ref q1, .ref q2, .ref q3, .ref q4, .ref q5, .int 0, .int 0, .ref q6, .ref q7, .null, .null, .int 0])), (q1, .inl (c1, 61, .inl (fun _ => 0))), (q2, .inl (c2, 61, .inl (fun _ => 0))), (q3, .inl (c3, 61, .inl (fun _ => 0))), (q4, .inl (c4, 2440, .inl (fun _ => 0))), (q5, .inl (c5, 61, .inl (fun _ => 0))), (q6, .inl (c6, 200, .inl (fun _ => 0))), (q7, .inl (c7, 200, .inl (fun _ => 0)))] := hD
  refine lv_aload_n hx hb dM_init_63 rfl (lv_at hl 0 rfl) ?_
  refine lv_sipush (v := (200 : Int32)) hx hb dM_init_64 (by decide) ?_
  refine va_newa (atype := .int) (ty := .int) (a0 := (200, .inl (fun _ => 0))) (N' := 200) hx hb (hts _ mt_78) rfl hK hP hD hS hA (fun cA => rfl) (by decide) rfl (Nat.le_of_ble_eq_true rfl) (Nat.le_of_ble_eq_true rfl) (Nat.le_of_ble_eq_true rfl) dM_init_67 (fun q8 c8 H hK hP hD hS => ?_)
  have hP : va_P (dC, dI) vwCl [(h0, .inr (1, [.int 0, .int 0, .ref q1, .ref q2, .ref q3, .ref q4, .ref q5, .int 0, .int 0, .ref q6, .ref q7, .null, .null, .int 0])), (q1, .inl (c1, 61, .inl (fun _ => 0))), (q2, .inl (c2, 61, .inl (fun _ => 0))), (q3, .inl (c3, 61, .inl (fun _ => 0))), (q4, .inl (c4, 2440, .inl (fun _ => 0))), (q5, .inl (c5, 61, .inl (fun _ => 0))), (q6, .inl (c6, 200, .inl (fun _ => 0))), (q7, .inl (c7, 200, .inl (fun _ => 0))), (q8, .inl (c8, 200, .inl (fun _ => 0)))] H := hP
  have hD : va_D A [(h0, .inr (1, [.int 0, .int 0, .ref q1, .ref q2, .ref q3, .ref q4, .ref q5, .int 0, .int 0, .ref q6, .ref q7, .null, .null, .int 0])), (q1, .inl (c1, 61, .inl (fun _ => 0))), (q2, .inl (c2, 61, .inl (fun _ => 0))), (q3, .inl (c3, 61, .inl (fun _ => 0))), (q4, .inl (c4, 2440, .inl (fun _ => 0))), (q5, .inl (c5, 61, .inl (fun _ => 0))), (q6, .inl (c6, 200, .inl (fun _ => 0))), (q7, .inl (c7, 200, .inl (fun _ => 0))), (q8, .inl (c8, 200, .inl (fun _ => 0)))] := hD
  refine W.widen (k := 8) (n := 3284) (Nat.le_of_ble_eq_true rfl) (Nat.le_of_ble_eq_true rfl) ?_
  refine va_putF (D := (dC, dI)) (ci := 1) (v := .ref q8) (ty := .array .int) (C := RM) (T := TM) (N := 14) hx hb hts inM tyM tyM_ok nmM hown hK hP hD hS 0 rfl rfl 11 (by decide) (hts _ mt_223) (fun _ h9 => h9) rfl hin rfl (by decide +kernel) rfl rfl (Nat.le_of_ble_eq_true rfl) dM_init_69 (fun H locs hP hD hS => ?_)
  have hP : va_P (dC, dI) vwCl [(h0, .inr (1, [.int 0, .int 0, .ref q1, .ref q2, .ref q3, .ref q4, .ref q5, .int 0, .int 0, .ref q6, .ref q7, .ref q8, .null, .int 0])), (q1, .inl (c1, 61, .inl (fun _ => 0))), (q2, .inl (c2, 61, .inl (fun _ => 0))), (q3, .inl (c3, 61, .inl (fun _ => 0))), (q4, .inl (c4, 2440, .inl (fun _ => 0))), (q5, .inl (c5, 61, .inl (fun _ => 0))), (q6, .inl (c6, 200, .inl (fun _ => 0))), (q7, .inl (c7, 200, .inl (fun _ => 0))), (q8, .inl (c8, 200, .inl (fun _ => 0)))] H := hP
  have hD : va_D A [(h0, .inr (1, [.int 0, .int 0, .ref q1, .ref q2, .ref q3, .ref q4, .ref q5, .int 0, .int 0, .ref q6, .ref q7, .ref q8, .null, .int 0])), (q1, .inl (c1, 61, .inl (fun _ => 0))), (q2, .inl (c2, 61, .inl (fun _ => 0))), (q3, .inl (c3, 61, .inl (fun _ => 0))), (q4, .inl (c4, 2440, .inl (fun _ => 0))), (q5, .inl (c5, 61, .inl (fun _ => 0))), (q6, .inl (c6, 200, .inl (fun _ => 0))), (q7, .inl (c7, 200, .inl (fun _ => 0))), (q8, .inl (c8, 200, .inl (fun _ => 0)))] := hD
  refine lv_aload_n hx hb dM_init_72 rfl (lv_at hl 0 rfl) ?_
  refine lv_bipush (v := (61 : Int32)) hx hb dM_init_73 (by decide) ?_
  refine va_newa (atype := .int) (ty := .int) (a0 := (61, .inl (fun _ => 0))) (N' := 61) hx hb (hts _ mt_78) rfl hK hP hD hS hA (fun cA => rfl) (by decide) rfl (Nat.le_of_ble_eq_true rfl) (Nat.le_of_ble_eq_true rfl) (Nat.le_of_ble_eq_true rfl) dM_init_75 (fun q9 c9 H hK hP hD hS => ?_)
  have hP : va_P (dC, dI) vwCl [(h0, .inr (1, [.int 0, .int 0, .ref q1, .ref q2, .ref q3, .ref q4, .ref q5, .int 0, .int 0, .ref q6, .ref q7, .ref q8, .null, .int 0])), (q1, .inl (c1, 61, .inl (fun _ => 0))), (q2, .inl (c2, 61, .inl (fun _ => 0))), (q3, .inl (c3, 61, .inl (fun _ => 0))), (q4, .inl (c4, 2440, .inl (fun _ => 0))), (q5, .inl (c5, 61, .inl (fun _ => 0))), (q6, .inl (c6, 200, .inl (fun _ => 0))), (q7, .inl (c7, 200, .inl (fun _ => 0))), (q8, .inl (c8, 200, .inl (fun _ => 0))), (q9, .inl (c9, 61, .inl (fun _ => 0)))] H := hP
  have hD : va_D A [(h0, .inr (1, [.int 0, .int 0, .ref q1, .ref q2, .ref q3, .ref q4, .ref q5, .int 0, .int 0, .ref q6, .ref q7, .ref q8, .null, .int 0])), (q1, .inl (c1, 61, .inl (fun _ => 0))), (q2, .inl (c2, 61, .inl (fun _ => 0))), (q3, .inl (c3, 61, .inl (fun _ => 0))), (q4, .inl (c4, 2440, .inl (fun _ => 0))), (q5, .inl (c5, 61, .inl (fun _ => 0))), (q6, .inl (c6, 200, .inl (fun _ => 0))), (q7, .inl (c7, 200, .inl (fun _ => 0))), (q8, .inl (c8, 200, .inl (fun _ => 0))), (q9, .inl (c9, 61, .inl (fun _ => 0)))] := hD
  refine W.widen (k := 9) (n := 3345) (Nat.le_of_ble_eq_true rfl) (Nat.le_of_ble_eq_true rfl) ?_
  refine va_putF (D := (dC, dI)) (ci := 1) (v := .ref q9) (ty := .array .int) (C := RM) (T := TM) (N := 14) hx hb hts inM tyM tyM_ok nmM hown hK hP hD hS 0 rfl rfl 12 (by decide) (hts _ mt_224) (fun _ h9 => h9) rfl hin rfl (by decide +kernel) rfl rfl (Nat.le_of_ble_eq_true rfl) dM_init_77 (fun H locs hP hD hS => ?_)
  have hP : va_P (dC, dI) vwCl [(h0, .inr (1, [.int 0, .int 0, .ref q1, .ref q2, .ref q3, .ref q4, .ref q5, .int 0, .int 0, .ref q6, .ref q7, .ref q8, .ref q9, .int 0])), (q1, .inl (c1, 61, .inl (fun _ => 0))), (q2, .inl (c2, 61, .inl (fun _ => 0))), (q3, .inl (c3, 61, .inl (fun _ => 0))), (q4, .inl (c4, 2440, .inl (fun _ => 0))), (q5, .inl (c5, 61, .inl (fun _ => 0))), (q6, .inl (c6, 200, .inl (fun _ => 0))), (q7, .inl (c7, 200, .inl (fun _ => 0))), (q8, .inl (c8, 200, .inl (fun _ => 0))), (q9, .inl (c9, 61, .inl (fun _ => 0)))] H := hP
  have hD : va_D A [(h0, .inr (1, [.int 0, .int 0, .ref q1, .ref q2, .ref q3, .ref q4, .ref q5, .int 0, .int 0, .ref q6, .ref q7, .ref q8, .ref q9, .int 0])), (q1, .inl (c1, 61, .inl (fun _ => 0))), (q2, .inl (c2, 61, .inl (fun _ => 0))), (q3, .inl (c3, 61, .inl (fun _ => 0))), (q4, .inl (c4, 2440, .inl (fun _ => 0))), (q5, .inl (c5, 61, .inl (fun _ => 0))), (q6, .inl (c6, 200, .inl (fun _ => 0))), (q7, .inl (c7, 200, .inl (fun _ => 0))), (q8, .inl (c8, 200, .inl (fun _ => 0))), (q9, .inl (c9, 61, .inl (fun _ => 0)))] := hD
  have e3 : c2 = c3 := Option.some.inj ((show s.vm.findClass ("[" ++ FieldType.int.toString) = some c2 from (hK.2 1 _ rfl).2).symm.trans (show s.vm.findClass ("[" ++ FieldType.int.toString) = some c3 from (hK.2 2 _ rfl).2))
  subst e3
  have e4 : c2 = c4 := Option.some.inj ((show s.vm.findClass ("[" ++ FieldType.int.toString) = some c2 from (hK.2 1 _ rfl).2).symm.trans (show s.vm.findClass ("[" ++ FieldType.int.toString) = some c4 from (hK.2 3 _ rfl).2))
  subst e4
  have e5 : c2 = c5 := Option.some.inj ((show s.vm.findClass ("[" ++ FieldType.int.toString) = some c2 from (hK.2 1 _ rfl).2).symm.trans (show s.vm.findClass ("[" ++ FieldType.int.toString) = some c5 from (hK.2 4 _ rfl).2))
  subst e5
  have e6 : c2 = c6 := Option.some.inj ((show s.vm.findClass ("[" ++ FieldType.int.toString) = some c2 from (hK.2 1 _ rfl).2).symm.trans (show s.vm.findClass ("[" ++ FieldType.int.toString) = some c6 from (hK.2 5 _ rfl).2))
  subst e6
  have e7 : c2 = c7 := Option.some.inj ((show s.vm.findClass ("[" ++ FieldType.int.toString) = some c2 from (hK.2 1 _ rfl).2).symm.trans (show s.vm.findClass ("[" ++ FieldType.int.toString) = some c7 from (hK.2 6 _ rfl).2))
  subst e7
  have e8 : c2 = c8 := Option.some.inj ((show s.vm.findClass ("[" ++ FieldType.int.toString) = some c2 from (hK.2 1 _ rfl).2).symm.trans (show s.vm.findClass ("[" ++ FieldType.int.toString) = some c8 from (hK.2 7 _ rfl).2))
  subst e8
  have e9 : c2 = c9 := Option.some.inj ((show s.vm.findClass ("[" ++ FieldType.int.toString) = some c2 from (hK.2 1 _ rfl).2).symm.trans (show s.vm.findClass ("[" ++ FieldType.int.toString) = some c9 from (hK.2 8 _ rfl).2))
  subst e9
  have hK9 := hK.sub (tys' := [(c2, .int), (c1, .boolean)]) [1, 0] rfl
  exact W.vret hx hb hr (fun t ht hW => ⟨⟨(), rfl, trivial, fun k => match k with
    | 0 => h0
    | 1 => q1
    | 2 => q2
    | 3 => q3
    | 4 => q4
    | 5 => q5
    | 6 => q6
    | 7 => q7
    | 8 => q8
    | _ => q9, c2, c1, rfl, by rw [ht]; exact hP, va_K.moved hW.alike hK9, hD⟩, hS.F ht⟩) hS.2.2 dM_init_80
