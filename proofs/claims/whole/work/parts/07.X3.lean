def gX_goes_12 (K : Nat) : Nat → Int32 → Int32 → Int32 → Int32 → Int32 → XSt → Option (Int32 × XSt)
  | 0, _, _, _, _, _, _ => none
  | n + 1, x1, x2, x3, x4, x5, τ => (if (x_links τ) ≤ x5 then some ((0 : Int32), τ) else (if x5 < 0 ∨ 200 ≤ x5.toNatClampNeg then none else (if ((x_linkFrom τ) x5.toNatClampNeg) = x1 then (if x5 < 0 ∨ 200 ≤ x5.toNatClampNeg then none else (if ((x_linkField τ) x5.toNatClampNeg) = x2 then (if x4 = x3 then (if x5 < 0 ∨ 200 ≤ x5.toNatClampNeg then none else some (((x_linkTo τ) x5.toNatClampNeg), τ)) else (gX_goes_12 K n x1 x2 x3 (x4 + 1) (x5 + 1) τ)) else (gX_goes_12 K n x1 x2 x3 x4 (x5 + 1) τ))) else (gX_goes_12 K n x1 x2 x3 x4 (x5 + 1) τ))))
def fX_goes (K : Nat) (p1 p2 p3 : Int32) (σ : XSt) : Option (Int32 × XSt) := (if 0 ≤ p3 then (gX_goes_12 K K p1 p2 p3 (0 : Int32) (0 : Int32) σ) else some ((0 : Int32), σ))
set_option maxHeartbeats 4000000 in
set_option maxRecDepth 100000 in
theorem kX_goes (l : Launch) (dC : Nat → ClassId) (dI : Nat → Nat → Nat) (a : Nat → Nat) (cI cZ : ClassId) (tb : Nat) (K : Nat) (p1 p2 p3 : Int32) (σ σ' : XSt) (r : Int32) (hf : fX_goes K p1 p2 p3 σ = some (r, σ')) : xw_Ct l yX_goes wdX_goes ({ frames := 0, cells := 0, slots := 0, locals := 0 } : Room) (dC, dI) vwCl [(cI, .int), (cZ, .boolean)] (zz tb) ((w_X a cI cZ) σ) ((w_X a cI cZ) σ') [.ref (a 0), .int p1, .int p2, .int p3] r := by
  refine xw_ofW (cc := cX_goes) (maxL := 6) (ret := (some .int)) (lv := [(0, .ref (a 0)), (1, .int p1), (2, .int p2), (3, .int p3)]) (by decide) rfl (Nat.le_of_ble_eq_true rfl) rfl ?_
  intro p e s m below meth c A hAt hP hD hS ls hl
  obtain ⟨hx, hb, hr, hml, hown, hts, hlocks, hK, hZ, hA⟩ := hAt
  replace hts : ∀ w ∈ lw_g, w.before _ s = true := fun w h => hts w (List.mem_cons_of_mem _ h)
  have L_12 : ∀ (n : Nat) (x1 x2 x3 x4 x5 : Int32) (τ : XSt), gX_goes_12 K n x1 x2 x3 x4 x5 τ = some (r, σ') → ∀ (H : Heap) (locs : List Loc), va_P (dC, dI) vwCl ((w_X a cI cZ) τ) H → va_D A ((w_X a cI cZ) τ) → va_S A s.heap H locs → ∀ (ls : Array Slot), lv_has ls 6 [(0, .ref (a 0)), (1, .int x1), (2, .int x2), (3, .int x3), (4, .int x4), (5, .int x5)] → W p l e ({ frames := 0, cells := 0, slots := 0, locals := 0 } : Room) s m ([.ref (a 0), .int p1, .int p2, .int p3] : List Value).toArray below meth c H locs 0 0 (MQ below (va_Qi (fun (r2 : Int32) (_ : Unit) => r2 = r) (fun _ t => xw_B (dC, dI) vwCl [(cI, .int), (cZ, .boolean)] A ((w_X a cI cZ) σ') t) A) ([.ref (a 0), .int p1, .int p2, .int p3] : List Value).toArray s 0 0 A) (F0 m 12 ls []) := by
    intro n
    induction n with
    | zero =>
      intro x1 x2 x3 x4 x5 τ hf
      rw [gX_goes_12] at hf
      cases hf
    | succ n ih =>
      intro x1 x2 x3 x4 x5 τ hf H locs hP hD hS ls hl
      rw [gX_goes_12] at hf
      refine lv_iload hx hb dX_goes_12 (lv_at hl 5 rfl) ?_
      refine lv_aload_n hx hb dX_goes_14 rfl (lv_at hl 0 rfl) ?_
      refine aX_get_links (σ := τ) (v := (x_links τ)) rfl hx hb hts hown hK hP dX_goes_15 ?_
      refine lv_icmp_ge (tgt := 66) hx hb dX_goes_18 (by decide) (fun c_2 => ?_) (fun c_2 => ?_)
      · replace hf := it_t hf c_2
        refine lv_iconst (v := (0 : Int32)) hx hb dX_goes_66 (by decide) ?_
        exact xw_iret (wf := (w_X a cI cZ)) hx hb hr hlocks rfl hK hP hD hS hf dX_goes_67
      · replace hf := it_f hf c_2
        refine lv_aload_n hx hb dX_goes_21 rfl (lv_at hl 0 rfl) ?_
        refine aX_get_linkFrom hx hb hts hown hK hP dX_goes_22 ?_
        refine lv_iload hx hb dX_goes_25 (lv_at hl 5 rfl) ?_
        obtain ⟨g_3, hf⟩ := gd_f hf
        refine aX_ld_linkFrom (σ := τ) (f := (x_linkFrom τ)) rfl hx hb hK hP g_3 dX_goes_27 ?_
        refine lv_iload_n hx hb dX_goes_28 rfl (lv_at hl 1 rfl) ?_
        refine lv_icmp_ne (tgt := 60) hx hb dX_goes_29 (by decide) (fun c_4 => ?_) (fun c_4 => ?_)
        · replace hf := it_f hf c_4
          refine lv_iinc (v := (x5 + 1)) (lv' := [(5, .int (x5 + 1)), (0, .ref (a 0)), (1, .int x1), (2, .int x2), (3, .int x3), (4, .int x4)]) hx hb dX_goes_60 hl (k := 5) rfl (congrArg (HAdd.hAdd _) (by decide : Int32.ofInt (1) = (1 : Int32))) (by decide) rfl (fun ls hl => ?_)
          refine lv_goto (tgt := 12) hx hb dX_goes_63 (by decide) ?_
          exact ih x1 x2 x3 x4 (x5 + 1) τ hf _ _ hP hD hS _ (lv_sub hl [1, 2, 3, 4, 5, 0] rfl)
        · replace hf := it_t hf c_4
          refine lv_aload_n hx hb dX_goes_32 rfl (lv_at hl 0 rfl) ?_
          refine aX_get_linkField hx hb hts hown hK hP dX_goes_33 ?_
          refine lv_iload hx hb dX_goes_36 (lv_at hl 5 rfl) ?_
          obtain ⟨g_5, hf⟩ := gd_f hf
          refine aX_ld_linkField (σ := τ) (f := (x_linkField τ)) rfl hx hb hK hP g_5 dX_goes_38 ?_
          refine lv_iload_n hx hb dX_goes_39 rfl (lv_at hl 2 rfl) ?_
          refine lv_icmp_ne (tgt := 60) hx hb dX_goes_40 (by decide) (fun c_6 => ?_) (fun c_6 => ?_)
          · replace hf := it_f hf c_6
            refine lv_iinc (v := (x5 + 1)) (lv' := [(5, .int (x5 + 1)), (0, .ref (a 0)), (1, .int x1), (2, .int x2), (3, .int x3), (4, .int x4)]) hx hb dX_goes_60 hl (k := 5) rfl (congrArg (HAdd.hAdd _) (by decide : Int32.ofInt (1) = (1 : Int32))) (by decide) rfl (fun ls hl => ?_)
            refine lv_goto (tgt := 12) hx hb dX_goes_63 (by decide) ?_
            exact ih x1 x2 x3 x4 (x5 + 1) τ hf _ _ hP hD hS _ (lv_sub hl [1, 2, 3, 4, 5, 0] rfl)
          · replace hf := it_t hf c_6
            refine lv_iload hx hb dX_goes_43 (lv_at hl 4 rfl) ?_
            refine lv_iload_n hx hb dX_goes_45 rfl (lv_at hl 3 rfl) ?_
            refine lv_icmp_ne (tgt := 57) hx hb dX_goes_46 (by decide) (fun c_7 => ?_) (fun c_7 => ?_)
            · replace hf := it_f hf c_7
              refine lv_iinc (v := (x4 + 1)) (lv' := [(4, .int (x4 + 1)), (0, .ref (a 0)), (1, .int x1), (2, .int x2), (3, .int x3), (5, .int x5)]) hx hb dX_goes_57 hl (k := 4) rfl (congrArg (HAdd.hAdd _) (by decide : Int32.ofInt (1) = (1 : Int32))) (by decide) rfl (fun ls hl => ?_)
              refine lv_iinc (v := (x5 + 1)) (lv' := [(5, .int (x5 + 1)), (4, .int (x4 + 1)), (0, .ref (a 0)), (1, .int x1), (2, .int x2), (3, .int x3)]) hx hb dX_goes_60 hl (k := 5) rfl (congrArg (HAdd.hAdd _) (by decide : Int32.ofInt (1) = (1 : Int32))) (by decide) rfl (fun ls hl => ?_)
              refine lv_goto (tgt := 12) hx hb dX_goes_63 (by decide) ?_
              exact ih x1 x2 x3 (x4 + 1) (x5 + 1) τ hf _ _ hP hD hS _ (lv_sub hl [2, 3, 4, 5, 1, 0] rfl)
            · replace hf := it_t hf c_7
              refine lv_aload_n hx hb dX_goes_49 rfl (lv_at hl 0 rfl) ?_
              refine aX_get_linkTo hx hb hts hown hK hP dX_goes_50 ?_
              refine lv_iload hx hb dX_goes_53 (lv_at hl 5 rfl) ?_
              obtain ⟨g_8, hf⟩ := gd_f hf
              refine aX_ld_linkTo (σ := τ) (f := (x_linkTo τ)) rfl hx hb hK hP g_8 dX_goes_55 ?_
              exact xw_iret (wf := (w_X a cI cZ)) hx hb hr hlocks rfl hK hP hD hS hf dX_goes_56
  unfold fX_goes at hf
  refine lv_iload_n hx hb dX_goes_0 rfl (lv_at hl 3 rfl) ?_
  refine lv_if_ge (tgt := 6) hx hb dX_goes_1 (by decide) (fun c_1 => ?_) (fun c_1 => ?_)
  · replace hf := it_t hf c_1
    refine lv_iconst (v := (0 : Int32)) hx hb dX_goes_6 (by decide) ?_
    refine lv_istore (lv' := [(4, .int (0 : Int32)), (0, .ref (a 0)), (1, .int p1), (2, .int p2), (3, .int p3)]) hx hb dX_goes_7 hl (by decide) rfl (fun ls hl => ?_)
    refine lv_iconst (v := (0 : Int32)) hx hb dX_goes_9 (by decide) ?_
    refine lv_istore (lv' := [(5, .int (0 : Int32)), (4, .int (0 : Int32)), (0, .ref (a 0)), (1, .int p1), (2, .int p2), (3, .int p3)]) hx hb dX_goes_10 hl (by decide) rfl (fun ls hl => ?_)
    exact L_12 K p1 p2 p3 (0 : Int32) (0 : Int32) σ hf _ _ hP hD hS _ (lv_sub hl [2, 3, 4, 5, 1, 0] rfl)
  · replace hf := it_f hf c_1
    refine lv_iconst (v := (0 : Int32)) hx hb dX_goes_4 (by decide) ?_
    exact xw_iret (wf := (w_X a cI cZ)) hx hb hr hlocks rfl hK hP hD hS hf dX_goes_5
