def gX_findLink_3 (K : Nat) : Nat → Int32 → Int32 → Int32 → Int32 → XSt → Option (Int32 × XSt)
  | 0, _, _, _, _, _ => none
  | n + 1, x1, x2, x3, x4, τ => (if (x_links τ) ≤ x4 then some ((-1 : Int32), τ) else (if x4 < 0 ∨ 200 ≤ x4.toNatClampNeg then none else (if ((x_linkFrom τ) x4.toNatClampNeg) = x1 then (if x4 < 0 ∨ 200 ≤ x4.toNatClampNeg then none else (if ((x_linkField τ) x4.toNatClampNeg) = x2 then (if x4 < 0 ∨ 200 ≤ x4.toNatClampNeg then none else (if ((x_linkTo τ) x4.toNatClampNeg) = x3 then some (x4, τ) else (gX_findLink_3 K n x1 x2 x3 (x4 + 1) τ))) else (gX_findLink_3 K n x1 x2 x3 (x4 + 1) τ))) else (gX_findLink_3 K n x1 x2 x3 (x4 + 1) τ))))
def fX_findLink (K : Nat) (p1 p2 p3 : Int32) (σ : XSt) : Option (Int32 × XSt) := (gX_findLink_3 K K p1 p2 p3 (0 : Int32) σ)
set_option maxHeartbeats 4000000 in
set_option maxRecDepth 100000 in
theorem kX_findLink (l : Launch) (dC : Nat → ClassId) (dI : Nat → Nat → Nat) (a : Nat → Nat) (cI cZ : ClassId) (tb : Nat) (K : Nat) (p1 p2 p3 : Int32) (σ σ' : XSt) (r : Int32) (hf : fX_findLink K p1 p2 p3 σ = some (r, σ')) : xw_Ct l yX_findLink wdX_findLink ({ frames := 0, cells := 0, slots := 0, locals := 0 } : Room) (dC, dI) vwCl [(cI, .int), (cZ, .boolean)] (zz tb) ((w_X a cI cZ) σ) ((w_X a cI cZ) σ') [.ref (a 0), .int p1, .int p2, .int p3] r := by
  refine xw_ofW (cc := cX_findLink) (maxL := 5) (ret := (some .int)) (lv := [(0, .ref (a 0)), (1, .int p1), (2, .int p2), (3, .int p3)]) (by decide) rfl (Nat.le_of_ble_eq_true rfl) rfl ?_
  intro p e s m below meth c A hAt hP hD hS ls hl
  obtain ⟨hx, hb, hr, hml, hown, hts, hlocks, hK, hZ, hA⟩ := hAt
  replace hts : ∀ w ∈ lw_g, w.before _ s = true := fun w h => hts w (List.mem_cons_of_mem _ h)
  have L_3 : ∀ (n : Nat) (x1 x2 x3 x4 : Int32) (τ : XSt), gX_findLink_3 K n x1 x2 x3 x4 τ = some (r, σ') → ∀ (H : Heap) (locs : List Loc), va_P (dC, dI) vwCl ((w_X a cI cZ) τ) H → va_D A ((w_X a cI cZ) τ) → va_S A s.heap H locs → ∀ (ls : Array Slot), lv_has ls 5 [(0, .ref (a 0)), (1, .int x1), (2, .int x2), (3, .int x3), (4, .int x4)] → W p l e ({ frames := 0, cells := 0, slots := 0, locals := 0 } : Room) s m ([.ref (a 0), .int p1, .int p2, .int p3] : List Value).toArray below meth c H locs 0 0 (MQ below (va_Qi (fun (r2 : Int32) (_ : Unit) => r2 = r) (fun _ t => xw_B (dC, dI) vwCl [(cI, .int), (cZ, .boolean)] A ((w_X a cI cZ) σ') t) A) ([.ref (a 0), .int p1, .int p2, .int p3] : List Value).toArray s 0 0 A) (F0 m 3 ls []) := by
    intro n
    induction n with
    | zero =>
      intro x1 x2 x3 x4 τ hf
      rw [gX_findLink_3] at hf
      cases hf
    | succ n ih =>
      intro x1 x2 x3 x4 τ hf H locs hP hD hS ls hl
      rw [gX_findLink_3] at hf
      refine lv_iload hx hb dX_findLink_3 (lv_at hl 4 rfl) ?_
      refine lv_aload_n hx hb dX_findLink_5 rfl (lv_at hl 0 rfl) ?_
      refine aX_get_links (σ := τ) (v := (x_links τ)) rfl hx hb hts hown hK hP dX_findLink_6 ?_
      refine lv_icmp_ge (tgt := 54) hx hb dX_findLink_9 (by decide) (fun c_1 => ?_) (fun c_1 => ?_)
      · replace hf := it_t hf c_1
        refine lv_iconst (v := (-1 : Int32)) hx hb dX_findLink_54 (by decide) ?_
        exact xw_iret (wf := (w_X a cI cZ)) hx hb hr hlocks rfl hK hP hD hS hf dX_findLink_55
      · replace hf := it_f hf c_1
        refine lv_aload_n hx hb dX_findLink_12 rfl (lv_at hl 0 rfl) ?_
        refine aX_get_linkFrom hx hb hts hown hK hP dX_findLink_13 ?_
        refine lv_iload hx hb dX_findLink_16 (lv_at hl 4 rfl) ?_
        obtain ⟨g_2, hf⟩ := gd_f hf
        refine aX_ld_linkFrom (σ := τ) (f := (x_linkFrom τ)) rfl hx hb hK hP g_2 dX_findLink_18 ?_
        refine lv_iload_n hx hb dX_findLink_19 rfl (lv_at hl 1 rfl) ?_
        refine lv_icmp_ne (tgt := 48) hx hb dX_findLink_20 (by decide) (fun c_3 => ?_) (fun c_3 => ?_)
        · replace hf := it_f hf c_3
          refine lv_iinc (v := (x4 + 1)) (lv' := [(4, .int (x4 + 1)), (0, .ref (a 0)), (1, .int x1), (2, .int x2), (3, .int x3)]) hx hb dX_findLink_48 hl (k := 4) rfl (congrArg (HAdd.hAdd _) (by decide : Int32.ofInt (1) = (1 : Int32))) (by decide) rfl (fun ls hl => ?_)
          refine lv_goto (tgt := 3) hx hb dX_findLink_51 (by decide) ?_
          exact ih x1 x2 x3 (x4 + 1) τ hf _ _ hP hD hS _ (lv_sub hl [1, 2, 3, 4, 0] rfl)
        · replace hf := it_t hf c_3
          refine lv_aload_n hx hb dX_findLink_23 rfl (lv_at hl 0 rfl) ?_
          refine aX_get_linkField hx hb hts hown hK hP dX_findLink_24 ?_
          refine lv_iload hx hb dX_findLink_27 (lv_at hl 4 rfl) ?_
          obtain ⟨g_4, hf⟩ := gd_f hf
          refine aX_ld_linkField (σ := τ) (f := (x_linkField τ)) rfl hx hb hK hP g_4 dX_findLink_29 ?_
          refine lv_iload_n hx hb dX_findLink_30 rfl (lv_at hl 2 rfl) ?_
          refine lv_icmp_ne (tgt := 48) hx hb dX_findLink_31 (by decide) (fun c_5 => ?_) (fun c_5 => ?_)
          · replace hf := it_f hf c_5
            refine lv_iinc (v := (x4 + 1)) (lv' := [(4, .int (x4 + 1)), (0, .ref (a 0)), (1, .int x1), (2, .int x2), (3, .int x3)]) hx hb dX_findLink_48 hl (k := 4) rfl (congrArg (HAdd.hAdd _) (by decide : Int32.ofInt (1) = (1 : Int32))) (by decide) rfl (fun ls hl => ?_)
            refine lv_goto (tgt := 3) hx hb dX_findLink_51 (by decide) ?_
            exact ih x1 x2 x3 (x4 + 1) τ hf _ _ hP hD hS _ (lv_sub hl [1, 2, 3, 4, 0] rfl)
          · replace hf := it_t hf c_5
            refine lv_aload_n hx hb dX_findLink_34 rfl (lv_at hl 0 rfl) ?_
            refine aX_get_linkTo hx hb hts hown hK hP dX_findLink_35 ?_
            refine lv_iload hx hb dX_findLink_38 (lv_at hl 4 rfl) ?_
            obtain ⟨g_6, hf⟩ := gd_f hf
            refine aX_ld_linkTo (σ := τ) (f := (x_linkTo τ)) rfl hx hb hK hP g_6 dX_findLink_40 ?_
            refine lv_iload_n hx hb dX_findLink_41 rfl (lv_at hl 3 rfl) ?_
            refine lv_icmp_ne (tgt := 48) hx hb dX_findLink_42 (by decide) (fun c_7 => ?_) (fun c_7 => ?_)
            · replace hf := it_f hf c_7
              refine lv_iinc (v := (x4 + 1)) (lv' := [(4, .int (x4 + 1)), (0, .ref (a 0)), (1, .int x1), (2, .int x2), (3, .int x3)]) hx hb dX_findLink_48 hl (k := 4) rfl (congrArg (HAdd.hAdd _) (by decide : Int32.ofInt (1) = (1 : Int32))) (by decide) rfl (fun ls hl => ?_)
              refine lv_goto (tgt := 3) hx hb dX_findLink_51 (by decide) ?_
              exact ih x1 x2 x3 (x4 + 1) τ hf _ _ hP hD hS _ (lv_sub hl [1, 2, 3, 4, 0] rfl)
            · replace hf := it_t hf c_7
              refine lv_iload hx hb dX_findLink_45 (lv_at hl 4 rfl) ?_
              exact xw_iret (wf := (w_X a cI cZ)) hx hb hr hlocks rfl hK hP hD hS hf dX_findLink_47
  unfold fX_findLink at hf
  refine lv_iconst (v := (0 : Int32)) hx hb dX_findLink_0 (by decide) ?_
  refine lv_istore (lv' := [(4, .int (0 : Int32)), (0, .ref (a 0)), (1, .int p1), (2, .int p2), (3, .int p3)]) hx hb dX_findLink_1 hl (by decide) rfl (fun ls hl => ?_)
  exact L_3 K p1 p2 p3 (0 : Int32) σ hf _ _ hP hD hS _ (lv_sub hl [1, 2, 3, 4, 0] rfl)
def fX_removeLink (K : Nat) (p1 : Int32) (σ : XSt) : Option (Int32 × XSt) := (if (p1 + (1 : Int32)) < 0 ∨ p1 < 0 ∨ (((x_links σ) - p1) - (1 : Int32)) < 0 ∨ 200 < (p1 + (1 : Int32)).toNatClampNeg + (((x_links σ) - p1) - (1 : Int32)).toNatClampNeg ∨ 200 < p1.toNatClampNeg + (((x_links σ) - p1) - (1 : Int32)).toNatClampNeg then none else (if (p1 + (1 : Int32)) < 0 ∨ p1 < 0 ∨ (((x_links σ) - p1) - (1 : Int32)) < 0 ∨ 200 < (p1 + (1 : Int32)).toNatClampNeg + (((x_links σ) - p1) - (1 : Int32)).toNatClampNeg ∨ 200 < p1.toNatClampNeg + (((x_links σ) - p1) - (1 : Int32)).toNatClampNeg then none else (if (p1 + (1 : Int32)) < 0 ∨ p1 < 0 ∨ (((x_links σ) - p1) - (1 : Int32)) < 0 ∨ 200 < (p1 + (1 : Int32)).toNatClampNeg + (((x_links σ) - p1) - (1 : Int32)).toNatClampNeg ∨ 200 < p1.toNatClampNeg + (((x_links σ) - p1) - (1 : Int32)).toNatClampNeg then none else some ((0 : Int32), (x_plinks (x_plinkTo (x_plinkField (x_plinkFrom σ (va_cpy (x_linkFrom σ) (x_linkFrom σ) (p1 + (1 : Int32)).toNatClampNeg p1.toNatClampNeg (((x_links σ) - p1) - (1 : Int32)).toNatClampNeg)) (va_cpy (x_linkField σ) (x_linkField σ) (p1 + (1 : Int32)).toNatClampNeg p1.toNatClampNeg (((x_links σ) - p1) - (1 : Int32)).toNatClampNeg)) (va_cpy (x_linkTo σ) (x_linkTo σ) (p1 + (1 : Int32)).toNatClampNeg p1.toNatClampNeg (((x_links σ) - p1) - (1 : Int32)).toNatClampNeg)) ((x_links σ) - (1 : Int32)))))))
set_option maxHeartbeats 4000000 in
set_option maxRecDepth 100000 in
theorem kX_removeLink (l : Launch) (dC : Nat → ClassId) (dI : Nat → Nat → Nat) (a : Nat → Nat) (cI cZ : ClassId) (tb : Nat) (K : Nat) (p1 : Int32) (σ σ' : XSt) (r : Int32) (hf : fX_removeLink K p1 σ = some (r, σ')) : xw_Cv l yX_removeLink wdX_removeLink ({ frames := 1, cells := 0, slots := 0, locals := 31 } : Room) (dC, dI) vwCl [(cI, .int), (cZ, .boolean)] (zz tb) ((w_X a cI cZ) σ) ((w_X a cI cZ) σ') [.ref (a 0), .int p1] := by
  refine xw_ofWv (cc := cX_removeLink) (maxL := 3) (ret := none) (lv := [(0, .ref (a 0)), (1, .int p1)]) (by decide) rfl (Nat.le_of_ble_eq_true rfl) rfl ?_
  intro p e s m below meth c A hAt hP hD hS ls hl
  obtain ⟨hx, hb, hr, hml, hown, hts, hlocks, hK, hZ, hA⟩ := hAt
  replace hts : ∀ w ∈ lw_g, w.before _ s = true := fun w h => hts w (List.mem_cons_of_mem _ h)
  have ka_link_107 := hts _ mt_143
  have ka_nat := hts _ mt_145
  have ka_stat := hts _ mt_144
  have ka_ini := hts _ mt_28
  unfold fX_removeLink at hf
  refine lv_aload_n hx hb dX_removeLink_0 rfl (lv_at hl 0 rfl) ?_
  refine aX_get_links (σ := σ) (v := (x_links σ)) rfl hx hb hts hown hK hP dX_removeLink_1 ?_
  refine lv_iload_n hx hb dX_removeLink_4 rfl (lv_at hl 1 rfl) ?_
  refine lv_isub hx hb dX_removeLink_5 ?_
  refine lv_iconst (v := (1 : Int32)) hx hb dX_removeLink_6 (by decide) ?_
  refine lv_isub hx hb dX_removeLink_7 ?_
  refine lv_istore_n (lv' := [(2, .int (((x_links σ) - p1) - (1 : Int32))), (0, .ref (a 0)), (1, .int p1)]) hx hb dX_removeLink_8 rfl hl (by decide) rfl (fun ls hl => ?_)
  refine lv_aload_n hx hb dX_removeLink_9 rfl (lv_at hl 1 rfl) ?_
  refine aX_get_linkFrom hx hb hts hown hK hP dX_removeLink_10 ?_
  refine lv_iload_n hx hb dX_removeLink_13 rfl (lv_at hl 2 rfl) ?_
  refine lv_iconst (v := (1 : Int32)) hx hb dX_removeLink_14 (by decide) ?_
  refine lv_iadd hx hb dX_removeLink_15 ?_
  refine lv_aload_n hx hb dX_removeLink_16 rfl (lv_at hl 1 rfl) ?_
  refine aX_get_linkFrom hx hb hts hown hK hP dX_removeLink_17 ?_
  refine lv_iload_n hx hb dX_removeLink_20 rfl (lv_at hl 2 rfl) ?_
  refine lv_iload_n hx hb dX_removeLink_21 rfl (lv_at hl 0 rfl) ?_
  obtain ⟨g_1, hf⟩ := gd_f hf
  refine va_copyi (f := (x_linkFrom σ)) (g := (x_linkFrom σ)) (ty := .int) hx hb (hml.trans hl.1.symm) hown ka_link_107 ka_nat ka_stat ka_ini hK hP hD hS 6 6 0 0 rfl rfl rfl rfl rfl (fun q => g_1 (Or.inl q)) (fun q => g_1 (Or.inr (Or.inl q))) (fun q => g_1 (Or.inr (Or.inr (Or.inl q)))) (Nat.not_lt.mp fun q => g_1 (Or.inr (Or.inr (Or.inr (Or.inl q))))) (Nat.not_lt.mp fun q => g_1 (Or.inr (Or.inr (Or.inr (Or.inr q))))) (fun _ _ => rfl) (Nat.le_of_ble_eq_true rfl) (Nat.le_of_ble_eq_true rfl) dX_removeLink_22 (fun H locs hP hD hS => ?_)
  have hP : va_P (dC, dI) vwCl ((w_X a cI cZ) (x_plinkFrom σ (va_cpy (x_linkFrom σ) (x_linkFrom σ) (p1 + (1 : Int32)).toNatClampNeg p1.toNatClampNeg (((x_links σ) - p1) - (1 : Int32)).toNatClampNeg))) H := hP
  have hD : va_D A ((w_X a cI cZ) (x_plinkFrom σ (va_cpy (x_linkFrom σ) (x_linkFrom σ) (p1 + (1 : Int32)).toNatClampNeg p1.toNatClampNeg (((x_links σ) - p1) - (1 : Int32)).toNatClampNeg))) := hD
  refine lv_aload_n hx hb dX_removeLink_25 rfl (lv_at hl 1 rfl) ?_
  refine aX_get_linkField hx hb hts hown hK hP dX_removeLink_26 ?_
  refine lv_iload_n hx hb dX_removeLink_29 rfl (lv_at hl 2 rfl) ?_
  refine lv_iconst (v := (1 : Int32)) hx hb dX_removeLink_30 (by decide) ?_
  refine lv_iadd hx hb dX_removeLink_31 ?_
  refine lv_aload_n hx hb dX_removeLink_32 rfl (lv_at hl 1 rfl) ?_
  refine aX_get_linkField hx hb hts hown hK hP dX_removeLink_33 ?_
  refine lv_iload_n hx hb dX_removeLink_36 rfl (lv_at hl 2 rfl) ?_
  refine lv_iload_n hx hb dX_removeLink_37 rfl (lv_at hl 0 rfl) ?_
  obtain ⟨g_2, hf⟩ := gd_f hf
  refine va_copyi (f := (x_linkField σ)) (g := (x_linkField σ)) (ty := .int) hx hb (hml.trans hl.1.symm) hown ka_link_107 ka_nat ka_stat ka_ini hK hP hD hS 7 7 0 0 rfl rfl rfl rfl rfl (fun q => g_2 (Or.inl q)) (fun q => g_2 (Or.inr (Or.inl q))) (fun q => g_2 (Or.inr (Or.inr (Or.inl q)))) (Nat.not_lt.mp fun q => g_2 (Or.inr (Or.inr (Or.inr (Or.inl q))))) (Nat.not_lt.mp fun q => g_2 (Or.inr (Or.inr (Or.inr (Or.inr q))))) (fun _ _ => rfl) (Nat.le_of_ble_eq_true rfl) (Nat.le_of_ble_eq_true rfl) dX_removeLink_38 (fun H locs hP hD hS => ?_)
  have hP : va_P (dC, dI) vwCl ((w_X a cI cZ) (x_plinkField (x_plinkFrom σ (va_cpy (x_linkFrom σ) (x_linkFrom σ) (p1 + (1 : Int32)).toNatClampNeg p1.toNatClampNeg (((x_links σ) - p1) - (1 : Int32)).toNatClampNeg)) (va_cpy (x_linkField σ) (x_linkField σ) (p1 + (1 : Int32)).toNatClampNeg p1.toNatClampNeg (((x_links σ) - p1) - (1 : Int32)).toNatClampNeg))) H := hP
  have hD : va_D A ((w_X a cI cZ) (x_plinkField (x_plinkFrom σ (va_cpy (x_linkFrom σ) (x_linkFrom σ) (p1 + (1 : Int32)).toNatClampNeg p1.toNatClampNeg (((x_links σ) - p1) - (1 : Int32)).toNatClampNeg)) (va_cpy (x_linkField σ) (x_linkField σ) (p1 + (1 : Int32)).toNatClampNeg p1.toNatClampNeg (((x_links σ) - p1) - (1 : Int32)).toNatClampNeg))) := hD
  refine lv_aload_n hx hb dX_removeLink_41 rfl (lv_at hl 1 rfl) ?_
  refine aX_get_linkTo hx hb hts hown hK hP dX_removeLink_42 ?_
  refine lv_iload_n hx hb dX_removeLink_45 rfl (lv_at hl 2 rfl) ?_
  refine lv_iconst (v := (1 : Int32)) hx hb dX_removeLink_46 (by decide) ?_
  refine lv_iadd hx hb dX_removeLink_47 ?_
  refine lv_aload_n hx hb dX_removeLink_48 rfl (lv_at hl 1 rfl) ?_
  refine aX_get_linkTo hx hb hts hown hK hP dX_removeLink_49 ?_
  refine lv_iload_n hx hb dX_removeLink_52 rfl (lv_at hl 2 rfl) ?_
  refine lv_iload_n hx hb dX_removeLink_53 rfl (lv_at hl 0 rfl) ?_
  obtain ⟨g_3, hf⟩ := gd_f hf
  refine va_copyi (f := (x_linkTo σ)) (g := (x_linkTo σ)) (ty := .int) hx hb (hml.trans hl.1.symm) hown ka_link_107 ka_nat ka_stat ka_ini hK hP hD hS 8 8 0 0 rfl rfl rfl rfl rfl (fun q => g_3 (Or.inl q)) (fun q => g_3 (Or.inr (Or.inl q))) (fun q => g_3 (Or.inr (Or.inr (Or.inl q)))) (Nat.not_lt.mp fun q => g_3 (Or.inr (Or.inr (Or.inr (Or.inl q))))) (Nat.not_lt.mp fun q => g_3 (Or.inr (Or.inr (Or.inr (Or.inr q))))) (fun _ _ => rfl) (Nat.le_of_ble_eq_true rfl) (Nat.le_of_ble_eq_true rfl) dX_removeLink_54 (fun H locs hP hD hS => ?_)
  have hP : va_P (dC, dI) vwCl ((w_X a cI cZ) (x_plinkTo (x_plinkField (x_plinkFrom σ (va_cpy (x_linkFrom σ) (x_linkFrom σ) (p1 + (1 : Int32)).toNatClampNeg p1.toNatClampNeg (((x_links σ) - p1) - (1 : Int32)).toNatClampNeg)) (va_cpy (x_linkField σ) (x_linkField σ) (p1 + (1 : Int32)).toNatClampNeg p1.toNatClampNeg (((x_links σ) - p1) - (1 : Int32)).toNatClampNeg)) (va_cpy (x_linkTo σ) (x_linkTo σ) (p1 + (1 : Int32)).toNatClampNeg p1.toNatClampNeg (((x_links σ) - p1) - (1 : Int32)).toNatClampNeg))) H := hP
  have hD : va_D A ((w_X a cI cZ) (x_plinkTo (x_plinkField (x_plinkFrom σ (va_cpy (x_linkFrom σ) (x_linkFrom σ) (p1 + (1 : Int32)).toNatClampNeg p1.toNatClampNeg (((x_links σ) - p1) - (1 : Int32)).toNatClampNeg)) (va_cpy (x_linkField σ) (x_linkField σ) (p1 + (1 : Int32)).toNatClampNeg p1.toNatClampNeg (((x_links σ) - p1) - (1 : Int32)).toNatClampNeg)) (va_cpy (x_linkTo σ) (x_linkTo σ) (p1 + (1 : Int32)).toNatClampNeg p1.toNatClampNeg (((x_links σ) - p1) - (1 : Int32)).toNatClampNeg))) := hD
  refine lv_aload_n hx hb dX_removeLink_57 rfl (lv_at hl 1 rfl) ?_
  refine lv_dup hx hb dX_removeLink_58 rfl ?_
  refine aX_get_links (σ := (x_plinkTo (x_plinkField (x_plinkFrom σ (va_cpy (x_linkFrom σ) (x_linkFrom σ) (p1 + (1 : Int32)).toNatClampNeg p1.toNatClampNeg (((x_links σ) - p1) - (1 : Int32)).toNatClampNeg)) (va_cpy (x_linkField σ) (x_linkField σ) (p1 + (1 : Int32)).toNatClampNeg p1.toNatClampNeg (((x_links σ) - p1) - (1 : Int32)).toNatClampNeg)) (va_cpy (x_linkTo σ) (x_linkTo σ) (p1 + (1 : Int32)).toNatClampNeg p1.toNatClampNeg (((x_links σ) - p1) - (1 : Int32)).toNatClampNeg))) (v := (x_links σ)) rfl hx hb hts hown hK hP dX_removeLink_59 ?_
  refine lv_iconst (v := (1 : Int32)) hx hb dX_removeLink_62 (by decide) ?_
  refine lv_isub hx hb dX_removeLink_63 ?_
  refine aX_put_links (σ := (x_plinkTo (x_plinkField (x_plinkFrom σ (va_cpy (x_linkFrom σ) (x_linkFrom σ) (p1 + (1 : Int32)).toNatClampNeg p1.toNatClampNeg (((x_links σ) - p1) - (1 : Int32)).toNatClampNeg)) (va_cpy (x_linkField σ) (x_linkField σ) (p1 + (1 : Int32)).toNatClampNeg p1.toNatClampNeg (((x_links σ) - p1) - (1 : Int32)).toNatClampNeg)) (va_cpy (x_linkTo σ) (x_linkTo σ) (p1 + (1 : Int32)).toNatClampNeg p1.toNatClampNeg (((x_links σ) - p1) - (1 : Int32)).toNatClampNeg))) (v := ((x_links σ) - (1 : Int32))) (τ := (x_plinks (x_plinkTo (x_plinkField (x_plinkFrom σ (va_cpy (x_linkFrom σ) (x_linkFrom σ) (p1 + (1 : Int32)).toNatClampNeg p1.toNatClampNeg (((x_links σ) - p1) - (1 : Int32)).toNatClampNeg)) (va_cpy (x_linkField σ) (x_linkField σ) (p1 + (1 : Int32)).toNatClampNeg p1.toNatClampNeg (((x_links σ) - p1) - (1 : Int32)).toNatClampNeg)) (va_cpy (x_linkTo σ) (x_linkTo σ) (p1 + (1 : Int32)).toNatClampNeg p1.toNatClampNeg (((x_links σ) - p1) - (1 : Int32)).toNatClampNeg)) ((x_links σ) - (1 : Int32)))) rfl hx hb hts hown hK hP hD hS dX_removeLink_64 (fun H locs hP hD hS => ?_)
  exact xw_vret (wf := (w_X a cI cZ)) hx hb hr hlocks hK hP hD hS hf dX_removeLink_67
def fX_sendToHeading (K : Nat) (p1 p2 : Int32) (σ : XSt) : Option (Int32 × XSt) := (if p1 < 0 ∨ 200 ≤ p1.toNatClampNeg then none else (if p1 < 0 ∨ 200 ≤ p1.toNatClampNeg then none else ((fX_findLink K ((x_linkFrom σ) p1.toNatClampNeg) ((x_linkField σ) p1.toNatClampNeg) p2 σ).bind fun q_3 => (if p1 < 0 ∨ 200 ≤ p1.toNatClampNeg then none else (if q_3.1 = (-1 : Int32) then some ((0 : Int32), (x_plinkTo q_3.2 (upd (x_linkTo q_3.2) p1.toNatClampNeg p2))) else ((fX_removeLink K (if p1 < q_3.1 then q_3.1 else p1) (x_plinkTo q_3.2 (upd (x_linkTo q_3.2) p1.toNatClampNeg p2))).bind fun q_6 => some ((0 : Int32), q_6.2)))))))
set_option maxHeartbeats 4000000 in
set_option maxRecDepth 100000 in
theorem kX_sendToHeading (l : Launch) (dC : Nat → ClassId) (dI : Nat → Nat → Nat) (a : Nat → Nat) (cI cZ : ClassId) (tb : Nat) (K : Nat) (p1 p2 : Int32) (σ σ' : XSt) (r : Int32) (hf : fX_sendToHeading K p1 p2 σ = some (r, σ')) : xw_Cv l yX_sendToHeading wdX_sendToHeading ({ frames := 2, cells := 0, slots := 0, locals := 53 } : Room) (dC, dI) vwCl [(cI, .int), (cZ, .boolean)] (zz tb) ((w_X a cI cZ) σ) ((w_X a cI cZ) σ') [.ref (a 0), .int p1, .int p2] := by
  refine xw_ofWv (cc := cX_sendToHeading) (maxL := 4) (ret := none) (lv := [(0, .ref (a 0)), (1, .int p1), (2, .int p2)]) (by decide) rfl (Nat.le_of_ble_eq_true rfl) rfl ?_
  intro p e s m below meth c A hAt hP hD hS ls hl
  obtain ⟨hx, hb, hr, hml, hown, hts, hlocks, hK, hZ, hA⟩ := hAt
  replace hts : ∀ w ∈ lw_g, w.before _ s = true := fun w h => hts w (List.mem_cons_of_mem _ h)
  have km_link_max_117 := hts _ mt_136
  have km_stat_max := hts _ mt_137
  have km_ini := hts _ mt_27
  have km_code_max := hts _ mt_138
  unfold fX_sendToHeading at hf
  refine lv_aload_n hx hb dX_sendToHeading_0 rfl (lv_at hl 0 rfl) ?_
  refine lv_aload_n hx hb dX_sendToHeading_1 rfl (lv_at hl 0 rfl) ?_
  refine aX_get_linkFrom hx hb hts hown hK hP dX_sendToHeading_2 ?_
  refine lv_iload_n hx hb dX_sendToHeading_5 rfl (lv_at hl 1 rfl) ?_
  obtain ⟨g_1, hf⟩ := gd_f hf
  refine aX_ld_linkFrom (σ := σ) (f := (x_linkFrom σ)) rfl hx hb hK hP g_1 dX_sendToHeading_6 ?_
  refine lv_aload_n hx hb dX_sendToHeading_7 rfl (lv_at hl 0 rfl) ?_
  refine aX_get_linkField hx hb hts hown hK hP dX_sendToHeading_8 ?_
  refine lv_iload_n hx hb dX_sendToHeading_11 rfl (lv_at hl 1 rfl) ?_
  obtain ⟨g_2, hf⟩ := gd_f hf
  refine aX_ld_linkField (σ := σ) (f := (x_linkField σ)) rfl hx hb hK hP g_2 dX_sendToHeading_12 ?_
  refine lv_iload_n hx hb dX_sendToHeading_13 rfl (lv_at hl 2 rfl) ?_
  obtain ⟨q_3, hq_3, hf⟩ := bd_s hf
  refine xw_callV (kX_findLink l dC dI a cI cZ tb K ((x_linkFrom σ) p1.toNatClampNeg) ((x_linkField σ) p1.toNatClampNeg) p2 σ q_3.2 q_3.1 hq_3) ⟨hx, hb, hml, hown, hts⟩ (cwV 3 hts (gw_V mt_132 mt_134 mt_9 mt_25 mt_135) rfl rfl rfl hdX_findLink ⟨Nat.le_of_ble_eq_true rfl, Nat.le_of_ble_eq_true rfl⟩) hK hP hD hS hA hZ (q0 := 0) (ci := 0) rfl rfl rfl hl.1 rfl (Nat.le_of_ble_eq_true rfl) dX_sendToHeading_14 ⟨Nat.zero_le _, Nat.zero_le _⟩ (fun H locs hP hD hS => ?_)
  refine lv_istore_n (lv' := [(3, .int q_3.1), (0, .ref (a 0)), (1, .int p1), (2, .int p2)]) hx hb dX_sendToHeading_17 rfl hl (by decide) rfl (fun ls hl => ?_)
  refine lv_aload_n hx hb dX_sendToHeading_18 rfl (lv_at hl 1 rfl) ?_
  refine aX_get_linkTo hx hb hts hown hK hP dX_sendToHeading_19 ?_
  refine lv_iload_n hx hb dX_sendToHeading_22 rfl (lv_at hl 2 rfl) ?_
  refine lv_iload_n hx hb dX_sendToHeading_23 rfl (lv_at hl 3 rfl) ?_
  obtain ⟨g_4, hf⟩ := gd_f hf
  refine aX_st_linkTo (σ := q_3.2) (f := (x_linkTo q_3.2)) (x := p2) (τ := (x_plinkTo q_3.2 (upd (x_linkTo q_3.2) p1.toNatClampNeg p2))) rfl rfl hx hb hK hP hD hS g_4 dX_sendToHeading_24 (fun H locs hP hD hS => ?_)
  refine lv_iload_n hx hb dX_sendToHeading_25 rfl (lv_at hl 0 rfl) ?_
  refine lv_iconst (v := (-1 : Int32)) hx hb dX_sendToHeading_26 (by decide) ?_
  refine lv_icmp_eq (tgt := 39) hx hb dX_sendToHeading_27 (by decide) (fun c_5 => ?_) (fun c_5 => ?_)
  · replace hf := it_t hf c_5
    exact xw_vret (wf := (w_X a cI cZ)) hx hb hr hlocks hK hP hD hS hf dX_sendToHeading_39
  · replace hf := it_f hf c_5
    refine lv_aload_n hx hb dX_sendToHeading_30 rfl (lv_at hl 1 rfl) ?_
    refine lv_iload_n hx hb dX_sendToHeading_31 rfl (lv_at hl 2 rfl) ?_
    refine lv_iload_n hx hb dX_sendToHeading_32 rfl (lv_at hl 0 rfl) ?_
    refine va_mmax hx hb (hml.trans hl.1.symm) hown km_link_max_117 km_stat_max km_ini km_code_max (Nat.le_of_ble_eq_true rfl) (Nat.le_of_ble_eq_true rfl) (Nat.zero_le _) (Nat.zero_le _) dX_sendToHeading_33 ?_
    obtain ⟨q_6, hq_6, hf⟩ := bd_s hf
    refine xw_callVv (kX_removeLink l dC dI a cI cZ tb K (if p1 < q_3.1 then q_3.1 else p1) (x_plinkTo q_3.2 (upd (x_linkTo q_3.2) p1.toNatClampNeg p2)) q_6.2 q_6.1 hq_6) ⟨hx, hb, hml, hown, hts⟩ (cwV 1 hts (gw_V mt_139 mt_141 mt_10 mt_25 mt_142) rfl rfl rfl hdX_removeLink ⟨Nat.le_of_ble_eq_true rfl, Nat.le_of_ble_eq_true rfl⟩) hK hP hD hS hA hZ (q0 := 0) (ci := 0) rfl rfl rfl hl.1 rfl (Nat.le_of_ble_eq_true rfl) dX_sendToHeading_36 ⟨Nat.zero_le _, Nat.zero_le _⟩ (fun H locs hP hD hS => ?_)
    exact xw_vret (wf := (w_X a cI cZ)) hx hb hr hlocks hK hP hD hS hf dX_sendToHeading_39
def gX_change_41 (K : Nat) : Nat → Int32 → Int32 → Int32 → Int32 → XSt → Option (Int32 × XSt)
  | 0, _, _, _, _, _ => none
  | n + 1, x1, x2, x3, x4, τ => (if x4 < 0 then some (x3, τ) else (if x4 < 0 ∨ 200 ≤ x4.toNatClampNeg then none else (if ((x_linkField τ) x4.toNatClampNeg) < (4 : Int32) then (gX_change_41 K n x1 x2 x3 (x4 + (-1)) τ) else (if x4 < 0 ∨ 200 ≤ x4.toNatClampNeg then none else (if ((x_linkTo τ) x4.toNatClampNeg) = x1 then (if x4 < 0 ∨ 200 ≤ x4.toNatClampNeg then none else ((fX_noteChange K ((x_linkFrom τ) x4.toNatClampNeg) τ).bind fun q_12 => ((fX_sendToHeading K x4 x2 q_12.2).bind fun q_13 => (gX_change_41 K n x1 x2 (x3 + 1) (x4 + (-1)) q_13.2)))) else (gX_change_41 K n x1 x2 x3 (x4 + (-1)) τ))))))
def fX_change (K : Nat) (p1 p2 : Int32) (σ : XSt) : Option (Int32 × XSt) := ((fX_isHeading K p1 (x_pmoment σ ((x_moment σ) + (1 : Int32)))).bind fun q_1 => (if q_1.1 = 0 then some ((0 : Int32), q_1.2) else ((fX_isHeading K p2 q_1.2).bind fun q_3 => (if q_3.1 = 0 then some ((0 : Int32), q_3.2) else (if p1 = p2 then some ((0 : Int32), q_3.2) else (gX_change_41 K K p1 p2 (0 : Int32) ((x_links q_3.2) - (1 : Int32)) q_3.2))))))
set_option maxHeartbeats 4000000 in
set_option maxRecDepth 100000 in
theorem kX_change (l : Launch) (dC : Nat → ClassId) (dI : Nat → Nat → Nat) (a : Nat → Nat) (cI cZ : ClassId) (tb : Nat) (K : Nat) (p1 p2 : Int32) (σ σ' : XSt) (r : Int32) (hf : fX_change K p1 p2 σ = some (r, σ')) : xw_Ct l yX_change wdX_change ({ frames := 3, cells := 0, slots := 0, locals := 76 } : Room) (dC, dI) vwCl [(cI, .int), (cZ, .boolean)] (zz tb) ((w_X a cI cZ) σ) ((w_X a cI cZ) σ') [.ref (a 0), .int p1, .int p2] r := by
  refine xw_ofW (cc := cX_change) (maxL := 5) (ret := (some .int)) (lv := [(0, .ref (a 0)), (1, .int p1), (2, .int p2)]) (by decide) rfl (Nat.le_of_ble_eq_true rfl) rfl ?_
  intro p e s m below meth c A hAt hP hD hS ls hl
  obtain ⟨hx, hb, hr, hml, hown, hts, hlocks, hK, hZ, hA⟩ := hAt
  replace hts : ∀ w ∈ lw_g, w.before _ s = true := fun w h => hts w (List.mem_cons_of_mem _ h)
  have L_41 : ∀ (n : Nat) (x1 x2 x3 x4 : Int32) (τ : XSt), gX_change_41 K n x1 x2 x3 x4 τ = some (r, σ') → ∀ (H : Heap) (locs : List Loc), va_P (dC, dI) vwCl ((w_X a cI cZ) τ) H → va_D A ((w_X a cI cZ) τ) → va_S A s.heap H locs → ∀ (ls : Array Slot), lv_has ls 5 [(0, .ref (a 0)), (1, .int x1), (2, .int x2), (3, .int x3), (4, .int x4)] → W p l e ({ frames := 3, cells := 0, slots := 0, locals := 76 } : Room) s m ([.ref (a 0), .int p1, .int p2] : List Value).toArray below meth c H locs 0 0 (MQ below (va_Qi (fun (r2 : Int32) (_ : Unit) => r2 = r) (fun _ t => xw_B (dC, dI) vwCl [(cI, .int), (cZ, .boolean)] A ((w_X a cI cZ) σ') t) A) ([.ref (a 0), .int p1, .int p2] : List Value).toArray s 0 0 A) (F0 m 41 ls []) := by
    intro n
    induction n with
    | zero =>
      intro x1 x2 x3 x4 τ hf
      rw [gX_change_41] at hf
      cases hf
    | succ n ih =>
      intro x1 x2 x3 x4 τ hf H locs hP hD hS ls hl
      rw [gX_change_41] at hf
      refine lv_iload hx hb dX_change_41 (lv_at hl 4 rfl) ?_
      refine lv_if_lt (tgt := 95) hx hb dX_change_43 (by decide) (fun c_6 => ?_) (fun c_6 => ?_)
      · replace hf := it_t hf c_6
        refine lv_iload_n hx hb dX_change_95 rfl (lv_at hl 3 rfl) ?_
        exact xw_iret (wf := (w_X a cI cZ)) hx hb hr hlocks rfl hK hP hD hS hf dX_change_96
      · replace hf := it_f hf c_6
        refine lv_aload_n hx hb dX_change_46 rfl (lv_at hl 0 rfl) ?_
        refine aX_get_linkField hx hb hts hown hK hP dX_change_47 ?_
        refine lv_iload hx hb dX_change_50 (lv_at hl 4 rfl) ?_
        obtain ⟨g_7, hf⟩ := gd_f hf
        refine aX_ld_linkField (σ := τ) (f := (x_linkField τ)) rfl hx hb hK hP g_7 dX_change_52 ?_
        refine lv_iconst (v := (4 : Int32)) hx hb dX_change_53 (by decide) ?_
        refine lv_icmp_lt (tgt := 89) hx hb dX_change_54 (by decide) (fun c_8 => ?_) (fun c_8 => ?_)
        · replace hf := it_t hf c_8
          refine lv_iinc (v := (x4 + (-1))) (lv' := [(4, .int (x4 + (-1))), (0, .ref (a 0)), (1, .int x1), (2, .int x2), (3, .int x3)]) hx hb dX_change_89 hl (k := 4) rfl (congrArg (HAdd.hAdd _) (by decide : Int32.ofInt (-1) = (-1 : Int32))) (by decide) rfl (fun ls hl => ?_)
          refine lv_goto (tgt := 41) hx hb dX_change_92 (by decide) ?_
          exact ih x1 x2 x3 (x4 + (-1)) τ hf _ _ hP hD hS _ (lv_sub hl [1, 2, 3, 4, 0] rfl)
        · replace hf := it_f hf c_8
          refine lv_aload_n hx hb dX_change_57 rfl (lv_at hl 0 rfl) ?_
          refine aX_get_linkTo hx hb hts hown hK hP dX_change_58 ?_
          refine lv_iload hx hb dX_change_61 (lv_at hl 4 rfl) ?_
          obtain ⟨g_9, hf⟩ := gd_f hf
          refine aX_ld_linkTo (σ := τ) (f := (x_linkTo τ)) rfl hx hb hK hP g_9 dX_change_63 ?_
          refine lv_iload_n hx hb dX_change_64 rfl (lv_at hl 1 rfl) ?_
          refine lv_icmp_ne (tgt := 89) hx hb dX_change_65 (by decide) (fun c_10 => ?_) (fun c_10 => ?_)
          · replace hf := it_f hf c_10
            refine lv_iinc (v := (x4 + (-1))) (lv' := [(4, .int (x4 + (-1))), (0, .ref (a 0)), (1, .int x1), (2, .int x2), (3, .int x3)]) hx hb dX_change_89 hl (k := 4) rfl (congrArg (HAdd.hAdd _) (by decide : Int32.ofInt (-1) = (-1 : Int32))) (by decide) rfl (fun ls hl => ?_)
            refine lv_goto (tgt := 41) hx hb dX_change_92 (by decide) ?_
            exact ih x1 x2 x3 (x4 + (-1)) τ hf _ _ hP hD hS _ (lv_sub hl [1, 2, 3, 4, 0] rfl)
          · replace hf := it_t hf c_10
            refine lv_iinc (v := (x3 + 1)) (lv' := [(3, .int (x3 + 1)), (0, .ref (a 0)), (1, .int x1), (2, .int x2), (4, .int x4)]) hx hb dX_change_68 hl (k := 3) rfl (congrArg (HAdd.hAdd _) (by decide : Int32.ofInt (1) = (1 : Int32))) (by decide) rfl (fun ls hl => ?_)
            refine lv_aload_n hx hb dX_change_71 rfl (lv_at hl 1 rfl) ?_
            refine lv_aload_n hx hb dX_change_72 rfl (lv_at hl 1 rfl) ?_
            refine aX_get_linkFrom hx hb hts hown hK hP dX_change_73 ?_
            refine lv_iload hx hb dX_change_76 (lv_at hl 4 rfl) ?_
            obtain ⟨g_11, hf⟩ := gd_f hf
            refine aX_ld_linkFrom (σ := τ) (f := (x_linkFrom τ)) rfl hx hb hK hP g_11 dX_change_78 ?_
            obtain ⟨q_12, hq_12, hf⟩ := bd_s hf
            refine xw_callVv (kX_noteChange l dC dI a cI cZ tb K ((x_linkFrom τ) x4.toNatClampNeg) τ q_12.2 q_12.1 hq_12) ⟨hx, hb, hml, hown, hts⟩ (cwV 1 hts (gw_V mt_120 mt_122 mt_7 mt_25 mt_123) rfl rfl rfl hdX_noteChange ⟨Nat.le_of_ble_eq_true rfl, Nat.le_of_ble_eq_true rfl⟩) hK hP hD hS hA hZ (q0 := 0) (ci := 0) rfl rfl rfl hl.1 rfl (Nat.le_of_ble_eq_true rfl) dX_change_79 ⟨Nat.zero_le _, Nat.zero_le _⟩ (fun H locs hP hD hS => ?_)
            refine lv_aload_n hx hb dX_change_82 rfl (lv_at hl 1 rfl) ?_
            refine lv_iload hx hb dX_change_83 (lv_at hl 4 rfl) ?_
            refine lv_iload_n hx hb dX_change_85 rfl (lv_at hl 3 rfl) ?_
            obtain ⟨q_13, hq_13, hf⟩ := bd_s hf
            refine xw_callVv (kX_sendToHeading l dC dI a cI cZ tb K x4 x2 q_12.2 q_13.2 q_13.1 hq_13) ⟨hx, hb, hml, hown, hts⟩ (cwV 2 hts (gw_V mt_128 mt_130 mt_8 mt_25 mt_131) rfl rfl rfl hdX_sendToHeading ⟨Nat.le_of_ble_eq_true rfl, Nat.le_of_ble_eq_true rfl⟩) hK hP hD hS hA hZ (q0 := 0) (ci := 0) rfl rfl rfl hl.1 rfl (Nat.le_of_ble_eq_true rfl) dX_change_86 ⟨Nat.zero_le _, Nat.zero_le _⟩ (fun H locs hP hD hS => ?_)
            refine lv_iinc (v := (x4 + (-1))) (lv' := [(4, .int (x4 + (-1))), (3, .int (x3 + 1)), (0, .ref (a 0)), (1, .int x1), (2, .int x2)]) hx hb dX_change_89 hl (k := 4) rfl (congrArg (HAdd.hAdd _) (by decide : Int32.ofInt (-1) = (-1 : Int32))) (by decide) rfl (fun ls hl => ?_)
            refine lv_goto (tgt := 41) hx hb dX_change_92 (by decide) ?_
            exact ih x1 x2 (x3 + 1) (x4 + (-1)) q_13.2 hf _ _ hP hD hS _ (lv_sub hl [2, 3, 4, 1, 0] rfl)
  unfold fX_change at hf
  refine lv_aload_n hx hb dX_change_0 rfl (lv_at hl 0 rfl) ?_
  refine lv_dup hx hb dX_change_1 rfl ?_
  refine aX_get_moment (σ := σ) (v := (x_moment σ)) rfl hx hb hts hown hK hP dX_change_2 ?_
  refine lv_iconst (v := (1 : Int32)) hx hb dX_change_5 (by decide) ?_
  refine lv_iadd hx hb dX_change_6 ?_
  refine aX_put_moment (σ := σ) (v := ((x_moment σ) + (1 : Int32))) (τ := (x_pmoment σ ((x_moment σ) + (1 : Int32)))) rfl hx hb hts hown hK hP hD hS dX_change_7 (fun H locs hP hD hS => ?_)
  refine lv_iload_n hx hb dX_change_10 rfl (lv_at hl 1 rfl) ?_
  obtain ⟨q_1, hq_1, hf⟩ := bd_s hf
  refine xw_callS (kX_isHeading l dC dI a cI cZ tb K p1 (x_pmoment σ ((x_moment σ) + (1 : Int32))) q_1.2 q_1.1 hq_1) ⟨hx, hb, hml, hown, hts⟩ (va_cwS 1 hts (gw_S mt_103 mt_104 mt_25 mt_105) rfl rfl rfl hdX_isHeading ⟨Nat.le_of_ble_eq_true rfl, Nat.le_of_ble_eq_true rfl⟩) hK hP hD hS hA hZ rfl hl.1 rfl (Nat.le_of_ble_eq_true rfl) dX_change_11 ⟨Nat.zero_le _, Nat.zero_le _⟩ (fun H locs hP hD hS => ?_)
  refine lv_if_eq (tgt := 29) hx hb dX_change_14 (by decide) (fun c_2 => ?_) (fun c_2 => ?_)
  · replace hf := it_t hf c_2
    refine lv_iconst (v := (0 : Int32)) hx hb dX_change_29 (by decide) ?_
    exact xw_iret (wf := (w_X a cI cZ)) hx hb hr hlocks rfl hK hP hD hS hf dX_change_30
  · replace hf := it_f hf c_2
    refine lv_iload_n hx hb dX_change_17 rfl (lv_at hl 2 rfl) ?_
    obtain ⟨q_3, hq_3, hf⟩ := bd_s hf
    refine xw_callS (kX_isHeading l dC dI a cI cZ tb K p2 q_1.2 q_3.2 q_3.1 hq_3) ⟨hx, hb, hml, hown, hts⟩ (va_cwS 1 hts (gw_S mt_103 mt_104 mt_25 mt_105) rfl rfl rfl hdX_isHeading ⟨Nat.le_of_ble_eq_true rfl, Nat.le_of_ble_eq_true rfl⟩) hK hP hD hS hA hZ rfl hl.1 rfl (Nat.le_of_ble_eq_true rfl) dX_change_18 ⟨Nat.zero_le _, Nat.zero_le _⟩ (fun H locs hP hD hS => ?_)
    refine lv_if_eq (tgt := 29) hx hb dX_change_21 (by decide) (fun c_4 => ?_) (fun c_4 => ?_)
    · replace hf := it_t hf c_4
      refine lv_iconst (v := (0 : Int32)) hx hb dX_change_29 (by decide) ?_
      exact xw_iret (wf := (w_X a cI cZ)) hx hb hr hlocks rfl hK hP hD hS hf dX_change_30
    · replace hf := it_f hf c_4
      refine lv_iload_n hx hb dX_change_24 rfl (lv_at hl 1 rfl) ?_
      refine lv_iload_n hx hb dX_change_25 rfl (lv_at hl 2 rfl) ?_
      refine lv_icmp_ne (tgt := 31) hx hb dX_change_26 (by decide) (fun c_5 => ?_) (fun c_5 => ?_)
      · replace hf := it_f hf c_5
        refine lv_iconst (v := (0 : Int32)) hx hb dX_change_31 (by decide) ?_
        refine lv_istore_n (lv' := [(3, .int (0 : Int32)), (0, .ref (a 0)), (1, .int p1), (2, .int p2)]) hx hb dX_change_32 rfl hl (by decide) rfl (fun ls hl => ?_)
        refine lv_aload_n hx hb dX_change_33 rfl (lv_at hl 1 rfl) ?_
        refine aX_get_links (σ := q_3.2) (v := (x_links q_3.2)) rfl hx hb hts hown hK hP dX_change_34 ?_
        refine lv_iconst (v := (1 : Int32)) hx hb dX_change_37 (by decide) ?_
        refine lv_isub hx hb dX_change_38 ?_
        refine lv_istore (lv' := [(4, .int ((x_links q_3.2) - (1 : Int32))), (3, .int (0 : Int32)), (0, .ref (a 0)), (1, .int p1), (2, .int p2)]) hx hb dX_change_39 hl (by decide) rfl (fun ls hl => ?_)
        exact L_41 K p1 p2 (0 : Int32) ((x_links q_3.2) - (1 : Int32)) q_3.2 hf _ _ hP hD hS _ (lv_sub hl [2, 3, 4, 1, 0] rfl)
      · replace hf := it_t hf c_5
        refine lv_iconst (v := (0 : Int32)) hx hb dX_change_29 (by decide) ?_
        exact xw_iret (wf := (w_X a cI cZ)) hx hb hr hlocks rfl hK hP hD hS hf dX_change_30
def gX_findBroken_10 (K : Nat) : Nat → Int32 → Int32 → Int32 → XSt → Option (Int32 × XSt)
  | 0, _, _, _, _ => none
  | n + 1, x1, x2, x3, τ => (if (x_links τ) ≤ x3 then some ((-1 : Int32), τ) else (if x3 < 0 ∨ 200 ≤ x3.toNatClampNeg then none else (if (4 : Int32) ≤ ((x_linkField τ) x3.toNatClampNeg) then (gX_findBroken_10 K n x1 x2 (x3 + 1) τ) else (if x3 < 0 ∨ 200 ≤ x3.toNatClampNeg then none else (if ((x_linkTo τ) x3.toNatClampNeg) < 0 ∨ 61 ≤ ((x_linkTo τ) x3.toNatClampNeg).toNatClampNeg then none else (if ((x_live τ) ((x_linkTo τ) x3.toNatClampNeg).toNatClampNeg) = 0 then (if x2 = x1 then some (x3, τ) else (gX_findBroken_10 K n x1 (x2 + 1) (x3 + 1) τ)) else (gX_findBroken_10 K n x1 x2 (x3 + 1) τ)))))))
def fX_findBroken (K : Nat) (p1 : Int32) (σ : XSt) : Option (Int32 × XSt) := (if 0 ≤ p1 then (gX_findBroken_10 K K p1 (0 : Int32) (0 : Int32) σ) else some ((-1 : Int32), σ))
set_option maxHeartbeats 4000000 in
set_option maxRecDepth 100000 in
theorem kX_findBroken (l : Launch) (dC : Nat → ClassId) (dI : Nat → Nat → Nat) (a : Nat → Nat) (cI cZ : ClassId) (tb : Nat) (K : Nat) (p1 : Int32) (σ σ' : XSt) (r : Int32) (hf : fX_findBroken K p1 σ = some (r, σ')) : xw_Ct l yX_findBroken wdX_findBroken ({ frames := 0, cells := 0, slots := 0, locals := 0 } : Room) (dC, dI) vwCl [(cI, .int), (cZ, .boolean)] (zz tb) ((w_X a cI cZ) σ) ((w_X a cI cZ) σ') [.ref (a 0), .int p1] r := by
  refine xw_ofW (cc := cX_findBroken) (maxL := 4) (ret := (some .int)) (lv := [(0, .ref (a 0)), (1, .int p1)]) (by decide) rfl (Nat.le_of_ble_eq_true rfl) rfl ?_
  intro p e s m below meth c A hAt hP hD hS ls hl
  obtain ⟨hx, hb, hr, hml, hown, hts, hlocks, hK, hZ, hA⟩ := hAt
  replace hts : ∀ w ∈ lw_g, w.before _ s = true := fun w h => hts w (List.mem_cons_of_mem _ h)
  have L_10 : ∀ (n : Nat) (x1 x2 x3 : Int32) (τ : XSt), gX_findBroken_10 K n x1 x2 x3 τ = some (r, σ') → ∀ (H : Heap) (locs : List Loc), va_P (dC, dI) vwCl ((w_X a cI cZ) τ) H → va_D A ((w_X a cI cZ) τ) → va_S A s.heap H locs → ∀ (ls : Array Slot), lv_has ls 4 [(0, .ref (a 0)), (1, .int x1), (2, .int x2), (3, .int x3)] → W p l e ({ frames := 0, cells := 0, slots := 0, locals := 0 } : Room) s m ([.ref (a 0), .int p1] : List Value).toArray below meth c H locs 0 0 (MQ below (va_Qi (fun (r2 : Int32) (_ : Unit) => r2 = r) (fun _ t => xw_B (dC, dI) vwCl [(cI, .int), (cZ, .boolean)] A ((w_X a cI cZ) σ') t) A) ([.ref (a 0), .int p1] : List Value).toArray s 0 0 A) (F0 m 10 ls []) := by
    intro n
    induction n with
    | zero =>
      intro x1 x2 x3 τ hf
      rw [gX_findBroken_10] at hf
      cases hf
    | succ n ih =>
      intro x1 x2 x3 τ hf H locs hP hD hS ls hl
      rw [gX_findBroken_10] at hf
      refine lv_iload_n hx hb dX_findBroken_10 rfl (lv_at hl 3 rfl) ?_
      refine lv_aload_n hx hb dX_findBroken_11 rfl (lv_at hl 0 rfl) ?_
      refine aX_get_links (σ := τ) (v := (x_links τ)) rfl hx hb hts hown hK hP dX_findBroken_12 ?_
      refine lv_icmp_ge (tgt := 58) hx hb dX_findBroken_15 (by decide) (fun c_2 => ?_) (fun c_2 => ?_)
      · replace hf := it_t hf c_2
        refine lv_iconst (v := (-1 : Int32)) hx hb dX_findBroken_58 (by decide) ?_
        exact xw_iret (wf := (w_X a cI cZ)) hx hb hr hlocks rfl hK hP hD hS hf dX_findBroken_59
      · replace hf := it_f hf c_2
        refine lv_aload_n hx hb dX_findBroken_18 rfl (lv_at hl 0 rfl) ?_
        refine aX_get_linkField hx hb hts hown hK hP dX_findBroken_19 ?_
        refine lv_iload_n hx hb dX_findBroken_22 rfl (lv_at hl 3 rfl) ?_
        obtain ⟨g_3, hf⟩ := gd_f hf
        refine aX_ld_linkField (σ := τ) (f := (x_linkField τ)) rfl hx hb hK hP g_3 dX_findBroken_23 ?_
        refine lv_iconst (v := (4 : Int32)) hx hb dX_findBroken_24 (by decide) ?_
        refine lv_icmp_ge (tgt := 52) hx hb dX_findBroken_25 (by decide) (fun c_4 => ?_) (fun c_4 => ?_)
        · replace hf := it_t hf c_4
          refine lv_iinc (v := (x3 + 1)) (lv' := [(3, .int (x3 + 1)), (0, .ref (a 0)), (1, .int x1), (2, .int x2)]) hx hb dX_findBroken_52 hl (k := 3) rfl (congrArg (HAdd.hAdd _) (by decide : Int32.ofInt (1) = (1 : Int32))) (by decide) rfl (fun ls hl => ?_)
          refine lv_goto (tgt := 10) hx hb dX_findBroken_55 (by decide) ?_
          exact ih x1 x2 (x3 + 1) τ hf _ _ hP hD hS _ (lv_sub hl [1, 2, 3, 0] rfl)
        · replace hf := it_f hf c_4
          refine lv_aload_n hx hb dX_findBroken_28 rfl (lv_at hl 0 rfl) ?_
          refine aX_get_live hx hb hts hown hK hP dX_findBroken_29 ?_
          refine lv_aload_n hx hb dX_findBroken_32 rfl (lv_at hl 0 rfl) ?_
          refine aX_get_linkTo hx hb hts hown hK hP dX_findBroken_33 ?_
          refine lv_iload_n hx hb dX_findBroken_36 rfl (lv_at hl 3 rfl) ?_
          obtain ⟨g_5, hf⟩ := gd_f hf
          refine aX_ld_linkTo (σ := τ) (f := (x_linkTo τ)) rfl hx hb hK hP g_5 dX_findBroken_37 ?_
          obtain ⟨g_6, hf⟩ := gd_f hf
          refine aX_ld_live (σ := τ) (f := (x_live τ)) rfl hx hb hK hP g_6 dX_findBroken_38 ?_
          refine lv_if_ne (tgt := 52) hx hb dX_findBroken_39 (by decide) (fun c_7 => ?_) (fun c_7 => ?_)
          · replace hf := it_f hf c_7
            refine lv_iinc (v := (x3 + 1)) (lv' := [(3, .int (x3 + 1)), (0, .ref (a 0)), (1, .int x1), (2, .int x2)]) hx hb dX_findBroken_52 hl (k := 3) rfl (congrArg (HAdd.hAdd _) (by decide : Int32.ofInt (1) = (1 : Int32))) (by decide) rfl (fun ls hl => ?_)
            refine lv_goto (tgt := 10) hx hb dX_findBroken_55 (by decide) ?_
            exact ih x1 x2 (x3 + 1) τ hf _ _ hP hD hS _ (lv_sub hl [1, 2, 3, 0] rfl)
          · replace hf := it_t hf c_7
            refine lv_iload_n hx hb dX_findBroken_42 rfl (lv_at hl 2 rfl) ?_
            refine lv_iload_n hx hb dX_findBroken_43 rfl (lv_at hl 1 rfl) ?_
            refine lv_icmp_ne (tgt := 49) hx hb dX_findBroken_44 (by decide) (fun c_8 => ?_) (fun c_8 => ?_)
            · replace hf := it_f hf c_8
              refine lv_iinc (v := (x2 + 1)) (lv' := [(2, .int (x2 + 1)), (0, .ref (a 0)), (1, .int x1), (3, .int x3)]) hx hb dX_findBroken_49 hl (k := 2) rfl (congrArg (HAdd.hAdd _) (by decide : Int32.ofInt (1) = (1 : Int32))) (by decide) rfl (fun ls hl => ?_)
              refine lv_iinc (v := (x3 + 1)) (lv' := [(3, .int (x3 + 1)), (2, .int (x2 + 1)), (0, .ref (a 0)), (1, .int x1)]) hx hb dX_findBroken_52 hl (k := 3) rfl (congrArg (HAdd.hAdd _) (by decide : Int32.ofInt (1) = (1 : Int32))) (by decide) rfl (fun ls hl => ?_)
              refine lv_goto (tgt := 10) hx hb dX_findBroken_55 (by decide) ?_
              exact ih x1 (x2 + 1) (x3 + 1) τ hf _ _ hP hD hS _ (lv_sub hl [2, 3, 1, 0] rfl)
            · replace hf := it_t hf c_8
              refine lv_iload_n hx hb dX_findBroken_47 rfl (lv_at hl 3 rfl) ?_
              exact xw_iret (wf := (w_X a cI cZ)) hx hb hr hlocks rfl hK hP hD hS hf dX_findBroken_48
  unfold fX_findBroken at hf
  refine lv_iload_n hx hb dX_findBroken_0 rfl (lv_at hl 1 rfl) ?_
  refine lv_if_ge (tgt := 6) hx hb dX_findBroken_1 (by decide) (fun c_1 => ?_) (fun c_1 => ?_)
  · replace hf := it_t hf c_1
    refine lv_iconst (v := (0 : Int32)) hx hb dX_findBroken_6 (by decide) ?_
    refine lv_istore_n (lv' := [(2, .int (0 : Int32)), (0, .ref (a 0)), (1, .int p1)]) hx hb dX_findBroken_7 rfl hl (by decide) rfl (fun ls hl => ?_)
    refine lv_iconst (v := (0 : Int32)) hx hb dX_findBroken_8 (by decide) ?_
    refine lv_istore_n (lv' := [(3, .int (0 : Int32)), (2, .int (0 : Int32)), (0, .ref (a 0)), (1, .int p1)]) hx hb dX_findBroken_9 rfl hl (by decide) rfl (fun ls hl => ?_)
    exact L_10 K p1 (0 : Int32) (0 : Int32) σ hf _ _ hP hD hS _ (lv_sub hl [2, 3, 1, 0] rfl)
  · replace hf := it_f hf c_1
    refine lv_iconst (v := (-1 : Int32)) hx hb dX_findBroken_4 (by decide) ?_
    exact xw_iret (wf := (w_X a cI cZ)) hx hb hr hlocks rfl hK hP hD hS hf dX_findBroken_5
def fX_broken (K : Nat) (p1 p2 : Int32) (σ : XSt) : Option (Int32 × XSt) := ((fX_findBroken K p1 σ).bind fun q_1 => (if q_1.1 = (-1 : Int32) then some ((-1 : Int32), q_1.2) else (if p2 = 0 then (if q_1.1 < 0 ∨ 200 ≤ q_1.1.toNatClampNeg then none else some (((x_linkFrom q_1.2) q_1.1.toNatClampNeg), q_1.2)) else (if p2 = 1 then (if q_1.1 < 0 ∨ 200 ≤ q_1.1.toNatClampNeg then none else some (((x_linkField q_1.2) q_1.1.toNatClampNeg), q_1.2)) else (if p2 = 2 then (if q_1.1 < 0 ∨ 200 ≤ q_1.1.toNatClampNeg then none else some (((x_linkTo q_1.2) q_1.1.toNatClampNeg), q_1.2)) else some ((-1 : Int32), q_1.2))))))
set_option maxHeartbeats 4000000 in
set_option maxRecDepth 100000 in
theorem kX_broken (l : Launch) (dC : Nat → ClassId) (dI : Nat → Nat → Nat) (a : Nat → Nat) (cI cZ : ClassId) (tb : Nat) (K : Nat) (p1 p2 : Int32) (σ σ' : XSt) (r : Int32) (hf : fX_broken K p1 p2 σ = some (r, σ')) : xw_Ct l yX_broken wdX_broken ({ frames := 1, cells := 0, slots := 0, locals := 23 } : Room) (dC, dI) vwCl [(cI, .int), (cZ, .boolean)] (zz tb) ((w_X a cI cZ) σ) ((w_X a cI cZ) σ') [.ref (a 0), .int p1, .int p2] r := by
  refine xw_ofW (cc := cX_broken) (maxL := 4) (ret := (some .int)) (lv := [(0, .ref (a 0)), (1, .int p1), (2, .int p2)]) (by decide) rfl (Nat.le_of_ble_eq_true rfl) rfl ?_
  intro p e s m below meth c A hAt hP hD hS ls hl
  obtain ⟨hx, hb, hr, hml, hown, hts, hlocks, hK, hZ, hA⟩ := hAt
  replace hts : ∀ w ∈ lw_g, w.before _ s = true := fun w h => hts w (List.mem_cons_of_mem _ h)
  unfold fX_broken at hf
  refine lv_aload_n hx hb dX_broken_0 rfl (lv_at hl 0 rfl) ?_
  refine lv_iload_n hx hb dX_broken_1 rfl (lv_at hl 1 rfl) ?_
  obtain ⟨q_1, hq_1, hf⟩ := bd_s hf
  refine xw_callV (kX_findBroken l dC dI a cI cZ tb K p1 σ q_1.2 q_1.1 hq_1) ⟨hx, hb, hml, hown, hts⟩ (cwV 1 hts (gw_V mt_150 mt_152 mt_11 mt_25 mt_153) rfl rfl rfl hdX_findBroken ⟨Nat.le_of_ble_eq_true rfl, Nat.le_of_ble_eq_true rfl⟩) hK hP hD hS hA hZ (q0 := 0) (ci := 0) rfl rfl rfl hl.1 rfl (Nat.le_of_ble_eq_true rfl) dX_broken_2 ⟨Nat.zero_le _, Nat.zero_le _⟩ (fun H locs hP hD hS => ?_)
  refine lv_istore_n (lv' := [(3, .int q_1.1), (0, .ref (a 0)), (1, .int p1), (2, .int p2)]) hx hb dX_broken_5 rfl hl (by decide) rfl (fun ls hl => ?_)
  refine lv_iload_n hx hb dX_broken_6 rfl (lv_at hl 0 rfl) ?_
  refine lv_iconst (v := (-1 : Int32)) hx hb dX_broken_7 (by decide) ?_
  refine lv_icmp_ne (tgt := 13) hx hb dX_broken_8 (by decide) (fun c_2 => ?_) (fun c_2 => ?_)
  · replace hf := it_f hf c_2
    refine lv_iload_n hx hb dX_broken_13 rfl (lv_at hl 3 rfl) ?_
    by_cases c_3 : p2 = 0
    · replace hf := it_t hf c_3
      refine lv_tableIn (off := 26) (tgt := 40) hx hb dX_broken_14 (by rw [c_3]; decide) (by rw [c_3]; decide) (by rw [c_3]; rfl) (by decide) ?_
      refine lv_aload_n hx hb dX_broken_40 rfl (lv_at hl 1 rfl) ?_
      refine aX_get_linkFrom hx hb hts hown hK hP dX_broken_41 ?_
      refine lv_iload_n hx hb dX_broken_44 rfl (lv_at hl 0 rfl) ?_
      obtain ⟨g_4, hf⟩ := gd_f hf
      refine aX_ld_linkFrom (σ := q_1.2) (f := (x_linkFrom q_1.2)) rfl hx hb hK hP g_4 dX_broken_45 ?_
      exact xw_iret (wf := (w_X a cI cZ)) hx hb hr hlocks rfl hK hP hD hS hf dX_broken_46
    · replace hf := it_f hf c_3
      by_cases c_5 : p2 = 1
      · replace hf := it_t hf c_5
        refine lv_tableIn (off := 33) (tgt := 47) hx hb dX_broken_14 (by rw [c_5]; decide) (by rw [c_5]; decide) (by rw [c_5]; rfl) (by decide) ?_
        refine lv_aload_n hx hb dX_broken_47 rfl (lv_at hl 1 rfl) ?_
        refine aX_get_linkField hx hb hts hown hK hP dX_broken_48 ?_
        refine lv_iload_n hx hb dX_broken_51 rfl (lv_at hl 0 rfl) ?_
        obtain ⟨g_6, hf⟩ := gd_f hf
        refine aX_ld_linkField (σ := q_1.2) (f := (x_linkField q_1.2)) rfl hx hb hK hP g_6 dX_broken_52 ?_
        exact xw_iret (wf := (w_X a cI cZ)) hx hb hr hlocks rfl hK hP hD hS hf dX_broken_53
      · replace hf := it_f hf c_5
        by_cases c_7 : p2 = 2
        · replace hf := it_t hf c_7
          refine lv_tableIn (off := 40) (tgt := 54) hx hb dX_broken_14 (by rw [c_7]; decide) (by rw [c_7]; decide) (by rw [c_7]; rfl) (by decide) ?_
          refine lv_aload_n hx hb dX_broken_54 rfl (lv_at hl 1 rfl) ?_
          refine aX_get_linkTo hx hb hts hown hK hP dX_broken_55 ?_
          refine lv_iload_n hx hb dX_broken_58 rfl (lv_at hl 0 rfl) ?_
          obtain ⟨g_8, hf⟩ := gd_f hf
          refine aX_ld_linkTo (σ := q_1.2) (f := (x_linkTo q_1.2)) rfl hx hb hK hP g_8 dX_broken_59 ?_
          exact xw_iret (wf := (w_X a cI cZ)) hx hb hr hlocks rfl hK hP hD hS hf dX_broken_60
        · replace hf := it_f hf c_7
          refine lv_tableOut (tgt := 61) hx hb dX_broken_14 (by have n_0 := lv_neT c_3 (a := 0) (by decide); have n_1 := lv_neT c_5 (a := 1) (by decide); have n_2 := lv_neT c_7 (a := 2) (by decide); omega) (by decide) ?_
          refine lv_iconst (v := (-1 : Int32)) hx hb dX_broken_61 (by decide) ?_
          exact xw_iret (wf := (w_X a cI cZ)) hx hb hr hlocks rfl hK hP hD hS hf dX_broken_62
  · replace hf := it_t hf c_2
    refine lv_iconst (v := (-1 : Int32)) hx hb dX_broken_11 (by decide) ?_
    exact xw_iret (wf := (w_X a cI cZ)) hx hb hr hlocks rfl hK hP hD hS hf dX_broken_12
def fX_repair (K : Nat) (p1 : Int32) (σ : XSt) : Option (Int32 × XSt) := ((fX_findBroken K p1 (x_pmoment σ ((x_moment σ) + (1 : Int32)))).bind fun q_1 => (if q_1.1 = (-1 : Int32) then some ((-1 : Int32), q_1.2) else (if q_1.1 < 0 ∨ 200 ≤ q_1.1.toNatClampNeg then none else ((fX_noteChange K ((x_linkFrom q_1.2) q_1.1.toNatClampNeg) q_1.2).bind fun q_4 => (if q_1.1 < 0 ∨ 200 ≤ q_1.1.toNatClampNeg then none else (if ((x_linkTo q_4.2) q_1.1.toNatClampNeg) < 0 ∨ 61 ≤ ((x_linkTo q_4.2) q_1.1.toNatClampNeg).toNatClampNeg then none else (if q_1.1 < 0 ∨ 200 ≤ q_1.1.toNatClampNeg then none else (if q_1.1 < 0 ∨ 200 ≤ q_1.1.toNatClampNeg then none else ((fX_hasRoomFor K ((x_linkFrom q_4.2) q_1.1.toNatClampNeg) ((x_linkField q_4.2) q_1.1.toNatClampNeg) ((x_hosts q_4.2) ((x_linkTo q_4.2) q_1.1.toNatClampNeg).toNatClampNeg) q_1.1 q_4.2).bind fun q_9 => (if q_9.1 = 0 then ((fX_removeLink K q_1.1 q_9.2).bind fun q_11 => some ((0 : Int32), q_11.2)) else (if q_1.1 < 0 ∨ 200 ≤ q_1.1.toNatClampNeg then none else some ((1 : Int32), (x_plinkTo q_9.2 (upd (x_linkTo q_9.2) q_1.1.toNatClampNeg ((x_hosts q_4.2) ((x_linkTo q_4.2) q_1.1.toNatClampNeg).toNatClampNeg)))))))))))))))
set_option maxHeartbeats 4000000 in
set_option maxRecDepth 100000 in
theorem kX_repair (l : Launch) (dC : Nat → ClassId) (dI : Nat → Nat → Nat) (a : Nat → Nat) (cI cZ : ClassId) (tb : Nat) (K : Nat) (p1 : Int32) (σ σ' : XSt) (r : Int32) (hf : fX_repair K p1 σ = some (r, σ')) : xw_Ct l yX_repair wdX_repair ({ frames := 4, cells := 0, slots := 0, locals := 92 } : Room) (dC, dI) vwCl [(cI, .int), (cZ, .boolean)] (zz tb) ((w_X a cI cZ) σ) ((w_X a cI cZ) σ') [.ref (a 0), .int p1] r := by
  refine xw_ofW (cc := cX_repair) (maxL := 4) (ret := (some .int)) (lv := [(0, .ref (a 0)), (1, .int p1)]) (by decide) rfl (Nat.le_of_ble_eq_true rfl) rfl ?_
  intro p e s m below meth c A hAt hP hD hS ls hl
  obtain ⟨hx, hb, hr, hml, hown, hts, hlocks, hK, hZ, hA⟩ := hAt
  replace hts : ∀ w ∈ lw_g, w.before _ s = true := fun w h => hts w (List.mem_cons_of_mem _ h)
  unfold fX_repair at hf
  refine lv_aload_n hx hb dX_repair_0 rfl (lv_at hl 0 rfl) ?_
  refine lv_dup hx hb dX_repair_1 rfl ?_
  refine aX_get_moment (σ := σ) (v := (x_moment σ)) rfl hx hb hts hown hK hP dX_repair_2 ?_
  refine lv_iconst (v := (1 : Int32)) hx hb dX_repair_5 (by decide) ?_
  refine lv_iadd hx hb dX_repair_6 ?_
  refine aX_put_moment (σ := σ) (v := ((x_moment σ) + (1 : Int32))) (τ := (x_pmoment σ ((x_moment σ) + (1 : Int32)))) rfl hx hb hts hown hK hP hD hS dX_repair_7 (fun H locs hP hD hS => ?_)
  refine lv_aload_n hx hb dX_repair_10 rfl (lv_at hl 0 rfl) ?_
  refine lv_iload_n hx hb dX_repair_11 rfl (lv_at hl 1 rfl) ?_
  obtain ⟨q_1, hq_1, hf⟩ := bd_s hf
  refine xw_callV (kX_findBroken l dC dI a cI cZ tb K p1 (x_pmoment σ ((x_moment σ) + (1 : Int32))) q_1.2 q_1.1 hq_1) ⟨hx, hb, hml, hown, hts⟩ (cwV 1 hts (gw_V mt_150 mt_152 mt_11 mt_25 mt_153) rfl rfl rfl hdX_findBroken ⟨Nat.le_of_ble_eq_true rfl, Nat.le_of_ble_eq_true rfl⟩) hK hP hD hS hA hZ (q0 := 0) (ci := 0) rfl rfl rfl hl.1 rfl (Nat.le_of_ble_eq_true rfl) dX_repair_12 ⟨Nat.zero_le _, Nat.zero_le _⟩ (fun H locs hP hD hS => ?_)
  refine lv_istore_n (lv' := [(2, .int q_1.1), (0, .ref (a 0)), (1, .int p1)]) hx hb dX_repair_15 rfl hl (by decide) rfl (fun ls hl => ?_)
  refine lv_iload_n hx hb dX_repair_16 rfl (lv_at hl 0 rfl) ?_
  refine lv_iconst (v := (-1 : Int32)) hx hb dX_repair_17 (by decide) ?_
  refine lv_icmp_ne (tgt := 23) hx hb dX_repair_18 (by decide) (fun c_2 => ?_) (fun c_2 => ?_)
  · replace hf := it_f hf c_2
    refine lv_aload_n hx hb dX_repair_23 rfl (lv_at hl 1 rfl) ?_
    refine lv_aload_n hx hb dX_repair_24 rfl (lv_at hl 1 rfl) ?_
    refine aX_get_linkFrom hx hb hts hown hK hP dX_repair_25 ?_
    refine lv_iload_n hx hb dX_repair_28 rfl (lv_at hl 0 rfl) ?_
    obtain ⟨g_3, hf⟩ := gd_f hf
    refine aX_ld_linkFrom (σ := q_1.2) (f := (x_linkFrom q_1.2)) rfl hx hb hK hP g_3 dX_repair_29 ?_
    obtain ⟨q_4, hq_4, hf⟩ := bd_s hf
    refine xw_callVv (kX_noteChange l dC dI a cI cZ tb K ((x_linkFrom q_1.2) q_1.1.toNatClampNeg) q_1.2 q_4.2 q_4.1 hq_4) ⟨hx, hb, hml, hown, hts⟩ (cwV 1 hts (gw_V mt_120 mt_122 mt_7 mt_25 mt_123) rfl rfl rfl hdX_noteChange ⟨Nat.le_of_ble_eq_true rfl, Nat.le_of_ble_eq_true rfl⟩) hK hP hD hS hA hZ (q0 := 0) (ci := 0) rfl rfl rfl hl.1 rfl (Nat.le_of_ble_eq_true rfl) dX_repair_30 ⟨Nat.zero_le _, Nat.zero_le _⟩ (fun H locs hP hD hS => ?_)
    refine lv_aload_n hx hb dX_repair_33 rfl (lv_at hl 1 rfl) ?_
    refine aX_get_hosts hx hb hts hown hK hP dX_repair_34 ?_
    refine lv_aload_n hx hb dX_repair_37 rfl (lv_at hl 1 rfl) ?_
    refine aX_get_linkTo hx hb hts hown hK hP dX_repair_38 ?_
    refine lv_iload_n hx hb dX_repair_41 rfl (lv_at hl 0 rfl) ?_
    obtain ⟨g_5, hf⟩ := gd_f hf
    refine aX_ld_linkTo (σ := q_4.2) (f := (x_linkTo q_4.2)) rfl hx hb hK hP g_5 dX_repair_42 ?_
    obtain ⟨g_6, hf⟩ := gd_f hf
    refine aX_ld_hosts (σ := q_4.2) (f := (x_hosts q_4.2)) rfl hx hb hK hP g_6 dX_repair_43 ?_
    refine lv_istore_n (lv' := [(3, .int ((x_hosts q_4.2) ((x_linkTo q_4.2) q_1.1.toNatClampNeg).toNatClampNeg)), (2, .int q_1.1), (0, .ref (a 0)), (1, .int p1)]) hx hb dX_repair_44 rfl hl (by decide) rfl (fun ls hl => ?_)
    refine lv_aload_n hx hb dX_repair_45 rfl (lv_at hl 2 rfl) ?_
    refine lv_aload_n hx hb dX_repair_46 rfl (lv_at hl 2 rfl) ?_
    refine aX_get_linkFrom hx hb hts hown hK hP dX_repair_47 ?_
    refine lv_iload_n hx hb dX_repair_50 rfl (lv_at hl 1 rfl) ?_
    obtain ⟨g_7, hf⟩ := gd_f hf
    refine aX_ld_linkFrom (σ := q_4.2) (f := (x_linkFrom q_4.2)) rfl hx hb hK hP g_7 dX_repair_51 ?_
    refine lv_aload_n hx hb dX_repair_52 rfl (lv_at hl 2 rfl) ?_
    refine aX_get_linkField hx hb hts hown hK hP dX_repair_53 ?_
    refine lv_iload_n hx hb dX_repair_56 rfl (lv_at hl 1 rfl) ?_
    obtain ⟨g_8, hf⟩ := gd_f hf
    refine aX_ld_linkField (σ := q_4.2) (f := (x_linkField q_4.2)) rfl hx hb hK hP g_8 dX_repair_57 ?_
    refine lv_iload_n hx hb dX_repair_58 rfl (lv_at hl 0 rfl) ?_
    refine lv_iload_n hx hb dX_repair_59 rfl (lv_at hl 1 rfl) ?_
    obtain ⟨q_9, hq_9, hf⟩ := bd_s hf
    refine xw_callV (kX_hasRoomFor l dC dI a cI cZ tb K ((x_linkFrom q_4.2) q_1.1.toNatClampNeg) ((x_linkField q_4.2) q_1.1.toNatClampNeg) ((x_hosts q_4.2) ((x_linkTo q_4.2) q_1.1.toNatClampNeg).toNatClampNeg) q_1.1 q_4.2 q_9.2 q_9.1 hq_9) ⟨hx, hb, hml, hown, hts⟩ (cwV 4 hts (gw_V mt_87 mt_89 mt_0 mt_25 mt_90) rfl rfl rfl hdX_hasRoomFor ⟨Nat.le_of_ble_eq_true rfl, Nat.le_of_ble_eq_true rfl⟩) hK hP hD hS hA hZ (q0 := 0) (ci := 0) rfl rfl rfl hl.1 rfl (Nat.le_of_ble_eq_true rfl) dX_repair_60 ⟨Nat.zero_le _, Nat.zero_le _⟩ (fun H locs hP hD hS => ?_)
    refine lv_if_eq (tgt := 75) hx hb dX_repair_63 (by decide) (fun c_10 => ?_) (fun c_10 => ?_)
    · replace hf := it_t hf c_10
      refine lv_aload_n hx hb dX_repair_75 rfl (lv_at hl 2 rfl) ?_
      refine lv_iload_n hx hb dX_repair_76 rfl (lv_at hl 1 rfl) ?_
      obtain ⟨q_11, hq_11, hf⟩ := bd_s hf
      refine xw_callVv (kX_removeLink l dC dI a cI cZ tb K q_1.1 q_9.2 q_11.2 q_11.1 hq_11) ⟨hx, hb, hml, hown, hts⟩ (cwV 1 hts (gw_V mt_139 mt_141 mt_10 mt_25 mt_142) rfl rfl rfl hdX_removeLink ⟨Nat.le_of_ble_eq_true rfl, Nat.le_of_ble_eq_true rfl⟩) hK hP hD hS hA hZ (q0 := 0) (ci := 0) rfl rfl rfl hl.1 rfl (Nat.le_of_ble_eq_true rfl) dX_repair_77 ⟨Nat.zero_le _, Nat.zero_le _⟩ (fun H locs hP hD hS => ?_)
      refine lv_iconst (v := (0 : Int32)) hx hb dX_repair_80 (by decide) ?_
      exact xw_iret (wf := (w_X a cI cZ)) hx hb hr hlocks rfl hK hP hD hS hf dX_repair_81
    · replace hf := it_f hf c_10
      refine lv_aload_n hx hb dX_repair_66 rfl (lv_at hl 2 rfl) ?_
      refine aX_get_linkTo hx hb hts hown hK hP dX_repair_67 ?_
      refine lv_iload_n hx hb dX_repair_70 rfl (lv_at hl 1 rfl) ?_
      refine lv_iload_n hx hb dX_repair_71 rfl (lv_at hl 0 rfl) ?_
      obtain ⟨g_12, hf⟩ := gd_f hf
      refine aX_st_linkTo (σ := q_9.2) (f := (x_linkTo q_9.2)) (x := ((x_hosts q_4.2) ((x_linkTo q_4.2) q_1.1.toNatClampNeg).toNatClampNeg)) (τ := (x_plinkTo q_9.2 (upd (x_linkTo q_9.2) q_1.1.toNatClampNeg ((x_hosts q_4.2) ((x_linkTo q_4.2) q_1.1.toNatClampNeg).toNatClampNeg)))) rfl rfl hx hb hK hP hD hS g_12 dX_repair_72 (fun H locs hP hD hS => ?_)
      refine lv_iconst (v := (1 : Int32)) hx hb dX_repair_73 (by decide) ?_
      exact xw_iret (wf := (w_X a cI cZ)) hx hb hr hlocks rfl hK hP hD hS hf dX_repair_74
  · replace hf := it_t hf c_2
    refine lv_iconst (v := (-1 : Int32)) hx hb dX_repair_21 (by decide) ?_
    exact xw_iret (wf := (w_X a cI cZ)) hx hb hr hlocks rfl hK hP hD hS hf dX_repair_22
def gX_chain_30 (K : Nat) : Nat → Int32 → Int32 → Int32 → Int32 → XSt → Option (Int32 × XSt)
  | 0, _, _, _, _, _ => none
  | n + 1, x1, x2, x3, x4, τ => (if x2 ≤ x4 then some (x3, τ) else (if x3 < 0 ∨ 61 ≤ x3.toNatClampNeg then none else (gX_chain_30 K n x1 x2 ((x_hosts τ) x3.toNatClampNeg) (x4 + 1) τ)))
def fX_chain (K : Nat) (p1 p2 : Int32) (σ : XSt) : Option (Int32 × XSt) := ((fX_isLive K p1 σ).bind fun q_1 => (if q_1.1 = 0 then some ((0 : Int32), q_1.2) else (if p2 < 0 then some ((0 : Int32), q_1.2) else (if p2 < (60 : Int32) then (if p1 < 0 ∨ 61 ≤ p1.toNatClampNeg then none else (gX_chain_30 K K p1 p2 ((x_hosts q_1.2) p1.toNatClampNeg) (0 : Int32) q_1.2)) else some ((0 : Int32), q_1.2)))))
set_option maxHeartbeats 4000000 in
set_option maxRecDepth 100000 in
theorem kX_chain (l : Launch) (dC : Nat → ClassId) (dI : Nat → Nat → Nat) (a : Nat → Nat) (cI cZ : ClassId) (tb : Nat) (K : Nat) (p1 p2 : Int32) (σ σ' : XSt) (r : Int32) (hf : fX_chain K p1 p2 σ = some (r, σ')) : xw_Ct l yX_chain wdX_chain ({ frames := 2, cells := 0, slots := 0, locals := 42 } : Room) (dC, dI) vwCl [(cI, .int), (cZ, .boolean)] (zz tb) ((w_X a cI cZ) σ) ((w_X a cI cZ) σ') [.ref (a 0), .int p1, .int p2] r := by
  refine xw_ofW (cc := cX_chain) (maxL := 5) (ret := (some .int)) (lv := [(0, .ref (a 0)), (1, .int p1), (2, .int p2)]) (by decide) rfl (Nat.le_of_ble_eq_true rfl) rfl ?_
  intro p e s m below meth c A hAt hP hD hS ls hl
  obtain ⟨hx, hb, hr, hml, hown, hts, hlocks, hK, hZ, hA⟩ := hAt
  replace hts : ∀ w ∈ lw_g, w.before _ s = true := fun w h => hts w (List.mem_cons_of_mem _ h)
  have L_30 : ∀ (n : Nat) (x1 x2 x3 x4 : Int32) (τ : XSt), gX_chain_30 K n x1 x2 x3 x4 τ = some (r, σ') → ∀ (H : Heap) (locs : List Loc), va_P (dC, dI) vwCl ((w_X a cI cZ) τ) H → va_D A ((w_X a cI cZ) τ) → va_S A s.heap H locs → ∀ (ls : Array Slot), lv_has ls 5 [(0, .ref (a 0)), (1, .int x1), (2, .int x2), (3, .int x3), (4, .int x4)] → W p l e ({ frames := 2, cells := 0, slots := 0, locals := 42 } : Room) s m ([.ref (a 0), .int p1, .int p2] : List Value).toArray below meth c H locs 0 0 (MQ below (va_Qi (fun (r2 : Int32) (_ : Unit) => r2 = r) (fun _ t => xw_B (dC, dI) vwCl [(cI, .int), (cZ, .boolean)] A ((w_X a cI cZ) σ') t) A) ([.ref (a 0), .int p1, .int p2] : List Value).toArray s 0 0 A) (F0 m 30 ls []) := by
    intro n
    induction n with
    | zero =>
      intro x1 x2 x3 x4 τ hf
      rw [gX_chain_30] at hf
      cases hf
    | succ n ih =>
      intro x1 x2 x3 x4 τ hf H locs hP hD hS ls hl
      rw [gX_chain_30] at hf
      refine lv_iload hx hb dX_chain_30 (lv_at hl 4 rfl) ?_
      refine lv_iload_n hx hb dX_chain_32 rfl (lv_at hl 2 rfl) ?_
      refine lv_icmp_ge (tgt := 49) hx hb dX_chain_33 (by decide) (fun c_6 => ?_) (fun c_6 => ?_)
      · replace hf := it_t hf c_6
        refine lv_iload_n hx hb dX_chain_49 rfl (lv_at hl 3 rfl) ?_
        exact xw_iret (wf := (w_X a cI cZ)) hx hb hr hlocks rfl hK hP hD hS hf dX_chain_50
      · replace hf := it_f hf c_6
        refine lv_aload_n hx hb dX_chain_36 rfl (lv_at hl 0 rfl) ?_
        refine aX_get_hosts hx hb hts hown hK hP dX_chain_37 ?_
        refine lv_iload_n hx hb dX_chain_40 rfl (lv_at hl 3 rfl) ?_
        obtain ⟨g_7, hf⟩ := gd_f hf
        refine aX_ld_hosts (σ := τ) (f := (x_hosts τ)) rfl hx hb hK hP g_7 dX_chain_41 ?_
        refine lv_istore_n (lv' := [(3, .int ((x_hosts τ) x3.toNatClampNeg)), (0, .ref (a 0)), (1, .int x1), (2, .int x2), (4, .int x4)]) hx hb dX_chain_42 rfl hl (by decide) rfl (fun ls hl => ?_)
        refine lv_iinc (v := (x4 + 1)) (lv' := [(4, .int (x4 + 1)), (3, .int ((x_hosts τ) x3.toNatClampNeg)), (0, .ref (a 0)), (1, .int x1), (2, .int x2)]) hx hb dX_chain_43 hl (k := 4) rfl (congrArg (HAdd.hAdd _) (by decide : Int32.ofInt (1) = (1 : Int32))) (by decide) rfl (fun ls hl => ?_)
        refine lv_goto (tgt := 30) hx hb dX_chain_46 (by decide) ?_
        exact ih x1 x2 ((x_hosts τ) x3.toNatClampNeg) (x4 + 1) τ hf _ _ hP hD hS _ (lv_sub hl [2, 3, 4, 1, 0] rfl)
  unfold fX_chain at hf
  refine lv_aload_n hx hb dX_chain_0 rfl (lv_at hl 0 rfl) ?_
  refine lv_iload_n hx hb dX_chain_1 rfl (lv_at hl 1 rfl) ?_
  obtain ⟨q_1, hq_1, hf⟩ := bd_s hf
  refine xw_callV (kX_isLive l dC dI a cI cZ tb K p1 σ q_1.2 q_1.1 hq_1) ⟨hx, hb, hml, hown, hts⟩ (cwV 1 hts (gw_V mt_91 mt_93 mt_1 mt_25 mt_94) rfl rfl rfl hdX_isLive ⟨Nat.le_of_ble_eq_true rfl, Nat.le_of_ble_eq_true rfl⟩) hK hP hD hS hA hZ (q0 := 0) (ci := 0) rfl rfl rfl hl.1 rfl (Nat.le_of_ble_eq_true rfl) dX_chain_2 ⟨Nat.zero_le _, Nat.zero_le _⟩ (fun H locs hP hD hS => ?_)
  refine lv_if_eq (tgt := 18) hx hb dX_chain_5 (by decide) (fun c_2 => ?_) (fun c_2 => ?_)
  · replace hf := it_t hf c_2
    refine lv_iconst (v := (0 : Int32)) hx hb dX_chain_18 (by decide) ?_
    exact xw_iret (wf := (w_X a cI cZ)) hx hb hr hlocks rfl hK hP hD hS hf dX_chain_19
  · replace hf := it_f hf c_2
    refine lv_iload_n hx hb dX_chain_8 rfl (lv_at hl 2 rfl) ?_
    refine lv_if_lt (tgt := 18) hx hb dX_chain_9 (by decide) (fun c_3 => ?_) (fun c_3 => ?_)
    · replace hf := it_t hf c_3
      refine lv_iconst (v := (0 : Int32)) hx hb dX_chain_18 (by decide) ?_
      exact xw_iret (wf := (w_X a cI cZ)) hx hb hr hlocks rfl hK hP hD hS hf dX_chain_19
    · replace hf := it_f hf c_3
      refine lv_iload_n hx hb dX_chain_12 rfl (lv_at hl 2 rfl) ?_
      refine lv_bipush (v := (60 : Int32)) hx hb dX_chain_13 (by decide) ?_
      refine lv_icmp_lt (tgt := 20) hx hb dX_chain_15 (by decide) (fun c_4 => ?_) (fun c_4 => ?_)
      · replace hf := it_t hf c_4
        refine lv_aload_n hx hb dX_chain_20 rfl (lv_at hl 0 rfl) ?_
        refine aX_get_hosts hx hb hts hown hK hP dX_chain_21 ?_
        refine lv_iload_n hx hb dX_chain_24 rfl (lv_at hl 1 rfl) ?_
        obtain ⟨g_5, hf⟩ := gd_f hf
        refine aX_ld_hosts (σ := q_1.2) (f := (x_hosts q_1.2)) rfl hx hb hK hP g_5 dX_chain_25 ?_
        refine lv_istore_n (lv' := [(3, .int ((x_hosts q_1.2) p1.toNatClampNeg)), (0, .ref (a 0)), (1, .int p1), (2, .int p2)]) hx hb dX_chain_26 rfl hl (by decide) rfl (fun ls hl => ?_)
        refine lv_iconst (v := (0 : Int32)) hx hb dX_chain_27 (by decide) ?_
        refine lv_istore (lv' := [(4, .int (0 : Int32)), (3, .int ((x_hosts q_1.2) p1.toNatClampNeg)), (0, .ref (a 0)), (1, .int p1), (2, .int p2)]) hx hb dX_chain_28 hl (by decide) rfl (fun ls hl => ?_)
        exact L_30 K p1 p2 ((x_hosts q_1.2) p1.toNatClampNeg) (0 : Int32) q_1.2 hf _ _ hP hD hS _ (lv_sub hl [2, 3, 4, 1, 0] rfl)
      · replace hf := it_f hf c_4
        refine lv_iconst (v := (0 : Int32)) hx hb dX_chain_18 (by decide) ?_
        exact xw_iret (wf := (w_X a cI cZ)) hx hb hr hlocks rfl hK hP hD hS hf dX_chain_19
