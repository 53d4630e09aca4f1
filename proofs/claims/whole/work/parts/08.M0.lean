def fM_record (K : Nat) (σ : MSt) : Option (Int32 × MSt) := (if (m_records σ) = (60 : Int32) then some ((0 : Int32), (m_pthrown σ (0 : Int32))) else (if ((m_records σ) + (1 : Int32)) < 0 ∨ 61 ≤ ((m_records σ) + (1 : Int32)).toNatClampNeg then none else some (((m_records σ) + (1 : Int32)), (m_plive (m_precords (m_pthrown σ (0 : Int32)) ((m_records σ) + (1 : Int32))) (upd (m_live σ) ((m_records σ) + (1 : Int32)).toNatClampNeg (vp_nar .boolean (1 : Int32)))))))
set_option maxHeartbeats 4000000 in
set_option maxRecDepth 100000 in
theorem kM_record (l : Launch) (dC : Nat → ClassId) (dI : Nat → Nat → Nat) (a : Nat → Nat) (cI cZ : ClassId) (tb : Nat) (K : Nat) (σ σ' : MSt) (r : Int32) (hf : fM_record K  σ = some (r, σ')) : xw_Ct l yM_record wdM_record ({ frames := 0, cells := 0, slots := 0, locals := 0 } : Room) (dC, dI) vwCl [(cI, .int), (cZ, .boolean)] (zz tb) ((w_M a cI cZ) σ) ((w_M a cI cZ) σ') [.ref (a 0)] r := by
  refine xw_ofW (cc := cM_record) (maxL := 1) (ret := (some .int)) (lv := [(0, .ref (a 0))]) (by decide) rfl (Nat.le_of_ble_eq_true rfl) rfl ?_
  intro p e s m below meth c A hAt hP hD hS ls hl
  obtain ⟨hx, hb, hr, hml, hown, hts, hlocks, hK, hZ, hA⟩ := hAt
  replace hts : ∀ w ∈ lw_g, w.before _ s = true := fun w h => hts w (List.mem_cons_of_mem _ h)
  unfold fM_record at hf
  refine lv_aload_n hx hb dM_record_0 rfl (lv_at hl 0 rfl) ?_
  refine lv_iconst (v := (0 : Int32)) hx hb dM_record_1 (by decide) ?_
  refine aM_put_thrown (σ := σ) (v := (0 : Int32)) (τ := (m_pthrown σ (0 : Int32))) rfl hx hb hts hown hK hP hD hS dM_record_2 (fun H locs hP hD hS => ?_)
  refine lv_aload_n hx hb dM_record_5 rfl (lv_at hl 0 rfl) ?_
  refine aM_get_records (σ := (m_pthrown σ (0 : Int32))) (v := (m_records σ)) rfl hx hb hts hown hK hP dM_record_6 ?_
  refine lv_bipush (v := (60 : Int32)) hx hb dM_record_9 (by decide) ?_
  refine lv_icmp_ne (tgt := 16) hx hb dM_record_11 (by decide) (fun c_1 => ?_) (fun c_1 => ?_)
  · replace hf := it_f hf c_1
    refine lv_aload_n hx hb dM_record_16 rfl (lv_at hl 0 rfl) ?_
    refine lv_dup hx hb dM_record_17 rfl ?_
    refine aM_get_records (σ := (m_pthrown σ (0 : Int32))) (v := (m_records σ)) rfl hx hb hts hown hK hP dM_record_18 ?_
    refine lv_iconst (v := (1 : Int32)) hx hb dM_record_21 (by decide) ?_
    refine lv_iadd hx hb dM_record_22 ?_
    refine aM_put_records (σ := (m_pthrown σ (0 : Int32))) (v := ((m_records σ) + (1 : Int32))) (τ := (m_precords (m_pthrown σ (0 : Int32)) ((m_records σ) + (1 : Int32)))) rfl hx hb hts hown hK hP hD hS dM_record_23 (fun H locs hP hD hS => ?_)
    refine lv_aload_n hx hb dM_record_26 rfl (lv_at hl 0 rfl) ?_
    refine aM_get_live hx hb hts hown hK hP dM_record_27 ?_
    refine lv_aload_n hx hb dM_record_30 rfl (lv_at hl 0 rfl) ?_
    refine aM_get_records (σ := (m_precords (m_pthrown σ (0 : Int32)) ((m_records σ) + (1 : Int32)))) (v := ((m_records σ) + (1 : Int32))) rfl hx hb hts hown hK hP dM_record_31 ?_
    refine lv_iconst (v := (1 : Int32)) hx hb dM_record_34 (by decide) ?_
    obtain ⟨g_2, hf⟩ := gd_f hf
    refine aM_st_live (σ := (m_precords (m_pthrown σ (0 : Int32)) ((m_records σ) + (1 : Int32)))) (f := (m_live σ)) (x := (1 : Int32)) (τ := (m_plive (m_precords (m_pthrown σ (0 : Int32)) ((m_records σ) + (1 : Int32))) (upd (m_live σ) ((m_records σ) + (1 : Int32)).toNatClampNeg (vp_nar .boolean (1 : Int32))))) rfl rfl hx hb hK hP hD hS g_2 dM_record_35 (fun H locs hP hD hS => ?_)
    refine lv_aload_n hx hb dM_record_36 rfl (lv_at hl 0 rfl) ?_
    refine aM_get_records (σ := (m_plive (m_precords (m_pthrown σ (0 : Int32)) ((m_records σ) + (1 : Int32))) (upd (m_live σ) ((m_records σ) + (1 : Int32)).toNatClampNeg (vp_nar .boolean (1 : Int32))))) (v := ((m_records σ) + (1 : Int32))) rfl hx hb hts hown hK hP dM_record_37 ?_
    exact xw_iret (wf := (w_M a cI cZ)) hx hb hr hlocks rfl hK hP hD hS hf dM_record_40
  · replace hf := it_t hf c_1
    refine lv_iconst (v := (0 : Int32)) hx hb dM_record_14 (by decide) ?_
    exact xw_iret (wf := (w_M a cI cZ)) hx hb hr hlocks rfl hK hP hD hS hf dM_record_15
def fM_isLive (K : Nat) (p1 : Int32) (σ : MSt) : Option (Int32 × MSt) := (if p1 ≤ 0 then some ((0 : Int32), σ) else (if (m_records σ) < p1 then some ((0 : Int32), σ) else (if p1 < 0 ∨ 61 ≤ p1.toNatClampNeg then none else (if ((m_live σ) p1.toNatClampNeg) = 0 then some ((0 : Int32), σ) else some ((1 : Int32), σ)))))
set_option maxHeartbeats 4000000 in
set_option maxRecDepth 100000 in
theorem kM_isLive (l : Launch) (dC : Nat → ClassId) (dI : Nat → Nat → Nat) (a : Nat → Nat) (cI cZ : ClassId) (tb : Nat) (K : Nat) (p1 : Int32) (σ σ' : MSt) (r : Int32) (hf : fM_isLive K p1 σ = some (r, σ')) : xw_Ct l yM_isLive wdM_isLive ({ frames := 0, cells := 0, slots := 0, locals := 0 } : Room) (dC, dI) vwCl [(cI, .int), (cZ, .boolean)] (zz tb) ((w_M a cI cZ) σ) ((w_M a cI cZ) σ') [.ref (a 0), .int p1] r := by
  refine xw_ofW (cc := cM_isLive) (maxL := 2) (ret := (some .boolean)) (lv := [(0, .ref (a 0)), (1, .int p1)]) (by decide) rfl (Nat.le_of_ble_eq_true rfl) rfl ?_
  intro p e s m below meth c A hAt hP hD hS ls hl
  obtain ⟨hx, hb, hr, hml, hown, hts, hlocks, hK, hZ, hA⟩ := hAt
  replace hts : ∀ w ∈ lw_g, w.before _ s = true := fun w h => hts w (List.mem_cons_of_mem _ h)
  unfold fM_isLive at hf
  refine lv_iload_n hx hb dM_isLive_0 rfl (lv_at hl 1 rfl) ?_
  refine lv_if_le (tgt := 25) hx hb dM_isLive_1 (by decide) (fun c_1 => ?_) (fun c_1 => ?_)
  · replace hf := it_t hf c_1
    refine lv_iconst (v := (0 : Int32)) hx hb dM_isLive_25 (by decide) ?_
    exact xw_iret (wf := (w_M a cI cZ)) hx hb hr hlocks rfl hK hP hD hS hf dM_isLive_26
  · replace hf := it_f hf c_1
    refine lv_iload_n hx hb dM_isLive_4 rfl (lv_at hl 1 rfl) ?_
    refine lv_aload_n hx hb dM_isLive_5 rfl (lv_at hl 0 rfl) ?_
    refine aM_get_records (σ := σ) (v := (m_records σ)) rfl hx hb hts hown hK hP dM_isLive_6 ?_
    refine lv_icmp_gt (tgt := 25) hx hb dM_isLive_9 (by decide) (fun c_2 => ?_) (fun c_2 => ?_)
    · replace hf := it_t hf c_2
      refine lv_iconst (v := (0 : Int32)) hx hb dM_isLive_25 (by decide) ?_
      exact xw_iret (wf := (w_M a cI cZ)) hx hb hr hlocks rfl hK hP hD hS hf dM_isLive_26
    · replace hf := it_f hf c_2
      refine lv_aload_n hx hb dM_isLive_12 rfl (lv_at hl 0 rfl) ?_
      refine aM_get_live hx hb hts hown hK hP dM_isLive_13 ?_
      refine lv_iload_n hx hb dM_isLive_16 rfl (lv_at hl 1 rfl) ?_
      obtain ⟨g_3, hf⟩ := gd_f hf
      refine aM_ld_live (σ := σ) (f := (m_live σ)) rfl hx hb hK hP g_3 dM_isLive_17 ?_
      refine lv_if_eq (tgt := 25) hx hb dM_isLive_18 (by decide) (fun c_4 => ?_) (fun c_4 => ?_)
      · replace hf := it_t hf c_4
        refine lv_iconst (v := (0 : Int32)) hx hb dM_isLive_25 (by decide) ?_
        exact xw_iret (wf := (w_M a cI cZ)) hx hb hr hlocks rfl hK hP hD hS hf dM_isLive_26
      · replace hf := it_f hf c_4
        refine lv_iconst (v := (1 : Int32)) hx hb dM_isLive_21 (by decide) ?_
        refine lv_goto (tgt := 26) hx hb dM_isLive_22 (by decide) ?_
        exact xw_iret (wf := (w_M a cI cZ)) hx hb hr hlocks rfl hK hP hD hS hf dM_isLive_26
def fM_isHeading (K : Nat) (p1 : Int32) (σ : MSt) : Option (Int32 × MSt) := (if p1 ≤ 0 then some ((0 : Int32), σ) else (if (100 : Int32) ≤ p1 then some ((0 : Int32), σ) else some ((1 : Int32), σ)))
set_option maxHeartbeats 4000000 in
set_option maxRecDepth 100000 in
theorem kM_isHeading (l : Launch) (dC : Nat → ClassId) (dI : Nat → Nat → Nat) (a : Nat → Nat) (cI cZ : ClassId) (tb : Nat) (K : Nat) (p1 : Int32) (σ σ' : MSt) (r : Int32) (hf : fM_isHeading K p1 σ = some (r, σ')) : xw_Ct l yM_isHeading wdM_isHeading ({ frames := 0, cells := 0, slots := 0, locals := 0 } : Room) (dC, dI) vwCl [(cI, .int), (cZ, .boolean)] (zz tb) ((w_M a cI cZ) σ) ((w_M a cI cZ) σ') [.int p1] r := by
  refine xw_ofW (cc := cM_isHeading) (maxL := 1) (ret := (some .boolean)) (lv := [(0, .int p1)]) (by decide) rfl (Nat.le_of_ble_eq_true rfl) rfl ?_
  intro p e s m below meth c A hAt hP hD hS ls hl
  obtain ⟨hx, hb, hr, hml, hown, hts, hlocks, hK, hZ, hA⟩ := hAt
  replace hts : ∀ w ∈ lw_g, w.before _ s = true := fun w h => hts w (List.mem_cons_of_mem _ h)
  unfold fM_isHeading at hf
  refine lv_iload_n hx hb dM_isHeading_0 rfl (lv_at hl 0 rfl) ?_
  refine lv_if_le (tgt := 14) hx hb dM_isHeading_1 (by decide) (fun c_1 => ?_) (fun c_1 => ?_)
  · replace hf := it_t hf c_1
    refine lv_iconst (v := (0 : Int32)) hx hb dM_isHeading_14 (by decide) ?_
    exact xw_iret (wf := (w_M a cI cZ)) hx hb hr hlocks rfl hK hP hD hS hf dM_isHeading_15
  · replace hf := it_f hf c_1
    refine lv_iload_n hx hb dM_isHeading_4 rfl (lv_at hl 0 rfl) ?_
    refine lv_bipush (v := (100 : Int32)) hx hb dM_isHeading_5 (by decide) ?_
    refine lv_icmp_ge (tgt := 14) hx hb dM_isHeading_7 (by decide) (fun c_2 => ?_) (fun c_2 => ?_)
    · replace hf := it_t hf c_2
      refine lv_iconst (v := (0 : Int32)) hx hb dM_isHeading_14 (by decide) ?_
      exact xw_iret (wf := (w_M a cI cZ)) hx hb hr hlocks rfl hK hP hD hS hf dM_isHeading_15
    · replace hf := it_f hf c_2
      refine lv_iconst (v := (1 : Int32)) hx hb dM_isHeading_10 (by decide) ?_
      refine lv_goto (tgt := 15) hx hb dM_isHeading_11 (by decide) ?_
      exact xw_iret (wf := (w_M a cI cZ)) hx hb hr hlocks rfl hK hP hD hS hf dM_isHeading_15
def gM_count_5 (K : Nat) : Nat → Int32 → Int32 → Int32 → Int32 → MSt → Option (Int32 × MSt)
  | 0, _, _, _, _, _ => none
  | n + 1, x1, x2, x3, x4, τ => (if (m_links τ) ≤ x4 then some (x3, τ) else (if x4 < 0 ∨ 200 ≤ x4.toNatClampNeg then none else (if ((m_from τ) x4.toNatClampNeg) = x1 then (if x4 < 0 ∨ 200 ≤ x4.toNatClampNeg then none else (if ((m_field τ) x4.toNatClampNeg) = x2 then (gM_count_5 K n x1 x2 (x3 + (1 : Int32)) (x4 + 1) τ) else (gM_count_5 K n x1 x2 (x3 + (0 : Int32)) (x4 + 1) τ))) else (gM_count_5 K n x1 x2 (x3 + (0 : Int32)) (x4 + 1) τ))))
def fM_count (K : Nat) (p1 p2 : Int32) (σ : MSt) : Option (Int32 × MSt) := (gM_count_5 K K p1 p2 (0 : Int32) (0 : Int32) σ)
set_option maxHeartbeats 4000000 in
set_option maxRecDepth 100000 in
theorem kM_count (l : Launch) (dC : Nat → ClassId) (dI : Nat → Nat → Nat) (a : Nat → Nat) (cI cZ : ClassId) (tb : Nat) (K : Nat) (p1 p2 : Int32) (σ σ' : MSt) (r : Int32) (hf : fM_count K p1 p2 σ = some (r, σ')) : xw_Ct l yM_count wdM_count ({ frames := 0, cells := 0, slots := 0, locals := 0 } : Room) (dC, dI) vwCl [(cI, .int), (cZ, .boolean)] (zz tb) ((w_M a cI cZ) σ) ((w_M a cI cZ) σ') [.ref (a 0), .int p1, .int p2] r := by
  refine xw_ofW (cc := cM_count) (maxL := 5) (ret := (some .int)) (lv := [(0, .ref (a 0)), (1, .int p1), (2, .int p2)]) (by decide) rfl (Nat.le_of_ble_eq_true rfl) rfl ?_
  intro p e s m below meth c A hAt hP hD hS ls hl
  obtain ⟨hx, hb, hr, hml, hown, hts, hlocks, hK, hZ, hA⟩ := hAt
  replace hts : ∀ w ∈ lw_g, w.before _ s = true := fun w h => hts w (List.mem_cons_of_mem _ h)
  have L_5 : ∀ (n : Nat) (x1 x2 x3 x4 : Int32) (τ : MSt), gM_count_5 K n x1 x2 x3 x4 τ = some (r, σ') → ∀ (H : Heap) (locs : List Loc), va_P (dC, dI) vwCl ((w_M a cI cZ) τ) H → va_D A ((w_M a cI cZ) τ) → va_S A s.heap H locs → ∀ (ls : Array Slot), lv_has ls 5 [(0, .ref (a 0)), (1, .int x1), (2, .int x2), (3, .int x3), (4, .int x4)] → W p l e ({ frames := 0, cells := 0, slots := 0, locals := 0 } : Room) s m ([.ref (a 0), .int p1, .int p2] : List Value).toArray below meth c H locs 0 0 (MQ below (va_Qi (fun (r2 : Int32) (_ : Unit) => r2 = r) (fun _ t => xw_B (dC, dI) vwCl [(cI, .int), (cZ, .boolean)] A ((w_M a cI cZ) σ') t) A) ([.ref (a 0), .int p1, .int p2] : List Value).toArray s 0 0 A) (F0 m 5 ls []) := by
    intro n
    induction n with
    | zero =>
      intro x1 x2 x3 x4 τ hf
      rw [gM_count_5] at hf
      cases hf
    | succ n ih =>
      intro x1 x2 x3 x4 τ hf H locs hP hD hS ls hl
      rw [gM_count_5] at hf
      refine lv_iload hx hb dM_count_5 (lv_at hl 4 rfl) ?_
      refine lv_aload_n hx hb dM_count_7 rfl (lv_at hl 0 rfl) ?_
      refine aM_get_links (σ := τ) (v := (m_links τ)) rfl hx hb hts hown hK hP dM_count_8 ?_
      refine lv_icmp_ge (tgt := 50) hx hb dM_count_11 (by decide) (fun c_1 => ?_) (fun c_1 => ?_)
      · replace hf := it_t hf c_1
        refine lv_iload_n hx hb dM_count_50 rfl (lv_at hl 3 rfl) ?_
        exact xw_iret (wf := (w_M a cI cZ)) hx hb hr hlocks rfl hK hP hD hS hf dM_count_51
      · replace hf := it_f hf c_1
        refine lv_iload_n hx hb dM_count_14 rfl (lv_at hl 3 rfl) ?_
        refine lv_aload_n hx hb dM_count_15 rfl (lv_at hl 0 rfl) ?_
        refine aM_get_from hx hb hts hown hK hP dM_count_16 ?_
        refine lv_iload hx hb dM_count_19 (lv_at hl 4 rfl) ?_
        obtain ⟨g_2, hf⟩ := gd_f hf
        refine aM_ld_from (σ := τ) (f := (m_from τ)) rfl hx hb hK hP g_2 dM_count_21 ?_
        refine lv_iload_n hx hb dM_count_22 rfl (lv_at hl 1 rfl) ?_
        refine lv_icmp_ne (tgt := 41) hx hb dM_count_23 (by decide) (fun c_3 => ?_) (fun c_3 => ?_)
        · replace hf := it_f hf c_3
          refine lv_iconst (v := (0 : Int32)) hx hb dM_count_41 (by decide) ?_
          refine lv_iadd hx hb dM_count_42 ?_
          refine lv_istore_n (lv' := [(3, .int (x3 + (0 : Int32))), (0, .ref (a 0)), (1, .int x1), (2, .int x2), (4, .int x4)]) hx hb dM_count_43 rfl hl (by decide) rfl (fun ls hl => ?_)
          refine lv_iinc (v := (x4 + 1)) (lv' := [(4, .int (x4 + 1)), (3, .int (x3 + (0 : Int32))), (0, .ref (a 0)), (1, .int x1), (2, .int x2)]) hx hb dM_count_44 hl (k := 4) rfl (congrArg (HAdd.hAdd _) (by decide : Int32.ofInt (1) = (1 : Int32))) (by decide) rfl (fun ls hl => ?_)
          refine lv_goto (tgt := 5) hx hb dM_count_47 (by decide) ?_
          exact ih x1 x2 (x3 + (0 : Int32)) (x4 + 1) τ hf _ _ hP hD hS _ (lv_sub hl [2, 3, 4, 1, 0] rfl)
        · replace hf := it_t hf c_3
          refine lv_aload_n hx hb dM_count_26 rfl (lv_at hl 0 rfl) ?_
          refine aM_get_field hx hb hts hown hK hP dM_count_27 ?_
          refine lv_iload hx hb dM_count_30 (lv_at hl 4 rfl) ?_
          obtain ⟨g_4, hf⟩ := gd_f hf
          refine aM_ld_field (σ := τ) (f := (m_field τ)) rfl hx hb hK hP g_4 dM_count_32 ?_
          refine lv_iload_n hx hb dM_count_33 rfl (lv_at hl 2 rfl) ?_
          refine lv_icmp_ne (tgt := 41) hx hb dM_count_34 (by decide) (fun c_5 => ?_) (fun c_5 => ?_)
          · replace hf := it_f hf c_5
            refine lv_iconst (v := (0 : Int32)) hx hb dM_count_41 (by decide) ?_
            refine lv_iadd hx hb dM_count_42 ?_
            refine lv_istore_n (lv' := [(3, .int (x3 + (0 : Int32))), (0, .ref (a 0)), (1, .int x1), (2, .int x2), (4, .int x4)]) hx hb dM_count_43 rfl hl (by decide) rfl (fun ls hl => ?_)
            refine lv_iinc (v := (x4 + 1)) (lv' := [(4, .int (x4 + 1)), (3, .int (x3 + (0 : Int32))), (0, .ref (a 0)), (1, .int x1), (2, .int x2)]) hx hb dM_count_44 hl (k := 4) rfl (congrArg (HAdd.hAdd _) (by decide : Int32.ofInt (1) = (1 : Int32))) (by decide) rfl (fun ls hl => ?_)
            refine lv_goto (tgt := 5) hx hb dM_count_47 (by decide) ?_
            exact ih x1 x2 (x3 + (0 : Int32)) (x4 + 1) τ hf _ _ hP hD hS _ (lv_sub hl [2, 3, 4, 1, 0] rfl)
          · replace hf := it_t hf c_5
            refine lv_iconst (v := (1 : Int32)) hx hb dM_count_37 (by decide) ?_
            refine lv_goto (tgt := 42) hx hb dM_count_38 (by decide) ?_
            refine lv_iadd hx hb dM_count_42 ?_
            refine lv_istore_n (lv' := [(3, .int (x3 + (1 : Int32))), (0, .ref (a 0)), (1, .int x1), (2, .int x2), (4, .int x4)]) hx hb dM_count_43 rfl hl (by decide) rfl (fun ls hl => ?_)
            refine lv_iinc (v := (x4 + 1)) (lv' := [(4, .int (x4 + 1)), (3, .int (x3 + (1 : Int32))), (0, .ref (a 0)), (1, .int x1), (2, .int x2)]) hx hb dM_count_44 hl (k := 4) rfl (congrArg (HAdd.hAdd _) (by decide : Int32.ofInt (1) = (1 : Int32))) (by decide) rfl (fun ls hl => ?_)
            refine lv_goto (tgt := 5) hx hb dM_count_47 (by decide) ?_
            exact ih x1 x2 (x3 + (1 : Int32)) (x4 + 1) τ hf _ _ hP hD hS _ (lv_sub hl [2, 3, 4, 1, 0] rfl)
  unfold fM_count at hf
  refine lv_iconst (v := (0 : Int32)) hx hb dM_count_0 (by decide) ?_
  refine lv_istore_n (lv' := [(3, .int (0 : Int32)), (0, .ref (a 0)), (1, .int p1), (2, .int p2)]) hx hb dM_count_1 rfl hl (by decide) rfl (fun ls hl => ?_)
  refine lv_iconst (v := (0 : Int32)) hx hb dM_count_2 (by decide) ?_
  refine lv_istore (lv' := [(4, .int (0 : Int32)), (3, .int (0 : Int32)), (0, .ref (a 0)), (1, .int p1), (2, .int p2)]) hx hb dM_count_3 hl (by decide) rfl (fun ls hl => ?_)
  exact L_5 K p1 p2 (0 : Int32) (0 : Int32) σ hf _ _ hP hD hS _ (lv_sub hl [2, 3, 4, 1, 0] rfl)
def fM_most (K : Nat) (p1 : Int32) (σ : MSt) : Option (Int32 × MSt) := (if p1 = 0 then some ((1 : Int32), σ) else (if p1 = (1 : Int32) then some ((2 : Int32), σ) else (if (4 : Int32) ≤ p1 then some ((3 : Int32), σ) else some ((5 : Int32), σ))))
set_option maxHeartbeats 4000000 in
set_option maxRecDepth 100000 in
theorem kM_most (l : Launch) (dC : Nat → ClassId) (dI : Nat → Nat → Nat) (a : Nat → Nat) (cI cZ : ClassId) (tb : Nat) (K : Nat) (p1 : Int32) (σ σ' : MSt) (r : Int32) (hf : fM_most K p1 σ = some (r, σ')) : xw_Ct l yM_most wdM_most ({ frames := 0, cells := 0, slots := 0, locals := 0 } : Room) (dC, dI) vwCl [(cI, .int), (cZ, .boolean)] (zz tb) ((w_M a cI cZ) σ) ((w_M a cI cZ) σ') [.int p1] r := by
  refine xw_ofW (cc := cM_most) (maxL := 1) (ret := (some .int)) (lv := [(0, .int p1)]) (by decide) rfl (Nat.le_of_ble_eq_true rfl) rfl ?_
  intro p e s m below meth c A hAt hP hD hS ls hl
  obtain ⟨hx, hb, hr, hml, hown, hts, hlocks, hK, hZ, hA⟩ := hAt
  replace hts : ∀ w ∈ lw_g, w.before _ s = true := fun w h => hts w (List.mem_cons_of_mem _ h)
  unfold fM_most at hf
  refine lv_iload_n hx hb dM_most_0 rfl (lv_at hl 0 rfl) ?_
  refine lv_if_ne (tgt := 8) hx hb dM_most_1 (by decide) (fun c_1 => ?_) (fun c_1 => ?_)
  · replace hf := it_f hf c_1
    refine lv_iload_n hx hb dM_most_8 rfl (lv_at hl 0 rfl) ?_
    refine lv_iconst (v := (1 : Int32)) hx hb dM_most_9 (by decide) ?_
    refine lv_icmp_ne (tgt := 17) hx hb dM_most_10 (by decide) (fun c_2 => ?_) (fun c_2 => ?_)
    · replace hf := it_f hf c_2
      refine lv_iload_n hx hb dM_most_17 rfl (lv_at hl 0 rfl) ?_
      refine lv_iconst (v := (4 : Int32)) hx hb dM_most_18 (by decide) ?_
      refine lv_icmp_ge (tgt := 26) hx hb dM_most_19 (by decide) (fun c_3 => ?_) (fun c_3 => ?_)
      · replace hf := it_t hf c_3
        refine lv_iconst (v := (3 : Int32)) hx hb dM_most_26 (by decide) ?_
        exact xw_iret (wf := (w_M a cI cZ)) hx hb hr hlocks rfl hK hP hD hS hf dM_most_27
      · replace hf := it_f hf c_3
        refine lv_iconst (v := (5 : Int32)) hx hb dM_most_22 (by decide) ?_
        refine lv_goto (tgt := 27) hx hb dM_most_23 (by decide) ?_
        exact xw_iret (wf := (w_M a cI cZ)) hx hb hr hlocks rfl hK hP hD hS hf dM_most_27
    · replace hf := it_t hf c_2
      refine lv_iconst (v := (2 : Int32)) hx hb dM_most_13 (by decide) ?_
      refine lv_goto (tgt := 27) hx hb dM_most_14 (by decide) ?_
      exact xw_iret (wf := (w_M a cI cZ)) hx hb hr hlocks rfl hK hP hD hS hf dM_most_27
  · replace hf := it_t hf c_1
    refine lv_iconst (v := (1 : Int32)) hx hb dM_most_4 (by decide) ?_
    refine lv_goto (tgt := 27) hx hb dM_most_5 (by decide) ?_
    exact xw_iret (wf := (w_M a cI cZ)) hx hb hr hlocks rfl hK hP hD hS hf dM_most_27
def gM_find_3 (K : Nat) : Nat → Int32 → Int32 → Int32 → Int32 → MSt → Option (Int32 × MSt)
  | 0, _, _, _, _, _ => none
  | n + 1, x1, x2, x3, x4, τ => (if (m_links τ) ≤ x4 then some ((-1 : Int32), τ) else (if x4 < 0 ∨ 200 ≤ x4.toNatClampNeg then none else (if ((m_from τ) x4.toNatClampNeg) = x1 then (if x4 < 0 ∨ 200 ≤ x4.toNatClampNeg then none else (if ((m_field τ) x4.toNatClampNeg) = x2 then (if x4 < 0 ∨ 200 ≤ x4.toNatClampNeg then none else (if ((m_to τ) x4.toNatClampNeg) = x3 then some (x4, τ) else (gM_find_3 K n x1 x2 x3 (x4 + 1) τ))) else (gM_find_3 K n x1 x2 x3 (x4 + 1) τ))) else (gM_find_3 K n x1 x2 x3 (x4 + 1) τ))))
def fM_find (K : Nat) (p1 p2 p3 : Int32) (σ : MSt) : Option (Int32 × MSt) := (gM_find_3 K K p1 p2 p3 (0 : Int32) σ)
set_option maxHeartbeats 4000000 in
set_option maxRecDepth 100000 in
theorem kM_find (l : Launch) (dC : Nat → ClassId) (dI : Nat → Nat → Nat) (a : Nat → Nat) (cI cZ : ClassId) (tb : Nat) (K : Nat) (p1 p2 p3 : Int32) (σ σ' : MSt) (r : Int32) (hf : fM_find K p1 p2 p3 σ = some (r, σ')) : xw_Ct l yM_find wdM_find ({ frames := 0, cells := 0, slots := 0, locals := 0 } : Room) (dC, dI) vwCl [(cI, .int), (cZ, .boolean)] (zz tb) ((w_M a cI cZ) σ) ((w_M a cI cZ) σ') [.ref (a 0), .int p1, .int p2, .int p3] r := by
  refine xw_ofW (cc := cM_find) (maxL := 5) (ret := (some .int)) (lv := [(0, .ref (a 0)), (1, .int p1), (2, .int p2), (3, .int p3)]) (by decide) rfl (Nat.le_of_ble_eq_true rfl) rfl ?_
  intro p e s m below meth c A hAt hP hD hS ls hl
  obtain ⟨hx, hb, hr, hml, hown, hts, hlocks, hK, hZ, hA⟩ := hAt
  replace hts : ∀ w ∈ lw_g, w.before _ s = true := fun w h => hts w (List.mem_cons_of_mem _ h)
  have L_3 : ∀ (n : Nat) (x1 x2 x3 x4 : Int32) (τ : MSt), gM_find_3 K n x1 x2 x3 x4 τ = some (r, σ') → ∀ (H : Heap) (locs : List Loc), va_P (dC, dI) vwCl ((w_M a cI cZ) τ) H → va_D A ((w_M a cI cZ) τ) → va_S A s.heap H locs → ∀ (ls : Array Slot), lv_has ls 5 [(0, .ref (a 0)), (1, .int x1), (2, .int x2), (3, .int x3), (4, .int x4)] → W p l e ({ frames := 0, cells := 0, slots := 0, locals := 0 } : Room) s m ([.ref (a 0), .int p1, .int p2, .int p3] : List Value).toArray below meth c H locs 0 0 (MQ below (va_Qi (fun (r2 : Int32) (_ : Unit) => r2 = r) (fun _ t => xw_B (dC, dI) vwCl [(cI, .int), (cZ, .boolean)] A ((w_M a cI cZ) σ') t) A) ([.ref (a 0), .int p1, .int p2, .int p3] : List Value).toArray s 0 0 A) (F0 m 3 ls []) := by
    intro n
    induction n with
    | zero =>
      intro x1 x2 x3 x4 τ hf
      rw [gM_find_3] at hf
      cases hf
    | succ n ih =>
      intro x1 x2 x3 x4 τ hf H locs hP hD hS ls hl
      rw [gM_find_3] at hf
      refine lv_iload hx hb dM_find_3 (lv_at hl 4 rfl) ?_
      refine lv_aload_n hx hb dM_find_5 rfl (lv_at hl 0 rfl) ?_
      refine aM_get_links (σ := τ) (v := (m_links τ)) rfl hx hb hts hown hK hP dM_find_6 ?_
      refine lv_icmp_ge (tgt := 54) hx hb dM_find_9 (by decide) (fun c_1 => ?_) (fun c_1 => ?_)
      · replace hf := it_t hf c_1
        refine lv_iconst (v := (-1 : Int32)) hx hb dM_find_54 (by decide) ?_
        exact xw_iret (wf := (w_M a cI cZ)) hx hb hr hlocks rfl hK hP hD hS hf dM_find_55
      · replace hf := it_f hf c_1
        refine lv_aload_n hx hb dM_find_12 rfl (lv_at hl 0 rfl) ?_
        refine aM_get_from hx hb hts hown hK hP dM_find_13 ?_
        refine lv_iload hx hb dM_find_16 (lv_at hl 4 rfl) ?_
        obtain ⟨g_2, hf⟩ := gd_f hf
        refine aM_ld_from (σ := τ) (f := (m_from τ)) rfl hx hb hK hP g_2 dM_find_18 ?_
        refine lv_iload_n hx hb dM_find_19 rfl (lv_at hl 1 rfl) ?_
        refine lv_icmp_ne (tgt := 48) hx hb dM_find_20 (by decide) (fun c_3 => ?_) (fun c_3 => ?_)
        · replace hf := it_f hf c_3
          refine lv_iinc (v := (x4 + 1)) (lv' := [(4, .int (x4 + 1)), (0, .ref (a 0)), (1, .int x1), (2, .int x2), (3, .int x3)]) hx hb dM_find_48 hl (k := 4) rfl (congrArg (HAdd.hAdd _) (by decide : Int32.ofInt (1) = (1 : Int32))) (by decide) rfl (fun ls hl => ?_)
          refine lv_goto (tgt := 3) hx hb dM_find_51 (by decide) ?_
          exact ih x1 x2 x3 (x4 + 1) τ hf _ _ hP hD hS _ (lv_sub hl [1, 2, 3, 4, 0] rfl)
        · replace hf := it_t hf c_3
          refine lv_aload_n hx hb dM_find_23 rfl (lv_at hl 0 rfl) ?_
          refine aM_get_field hx hb hts hown hK hP dM_find_24 ?_
          refine lv_iload hx hb dM_find_27 (lv_at hl 4 rfl) ?_
          obtain ⟨g_4, hf⟩ := gd_f hf
          refine aM_ld_field (σ := τ) (f := (m_field τ)) rfl hx hb hK hP g_4 dM_find_29 ?_
          refine lv_iload_n hx hb dM_find_30 rfl (lv_at hl 2 rfl) ?_
          refine lv_icmp_ne (tgt := 48) hx hb dM_find_31 (by decide) (fun c_5 => ?_) (fun c_5 => ?_)
          · replace hf := it_f hf c_5
            refine lv_iinc (v := (x4 + 1)) (lv' := [(4, .int (x4 + 1)), (0, .ref (a 0)), (1, .int x1), (2, .int x2), (3, .int x3)]) hx hb dM_find_48 hl (k := 4) rfl (congrArg (HAdd.hAdd _) (by decide : Int32.ofInt (1) = (1 : Int32))) (by decide) rfl (fun ls hl => ?_)
            refine lv_goto (tgt := 3) hx hb dM_find_51 (by decide) ?_
            exact ih x1 x2 x3 (x4 + 1) τ hf _ _ hP hD hS _ (lv_sub hl [1, 2, 3, 4, 0] rfl)
          · replace hf := it_t hf c_5
            refine lv_aload_n hx hb dM_find_34 rfl (lv_at hl 0 rfl) ?_
            refine aM_get_to hx hb hts hown hK hP dM_find_35 ?_
            refine lv_iload hx hb dM_find_38 (lv_at hl 4 rfl) ?_
            obtain ⟨g_6, hf⟩ := gd_f hf
            refine aM_ld_to (σ := τ) (f := (m_to τ)) rfl hx hb hK hP g_6 dM_find_40 ?_
            refine lv_iload_n hx hb dM_find_41 rfl (lv_at hl 3 rfl) ?_
            refine lv_icmp_ne (tgt := 48) hx hb dM_find_42 (by decide) (fun c_7 => ?_) (fun c_7 => ?_)
            · replace hf := it_f hf c_7
              refine lv_iinc (v := (x4 + 1)) (lv' := [(4, .int (x4 + 1)), (0, .ref (a 0)), (1, .int x1), (2, .int x2), (3, .int x3)]) hx hb dM_find_48 hl (k := 4) rfl (congrArg (HAdd.hAdd _) (by decide : Int32.ofInt (1) = (1 : Int32))) (by decide) rfl (fun ls hl => ?_)
              refine lv_goto (tgt := 3) hx hb dM_find_51 (by decide) ?_
              exact ih x1 x2 x3 (x4 + 1) τ hf _ _ hP hD hS _ (lv_sub hl [1, 2, 3, 4, 0] rfl)
            · replace hf := it_t hf c_7
              refine lv_iload hx hb dM_find_45 (lv_at hl 4 rfl) ?_
              exact xw_iret (wf := (w_M a cI cZ)) hx hb hr hlocks rfl hK hP hD hS hf dM_find_47
  unfold fM_find at hf
  refine lv_iconst (v := (0 : Int32)) hx hb dM_find_0 (by decide) ?_
  refine lv_istore (lv' := [(4, .int (0 : Int32)), (0, .ref (a 0)), (1, .int p1), (2, .int p2), (3, .int p3)]) hx hb dM_find_1 hl (by decide) rfl (fun ls hl => ?_)
  exact L_3 K p1 p2 p3 (0 : Int32) σ hf _ _ hP hD hS _ (lv_sub hl [1, 2, 3, 4, 0] rfl)
def gM_hostOf_2 (K : Nat) : Nat → Int32 → Int32 → MSt → Option (Int32 × MSt)
  | 0, _, _, _ => none
  | n + 1, x1, x2, τ => (if (m_links τ) ≤ x2 then some ((0 : Int32), τ) else (if x2 < 0 ∨ 200 ≤ x2.toNatClampNeg then none else (if ((m_from τ) x2.toNatClampNeg) = x1 then (if x2 < 0 ∨ 200 ≤ x2.toNatClampNeg then none else (if ((m_field τ) x2.toNatClampNeg) = 0 then (if x2 < 0 ∨ 200 ≤ x2.toNatClampNeg then none else some (((m_to τ) x2.toNatClampNeg), τ)) else (gM_hostOf_2 K n x1 (x2 + 1) τ))) else (gM_hostOf_2 K n x1 (x2 + 1) τ))))
def fM_hostOf (K : Nat) (p1 : Int32) (σ : MSt) : Option (Int32 × MSt) := (gM_hostOf_2 K K p1 (0 : Int32) σ)
set_option maxHeartbeats 4000000 in
set_option maxRecDepth 100000 in
theorem kM_hostOf (l : Launch) (dC : Nat → ClassId) (dI : Nat → Nat → Nat) (a : Nat → Nat) (cI cZ : ClassId) (tb : Nat) (K : Nat) (p1 : Int32) (σ σ' : MSt) (r : Int32) (hf : fM_hostOf K p1 σ = some (r, σ')) : xw_Ct l yM_hostOf wdM_hostOf ({ frames := 0, cells := 0, slots := 0, locals := 0 } : Room) (dC, dI) vwCl [(cI, .int), (cZ, .boolean)] (zz tb) ((w_M a cI cZ) σ) ((w_M a cI cZ) σ') [.ref (a 0), .int p1] r := by
  refine xw_ofW (cc := cM_hostOf) (maxL := 3) (ret := (some .int)) (lv := [(0, .ref (a 0)), (1, .int p1)]) (by decide) rfl (Nat.le_of_ble_eq_true rfl) rfl ?_
  intro p e s m below meth c A hAt hP hD hS ls hl
  obtain ⟨hx, hb, hr, hml, hown, hts, hlocks, hK, hZ, hA⟩ := hAt
  replace hts : ∀ w ∈ lw_g, w.before _ s = true := fun w h => hts w (List.mem_cons_of_mem _ h)
  have L_2 : ∀ (n : Nat) (x1 x2 : Int32) (τ : MSt), gM_hostOf_2 K n x1 x2 τ = some (r, σ') → ∀ (H : Heap) (locs : List Loc), va_P (dC, dI) vwCl ((w_M a cI cZ) τ) H → va_D A ((w_M a cI cZ) τ) → va_S A s.heap H locs → ∀ (ls : Array Slot), lv_has ls 3 [(0, .ref (a 0)), (1, .int x1), (2, .int x2)] → W p l e ({ frames := 0, cells := 0, slots := 0, locals := 0 } : Room) s m ([.ref (a 0), .int p1] : List Value).toArray below meth c H locs 0 0 (MQ below (va_Qi (fun (r2 : Int32) (_ : Unit) => r2 = r) (fun _ t => xw_B (dC, dI) vwCl [(cI, .int), (cZ, .boolean)] A ((w_M a cI cZ) σ') t) A) ([.ref (a 0), .int p1] : List Value).toArray s 0 0 A) (F0 m 2 ls []) := by
    intro n
    induction n with
    | zero =>
      intro x1 x2 τ hf
      rw [gM_hostOf_2] at hf
      cases hf
    | succ n ih =>
      intro x1 x2 τ hf H locs hP hD hS ls hl
      rw [gM_hostOf_2] at hf
      refine lv_iload_n hx hb dM_hostOf_2 rfl (lv_at hl 2 rfl) ?_
      refine lv_aload_n hx hb dM_hostOf_3 rfl (lv_at hl 0 rfl) ?_
      refine aM_get_links (σ := τ) (v := (m_links τ)) rfl hx hb hts hown hK hP dM_hostOf_4 ?_
      refine lv_icmp_ge (tgt := 42) hx hb dM_hostOf_7 (by decide) (fun c_1 => ?_) (fun c_1 => ?_)
      · replace hf := it_t hf c_1
        refine lv_iconst (v := (0 : Int32)) hx hb dM_hostOf_42 (by decide) ?_
        exact xw_iret (wf := (w_M a cI cZ)) hx hb hr hlocks rfl hK hP hD hS hf dM_hostOf_43
      · replace hf := it_f hf c_1
        refine lv_aload_n hx hb dM_hostOf_10 rfl (lv_at hl 0 rfl) ?_
        refine aM_get_from hx hb hts hown hK hP dM_hostOf_11 ?_
        refine lv_iload_n hx hb dM_hostOf_14 rfl (lv_at hl 2 rfl) ?_
        obtain ⟨g_2, hf⟩ := gd_f hf
        refine aM_ld_from (σ := τ) (f := (m_from τ)) rfl hx hb hK hP g_2 dM_hostOf_15 ?_
        refine lv_iload_n hx hb dM_hostOf_16 rfl (lv_at hl 1 rfl) ?_
        refine lv_icmp_ne (tgt := 36) hx hb dM_hostOf_17 (by decide) (fun c_3 => ?_) (fun c_3 => ?_)
        · replace hf := it_f hf c_3
          refine lv_iinc (v := (x2 + 1)) (lv' := [(2, .int (x2 + 1)), (0, .ref (a 0)), (1, .int x1)]) hx hb dM_hostOf_36 hl (k := 2) rfl (congrArg (HAdd.hAdd _) (by decide : Int32.ofInt (1) = (1 : Int32))) (by decide) rfl (fun ls hl => ?_)
          refine lv_goto (tgt := 2) hx hb dM_hostOf_39 (by decide) ?_
          exact ih x1 (x2 + 1) τ hf _ _ hP hD hS _ (lv_sub hl [1, 2, 0] rfl)
        · replace hf := it_t hf c_3
          refine lv_aload_n hx hb dM_hostOf_20 rfl (lv_at hl 0 rfl) ?_
          refine aM_get_field hx hb hts hown hK hP dM_hostOf_21 ?_
          refine lv_iload_n hx hb dM_hostOf_24 rfl (lv_at hl 2 rfl) ?_
          obtain ⟨g_4, hf⟩ := gd_f hf
          refine aM_ld_field (σ := τ) (f := (m_field τ)) rfl hx hb hK hP g_4 dM_hostOf_25 ?_
          refine lv_if_ne (tgt := 36) hx hb dM_hostOf_26 (by decide) (fun c_5 => ?_) (fun c_5 => ?_)
          · replace hf := it_f hf c_5
            refine lv_iinc (v := (x2 + 1)) (lv' := [(2, .int (x2 + 1)), (0, .ref (a 0)), (1, .int x1)]) hx hb dM_hostOf_36 hl (k := 2) rfl (congrArg (HAdd.hAdd _) (by decide : Int32.ofInt (1) = (1 : Int32))) (by decide) rfl (fun ls hl => ?_)
            refine lv_goto (tgt := 2) hx hb dM_hostOf_39 (by decide) ?_
            exact ih x1 (x2 + 1) τ hf _ _ hP hD hS _ (lv_sub hl [1, 2, 0] rfl)
          · replace hf := it_t hf c_5
            refine lv_aload_n hx hb dM_hostOf_29 rfl (lv_at hl 0 rfl) ?_
            refine aM_get_to hx hb hts hown hK hP dM_hostOf_30 ?_
            refine lv_iload_n hx hb dM_hostOf_33 rfl (lv_at hl 2 rfl) ?_
            obtain ⟨g_6, hf⟩ := gd_f hf
            refine aM_ld_to (σ := τ) (f := (m_to τ)) rfl hx hb hK hP g_6 dM_hostOf_34 ?_
            exact xw_iret (wf := (w_M a cI cZ)) hx hb hr hlocks rfl hK hP hD hS hf dM_hostOf_35
  unfold fM_hostOf at hf
  refine lv_iconst (v := (0 : Int32)) hx hb dM_hostOf_0 (by decide) ?_
  refine lv_istore_n (lv' := [(2, .int (0 : Int32)), (0, .ref (a 0)), (1, .int p1)]) hx hb dM_hostOf_1 rfl hl (by decide) rfl (fun ls hl => ?_)
  exact L_2 K p1 (0 : Int32) σ hf _ _ hP hD hS _ (lv_sub hl [1, 2, 0] rfl)
def gM_liesIn_2 (K : Nat) : Nat → Int32 → Int32 → Int32 → MSt → Option (Int32 × MSt)
  | 0, _, _, _, _ => none
  | n + 1, x1, x2, x3, τ => (if x3 = 0 then (if x3 = x2 then some ((1 : Int32), τ) else some ((0 : Int32), τ)) else (if x3 = x2 then (if x3 = x2 then some ((1 : Int32), τ) else some ((0 : Int32), τ)) else ((fM_hostOf K x3 τ).bind fun q_5 => (gM_liesIn_2 K n x1 x2 q_5.1 q_5.2))))
def fM_liesIn (K : Nat) (p1 p2 : Int32) (σ : MSt) : Option (Int32 × MSt) := (gM_liesIn_2 K K p1 p2 p1 σ)
set_option maxHeartbeats 4000000 in
set_option maxRecDepth 100000 in
theorem kM_liesIn (l : Launch) (dC : Nat → ClassId) (dI : Nat → Nat → Nat) (a : Nat → Nat) (cI cZ : ClassId) (tb : Nat) (K : Nat) (p1 p2 : Int32) (σ σ' : MSt) (r : Int32) (hf : fM_liesIn K p1 p2 σ = some (r, σ')) : xw_Ct l yM_liesIn wdM_liesIn ({ frames := 1, cells := 0, slots := 0, locals := 22 } : Room) (dC, dI) vwCl [(cI, .int), (cZ, .boolean)] (zz tb) ((w_M a cI cZ) σ) ((w_M a cI cZ) σ') [.ref (a 0), .int p1, .int p2] r := by
  refine xw_ofW (cc := cM_liesIn) (maxL := 4) (ret := (some .boolean)) (lv := [(0, .ref (a 0)), (1, .int p1), (2, .int p2)]) (by decide) rfl (Nat.le_of_ble_eq_true rfl) rfl ?_
  intro p e s m below meth c A hAt hP hD hS ls hl
  obtain ⟨hx, hb, hr, hml, hown, hts, hlocks, hK, hZ, hA⟩ := hAt
  replace hts : ∀ w ∈ lw_g, w.before _ s = true := fun w h => hts w (List.mem_cons_of_mem _ h)
  have L_2 : ∀ (n : Nat) (x1 x2 x3 : Int32) (τ : MSt), gM_liesIn_2 K n x1 x2 x3 τ = some (r, σ') → ∀ (H : Heap) (locs : List Loc), va_P (dC, dI) vwCl ((w_M a cI cZ) τ) H → va_D A ((w_M a cI cZ) τ) → va_S A s.heap H locs → ∀ (ls : Array Slot), lv_has ls 4 [(0, .ref (a 0)), (1, .int x1), (2, .int x2), (3, .int x3)] → W p l e ({ frames := 1, cells := 0, slots := 0, locals := 22 } : Room) s m ([.ref (a 0), .int p1, .int p2] : List Value).toArray below meth c H locs 0 0 (MQ below (va_Qi (fun (r2 : Int32) (_ : Unit) => r2 = r) (fun _ t => xw_B (dC, dI) vwCl [(cI, .int), (cZ, .boolean)] A ((w_M a cI cZ) σ') t) A) ([.ref (a 0), .int p1, .int p2] : List Value).toArray s 0 0 A) (F0 m 2 ls []) := by
    intro n
    induction n with
    | zero =>
      intro x1 x2 x3 τ hf
      rw [gM_liesIn_2] at hf
      cases hf
    | succ n ih =>
      intro x1 x2 x3 τ hf H locs hP hD hS ls hl
      rw [gM_liesIn_2] at hf
      refine lv_iload_n hx hb dM_liesIn_2 rfl (lv_at hl 3 rfl) ?_
      refine lv_if_eq (tgt := 20) hx hb dM_liesIn_3 (by decide) (fun c_1 => ?_) (fun c_1 => ?_)
      · replace hf := it_t hf c_1
        refine lv_iload_n hx hb dM_liesIn_20 rfl (lv_at hl 3 rfl) ?_
        refine lv_iload_n hx hb dM_liesIn_21 rfl (lv_at hl 2 rfl) ?_
        refine lv_icmp_ne (tgt := 29) hx hb dM_liesIn_22 (by decide) (fun c_2 => ?_) (fun c_2 => ?_)
        · replace hf := it_f hf c_2
          refine lv_iconst (v := (0 : Int32)) hx hb dM_liesIn_29 (by decide) ?_
          exact xw_iret (wf := (w_M a cI cZ)) hx hb hr hlocks rfl hK hP hD hS hf dM_liesIn_30
        · replace hf := it_t hf c_2
          refine lv_iconst (v := (1 : Int32)) hx hb dM_liesIn_25 (by decide) ?_
          refine lv_goto (tgt := 30) hx hb dM_liesIn_26 (by decide) ?_
          exact xw_iret (wf := (w_M a cI cZ)) hx hb hr hlocks rfl hK hP hD hS hf dM_liesIn_30
      · replace hf := it_f hf c_1
        refine lv_iload_n hx hb dM_liesIn_6 rfl (lv_at hl 3 rfl) ?_
        refine lv_iload_n hx hb dM_liesIn_7 rfl (lv_at hl 2 rfl) ?_
        refine lv_icmp_eq (tgt := 20) hx hb dM_liesIn_8 (by decide) (fun c_3 => ?_) (fun c_3 => ?_)
        · replace hf := it_t hf c_3
          refine lv_iload_n hx hb dM_liesIn_20 rfl (lv_at hl 3 rfl) ?_
          refine lv_iload_n hx hb dM_liesIn_21 rfl (lv_at hl 2 rfl) ?_
          refine lv_icmp_ne (tgt := 29) hx hb dM_liesIn_22 (by decide) (fun c_4 => ?_) (fun c_4 => ?_)
          · replace hf := it_f hf c_4
            refine lv_iconst (v := (0 : Int32)) hx hb dM_liesIn_29 (by decide) ?_
            exact xw_iret (wf := (w_M a cI cZ)) hx hb hr hlocks rfl hK hP hD hS hf dM_liesIn_30
          · replace hf := it_t hf c_4
            refine lv_iconst (v := (1 : Int32)) hx hb dM_liesIn_25 (by decide) ?_
            refine lv_goto (tgt := 30) hx hb dM_liesIn_26 (by decide) ?_
            exact xw_iret (wf := (w_M a cI cZ)) hx hb hr hlocks rfl hK hP hD hS hf dM_liesIn_30
        · replace hf := it_f hf c_3
          refine lv_aload_n hx hb dM_liesIn_11 rfl (lv_at hl 0 rfl) ?_
          refine lv_iload_n hx hb dM_liesIn_12 rfl (lv_at hl 3 rfl) ?_
          obtain ⟨q_5, hq_5, hf⟩ := bd_s hf
          refine xw_callV (kM_hostOf l dC dI a cI cZ tb K x3 τ q_5.2 q_5.1 hq_5) ⟨hx, hb, hml, hown, hts⟩ (cwV 1 hts (gw_V mt_285 mt_287 mt_19 mt_26 mt_288) rfl rfl rfl hdM_hostOf ⟨Nat.le_of_ble_eq_true rfl, Nat.le_of_ble_eq_true rfl⟩) hK hP hD hS hA hZ (q0 := 0) (ci := 1) rfl rfl rfl hl.1 rfl (Nat.le_of_ble_eq_true rfl) dM_liesIn_13 ⟨Nat.zero_le _, Nat.zero_le _⟩ (fun H locs hP hD hS => ?_)
          refine lv_istore_n (lv' := [(3, .int q_5.1), (0, .ref (a 0)), (1, .int x1), (2, .int x2)]) hx hb dM_liesIn_16 rfl hl (by decide) rfl (fun ls hl => ?_)
          refine lv_goto (tgt := 2) hx hb dM_liesIn_17 (by decide) ?_
          exact ih x1 x2 q_5.1 q_5.2 hf _ _ hP hD hS _ (lv_sub hl [1, 2, 3, 0] rfl)
  unfold fM_liesIn at hf
  refine lv_iload_n hx hb dM_liesIn_0 rfl (lv_at hl 1 rfl) ?_
  refine lv_istore_n (lv' := [(3, .int p1), (0, .ref (a 0)), (1, .int p1), (2, .int p2)]) hx hb dM_liesIn_1 rfl hl (by decide) rfl (fun ls hl => ?_)
  exact L_2 K p1 p2 p1 σ hf _ _ hP hD hS _ (lv_sub hl [1, 2, 3, 0] rfl)
def fM_changed (K : Nat) (p1 : Int32) (σ : MSt) : Option (Int32 × MSt) := (if p1 < 0 ∨ 61 ≤ p1.toNatClampNeg then none else (if ((m_timeCount σ) p1.toNatClampNeg) ≤ 0 then (if p1 < 0 ∨ 61 ≤ p1.toNatClampNeg then none else (if (40 : Int32) ≤ ((m_timeCount σ) p1.toNatClampNeg) then some ((0 : Int32), σ) else (if p1 < 0 ∨ 61 ≤ p1.toNatClampNeg then none else (if (((40 : Int32) * p1) + ((m_timeCount σ) p1.toNatClampNeg)) < 0 ∨ 2440 ≤ (((40 : Int32) * p1) + ((m_timeCount σ) p1.toNatClampNeg)).toNatClampNeg then none else (if p1 < 0 ∨ 61 ≤ p1.toNatClampNeg then none else (if p1 < 0 ∨ 61 ≤ p1.toNatClampNeg then none else some ((0 : Int32), (m_ptimeCount (m_ptimes σ (upd (m_times σ) (((40 : Int32) * p1) + ((m_timeCount σ) p1.toNatClampNeg)).toNatClampNeg (m_moment σ))) (upd (m_timeCount σ) p1.toNatClampNeg (((m_timeCount σ) p1.toNatClampNeg) + (1 : Int32))))))))))) else (if p1 < 0 ∨ 61 ≤ p1.toNatClampNeg then none else (if (41 : Int32) ≤ ((m_timeCount σ) p1.toNatClampNeg) then (if p1 < 0 ∨ 61 ≤ p1.toNatClampNeg then none else (if (40 : Int32) ≤ ((m_timeCount σ) p1.toNatClampNeg) then some ((0 : Int32), σ) else (if p1 < 0 ∨ 61 ≤ p1.toNatClampNeg then none else (if (((40 : Int32) * p1) + ((m_timeCount σ) p1.toNatClampNeg)) < 0 ∨ 2440 ≤ (((40 : Int32) * p1) + ((m_timeCount σ) p1.toNatClampNeg)).toNatClampNeg then none else (if p1 < 0 ∨ 61 ≤ p1.toNatClampNeg then none else (if p1 < 0 ∨ 61 ≤ p1.toNatClampNeg then none else some ((0 : Int32), (m_ptimeCount (m_ptimes σ (upd (m_times σ) (((40 : Int32) * p1) + ((m_timeCount σ) p1.toNatClampNeg)).toNatClampNeg (m_moment σ))) (upd (m_timeCount σ) p1.toNatClampNeg (((m_timeCount σ) p1.toNatClampNeg) + (1 : Int32))))))))))) else (if p1 < 0 ∨ 61 ≤ p1.toNatClampNeg then none else (if ((((40 : Int32) * p1) + ((m_timeCount σ) p1.toNatClampNeg)) - (1 : Int32)) < 0 ∨ 2440 ≤ ((((40 : Int32) * p1) + ((m_timeCount σ) p1.toNatClampNeg)) - (1 : Int32)).toNatClampNeg then none else (if ((m_times σ) ((((40 : Int32) * p1) + ((m_timeCount σ) p1.toNatClampNeg)) - (1 : Int32)).toNatClampNeg) = (m_moment σ) then some ((0 : Int32), σ) else (if p1 < 0 ∨ 61 ≤ p1.toNatClampNeg then none else (if (40 : Int32) ≤ ((m_timeCount σ) p1.toNatClampNeg) then some ((0 : Int32), σ) else (if p1 < 0 ∨ 61 ≤ p1.toNatClampNeg then none else (if (((40 : Int32) * p1) + ((m_timeCount σ) p1.toNatClampNeg)) < 0 ∨ 2440 ≤ (((40 : Int32) * p1) + ((m_timeCount σ) p1.toNatClampNeg)).toNatClampNeg then none else (if p1 < 0 ∨ 61 ≤ p1.toNatClampNeg then none else (if p1 < 0 ∨ 61 ≤ p1.toNatClampNeg then none else some ((0 : Int32), (m_ptimeCount (m_ptimes σ (upd (m_times σ) (((40 : Int32) * p1) + ((m_timeCount σ) p1.toNatClampNeg)).toNatClampNeg (m_moment σ))) (upd (m_timeCount σ) p1.toNatClampNeg (((m_timeCount σ) p1.toNatClampNeg) + (1 : Int32))))))))))))))))))
set_option maxHeartbeats 4000000 in
set_option maxRecDepth 100000 in
theorem kM_changed (l : Launch) (dC : Nat → ClassId) (dI : Nat → Nat → Nat) (a : Nat → Nat) (cI cZ : ClassId) (tb : Nat) (K : Nat) (p1 : Int32) (σ σ' : MSt) (r : Int32) (hf : fM_changed K p1 σ = some (r, σ')) : xw_Cv l yM_changed wdM_changed ({ frames := 0, cells := 0, slots := 0, locals := 0 } : Room) (dC, dI) vwCl [(cI, .int), (cZ, .boolean)] (zz tb) ((w_M a cI cZ) σ) ((w_M a cI cZ) σ') [.ref (a 0), .int p1] := by
  refine xw_ofWv (cc := cM_changed) (maxL := 2) (ret := none) (lv := [(0, .ref (a 0)), (1, .int p1)]) (by decide) rfl (Nat.le_of_ble_eq_true rfl) rfl ?_
  intro p e s m below meth c A hAt hP hD hS ls hl
  obtain ⟨hx, hb, hr, hml, hown, hts, hlocks, hK, hZ, hA⟩ := hAt
  replace hts : ∀ w ∈ lw_g, w.before _ s = true := fun w h => hts w (List.mem_cons_of_mem _ h)
  unfold fM_changed at hf
  refine lv_aload_n hx hb dM_changed_0 rfl (lv_at hl 0 rfl) ?_
  refine aM_get_timeCount hx hb hts hown hK hP dM_changed_1 ?_
  refine lv_iload_n hx hb dM_changed_4 rfl (lv_at hl 1 rfl) ?_
  obtain ⟨g_1, hf⟩ := gd_f hf
  refine aM_ld_timeCount (σ := σ) (f := (m_timeCount σ)) rfl hx hb hK hP g_1 dM_changed_5 ?_
  refine lv_if_le (tgt := 46) hx hb dM_changed_6 (by decide) (fun c_2 => ?_) (fun c_2 => ?_)
  · replace hf := it_t hf c_2
    refine lv_aload_n hx hb dM_changed_46 rfl (lv_at hl 0 rfl) ?_
    refine aM_get_timeCount hx hb hts hown hK hP dM_changed_47 ?_
    refine lv_iload_n hx hb dM_changed_50 rfl (lv_at hl 1 rfl) ?_
    obtain ⟨g_3, hf⟩ := gd_f hf
    refine aM_ld_timeCount (σ := σ) (f := (m_timeCount σ)) rfl hx hb hK hP g_3 dM_changed_51 ?_
    refine lv_bipush (v := (40 : Int32)) hx hb dM_changed_52 (by decide) ?_
    refine lv_icmp_ge (tgt := 87) hx hb dM_changed_54 (by decide) (fun c_4 => ?_) (fun c_4 => ?_)
    · replace hf := it_t hf c_4
      exact xw_vret (wf := (w_M a cI cZ)) hx hb hr hlocks hK hP hD hS hf dM_changed_87
    · replace hf := it_f hf c_4
      refine lv_aload_n hx hb dM_changed_57 rfl (lv_at hl 0 rfl) ?_
      refine aM_get_times hx hb hts hown hK hP dM_changed_58 ?_
      refine lv_bipush (v := (40 : Int32)) hx hb dM_changed_61 (by decide) ?_
      refine lv_iload_n hx hb dM_changed_63 rfl (lv_at hl 1 rfl) ?_
      refine lv_imul hx hb dM_changed_64 ?_
      refine lv_aload_n hx hb dM_changed_65 rfl (lv_at hl 0 rfl) ?_
      refine aM_get_timeCount hx hb hts hown hK hP dM_changed_66 ?_
      refine lv_iload_n hx hb dM_changed_69 rfl (lv_at hl 1 rfl) ?_
      obtain ⟨g_5, hf⟩ := gd_f hf
      refine aM_ld_timeCount (σ := σ) (f := (m_timeCount σ)) rfl hx hb hK hP g_5 dM_changed_70 ?_
      refine lv_iadd hx hb dM_changed_71 ?_
      refine lv_aload_n hx hb dM_changed_72 rfl (lv_at hl 0 rfl) ?_
      refine aM_get_moment (σ := σ) (v := (m_moment σ)) rfl hx hb hts hown hK hP dM_changed_73 ?_
      obtain ⟨g_6, hf⟩ := gd_f hf
      refine aM_st_times (σ := σ) (f := (m_times σ)) (x := (m_moment σ)) (τ := (m_ptimes σ (upd (m_times σ) (((40 : Int32) * p1) + ((m_timeCount σ) p1.toNatClampNeg)).toNatClampNeg (m_moment σ)))) rfl rfl hx hb hK hP hD hS g_6 dM_changed_76 (fun H locs hP hD hS => ?_)
      refine lv_aload_n hx hb dM_changed_77 rfl (lv_at hl 0 rfl) ?_
      refine aM_get_timeCount hx hb hts hown hK hP dM_changed_78 ?_
      refine lv_iload_n hx hb dM_changed_81 rfl (lv_at hl 1 rfl) ?_
      refine lv_dup2_11 hx hb dM_changed_82 rfl rfl ?_
      obtain ⟨g_7, hf⟩ := gd_f hf
      refine aM_ld_timeCount (σ := (m_ptimes σ (upd (m_times σ) (((40 : Int32) * p1) + ((m_timeCount σ) p1.toNatClampNeg)).toNatClampNeg (m_moment σ)))) (f := (m_timeCount σ)) rfl hx hb hK hP g_7 dM_changed_83 ?_
      refine lv_iconst (v := (1 : Int32)) hx hb dM_changed_84 (by decide) ?_
      refine lv_iadd hx hb dM_changed_85 ?_
      obtain ⟨g_8, hf⟩ := gd_f hf
      refine aM_st_timeCount (σ := (m_ptimes σ (upd (m_times σ) (((40 : Int32) * p1) + ((m_timeCount σ) p1.toNatClampNeg)).toNatClampNeg (m_moment σ)))) (f := (m_timeCount σ)) (x := (((m_timeCount σ) p1.toNatClampNeg) + (1 : Int32))) (τ := (m_ptimeCount (m_ptimes σ (upd (m_times σ) (((40 : Int32) * p1) + ((m_timeCount σ) p1.toNatClampNeg)).toNatClampNeg (m_moment σ))) (upd (m_timeCount σ) p1.toNatClampNeg (((m_timeCount σ) p1.toNatClampNeg) + (1 : Int32))))) rfl rfl hx hb hK hP hD hS g_8 dM_changed_86 (fun H locs hP hD hS => ?_)
      exact xw_vret (wf := (w_M a cI cZ)) hx hb hr hlocks hK hP hD hS hf dM_changed_87
  · replace hf := it_f hf c_2
    refine lv_aload_n hx hb dM_changed_9 rfl (lv_at hl 0 rfl) ?_
    refine aM_get_timeCount hx hb hts hown hK hP dM_changed_10 ?_
    refine lv_iload_n hx hb dM_changed_13 rfl (lv_at hl 1 rfl) ?_
    obtain ⟨g_9, hf⟩ := gd_f hf
    refine aM_ld_timeCount (σ := σ) (f := (m_timeCount σ)) rfl hx hb hK hP g_9 dM_changed_14 ?_
    refine lv_bipush (v := (41 : Int32)) hx hb dM_changed_15 (by decide) ?_
    refine lv_icmp_ge (tgt := 46) hx hb dM_changed_17 (by decide) (fun c_10 => ?_) (fun c_10 => ?_)
    · replace hf := it_t hf c_10
      refine lv_aload_n hx hb dM_changed_46 rfl (lv_at hl 0 rfl) ?_
      refine aM_get_timeCount hx hb hts hown hK hP dM_changed_47 ?_
      refine lv_iload_n hx hb dM_changed_50 rfl (lv_at hl 1 rfl) ?_
      obtain ⟨g_11, hf⟩ := gd_f hf
      refine aM_ld_timeCount (σ := σ) (f := (m_timeCount σ)) rfl hx hb hK hP g_11 dM_changed_51 ?_
      refine lv_bipush (v := (40 : Int32)) hx hb dM_changed_52 (by decide) ?_
      refine lv_icmp_ge (tgt := 87) hx hb dM_changed_54 (by decide) (fun c_12 => ?_) (fun c_12 => ?_)
      · replace hf := it_t hf c_12
        exact xw_vret (wf := (w_M a cI cZ)) hx hb hr hlocks hK hP hD hS hf dM_changed_87
      · replace hf := it_f hf c_12
        refine lv_aload_n hx hb dM_changed_57 rfl (lv_at hl 0 rfl) ?_
        refine aM_get_times hx hb hts hown hK hP dM_changed_58 ?_
        refine lv_bipush (v := (40 : Int32)) hx hb dM_changed_61 (by decide) ?_
        refine lv_iload_n hx hb dM_changed_63 rfl (lv_at hl 1 rfl) ?_
        refine lv_imul hx hb dM_changed_64 ?_
        refine lv_aload_n hx hb dM_changed_65 rfl (lv_at hl 0 rfl) ?_
        refine aM_get_timeCount hx hb hts hown hK hP dM_changed_66 ?_
        refine lv_iload_n hx hb dM_changed_69 rfl (lv_at hl 1 rfl) ?_
        obtain ⟨g_13, hf⟩ := gd_f hf
        refine aM_ld_timeCount (σ := σ) (f := (m_timeCount σ)) rfl hx hb hK hP g_13 dM_changed_70 ?_
        refine lv_iadd hx hb dM_changed_71 ?_
        refine lv_aload_n hx hb dM_changed_72 rfl (lv_at hl 0 rfl) ?_
        refine aM_get_moment (σ := σ) (v := (m_moment σ)) rfl hx hb hts hown hK hP dM_changed_73 ?_
        obtain ⟨g_14, hf⟩ := gd_f hf
        refine aM_st_times (σ := σ) (f := (m_times σ)) (x := (m_moment σ)) (τ := (m_ptimes σ (upd (m_times σ) (((40 : Int32) * p1) + ((m_timeCount σ) p1.toNatClampNeg)).toNatClampNeg (m_moment σ)))) rfl rfl hx hb hK hP hD hS g_14 dM_changed_76 (fun H locs hP hD hS => ?_)
        refine lv_aload_n hx hb dM_changed_77 rfl (lv_at hl 0 rfl) ?_
        refine aM_get_timeCount hx hb hts hown hK hP dM_changed_78 ?_
        refine lv_iload_n hx hb dM_changed_81 rfl (lv_at hl 1 rfl) ?_
        refine lv_dup2_11 hx hb dM_changed_82 rfl rfl ?_
        obtain ⟨g_15, hf⟩ := gd_f hf
        refine aM_ld_timeCount (σ := (m_ptimes σ (upd (m_times σ) (((40 : Int32) * p1) + ((m_timeCount σ) p1.toNatClampNeg)).toNatClampNeg (m_moment σ)))) (f := (m_timeCount σ)) rfl hx hb hK hP g_15 dM_changed_83 ?_
        refine lv_iconst (v := (1 : Int32)) hx hb dM_changed_84 (by decide) ?_
        refine lv_iadd hx hb dM_changed_85 ?_
        obtain ⟨g_16, hf⟩ := gd_f hf
        refine aM_st_timeCount (σ := (m_ptimes σ (upd (m_times σ) (((40 : Int32) * p1) + ((m_timeCount σ) p1.toNatClampNeg)).toNatClampNeg (m_moment σ)))) (f := (m_timeCount σ)) (x := (((m_timeCount σ) p1.toNatClampNeg) + (1 : Int32))) (τ := (m_ptimeCount (m_ptimes σ (upd (m_times σ) (((40 : Int32) * p1) + ((m_timeCount σ) p1.toNatClampNeg)).toNatClampNeg (m_moment σ))) (upd (m_timeCount σ) p1.toNatClampNeg (((m_timeCount σ) p1.toNatClampNeg) + (1 : Int32))))) rfl rfl hx hb hK hP hD hS g_16 dM_changed_86 (fun H locs hP hD hS => ?_)
        exact xw_vret (wf := (w_M a cI cZ)) hx hb hr hlocks hK hP hD hS hf dM_changed_87
    · replace hf := it_f hf c_10
      refine lv_aload_n hx hb dM_changed_20 rfl (lv_at hl 0 rfl) ?_
      refine aM_get_times hx hb hts hown hK hP dM_changed_21 ?_
      refine lv_bipush (v := (40 : Int32)) hx hb dM_changed_24 (by decide) ?_
      refine lv_iload_n hx hb dM_changed_26 rfl (lv_at hl 1 rfl) ?_
      refine lv_imul hx hb dM_changed_27 ?_
      refine lv_aload_n hx hb dM_changed_28 rfl (lv_at hl 0 rfl) ?_
      refine aM_get_timeCount hx hb hts hown hK hP dM_changed_29 ?_
      refine lv_iload_n hx hb dM_changed_32 rfl (lv_at hl 1 rfl) ?_
      obtain ⟨g_17, hf⟩ := gd_f hf
      refine aM_ld_timeCount (σ := σ) (f := (m_timeCount σ)) rfl hx hb hK hP g_17 dM_changed_33 ?_
      refine lv_iadd hx hb dM_changed_34 ?_
      refine lv_iconst (v := (1 : Int32)) hx hb dM_changed_35 (by decide) ?_
      refine lv_isub hx hb dM_changed_36 ?_
      obtain ⟨g_18, hf⟩ := gd_f hf
      refine aM_ld_times (σ := σ) (f := (m_times σ)) rfl hx hb hK hP g_18 dM_changed_37 ?_
      refine lv_aload_n hx hb dM_changed_38 rfl (lv_at hl 0 rfl) ?_
      refine aM_get_moment (σ := σ) (v := (m_moment σ)) rfl hx hb hts hown hK hP dM_changed_39 ?_
      refine lv_icmp_ne (tgt := 46) hx hb dM_changed_42 (by decide) (fun c_19 => ?_) (fun c_19 => ?_)
      · replace hf := it_f hf c_19
        refine lv_aload_n hx hb dM_changed_46 rfl (lv_at hl 0 rfl) ?_
        refine aM_get_timeCount hx hb hts hown hK hP dM_changed_47 ?_
        refine lv_iload_n hx hb dM_changed_50 rfl (lv_at hl 1 rfl) ?_
        obtain ⟨g_20, hf⟩ := gd_f hf
        refine aM_ld_timeCount (σ := σ) (f := (m_timeCount σ)) rfl hx hb hK hP g_20 dM_changed_51 ?_
        refine lv_bipush (v := (40 : Int32)) hx hb dM_changed_52 (by decide) ?_
        refine lv_icmp_ge (tgt := 87) hx hb dM_changed_54 (by decide) (fun c_21 => ?_) (fun c_21 => ?_)
        · replace hf := it_t hf c_21
          exact xw_vret (wf := (w_M a cI cZ)) hx hb hr hlocks hK hP hD hS hf dM_changed_87
        · replace hf := it_f hf c_21
          refine lv_aload_n hx hb dM_changed_57 rfl (lv_at hl 0 rfl) ?_
          refine aM_get_times hx hb hts hown hK hP dM_changed_58 ?_
          refine lv_bipush (v := (40 : Int32)) hx hb dM_changed_61 (by decide) ?_
          refine lv_iload_n hx hb dM_changed_63 rfl (lv_at hl 1 rfl) ?_
          refine lv_imul hx hb dM_changed_64 ?_
          refine lv_aload_n hx hb dM_changed_65 rfl (lv_at hl 0 rfl) ?_
          refine aM_get_timeCount hx hb hts hown hK hP dM_changed_66 ?_
          refine lv_iload_n hx hb dM_changed_69 rfl (lv_at hl 1 rfl) ?_
          obtain ⟨g_22, hf⟩ := gd_f hf
          refine aM_ld_timeCount (σ := σ) (f := (m_timeCount σ)) rfl hx hb hK hP g_22 dM_changed_70 ?_
          refine lv_iadd hx hb dM_changed_71 ?_
          refine lv_aload_n hx hb dM_changed_72 rfl (lv_at hl 0 rfl) ?_
          refine aM_get_moment (σ := σ) (v := (m_moment σ)) rfl hx hb hts hown hK hP dM_changed_73 ?_
          obtain ⟨g_23, hf⟩ := gd_f hf
          refine aM_st_times (σ := σ) (f := (m_times σ)) (x := (m_moment σ)) (τ := (m_ptimes σ (upd (m_times σ) (((40 : Int32) * p1) + ((m_timeCount σ) p1.toNatClampNeg)).toNatClampNeg (m_moment σ)))) rfl rfl hx hb hK hP hD hS g_23 dM_changed_76 (fun H locs hP hD hS => ?_)
          refine lv_aload_n hx hb dM_changed_77 rfl (lv_at hl 0 rfl) ?_
          refine aM_get_timeCount hx hb hts hown hK hP dM_changed_78 ?_
          refine lv_iload_n hx hb dM_changed_81 rfl (lv_at hl 1 rfl) ?_
          refine lv_dup2_11 hx hb dM_changed_82 rfl rfl ?_
          obtain ⟨g_24, hf⟩ := gd_f hf
          refine aM_ld_timeCount (σ := (m_ptimes σ (upd (m_times σ) (((40 : Int32) * p1) + ((m_timeCount σ) p1.toNatClampNeg)).toNatClampNeg (m_moment σ)))) (f := (m_timeCount σ)) rfl hx hb hK hP g_24 dM_changed_83 ?_
          refine lv_iconst (v := (1 : Int32)) hx hb dM_changed_84 (by decide) ?_
          refine lv_iadd hx hb dM_changed_85 ?_
          obtain ⟨g_25, hf⟩ := gd_f hf
          refine aM_st_timeCount (σ := (m_ptimes σ (upd (m_times σ) (((40 : Int32) * p1) + ((m_timeCount σ) p1.toNatClampNeg)).toNatClampNeg (m_moment σ)))) (f := (m_timeCount σ)) (x := (((m_timeCount σ) p1.toNatClampNeg) + (1 : Int32))) (τ := (m_ptimeCount (m_ptimes σ (upd (m_times σ) (((40 : Int32) * p1) + ((m_timeCount σ) p1.toNatClampNeg)).toNatClampNeg (m_moment σ))) (upd (m_timeCount σ) p1.toNatClampNeg (((m_timeCount σ) p1.toNatClampNeg) + (1 : Int32))))) rfl rfl hx hb hK hP hD hS g_25 dM_changed_86 (fun H locs hP hD hS => ?_)
          exact xw_vret (wf := (w_M a cI cZ)) hx hb hr hlocks hK hP hD hS hf dM_changed_87
      · replace hf := it_t hf c_19
        exact xw_vret (wf := (w_M a cI cZ)) hx hb hr hlocks hK hP hD hS hf dM_changed_45
def gM_link_122 (K : Nat) : Nat → Int32 → Int32 → Int32 → Int32 → MSt → Option (Int32 × MSt)
  | 0, _, _, _, _, _ => none
  | n + 1, x1, x2, x3, x4, τ => (if x4 = x1 then (if (m_ringLength τ) < 0 ∨ 61 ≤ (m_ringLength τ).toNatClampNeg then none else some ((0 : Int32), (m_pringLength (m_pring τ (upd (m_ring τ) (m_ringLength τ).toNatClampNeg x1)) ((m_ringLength τ) + (1 : Int32))))) else (if (m_ringLength τ) < 0 ∨ 61 ≤ (m_ringLength τ).toNatClampNeg then none else ((fM_hostOf K x4 (m_pringLength (m_pring τ (upd (m_ring τ) (m_ringLength τ).toNatClampNeg x4)) ((m_ringLength τ) + (1 : Int32)))).bind fun q_28 => (gM_link_122 K n x1 x2 x3 q_28.1 q_28.2))))
def fM_link (K : Nat) (p1 p2 p3 : Int32) (σ : MSt) : Option (Int32 × MSt) := ((fM_isLive K p1 (m_pmoment (m_pthrown σ (0 : Int32)) ((m_moment σ) + (1 : Int32)))).bind fun q_1 => (if q_1.1 = 0 then some ((0 : Int32), q_1.2) else (if p2 < 0 then some ((0 : Int32), q_1.2) else (if (9 : Int32) < p2 then some ((0 : Int32), q_1.2) else (if (m_links q_1.2) = (200 : Int32) then some ((0 : Int32), q_1.2) else (if (4 : Int32) ≤ p2 then ((fM_isHeading K p3 q_1.2).bind fun q_7 => (if q_7.1 = 0 then some ((0 : Int32), q_7.2) else ((fM_count K p1 p2 q_7.2).bind fun q_9 => ((fM_most K p2 q_9.2).bind fun q_10 => (if q_9.1 = q_10.1 then some ((0 : Int32), q_10.2) else ((fM_find K p1 p2 p3 q_10.2).bind fun q_12 => (if q_12.1 = (-1 : Int32) then (if p2 = 0 then ((fM_liesIn K p3 p1 q_12.2).bind fun q_19 => (if q_19.1 = 0 then (if (m_links q_19.2) < 0 ∨ 200 ≤ (m_links q_19.2).toNatClampNeg then none else (if (m_links q_19.2) < 0 ∨ 200 ≤ (m_links q_19.2).toNatClampNeg then none else (if (m_links q_19.2) < 0 ∨ 200 ≤ (m_links q_19.2).toNatClampNeg then none else ((fM_changed K p1 (m_pto (m_pfield (m_pfrom (m_plinks q_19.2 ((m_links q_19.2) + (1 : Int32))) (upd (m_from q_19.2) (m_links q_19.2).toNatClampNeg p1)) (upd (m_field q_19.2) (m_links q_19.2).toNatClampNeg p2)) (upd (m_to q_19.2) (m_links q_19.2).toNatClampNeg p3))).bind fun q_24 => some ((1 : Int32), q_24.2))))) else (gM_link_122 K K p1 p2 p3 p3 (m_pringLength q_19.2 (0 : Int32))))) else (if (m_links q_12.2) < 0 ∨ 200 ≤ (m_links q_12.2).toNatClampNeg then none else (if (m_links q_12.2) < 0 ∨ 200 ≤ (m_links q_12.2).toNatClampNeg then none else (if (m_links q_12.2) < 0 ∨ 200 ≤ (m_links q_12.2).toNatClampNeg then none else ((fM_changed K p1 (m_pto (m_pfield (m_pfrom (m_plinks q_12.2 ((m_links q_12.2) + (1 : Int32))) (upd (m_from q_12.2) (m_links q_12.2).toNatClampNeg p1)) (upd (m_field q_12.2) (m_links q_12.2).toNatClampNeg p2)) (upd (m_to q_12.2) (m_links q_12.2).toNatClampNeg p3))).bind fun q_18 => some ((1 : Int32), q_18.2)))))) else some ((0 : Int32), q_12.2)))))))) else ((fM_isLive K p3 q_1.2).bind fun q_29 => (if q_29.1 = 0 then some ((0 : Int32), q_29.2) else (if p3 = p1 then some ((0 : Int32), q_29.2) else ((fM_count K p1 p2 q_29.2).bind fun q_32 => ((fM_most K p2 q_32.2).bind fun q_33 => (if q_32.1 = q_33.1 then some ((0 : Int32), q_33.2) else ((fM_find K p1 p2 p3 q_33.2).bind fun q_35 => (if q_35.1 = (-1 : Int32) then (if p2 = 0 then ((fM_liesIn K p3 p1 q_35.2).bind fun q_42 => (if q_42.1 = 0 then (if (m_links q_42.2) < 0 ∨ 200 ≤ (m_links q_42.2).toNatClampNeg then none else (if (m_links q_42.2) < 0 ∨ 200 ≤ (m_links q_42.2).toNatClampNeg then none else (if (m_links q_42.2) < 0 ∨ 200 ≤ (m_links q_42.2).toNatClampNeg then none else ((fM_changed K p1 (m_pto (m_pfield (m_pfrom (m_plinks q_42.2 ((m_links q_42.2) + (1 : Int32))) (upd (m_from q_42.2) (m_links q_42.2).toNatClampNeg p1)) (upd (m_field q_42.2) (m_links q_42.2).toNatClampNeg p2)) (upd (m_to q_42.2) (m_links q_42.2).toNatClampNeg p3))).bind fun q_47 => some ((1 : Int32), q_47.2))))) else (gM_link_122 K K p1 p2 p3 p3 (m_pringLength q_42.2 (0 : Int32))))) else (if (m_links q_35.2) < 0 ∨ 200 ≤ (m_links q_35.2).toNatClampNeg then none else (if (m_links q_35.2) < 0 ∨ 200 ≤ (m_links q_35.2).toNatClampNeg then none else (if (m_links q_35.2) < 0 ∨ 200 ≤ (m_links q_35.2).toNatClampNeg then none else ((fM_changed K p1 (m_pto (m_pfield (m_pfrom (m_plinks q_35.2 ((m_links q_35.2) + (1 : Int32))) (upd (m_from q_35.2) (m_links q_35.2).toNatClampNeg p1)) (upd (m_field q_35.2) (m_links q_35.2).toNatClampNeg p2)) (upd (m_to q_35.2) (m_links q_35.2).toNatClampNeg p3))).bind fun q_41 => some ((1 : Int32), q_41.2)))))) else some ((0 : Int32), q_35.2)))))))))))))))
set_option maxHeartbeats 4000000 in
set_option maxRecDepth 100000 in
theorem kM_link (l : Launch) (dC : Nat → ClassId) (dI : Nat → Nat → Nat) (a : Nat → Nat) (cI cZ : ClassId) (tb : Nat) (K : Nat) (p1 p2 p3 : Int32) (σ σ' : MSt) (r : Int32) (hf : fM_link K p1 p2 p3 σ = some (r, σ')) : xw_Ct l yM_link wdM_link ({ frames := 2, cells := 0, slots := 0, locals := 45 } : Room) (dC, dI) vwCl [(cI, .int), (cZ, .boolean)] (zz tb) ((w_M a cI cZ) σ) ((w_M a cI cZ) σ') [.ref (a 0), .int p1, .int p2, .int p3] r := by
  refine xw_ofW (cc := cM_link) (maxL := 5) (ret := (some .int)) (lv := [(0, .ref (a 0)), (1, .int p1), (2, .int p2), (3, .int p3)]) (by decide) rfl (Nat.le_of_ble_eq_true rfl) rfl ?_
  intro p e s m below meth c A hAt hP hD hS ls hl
  obtain ⟨hx, hb, hr, hml, hown, hts, hlocks, hK, hZ, hA⟩ := hAt
  replace hts : ∀ w ∈ lw_g, w.before _ s = true := fun w h => hts w (List.mem_cons_of_mem _ h)
  have L_122 : ∀ (n : Nat) (x1 x2 x3 x4 : Int32) (τ : MSt), gM_link_122 K n x1 x2 x3 x4 τ = some (r, σ') → ∀ (H : Heap) (locs : List Loc), va_P (dC, dI) vwCl ((w_M a cI cZ) τ) H → va_D A ((w_M a cI cZ) τ) → va_S A s.heap H locs → ∀ (ls : Array Slot), lv_has ls 5 [(0, .ref (a 0)), (1, .int x1), (2, .int x2), (3, .int x3), (4, .int x4)] → W p l e ({ frames := 2, cells := 0, slots := 0, locals := 45 } : Room) s m ([.ref (a 0), .int p1, .int p2, .int p3] : List Value).toArray below meth c H locs 0 0 (MQ below (va_Qi (fun (r2 : Int32) (_ : Unit) => r2 = r) (fun _ t => xw_B (dC, dI) vwCl [(cI, .int), (cZ, .boolean)] A ((w_M a cI cZ) σ') t) A) ([.ref (a 0), .int p1, .int p2, .int p3] : List Value).toArray s 0 0 A) (F0 m 122 ls []) := by
    intro n
    induction n with
    | zero =>
      intro x1 x2 x3 x4 τ hf
      rw [gM_link_122] at hf
      cases hf
    | succ n ih =>
      intro x1 x2 x3 x4 τ hf H locs hP hD hS ls hl
      rw [gM_link_122] at hf
      refine lv_iload hx hb dM_link_122 (lv_at hl 4 rfl) ?_
      refine lv_iload_n hx hb dM_link_124 rfl (lv_at hl 1 rfl) ?_
      refine lv_icmp_eq (tgt := 160) hx hb dM_link_125 (by decide) (fun c_25 => ?_) (fun c_25 => ?_)
      · replace hf := it_t hf c_25
        refine lv_aload_n hx hb dM_link_160 rfl (lv_at hl 0 rfl) ?_
        refine aM_get_ring hx hb hts hown hK hP dM_link_161 ?_
        refine lv_aload_n hx hb dM_link_164 rfl (lv_at hl 0 rfl) ?_
        refine aM_get_ringLength (σ := τ) (v := (m_ringLength τ)) rfl hx hb hts hown hK hP dM_link_165 ?_
        refine lv_iload_n hx hb dM_link_168 rfl (lv_at hl 1 rfl) ?_
        obtain ⟨g_26, hf⟩ := gd_f hf
        refine aM_st_ring (σ := τ) (f := (m_ring τ)) (x := x1) (τ := (m_pring τ (upd (m_ring τ) (m_ringLength τ).toNatClampNeg x1))) rfl rfl hx hb hK hP hD hS g_26 dM_link_169 (fun H locs hP hD hS => ?_)
        refine lv_aload_n hx hb dM_link_170 rfl (lv_at hl 0 rfl) ?_
        refine lv_dup hx hb dM_link_171 rfl ?_
        refine aM_get_ringLength (σ := (m_pring τ (upd (m_ring τ) (m_ringLength τ).toNatClampNeg x1))) (v := (m_ringLength τ)) rfl hx hb hts hown hK hP dM_link_172 ?_
        refine lv_iconst (v := (1 : Int32)) hx hb dM_link_175 (by decide) ?_
        refine lv_iadd hx hb dM_link_176 ?_
        refine aM_put_ringLength (σ := (m_pring τ (upd (m_ring τ) (m_ringLength τ).toNatClampNeg x1))) (v := ((m_ringLength τ) + (1 : Int32))) (τ := (m_pringLength (m_pring τ (upd (m_ring τ) (m_ringLength τ).toNatClampNeg x1)) ((m_ringLength τ) + (1 : Int32)))) rfl hx hb hts hown hK hP hD hS dM_link_177 (fun H locs hP hD hS => ?_)
        refine lv_iconst (v := (0 : Int32)) hx hb dM_link_180 (by decide) ?_
        exact xw_iret (wf := (w_M a cI cZ)) hx hb hr hlocks rfl hK hP hD hS hf dM_link_181
      · replace hf := it_f hf c_25
        refine lv_aload_n hx hb dM_link_128 rfl (lv_at hl 0 rfl) ?_
        refine aM_get_ring hx hb hts hown hK hP dM_link_129 ?_
        refine lv_aload_n hx hb dM_link_132 rfl (lv_at hl 0 rfl) ?_
        refine aM_get_ringLength (σ := τ) (v := (m_ringLength τ)) rfl hx hb hts hown hK hP dM_link_133 ?_
        refine lv_iload hx hb dM_link_136 (lv_at hl 4 rfl) ?_
        obtain ⟨g_27, hf⟩ := gd_f hf
        refine aM_st_ring (σ := τ) (f := (m_ring τ)) (x := x4) (τ := (m_pring τ (upd (m_ring τ) (m_ringLength τ).toNatClampNeg x4))) rfl rfl hx hb hK hP hD hS g_27 dM_link_138 (fun H locs hP hD hS => ?_)
        refine lv_aload_n hx hb dM_link_139 rfl (lv_at hl 0 rfl) ?_
        refine lv_dup hx hb dM_link_140 rfl ?_
        refine aM_get_ringLength (σ := (m_pring τ (upd (m_ring τ) (m_ringLength τ).toNatClampNeg x4))) (v := (m_ringLength τ)) rfl hx hb hts hown hK hP dM_link_141 ?_
        refine lv_iconst (v := (1 : Int32)) hx hb dM_link_144 (by decide) ?_
        refine lv_iadd hx hb dM_link_145 ?_
        refine aM_put_ringLength (σ := (m_pring τ (upd (m_ring τ) (m_ringLength τ).toNatClampNeg x4))) (v := ((m_ringLength τ) + (1 : Int32))) (τ := (m_pringLength (m_pring τ (upd (m_ring τ) (m_ringLength τ).toNatClampNeg x4)) ((m_ringLength τ) + (1 : Int32)))) rfl hx hb hts hown hK hP hD hS dM_link_146 (fun H locs hP hD hS => ?_)
        refine lv_aload_n hx hb dM_link_149 rfl (lv_at hl 0 rfl) ?_
        refine lv_iload hx hb dM_link_150 (lv_at hl 4 rfl) ?_
        obtain ⟨q_28, hq_28, hf⟩ := bd_s hf
        refine xw_callV (kM_hostOf l dC dI a cI cZ tb K x4 (m_pringLength (m_pring τ (upd (m_ring τ) (m_ringLength τ).toNatClampNeg x4)) ((m_ringLength τ) + (1 : Int32))) q_28.2 q_28.1 hq_28) ⟨hx, hb, hml, hown, hts⟩ (cwV 1 hts (gw_V mt_285 mt_287 mt_19 mt_26 mt_288) rfl rfl rfl hdM_hostOf ⟨Nat.le_of_ble_eq_true rfl, Nat.le_of_ble_eq_true rfl⟩) hK hP hD hS hA hZ (q0 := 0) (ci := 1) rfl rfl rfl hl.1 rfl (Nat.le_of_ble_eq_true rfl) dM_link_152 ⟨Nat.zero_le _, Nat.zero_le _⟩ (fun H locs hP hD hS => ?_)
        refine lv_istore (lv' := [(4, .int q_28.1), (0, .ref (a 0)), (1, .int x1), (2, .int x2), (3, .int x3)]) hx hb dM_link_155 hl (by decide) rfl (fun ls hl => ?_)
        refine lv_goto (tgt := 122) hx hb dM_link_157 (by decide) ?_
        exact ih x1 x2 x3 q_28.1 q_28.2 hf _ _ hP hD hS _ (lv_sub hl [1, 2, 3, 4, 0] rfl)
  unfold fM_link at hf
  refine lv_aload_n hx hb dM_link_0 rfl (lv_at hl 0 rfl) ?_
  refine lv_iconst (v := (0 : Int32)) hx hb dM_link_1 (by decide) ?_
  refine aM_put_thrown (σ := σ) (v := (0 : Int32)) (τ := (m_pthrown σ (0 : Int32))) rfl hx hb hts hown hK hP hD hS dM_link_2 (fun H locs hP hD hS => ?_)
  refine lv_aload_n hx hb dM_link_5 rfl (lv_at hl 0 rfl) ?_
  refine lv_dup hx hb dM_link_6 rfl ?_
  refine aM_get_moment (σ := (m_pthrown σ (0 : Int32))) (v := (m_moment σ)) rfl hx hb hts hown hK hP dM_link_7 ?_
  refine lv_iconst (v := (1 : Int32)) hx hb dM_link_10 (by decide) ?_
  refine lv_iadd hx hb dM_link_11 ?_
  refine aM_put_moment (σ := (m_pthrown σ (0 : Int32))) (v := ((m_moment σ) + (1 : Int32))) (τ := (m_pmoment (m_pthrown σ (0 : Int32)) ((m_moment σ) + (1 : Int32)))) rfl hx hb hts hown hK hP hD hS dM_link_12 (fun H locs hP hD hS => ?_)
  refine lv_aload_n hx hb dM_link_15 rfl (lv_at hl 0 rfl) ?_
  refine lv_iload_n hx hb dM_link_16 rfl (lv_at hl 1 rfl) ?_
  obtain ⟨q_1, hq_1, hf⟩ := bd_s hf
  refine xw_callV (kM_isLive l dC dI a cI cZ tb K p1 (m_pmoment (m_pthrown σ (0 : Int32)) ((m_moment σ) + (1 : Int32))) q_1.2 q_1.1 hq_1) ⟨hx, hb, hml, hown, hts⟩ (cwV 1 hts (gw_V mt_263 mt_265 mt_15 mt_26 mt_266) rfl rfl rfl hdM_isLive ⟨Nat.le_of_ble_eq_true rfl, Nat.le_of_ble_eq_true rfl⟩) hK hP hD hS hA hZ (q0 := 0) (ci := 1) rfl rfl rfl hl.1 rfl (Nat.le_of_ble_eq_true rfl) dM_link_17 ⟨Nat.zero_le _, Nat.zero_le _⟩ (fun H locs hP hD hS => ?_)
  refine lv_if_eq (tgt := 43) hx hb dM_link_20 (by decide) (fun c_2 => ?_) (fun c_2 => ?_)
  · replace hf := it_t hf c_2
    refine lv_iconst (v := (0 : Int32)) hx hb dM_link_43 (by decide) ?_
    exact xw_iret (wf := (w_M a cI cZ)) hx hb hr hlocks rfl hK hP hD hS hf dM_link_44
  · replace hf := it_f hf c_2
    refine lv_iload_n hx hb dM_link_23 rfl (lv_at hl 2 rfl) ?_
    refine lv_if_lt (tgt := 43) hx hb dM_link_24 (by decide) (fun c_3 => ?_) (fun c_3 => ?_)
    · replace hf := it_t hf c_3
      refine lv_iconst (v := (0 : Int32)) hx hb dM_link_43 (by decide) ?_
      exact xw_iret (wf := (w_M a cI cZ)) hx hb hr hlocks rfl hK hP hD hS hf dM_link_44
    · replace hf := it_f hf c_3
      refine lv_iload_n hx hb dM_link_27 rfl (lv_at hl 2 rfl) ?_
      refine lv_bipush (v := (9 : Int32)) hx hb dM_link_28 (by decide) ?_
      refine lv_icmp_gt (tgt := 43) hx hb dM_link_30 (by decide) (fun c_4 => ?_) (fun c_4 => ?_)
      · replace hf := it_t hf c_4
        refine lv_iconst (v := (0 : Int32)) hx hb dM_link_43 (by decide) ?_
        exact xw_iret (wf := (w_M a cI cZ)) hx hb hr hlocks rfl hK hP hD hS hf dM_link_44
      · replace hf := it_f hf c_4
        refine lv_aload_n hx hb dM_link_33 rfl (lv_at hl 0 rfl) ?_
        refine aM_get_links (σ := q_1.2) (v := (m_links q_1.2)) rfl hx hb hts hown hK hP dM_link_34 ?_
        refine lv_sipush (v := (200 : Int32)) hx hb dM_link_37 (by decide) ?_
        refine lv_icmp_ne (tgt := 45) hx hb dM_link_40 (by decide) (fun c_5 => ?_) (fun c_5 => ?_)
        · replace hf := it_f hf c_5
          refine lv_iload_n hx hb dM_link_45 rfl (lv_at hl 2 rfl) ?_
          refine lv_iconst (v := (4 : Int32)) hx hb dM_link_46 (by decide) ?_
          refine lv_icmp_ge (tgt := 66) hx hb dM_link_47 (by decide) (fun c_6 => ?_) (fun c_6 => ?_)
          · replace hf := it_t hf c_6
            refine lv_iload_n hx hb dM_link_66 rfl (lv_at hl 3 rfl) ?_
            obtain ⟨q_7, hq_7, hf⟩ := bd_s hf
            refine xw_callS (kM_isHeading l dC dI a cI cZ tb K p3 q_1.2 q_7.2 q_7.1 hq_7) ⟨hx, hb, hml, hown, hts⟩ (va_cwS 1 hts (gw_S mt_267 mt_268 mt_26 mt_269) rfl rfl rfl hdM_isHeading ⟨Nat.le_of_ble_eq_true rfl, Nat.le_of_ble_eq_true rfl⟩) hK hP hD hS hA hZ rfl hl.1 rfl (Nat.le_of_ble_eq_true rfl) dM_link_67 ⟨Nat.zero_le _, Nat.zero_le _⟩ (fun H locs hP hD hS => ?_)
            refine lv_if_ne (tgt := 75) hx hb dM_link_70 (by decide) (fun c_8 => ?_) (fun c_8 => ?_)
            · replace hf := it_f hf c_8
              refine lv_aload_n hx hb dM_link_75 rfl (lv_at hl 0 rfl) ?_
              refine lv_iload_n hx hb dM_link_76 rfl (lv_at hl 1 rfl) ?_
              refine lv_iload_n hx hb dM_link_77 rfl (lv_at hl 2 rfl) ?_
              obtain ⟨q_9, hq_9, hf⟩ := bd_s hf
              refine xw_callV (kM_count l dC dI a cI cZ tb K p1 p2 q_7.2 q_9.2 q_9.1 hq_9) ⟨hx, hb, hml, hown, hts⟩ (cwV 2 hts (gw_V mt_270 mt_272 mt_16 mt_26 mt_273) rfl rfl rfl hdM_count ⟨Nat.le_of_ble_eq_true rfl, Nat.le_of_ble_eq_true rfl⟩) hK hP hD hS hA hZ (q0 := 0) (ci := 1) rfl rfl rfl hl.1 rfl (Nat.le_of_ble_eq_true rfl) dM_link_78 ⟨Nat.zero_le _, Nat.zero_le _⟩ (fun H locs hP hD hS => ?_)
              refine lv_iload_n hx hb dM_link_81 rfl (lv_at hl 2 rfl) ?_
              obtain ⟨q_10, hq_10, hf⟩ := bd_s hf
              refine xw_callS (kM_most l dC dI a cI cZ tb K p2 q_9.2 q_10.2 q_10.1 hq_10) ⟨hx, hb, hml, hown, hts⟩ (va_cwS 1 hts (gw_S mt_274 mt_275 mt_26 mt_276) rfl rfl rfl hdM_most ⟨Nat.le_of_ble_eq_true rfl, Nat.le_of_ble_eq_true rfl⟩) hK hP hD hS hA hZ rfl hl.1 rfl (Nat.le_of_ble_eq_true rfl) dM_link_82 ⟨Nat.zero_le _, Nat.zero_le _⟩ (fun H locs hP hD hS => ?_)
              refine lv_icmp_eq (tgt := 99) hx hb dM_link_85 (by decide) (fun c_11 => ?_) (fun c_11 => ?_)
              · replace hf := it_t hf c_11
                refine lv_iconst (v := (0 : Int32)) hx hb dM_link_99 (by decide) ?_
                exact xw_iret (wf := (w_M a cI cZ)) hx hb hr hlocks rfl hK hP hD hS hf dM_link_100
              · replace hf := it_f hf c_11
                refine lv_aload_n hx hb dM_link_88 rfl (lv_at hl 0 rfl) ?_
                refine lv_iload_n hx hb dM_link_89 rfl (lv_at hl 1 rfl) ?_
                refine lv_iload_n hx hb dM_link_90 rfl (lv_at hl 2 rfl) ?_
                refine lv_iload_n hx hb dM_link_91 rfl (lv_at hl 3 rfl) ?_
                obtain ⟨q_12, hq_12, hf⟩ := bd_s hf
                refine xw_callV (kM_find l dC dI a cI cZ tb K p1 p2 p3 q_10.2 q_12.2 q_12.1 hq_12) ⟨hx, hb, hml, hown, hts⟩ (cwV 3 hts (gw_V mt_277 mt_279 mt_17 mt_26 mt_280) rfl rfl rfl hdM_find ⟨Nat.le_of_ble_eq_true rfl, Nat.le_of_ble_eq_true rfl⟩) hK hP hD hS hA hZ (q0 := 0) (ci := 1) rfl rfl rfl hl.1 rfl (Nat.le_of_ble_eq_true rfl) dM_link_92 ⟨Nat.zero_le _, Nat.zero_le _⟩ (fun H locs hP hD hS => ?_)
                refine lv_iconst (v := (-1 : Int32)) hx hb dM_link_95 (by decide) ?_
                refine lv_icmp_eq (tgt := 101) hx hb dM_link_96 (by decide) (fun c_13 => ?_) (fun c_13 => ?_)
                · replace hf := it_t hf c_13
                  refine lv_iload_n hx hb dM_link_101 rfl (lv_at hl 2 rfl) ?_
                  refine lv_if_ne (tgt := 182) hx hb dM_link_102 (by decide) (fun c_14 => ?_) (fun c_14 => ?_)
                  · replace hf := it_f hf c_14
                    refine lv_aload_n hx hb dM_link_182 rfl (lv_at hl 0 rfl) ?_
                    refine aM_get_from hx hb hts hown hK hP dM_link_183 ?_
                    refine lv_aload_n hx hb dM_link_186 rfl (lv_at hl 0 rfl) ?_
                    refine aM_get_links (σ := q_12.2) (v := (m_links q_12.2)) rfl hx hb hts hown hK hP dM_link_187 ?_
                    refine lv_iload_n hx hb dM_link_190 rfl (lv_at hl 1 rfl) ?_
                    obtain ⟨g_15, hf⟩ := gd_f hf
                    refine aM_st_from (σ := q_12.2) (f := (m_from q_12.2)) (x := p1) (τ := (m_pfrom q_12.2 (upd (m_from q_12.2) (m_links q_12.2).toNatClampNeg p1))) rfl rfl hx hb hK hP hD hS g_15 dM_link_191 (fun H locs hP hD hS => ?_)
                    refine lv_aload_n hx hb dM_link_192 rfl (lv_at hl 0 rfl) ?_
                    refine aM_get_field hx hb hts hown hK hP dM_link_193 ?_
                    refine lv_aload_n hx hb dM_link_196 rfl (lv_at hl 0 rfl) ?_
                    refine aM_get_links (σ := (m_pfrom q_12.2 (upd (m_from q_12.2) (m_links q_12.2).toNatClampNeg p1))) (v := (m_links q_12.2)) rfl hx hb hts hown hK hP dM_link_197 ?_
                    refine lv_iload_n hx hb dM_link_200 rfl (lv_at hl 2 rfl) ?_
                    obtain ⟨g_16, hf⟩ := gd_f hf
                    refine aM_st_field (σ := (m_pfrom q_12.2 (upd (m_from q_12.2) (m_links q_12.2).toNatClampNeg p1))) (f := (m_field q_12.2)) (x := p2) (τ := (m_pfield (m_pfrom q_12.2 (upd (m_from q_12.2) (m_links q_12.2).toNatClampNeg p1)) (upd (m_field q_12.2) (m_links q_12.2).toNatClampNeg p2))) rfl rfl hx hb hK hP hD hS g_16 dM_link_201 (fun H locs hP hD hS => ?_)
                    refine lv_aload_n hx hb dM_link_202 rfl (lv_at hl 0 rfl) ?_
                    refine aM_get_to hx hb hts hown hK hP dM_link_203 ?_
                    refine lv_aload_n hx hb dM_link_206 rfl (lv_at hl 0 rfl) ?_
                    refine aM_get_links (σ := (m_pfield (m_pfrom q_12.2 (upd (m_from q_12.2) (m_links q_12.2).toNatClampNeg p1)) (upd (m_field q_12.2) (m_links q_12.2).toNatClampNeg p2))) (v := (m_links q_12.2)) rfl hx hb hts hown hK hP dM_link_207 ?_
                    refine lv_iload_n hx hb dM_link_210 rfl (lv_at hl 3 rfl) ?_
                    obtain ⟨g_17, hf⟩ := gd_f hf
                    refine aM_st_to (σ := (m_pfield (m_pfrom q_12.2 (upd (m_from q_12.2) (m_links q_12.2).toNatClampNeg p1)) (upd (m_field q_12.2) (m_links q_12.2).toNatClampNeg p2))) (f := (m_to q_12.2)) (x := p3) (τ := (m_pto (m_pfield (m_pfrom q_12.2 (upd (m_from q_12.2) (m_links q_12.2).toNatClampNeg p1)) (upd (m_field q_12.2) (m_links q_12.2).toNatClampNeg p2)) (upd (m_to q_12.2) (m_links q_12.2).toNatClampNeg p3))) rfl rfl hx hb hK hP hD hS g_17 dM_link_211 (fun H locs hP hD hS => ?_)
                    refine lv_aload_n hx hb dM_link_212 rfl (lv_at hl 0 rfl) ?_
                    refine lv_dup hx hb dM_link_213 rfl ?_
                    refine aM_get_links (σ := (m_pto (m_pfield (m_pfrom q_12.2 (upd (m_from q_12.2) (m_links q_12.2).toNatClampNeg p1)) (upd (m_field q_12.2) (m_links q_12.2).toNatClampNeg p2)) (upd (m_to q_12.2) (m_links q_12.2).toNatClampNeg p3))) (v := (m_links q_12.2)) rfl hx hb hts hown hK hP dM_link_214 ?_
                    refine lv_iconst (v := (1 : Int32)) hx hb dM_link_217 (by decide) ?_
                    refine lv_iadd hx hb dM_link_218 ?_
                    refine aM_put_links (σ := (m_pto (m_pfield (m_pfrom q_12.2 (upd (m_from q_12.2) (m_links q_12.2).toNatClampNeg p1)) (upd (m_field q_12.2) (m_links q_12.2).toNatClampNeg p2)) (upd (m_to q_12.2) (m_links q_12.2).toNatClampNeg p3))) (v := ((m_links q_12.2) + (1 : Int32))) (τ := (m_pto (m_pfield (m_pfrom (m_plinks q_12.2 ((m_links q_12.2) + (1 : Int32))) (upd (m_from q_12.2) (m_links q_12.2).toNatClampNeg p1)) (upd (m_field q_12.2) (m_links q_12.2).toNatClampNeg p2)) (upd (m_to q_12.2) (m_links q_12.2).toNatClampNeg p3))) rfl hx hb hts hown hK hP hD hS dM_link_219 (fun H locs hP hD hS => ?_)
                    refine lv_aload_n hx hb dM_link_222 rfl (lv_at hl 0 rfl) ?_
                    refine lv_iload_n hx hb dM_link_223 rfl (lv_at hl 1 rfl) ?_
                    obtain ⟨q_18, hq_18, hf⟩ := bd_s hf
                    refine xw_callVv (kM_changed l dC dI a cI cZ tb K p1 (m_pto (m_pfield (m_pfrom (m_plinks q_12.2 ((m_links q_12.2) + (1 : Int32))) (upd (m_from q_12.2) (m_links q_12.2).toNatClampNeg p1)) (upd (m_field q_12.2) (m_links q_12.2).toNatClampNeg p2)) (upd (m_to q_12.2) (m_links q_12.2).toNatClampNeg p3)) q_18.2 q_18.1 hq_18) ⟨hx, hb, hml, hown, hts⟩ (cwV 1 hts (gw_V mt_289 mt_291 mt_20 mt_26 mt_292) rfl rfl rfl hdM_changed ⟨Nat.le_of_ble_eq_true rfl, Nat.le_of_ble_eq_true rfl⟩) hK hP hD hS hA hZ (q0 := 0) (ci := 1) rfl rfl rfl hl.1 rfl (Nat.le_of_ble_eq_true rfl) dM_link_224 ⟨Nat.zero_le _, Nat.zero_le _⟩ (fun H locs hP hD hS => ?_)
                    refine lv_iconst (v := (1 : Int32)) hx hb dM_link_227 (by decide) ?_
                    exact xw_iret (wf := (w_M a cI cZ)) hx hb hr hlocks rfl hK hP hD hS hf dM_link_228
                  · replace hf := it_t hf c_14
                    refine lv_aload_n hx hb dM_link_105 rfl (lv_at hl 0 rfl) ?_
                    refine lv_iload_n hx hb dM_link_106 rfl (lv_at hl 3 rfl) ?_
                    refine lv_iload_n hx hb dM_link_107 rfl (lv_at hl 1 rfl) ?_
                    obtain ⟨q_19, hq_19, hf⟩ := bd_s hf
                    refine xw_callV (kM_liesIn l dC dI a cI cZ tb K p3 p1 q_12.2 q_19.2 q_19.1 hq_19) ⟨hx, hb, hml, hown, hts⟩ (cwV 2 hts (gw_V mt_281 mt_283 mt_18 mt_26 mt_284) rfl rfl rfl hdM_liesIn ⟨Nat.le_of_ble_eq_true rfl, Nat.le_of_ble_eq_true rfl⟩) hK hP hD hS hA hZ (q0 := 0) (ci := 1) rfl rfl rfl hl.1 rfl (Nat.le_of_ble_eq_true rfl) dM_link_108 ⟨Nat.zero_le _, Nat.zero_le _⟩ (fun H locs hP hD hS => ?_)
                    refine lv_if_eq (tgt := 182) hx hb dM_link_111 (by decide) (fun c_20 => ?_) (fun c_20 => ?_)
                    · replace hf := it_t hf c_20
                      refine lv_aload_n hx hb dM_link_182 rfl (lv_at hl 0 rfl) ?_
                      refine aM_get_from hx hb hts hown hK hP dM_link_183 ?_
                      refine lv_aload_n hx hb dM_link_186 rfl (lv_at hl 0 rfl) ?_
                      refine aM_get_links (σ := q_19.2) (v := (m_links q_19.2)) rfl hx hb hts hown hK hP dM_link_187 ?_
                      refine lv_iload_n hx hb dM_link_190 rfl (lv_at hl 1 rfl) ?_
                      obtain ⟨g_21, hf⟩ := gd_f hf
                      refine aM_st_from (σ := q_19.2) (f := (m_from q_19.2)) (x := p1) (τ := (m_pfrom q_19.2 (upd (m_from q_19.2) (m_links q_19.2).toNatClampNeg p1))) rfl rfl hx hb hK hP hD hS g_21 dM_link_191 (fun H locs hP hD hS => ?_)
                      refine lv_aload_n hx hb dM_link_192 rfl (lv_at hl 0 rfl) ?_
                      refine aM_get_field hx hb hts hown hK hP dM_link_193 ?_
                      refine lv_aload_n hx hb dM_link_196 rfl (lv_at hl 0 rfl) ?_
                      refine aM_get_links (σ := (m_pfrom q_19.2 (upd (m_from q_19.2) (m_links q_19.2).toNatClampNeg p1))) (v := (m_links q_19.2)) rfl hx hb hts hown hK hP dM_link_197 ?_
                      refine lv_iload_n hx hb dM_link_200 rfl (lv_at hl 2 rfl) ?_
                      obtain ⟨g_22, hf⟩ := gd_f hf
                      refine aM_st_field (σ := (m_pfrom q_19.2 (upd (m_from q_19.2) (m_links q_19.2).toNatClampNeg p1))) (f := (m_field q_19.2)) (x := p2) (τ := (m_pfield (m_pfrom q_19.2 (upd (m_from q_19.2) (m_links q_19.2).toNatClampNeg p1)) (upd (m_field q_19.2) (m_links q_19.2).toNatClampNeg p2))) rfl rfl hx hb hK hP hD hS g_22 dM_link_201 (fun H locs hP hD hS => ?_)
                      refine lv_aload_n hx hb dM_link_202 rfl (lv_at hl 0 rfl) ?_
                      refine aM_get_to hx hb hts hown hK hP dM_link_203 ?_
                      refine lv_aload_n hx hb dM_link_206 rfl (lv_at hl 0 rfl) ?_
                      refine aM_get_links (σ := (m_pfield (m_pfrom q_19.2 (upd (m_from q_19.2) (m_links q_19.2).toNatClampNeg p1)) (upd (m_field q_19.2) (m_links q_19.2).toNatClampNeg p2))) (v := (m_links q_19.2)) rfl hx hb hts hown hK hP dM_link_207 ?_
                      refine lv_iload_n hx hb dM_link_210 rfl (lv_at hl 3 rfl) ?_
                      obtain ⟨g_23, hf⟩ := gd_f hf
                      refine aM_st_to (σ := (m_pfield (m_pfrom q_19.2 (upd (m_from q_19.2) (m_links q_19.2).toNatClampNeg p1)) (upd (m_field q_19.2) (m_links q_19.2).toNatClampNeg p2))) (f := (m_to q_19.2)) (x := p3) (τ := (m_pto (m_pfield (m_pfrom q_19.2 (upd (m_from q_19.2) (m_links q_19.2).toNatClampNeg p1)) (upd (m_field q_19.2) (m_links q_19.2).toNatClampNeg p2)) (upd (m_to q_19.2) (m_links q_19.2).toNatClampNeg p3))) rfl rfl hx hb hK hP hD hS g_23 dM_link_211 (fun H locs hP hD hS => ?_)
                      refine lv_aload_n hx hb dM_link_212 rfl (lv_at hl 0 rfl) ?_
                      refine lv_dup hx hb dM_link_213 rfl ?_
                      refine aM_get_links (σ := (m_pto (m_pfield (m_pfrom q_19.2 (upd (m_from q_19.2) (m_links q_19.2).toNatClampNeg p1)) (upd (m_field q_19.2) (m_links q_19.2).toNatClampNeg p2)) (upd (m_to q_19.2) (m_links q_19.2).toNatClampNeg p3))) (v := (m_links q_19.2)) rfl hx hb hts hown hK hP dM_link_214 ?_
                      refine lv_iconst (v := (1 : Int32)) hx hb dM_link_217 (by decide) ?_
                      refine lv_iadd hx hb dM_link_218 ?_
                      refine aM_put_links (σ := (m_pto (m_pfield (m_pfrom q_19.2 (upd (m_from q_19.2) (m_links q_19.2).toNatClampNeg p1)) (upd (m_field q_19.2) (m_links q_19.2).toNatClampNeg p2)) (upd (m_to q_19.2) (m_links q_19.2).toNatClampNeg p3))) (v := ((m_links q_19.2) + (1 : Int32))) (τ := (m_pto (m_pfield (m_pfrom (m_plinks q_19.2 ((m_links q_19.2) + (1 : Int32))) (upd (m_from q_19.2) (m_links q_19.2).toNatClampNeg p1)) (upd (m_field q_19.2) (m_links q_19.2).toNatClampNeg p2)) (upd (m_to q_19.2) (m_links q_19.2).toNatClampNeg p3))) rfl hx hb hts hown hK hP hD hS dM_link_219 (fun H locs hP hD hS => ?_)
                      refine lv_aload_n hx hb dM_link_222 rfl (lv_at hl 0 rfl) ?_
                      refine lv_iload_n hx hb dM_link_223 rfl (lv_at hl 1 rfl) ?_
                      obtain ⟨q_24, hq_24, hf⟩ := bd_s hf
                      refine xw_callVv (kM_changed l dC dI a cI cZ tb K p1 (m_pto (m_pfield (m_pfrom (m_plinks q_19.2 ((m_links q_19.2) + (1 : Int32))) (upd (m_from q_19.2) (m_links q_19.2).toNatClampNeg p1)) (upd (m_field q_19.2) (m_links q_19.2).toNatClampNeg p2)) (upd (m_to q_19.2) (m_links q_19.2).toNatClampNeg p3)) q_24.2 q_24.1 hq_24) ⟨hx, hb, hml, hown, hts⟩ (cwV 1 hts (gw_V mt_289 mt_291 mt_20 mt_26 mt_292) rfl rfl rfl hdM_changed ⟨Nat.le_of_ble_eq_true rfl, Nat.le_of_ble_eq_true rfl⟩) hK hP hD hS hA hZ (q0 := 0) (ci := 1) rfl rfl rfl hl.1 rfl (Nat.le_of_ble_eq_true rfl) dM_link_224 ⟨Nat.zero_le _, Nat.zero_le _⟩ (fun H locs hP hD hS => ?_)
                      refine lv_iconst (v := (1 : Int32)) hx hb dM_link_227 (by decide) ?_
                      exact xw_iret (wf := (w_M a cI cZ)) hx hb hr hlocks rfl hK hP hD hS hf dM_link_228
                    · replace hf := it_f hf c_20
                      refine lv_aload_n hx hb dM_link_114 rfl (lv_at hl 0 rfl) ?_
                      refine lv_iconst (v := (0 : Int32)) hx hb dM_link_115 (by decide) ?_
                      refine aM_put_ringLength (σ := q_19.2) (v := (0 : Int32)) (τ := (m_pringLength q_19.2 (0 : Int32))) rfl hx hb hts hown hK hP hD hS dM_link_116 (fun H locs hP hD hS => ?_)
                      refine lv_iload_n hx hb dM_link_119 rfl (lv_at hl 3 rfl) ?_
                      refine lv_istore (lv' := [(4, .int p3), (0, .ref (a 0)), (1, .int p1), (2, .int p2), (3, .int p3)]) hx hb dM_link_120 hl (by decide) rfl (fun ls hl => ?_)
                      exact L_122 K p1 p2 p3 p3 (m_pringLength q_19.2 (0 : Int32)) hf _ _ hP hD hS _ (lv_sub hl [1, 2, 3, 4, 0] rfl)
                · replace hf := it_f hf c_13
                  refine lv_iconst (v := (0 : Int32)) hx hb dM_link_99 (by decide) ?_
                  exact xw_iret (wf := (w_M a cI cZ)) hx hb hr hlocks rfl hK hP hD hS hf dM_link_100
            · replace hf := it_t hf c_8
              refine lv_iconst (v := (0 : Int32)) hx hb dM_link_73 (by decide) ?_
              exact xw_iret (wf := (w_M a cI cZ)) hx hb hr hlocks rfl hK hP hD hS hf dM_link_74
          · replace hf := it_f hf c_6
            refine lv_aload_n hx hb dM_link_50 rfl (lv_at hl 0 rfl) ?_
            refine lv_iload_n hx hb dM_link_51 rfl (lv_at hl 3 rfl) ?_
            obtain ⟨q_29, hq_29, hf⟩ := bd_s hf
            refine xw_callV (kM_isLive l dC dI a cI cZ tb K p3 q_1.2 q_29.2 q_29.1 hq_29) ⟨hx, hb, hml, hown, hts⟩ (cwV 1 hts (gw_V mt_263 mt_265 mt_15 mt_26 mt_266) rfl rfl rfl hdM_isLive ⟨Nat.le_of_ble_eq_true rfl, Nat.le_of_ble_eq_true rfl⟩) hK hP hD hS hA hZ (q0 := 0) (ci := 1) rfl rfl rfl hl.1 rfl (Nat.le_of_ble_eq_true rfl) dM_link_52 ⟨Nat.zero_le _, Nat.zero_le _⟩ (fun H locs hP hD hS => ?_)
            refine lv_if_eq (tgt := 73) hx hb dM_link_55 (by decide) (fun c_30 => ?_) (fun c_30 => ?_)
            · replace hf := it_t hf c_30
              refine lv_iconst (v := (0 : Int32)) hx hb dM_link_73 (by decide) ?_
              exact xw_iret (wf := (w_M a cI cZ)) hx hb hr hlocks rfl hK hP hD hS hf dM_link_74
            · replace hf := it_f hf c_30
              refine lv_iload_n hx hb dM_link_58 rfl (lv_at hl 3 rfl) ?_
              refine lv_iload_n hx hb dM_link_59 rfl (lv_at hl 1 rfl) ?_
              refine lv_icmp_ne (tgt := 75) hx hb dM_link_60 (by decide) (fun c_31 => ?_) (fun c_31 => ?_)
              · replace hf := it_f hf c_31
                refine lv_aload_n hx hb dM_link_75 rfl (lv_at hl 0 rfl) ?_
                refine lv_iload_n hx hb dM_link_76 rfl (lv_at hl 1 rfl) ?_
                refine lv_iload_n hx hb dM_link_77 rfl (lv_at hl 2 rfl) ?_
                obtain ⟨q_32, hq_32, hf⟩ := bd_s hf
                refine xw_callV (kM_count l dC dI a cI cZ tb K p1 p2 q_29.2 q_32.2 q_32.1 hq_32) ⟨hx, hb, hml, hown, hts⟩ (cwV 2 hts (gw_V mt_270 mt_272 mt_16 mt_26 mt_273) rfl rfl rfl hdM_count ⟨Nat.le_of_ble_eq_true rfl, Nat.le_of_ble_eq_true rfl⟩) hK hP hD hS hA hZ (q0 := 0) (ci := 1) rfl rfl rfl hl.1 rfl (Nat.le_of_ble_eq_true rfl) dM_link_78 ⟨Nat.zero_le _, Nat.zero_le _⟩ (fun H locs hP hD hS => ?_)
                refine lv_iload_n hx hb dM_link_81 rfl (lv_at hl 2 rfl) ?_
                obtain ⟨q_33, hq_33, hf⟩ := bd_s hf
                refine xw_callS (kM_most l dC dI a cI cZ tb K p2 q_32.2 q_33.2 q_33.1 hq_33) ⟨hx, hb, hml, hown, hts⟩ (va_cwS 1 hts (gw_S mt_274 mt_275 mt_26 mt_276) rfl rfl rfl hdM_most ⟨Nat.le_of_ble_eq_true rfl, Nat.le_of_ble_eq_true rfl⟩) hK hP hD hS hA hZ rfl hl.1 rfl (Nat.le_of_ble_eq_true rfl) dM_link_82 ⟨Nat.zero_le _, Nat.zero_le _⟩ (fun H locs hP hD hS => ?_)
                refine lv_icmp_eq (tgt := 99) hx hb dM_link_85 (by decide) (fun c_34 => ?_) (fun c_34 => ?_)
                · replace hf := it_t hf c_34
                  refine lv_iconst (v := (0 : Int32)) hx hb dM_link_99 (by decide) ?_
                  exact xw_iret (wf := (w_M a cI cZ)) hx hb hr hlocks rfl hK hP hD hS hf dM_link_100
                · replace hf := it_f hf c_34
                  refine lv_aload_n hx hb dM_link_88 rfl (lv_at hl 0 rfl) ?_
                  refine lv_iload_n hx hb dM_link_89 rfl (lv_at hl 1 rfl) ?_
                  refine lv_iload_n hx hb dM_link_90 rfl (lv_at hl 2 rfl) ?_
                  refine lv_iload_n hx hb dM_link_91 rfl (lv_at hl 3 rfl) ?_
                  obtain ⟨q_35, hq_35, hf⟩ := bd_s hf
                  refine xw_callV (kM_find l dC dI a cI cZ tb K p1 p2 p3 q_33.2 q_35.2 q_35.1 hq_35) ⟨hx, hb, hml, hown, hts⟩ (cwV 3 hts (gw_V mt_277 mt_279 mt_17 mt_26 mt_280) rfl rfl rfl hdM_find ⟨Nat.le_of_ble_eq_true rfl, Nat.le_of_ble_eq_true rfl⟩) hK hP hD hS hA hZ (q0 := 0) (ci := 1) rfl rfl rfl hl.1 rfl (Nat.le_of_ble_eq_true rfl) dM_link_92 ⟨Nat.zero_le _, Nat.zero_le _⟩ (fun H locs hP hD hS => ?_)
                  refine lv_iconst (v := (-1 : Int32)) hx hb dM_link_95 (by decide) ?_
                  refine lv_icmp_eq (tgt := 101) hx hb dM_link_96 (by decide) (fun c_36 => ?_) (fun c_36 => ?_)
                  · replace hf := it_t hf c_36
                    refine lv_iload_n hx hb dM_link_101 rfl (lv_at hl 2 rfl) ?_
                    refine lv_if_ne (tgt := 182) hx hb dM_link_102 (by decide) (fun c_37 => ?_) (fun c_37 => ?_)
                    · replace hf := it_f hf c_37
                      refine lv_aload_n hx hb dM_link_182 rfl (lv_at hl 0 rfl) ?_
                      refine aM_get_from hx hb hts hown hK hP dM_link_183 ?_
                      refine lv_aload_n hx hb dM_link_186 rfl (lv_at hl 0 rfl) ?_
                      refine aM_get_links (σ := q_35.2) (v := (m_links q_35.2)) rfl hx hb hts hown hK hP dM_link_187 ?_
                      refine lv_iload_n hx hb dM_link_190 rfl (lv_at hl 1 rfl) ?_
                      obtain ⟨g_38, hf⟩ := gd_f hf
                      refine aM_st_from (σ := q_35.2) (f := (m_from q_35.2)) (x := p1) (τ := (m_pfrom q_35.2 (upd (m_from q_35.2) (m_links q_35.2).toNatClampNeg p1))) rfl rfl hx hb hK hP hD hS g_38 dM_link_191 (fun H locs hP hD hS => ?_)
                      refine lv_aload_n hx hb dM_link_192 rfl (lv_at hl 0 rfl) ?_
                      refine aM_get_field hx hb hts hown hK hP dM_link_193 ?_
                      refine lv_aload_n hx hb dM_link_196 rfl (lv_at hl 0 rfl) ?_
                      refine aM_get_links (σ := (m_pfrom q_35.2 (upd (m_from q_35.2) (m_links q_35.2).toNatClampNeg p1))) (v := (m_links q_35.2)) rfl hx hb hts hown hK hP dM_link_197 ?_
                      refine lv_iload_n hx hb dM_link_200 rfl (lv_at hl 2 rfl) ?_
                      obtain ⟨g_39, hf⟩ := gd_f hf
                      refine aM_st_field (σ := (m_pfrom q_35.2 (upd (m_from q_35.2) (m_links q_35.2).toNatClampNeg p1))) (f := (m_field q_35.2)) (x := p2) (τ := (m_pfield (m_pfrom q_35.2 (upd (m_from q_35.2) (m_links q_35.2).toNatClampNeg p1)) (upd (m_field q_35.2) (m_links q_35.2).toNatClampNeg p2))) rfl rfl hx hb hK hP hD hS g_39 dM_link_201 (fun H locs hP hD hS => ?_)
                      refine lv_aload_n hx hb dM_link_202 rfl (lv_at hl 0 rfl) ?_
                      refine aM_get_to hx hb hts hown hK hP dM_link_203 ?_
                      refine lv_aload_n hx hb dM_link_206 rfl (lv_at hl 0 rfl) ?_
                      refine aM_get_links (σ := (m_pfield (m_pfrom q_35.2 (upd (m_from q_35.2) (m_links q_35.2).toNatClampNeg p1)) (upd (m_field q_35.2) (m_links q_35.2).toNatClampNeg p2))) (v := (m_links q_35.2)) rfl hx hb hts hown hK hP dM_link_207 ?_
                      refine lv_iload_n hx hb dM_link_210 rfl (lv_at hl 3 rfl) ?_
                      obtain ⟨g_40, hf⟩ := gd_f hf
                      refine aM_st_to (σ := (m_pfield (m_pfrom q_35.2 (upd (m_from q_35.2) (m_links q_35.2).toNatClampNeg p1)) (upd (m_field q_35.2) (m_links q_35.2).toNatClampNeg p2))) (f := (m_to q_35.2)) (x := p3) (τ := (m_pto (m_pfield (m_pfrom q_35.2 (upd (m_from q_35.2) (m_links q_35.2).toNatClampNeg p1)) (upd (m_field q_35.2) (m_links q_35.2).toNatClampNeg p2)) (upd (m_to q_35.2) (m_links q_35.2).toNatClampNeg p3))) rfl rfl hx hb hK hP hD hS g_40 dM_link_211 (fun H locs hP hD hS => ?_)
                      refine lv_aload_n hx hb dM_link_212 rfl (lv_at hl 0 rfl) ?_
                      refine lv_dup hx hb dM_link_213 rfl ?_
                      refine aM_get_links (σ := (m_pto (m_pfield (m_pfrom q_35.2 (upd (m_from q_35.2) (m_links q_35.2).toNatClampNeg p1)) (upd (m_field q_35.2) (m_links q_35.2).toNatClampNeg p2)) (upd (m_to q_35.2) (m_links q_35.2).toNatClampNeg p3))) (v := (m_links q_35.2)) rfl hx hb hts hown hK hP dM_link_214 ?_
                      refine lv_iconst (v := (1 : Int32)) hx hb dM_link_217 (by decide) ?_
                      refine lv_iadd hx hb dM_link_218 ?_
                      refine aM_put_links (σ := (m_pto (m_pfield (m_pfrom q_35.2 (upd (m_from q_35.2) (m_links q_35.2).toNatClampNeg p1)) (upd (m_field q_35.2) (m_links q_35.2).toNatClampNeg p2)) (upd (m_to q_35.2) (m_links q_35.2).toNatClampNeg p3))) (v := ((m_links q_35.2) + (1 : Int32))) (τ := (m_pto (m_pfield (m_pfrom (m_plinks q_35.2 ((m_links q_35.2) + (1 : Int32))) (upd (m_from q_35.2) (m_links q_35.2).toNatClampNeg p1)) (upd (m_field q_35.2) (m_links q_35.2).toNatClampNeg p2)) (upd (m_to q_35.2) (m_links q_35.2).toNatClampNeg p3))) rfl hx hb hts hown hK hP hD hS dM_link_219 (fun H locs hP hD hS => ?_)
                      refine lv_aload_n hx hb dM_link_222 rfl (lv_at hl 0 rfl) ?_
                      refine lv_iload_n hx hb dM_link_223 rfl (lv_at hl 1 rfl) ?_
                      obtain ⟨q_41, hq_41, hf⟩ := bd_s hf
                      refine xw_callVv (kM_changed l dC dI a cI cZ tb K p1 (m_pto (m_pfield (m_pfrom (m_plinks q_35.2 ((m_links q_35.2) + (1 : Int32))) (upd (m_from q_35.2) (m_links q_35.2).toNatClampNeg p1)) (upd (m_field q_35.2) (m_links q_35.2).toNatClampNeg p2)) (upd (m_to q_35.2) (m_links q_35.2).toNatClampNeg p3)) q_41.2 q_41.1 hq_41) ⟨hx, hb, hml, hown, hts⟩ (cwV 1 hts (gw_V mt_289 mt_291 mt_20 mt_26 mt_292) rfl rfl rfl hdM_changed ⟨Nat.le_of_ble_eq_true rfl, Nat.le_of_ble_eq_true rfl⟩) hK hP hD hS hA hZ (q0 := 0) (ci := 1) rfl rfl rfl hl.1 rfl (Nat.le_of_ble_eq_true rfl) dM_link_224 ⟨Nat.zero_le _, Nat.zero_le _⟩ (fun H locs hP hD hS => ?_)
                      refine lv_iconst (v := (1 : Int32)) hx hb dM_link_227 (by decide) ?_
                      exact xw_iret (wf := (w_M a cI cZ)) hx hb hr hlocks rfl hK hP hD hS hf dM_link_228
                    · replace hf := it_t hf c_37
                      refine lv_aload_n hx hb dM_link_105 rfl (lv_at hl 0 rfl) ?_
                      refine lv_iload_n hx hb dM_link_106 rfl (lv_at hl 3 rfl) ?_
                      refine lv_iload_n hx hb dM_link_107 rfl (lv_at hl 1 rfl) ?_
                      obtain ⟨q_42, hq_42, hf⟩ := bd_s hf
                      refine xw_callV (kM_liesIn l dC dI a cI cZ tb K p3 p1 q_35.2 q_42.2 q_42.1 hq_42) ⟨hx, hb, hml, hown, hts⟩ (cwV 2 hts (gw_V mt_281 mt_283 mt_18 mt_26 mt_284) rfl rfl rfl hdM_liesIn ⟨Nat.le_of_ble_eq_true rfl, Nat.le_of_ble_eq_true rfl⟩) hK hP hD hS hA hZ (q0 := 0) (ci := 1) rfl rfl rfl hl.1 rfl (Nat.le_of_ble_eq_true rfl) dM_link_108 ⟨Nat.zero_le _, Nat.zero_le _⟩ (fun H locs hP hD hS => ?_)
                      refine lv_if_eq (tgt := 182) hx hb dM_link_111 (by decide) (fun c_43 => ?_) (fun c_43 => ?_)
                      · replace hf := it_t hf c_43
                        refine lv_aload_n hx hb dM_link_182 rfl (lv_at hl 0 rfl) ?_
                        refine aM_get_from hx hb hts hown hK hP dM_link_183 ?_
                        refine lv_aload_n hx hb dM_link_186 rfl (lv_at hl 0 rfl) ?_
                        refine aM_get_links (σ := q_42.2) (v := (m_links q_42.2)) rfl hx hb hts hown hK hP dM_link_187 ?_
                        refine lv_iload_n hx hb dM_link_190 rfl (lv_at hl 1 rfl) ?_
                        obtain ⟨g_44, hf⟩ := gd_f hf
                        refine aM_st_from (σ := q_42.2) (f := (m_from q_42.2)) (x := p1) (τ := (m_pfrom q_42.2 (upd (m_from q_42.2) (m_links q_42.2).toNatClampNeg p1))) rfl rfl hx hb hK hP hD hS g_44 dM_link_191 (fun H locs hP hD hS => ?_)
                        refine lv_aload_n hx hb dM_link_192 rfl (lv_at hl 0 rfl) ?_
                        refine aM_get_field hx hb hts hown hK hP dM_link_193 ?_
                        refine lv_aload_n hx hb dM_link_196 rfl (lv_at hl 0 rfl) ?_
                        refine aM_get_links (σ := (m_pfrom q_42.2 (upd (m_from q_42.2) (m_links q_42.2).toNatClampNeg p1))) (v := (m_links q_42.2)) rfl hx hb hts hown hK hP dM_link_197 ?_
                        refine lv_iload_n hx hb dM_link_200 rfl (lv_at hl 2 rfl) ?_
                        obtain ⟨g_45, hf⟩ := gd_f hf
                        refine aM_st_field (σ := (m_pfrom q_42.2 (upd (m_from q_42.2) (m_links q_42.2).toNatClampNeg p1))) (f := (m_field q_42.2)) (x := p2) (τ := (m_pfield (m_pfrom q_42.2 (upd (m_from q_42.2) (m_links q_42.2).toNatClampNeg p1)) (upd (m_field q_42.2) (m_links q_42.2).toNatClampNeg p2))) rfl rfl hx hb hK hP hD hS g_45 dM_link_201 (fun H locs hP hD hS => ?_)
                        refine lv_aload_n hx hb dM_link_202 rfl (lv_at hl 0 rfl) ?_
                        refine aM_get_to hx hb hts hown hK hP dM_link_203 ?_
                        refine lv_aload_n hx hb dM_link_206 rfl (lv_at hl 0 rfl) ?_
                        refine aM_get_links (σ := (m_pfield (m_pfrom q_42.2 (upd (m_from q_42.2) (m_links q_42.2).toNatClampNeg p1)) (upd (m_field q_42.2) (m_links q_42.2).toNatClampNeg p2))) (v := (m_links q_42.2)) rfl hx hb hts hown hK hP dM_link_207 ?_
                        refine lv_iload_n hx hb dM_link_210 rfl (lv_at hl 3 rfl) ?_
                        obtain ⟨g_46, hf⟩ := gd_f hf
                        refine aM_st_to (σ := (m_pfield (m_pfrom q_42.2 (upd (m_from q_42.2) (m_links q_42.2).toNatClampNeg p1)) (upd (m_field q_42.2) (m_links q_42.2).toNatClampNeg p2))) (f := (m_to q_42.2)) (x := p3) (τ := (m_pto (m_pfield (m_pfrom q_42.2 (upd (m_from q_42.2) (m_links q_42.2).toNatClampNeg p1)) (upd (m_field q_42.2) (m_links q_42.2).toNatClampNeg p2)) (upd (m_to q_42.2) (m_links q_42.2).toNatClampNeg p3))) rfl rfl hx hb hK hP hD hS g_46 dM_link_211 (fun H locs hP hD hS => ?_)
                        refine lv_aload_n hx hb dM_link_212 rfl (lv_at hl 0 rfl) ?_
                        refine lv_dup hx hb dM_link_213 rfl ?_
                        refine aM_get_links (σ := (m_pto (m_pfield (m_pfrom q_42.2 (upd (m_from q_42.2) (m_links q_42.2).toNatClampNeg p1)) (upd (m_field q_42.2) (m_links q_42.2).toNatClampNeg p2)) (upd (m_to q_42.2) (m_links q_42.2).toNatClampNeg p3))) (v := (m_links q_42.2)) rfl hx hb hts hown hK hP dM_link_214 ?_
                        refine lv_iconst (v := (1 : Int32)) hx hb dM_link_217 (by decide) ?_
                        refine lv_iadd hx hb dM_link_218 ?_
                        refine aM_put_links (σ := (m_pto (m_pfield (m_pfrom q_42.2 (upd (m_from q_42.2) (m_links q_42.2).toNatClampNeg p1)) (upd (m_field q_42.2) (m_links q_42.2).toNatClampNeg p2)) (upd (m_to q_42.2) (m_links q_42.2).toNatClampNeg p3))) (v := ((m_links q_42.2) + (1 : Int32))) (τ := (m_pto (m_pfield (m_pfrom (m_plinks q_42.2 ((m_links q_42.2) + (1 : Int32))) (upd (m_from q_42.2) (m_links q_42.2).toNatClampNeg p1)) (upd (m_field q_42.2) (m_links q_42.2).toNatClampNeg p2)) (upd (m_to q_42.2) (m_links q_42.2).toNatClampNeg p3))) rfl hx hb hts hown hK hP hD hS dM_link_219 (fun H locs hP hD hS => ?_)
                        refine lv_aload_n hx hb dM_link_222 rfl (lv_at hl 0 rfl) ?_
                        refine lv_iload_n hx hb dM_link_223 rfl (lv_at hl 1 rfl) ?_
                        obtain ⟨q_47, hq_47, hf⟩ := bd_s hf
                        refine xw_callVv (kM_changed l dC dI a cI cZ tb K p1 (m_pto (m_pfield (m_pfrom (m_plinks q_42.2 ((m_links q_42.2) + (1 : Int32))) (upd (m_from q_42.2) (m_links q_42.2).toNatClampNeg p1)) (upd (m_field q_42.2) (m_links q_42.2).toNatClampNeg p2)) (upd (m_to q_42.2) (m_links q_42.2).toNatClampNeg p3)) q_47.2 q_47.1 hq_47) ⟨hx, hb, hml, hown, hts⟩ (cwV 1 hts (gw_V mt_289 mt_291 mt_20 mt_26 mt_292) rfl rfl rfl hdM_changed ⟨Nat.le_of_ble_eq_true rfl, Nat.le_of_ble_eq_true rfl⟩) hK hP hD hS hA hZ (q0 := 0) (ci := 1) rfl rfl rfl hl.1 rfl (Nat.le_of_ble_eq_true rfl) dM_link_224 ⟨Nat.zero_le _, Nat.zero_le _⟩ (fun H locs hP hD hS => ?_)
                        refine lv_iconst (v := (1 : Int32)) hx hb dM_link_227 (by decide) ?_
                        exact xw_iret (wf := (w_M a cI cZ)) hx hb hr hlocks rfl hK hP hD hS hf dM_link_228
                      · replace hf := it_f hf c_43
                        refine lv_aload_n hx hb dM_link_114 rfl (lv_at hl 0 rfl) ?_
                        refine lv_iconst (v := (0 : Int32)) hx hb dM_link_115 (by decide) ?_
                        refine aM_put_ringLength (σ := q_42.2) (v := (0 : Int32)) (τ := (m_pringLength q_42.2 (0 : Int32))) rfl hx hb hts hown hK hP hD hS dM_link_116 (fun H locs hP hD hS => ?_)
                        refine lv_iload_n hx hb dM_link_119 rfl (lv_at hl 3 rfl) ?_
                        refine lv_istore (lv' := [(4, .int p3), (0, .ref (a 0)), (1, .int p1), (2, .int p2), (3, .int p3)]) hx hb dM_link_120 hl (by decide) rfl (fun ls hl => ?_)
                        exact L_122 K p1 p2 p3 p3 (m_pringLength q_42.2 (0 : Int32)) hf _ _ hP hD hS _ (lv_sub hl [1, 2, 3, 4, 0] rfl)
                  · replace hf := it_f hf c_36
                    refine lv_iconst (v := (0 : Int32)) hx hb dM_link_99 (by decide) ?_
                    exact xw_iret (wf := (w_M a cI cZ)) hx hb hr hlocks rfl hK hP hD hS hf dM_link_100
              · replace hf := it_t hf c_31
                refine lv_goto (tgt := 73) hx hb dM_link_63 (by decide) ?_
                refine lv_iconst (v := (0 : Int32)) hx hb dM_link_73 (by decide) ?_
                exact xw_iret (wf := (w_M a cI cZ)) hx hb hr hlocks rfl hK hP hD hS hf dM_link_74
        · replace hf := it_t hf c_5
          refine lv_iconst (v := (0 : Int32)) hx hb dM_link_43 (by decide) ?_
          exact xw_iret (wf := (w_M a cI cZ)) hx hb hr hlocks rfl hK hP hD hS hf dM_link_44
