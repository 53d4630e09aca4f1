def fX_record (K : Nat) (σ : XSt) : Option (Int32 × XSt) := (if (x_records σ) < (60 : Int32) then (if ((x_records σ) + (1 : Int32)) < 0 ∨ 61 ≤ ((x_records σ) + (1 : Int32)).toNatClampNeg then none else some (((x_records σ) + (1 : Int32)), (x_precords (x_plive σ (upd (x_live σ) ((x_records σ) + (1 : Int32)).toNatClampNeg (vp_nar .boolean (1 : Int32)))) ((x_records σ) + (1 : Int32))))) else some ((0 : Int32), σ))
set_option maxHeartbeats 4000000 in
set_option maxRecDepth 100000 in
theorem kX_record (l : Launch) (dC : Nat → ClassId) (dI : Nat → Nat → Nat) (a : Nat → Nat) (cI cZ : ClassId) (tb : Nat) (K : Nat) (σ σ' : XSt) (r : Int32) (hf : fX_record K  σ = some (r, σ')) : xw_Ct l yX_record wdX_record ({ frames := 0, cells := 0, slots := 0, locals := 0 } : Room) (dC, dI) vwCl [(cI, .int), (cZ, .boolean)] (zz tb) ((w_X a cI cZ) σ) ((w_X a cI cZ) σ') [.ref (a 0)] r := by
  refine xw_ofW (cc := cX_record) (maxL := 1) (ret := (some .int)) (lv := [(0, .ref (a 0))]) (by decide) rfl (Nat.le_of_ble_eq_true rfl) rfl ?_
  intro p e s m below meth c A hAt hP hD hS ls hl
  obtain ⟨hx, hb, hr, hml, hown, hts, hlocks, hK, hZ, hA⟩ := hAt
  replace hts : ∀ w ∈ lw_g, w.before _ s = true := fun w h => hts w (List.mem_cons_of_mem _ h)
  unfold fX_record at hf
  refine lv_aload_n hx hb dX_record_0 rfl (lv_at hl 0 rfl) ?_
  refine aX_get_records (σ := σ) (v := (x_records σ)) rfl hx hb hts hown hK hP dX_record_1 ?_
  refine lv_bipush (v := (60 : Int32)) hx hb dX_record_4 (by decide) ?_
  refine lv_icmp_lt (tgt := 11) hx hb dX_record_6 (by decide) (fun c_1 => ?_) (fun c_1 => ?_)
  · replace hf := it_t hf c_1
    refine lv_aload_n hx hb dX_record_11 rfl (lv_at hl 0 rfl) ?_
    refine lv_dup hx hb dX_record_12 rfl ?_
    refine aX_get_records (σ := σ) (v := (x_records σ)) rfl hx hb hts hown hK hP dX_record_13 ?_
    refine lv_iconst (v := (1 : Int32)) hx hb dX_record_16 (by decide) ?_
    refine lv_iadd hx hb dX_record_17 ?_
    refine aX_put_records (σ := σ) (v := ((x_records σ) + (1 : Int32))) (τ := (x_precords σ ((x_records σ) + (1 : Int32)))) rfl hx hb hts hown hK hP hD hS dX_record_18 (fun H locs hP hD hS => ?_)
    refine lv_aload_n hx hb dX_record_21 rfl (lv_at hl 0 rfl) ?_
    refine aX_get_live hx hb hts hown hK hP dX_record_22 ?_
    refine lv_aload_n hx hb dX_record_25 rfl (lv_at hl 0 rfl) ?_
    refine aX_get_records (σ := (x_precords σ ((x_records σ) + (1 : Int32)))) (v := ((x_records σ) + (1 : Int32))) rfl hx hb hts hown hK hP dX_record_26 ?_
    refine lv_iconst (v := (1 : Int32)) hx hb dX_record_29 (by decide) ?_
    obtain ⟨g_2, hf⟩ := gd_f hf
    refine aX_st_live (σ := (x_precords σ ((x_records σ) + (1 : Int32)))) (f := (x_live σ)) (x := (1 : Int32)) (τ := (x_precords (x_plive σ (upd (x_live σ) ((x_records σ) + (1 : Int32)).toNatClampNeg (vp_nar .boolean (1 : Int32)))) ((x_records σ) + (1 : Int32)))) rfl rfl hx hb hK hP hD hS g_2 dX_record_30 (fun H locs hP hD hS => ?_)
    refine lv_aload_n hx hb dX_record_31 rfl (lv_at hl 0 rfl) ?_
    refine aX_get_records (σ := (x_precords (x_plive σ (upd (x_live σ) ((x_records σ) + (1 : Int32)).toNatClampNeg (vp_nar .boolean (1 : Int32)))) ((x_records σ) + (1 : Int32)))) (v := ((x_records σ) + (1 : Int32))) rfl hx hb hts hown hK hP dX_record_32 ?_
    exact xw_iret (wf := (w_X a cI cZ)) hx hb hr hlocks rfl hK hP hD hS hf dX_record_35
  · replace hf := it_f hf c_1
    refine lv_iconst (v := (0 : Int32)) hx hb dX_record_9 (by decide) ?_
    exact xw_iret (wf := (w_X a cI cZ)) hx hb hr hlocks rfl hK hP hD hS hf dX_record_10
def fX_isRecord (K : Nat) (p1 : Int32) (σ : XSt) : Option (Int32 × XSt) := (if p1 < (1 : Int32) then some ((0 : Int32), σ) else (if (x_records σ) < p1 then some ((0 : Int32), σ) else some ((1 : Int32), σ)))
set_option maxHeartbeats 4000000 in
set_option maxRecDepth 100000 in
theorem kX_isRecord (l : Launch) (dC : Nat → ClassId) (dI : Nat → Nat → Nat) (a : Nat → Nat) (cI cZ : ClassId) (tb : Nat) (K : Nat) (p1 : Int32) (σ σ' : XSt) (r : Int32) (hf : fX_isRecord K p1 σ = some (r, σ')) : xw_Ct l yX_isRecord wdX_isRecord ({ frames := 0, cells := 0, slots := 0, locals := 0 } : Room) (dC, dI) vwCl [(cI, .int), (cZ, .boolean)] (zz tb) ((w_X a cI cZ) σ) ((w_X a cI cZ) σ') [.ref (a 0), .int p1] r := by
  refine xw_ofW (cc := cX_isRecord) (maxL := 2) (ret := (some .boolean)) (lv := [(0, .ref (a 0)), (1, .int p1)]) (by decide) rfl (Nat.le_of_ble_eq_true rfl) rfl ?_
  intro p e s m below meth c A hAt hP hD hS ls hl
  obtain ⟨hx, hb, hr, hml, hown, hts, hlocks, hK, hZ, hA⟩ := hAt
  replace hts : ∀ w ∈ lw_g, w.before _ s = true := fun w h => hts w (List.mem_cons_of_mem _ h)
  unfold fX_isRecord at hf
  refine lv_iload_n hx hb dX_isRecord_0 rfl (lv_at hl 1 rfl) ?_
  refine lv_iconst (v := (1 : Int32)) hx hb dX_isRecord_1 (by decide) ?_
  refine lv_icmp_lt (tgt := 17) hx hb dX_isRecord_2 (by decide) (fun c_1 => ?_) (fun c_1 => ?_)
  · replace hf := it_t hf c_1
    refine lv_iconst (v := (0 : Int32)) hx hb dX_isRecord_17 (by decide) ?_
    exact xw_iret (wf := (w_X a cI cZ)) hx hb hr hlocks rfl hK hP hD hS hf dX_isRecord_18
  · replace hf := it_f hf c_1
    refine lv_iload_n hx hb dX_isRecord_5 rfl (lv_at hl 1 rfl) ?_
    refine lv_aload_n hx hb dX_isRecord_6 rfl (lv_at hl 0 rfl) ?_
    refine aX_get_records (σ := σ) (v := (x_records σ)) rfl hx hb hts hown hK hP dX_isRecord_7 ?_
    refine lv_icmp_gt (tgt := 17) hx hb dX_isRecord_10 (by decide) (fun c_2 => ?_) (fun c_2 => ?_)
    · replace hf := it_t hf c_2
      refine lv_iconst (v := (0 : Int32)) hx hb dX_isRecord_17 (by decide) ?_
      exact xw_iret (wf := (w_X a cI cZ)) hx hb hr hlocks rfl hK hP hD hS hf dX_isRecord_18
    · replace hf := it_f hf c_2
      refine lv_iconst (v := (1 : Int32)) hx hb dX_isRecord_13 (by decide) ?_
      refine lv_goto (tgt := 18) hx hb dX_isRecord_14 (by decide) ?_
      exact xw_iret (wf := (w_X a cI cZ)) hx hb hr hlocks rfl hK hP hD hS hf dX_isRecord_18
def fX_isLive (K : Nat) (p1 : Int32) (σ : XSt) : Option (Int32 × XSt) := ((fX_isRecord K p1 σ).bind fun q_1 => (if q_1.1 = 0 then some ((0 : Int32), q_1.2) else (if p1 < 0 ∨ 61 ≤ p1.toNatClampNeg then none else (if ((x_live q_1.2) p1.toNatClampNeg) = 0 then some ((0 : Int32), q_1.2) else some ((1 : Int32), q_1.2)))))
set_option maxHeartbeats 4000000 in
set_option maxRecDepth 100000 in
theorem kX_isLive (l : Launch) (dC : Nat → ClassId) (dI : Nat → Nat → Nat) (a : Nat → Nat) (cI cZ : ClassId) (tb : Nat) (K : Nat) (p1 : Int32) (σ σ' : XSt) (r : Int32) (hf : fX_isLive K p1 σ = some (r, σ')) : xw_Ct l yX_isLive wdX_isLive ({ frames := 1, cells := 0, slots := 0, locals := 21 } : Room) (dC, dI) vwCl [(cI, .int), (cZ, .boolean)] (zz tb) ((w_X a cI cZ) σ) ((w_X a cI cZ) σ') [.ref (a 0), .int p1] r := by
  refine xw_ofW (cc := cX_isLive) (maxL := 2) (ret := (some .boolean)) (lv := [(0, .ref (a 0)), (1, .int p1)]) (by decide) rfl (Nat.le_of_ble_eq_true rfl) rfl ?_
  intro p e s m below meth c A hAt hP hD hS ls hl
  obtain ⟨hx, hb, hr, hml, hown, hts, hlocks, hK, hZ, hA⟩ := hAt
  replace hts : ∀ w ∈ lw_g, w.before _ s = true := fun w h => hts w (List.mem_cons_of_mem _ h)
  unfold fX_isLive at hf
  refine lv_aload_n hx hb dX_isLive_0 rfl (lv_at hl 0 rfl) ?_
  refine lv_iload_n hx hb dX_isLive_1 rfl (lv_at hl 1 rfl) ?_
  obtain ⟨q_1, hq_1, hf⟩ := bd_s hf
  refine xw_callV (kX_isRecord l dC dI a cI cZ tb K p1 σ q_1.2 q_1.1 hq_1) ⟨hx, hb, hml, hown, hts⟩ (cwV 1 hts (gw_V mt_95 mt_97 mt_2 mt_25 mt_98) rfl rfl rfl hdX_isRecord ⟨Nat.le_of_ble_eq_true rfl, Nat.le_of_ble_eq_true rfl⟩) hK hP hD hS hA hZ (q0 := 0) (ci := 0) rfl rfl rfl hl.1 rfl (Nat.le_of_ble_eq_true rfl) dX_isLive_2 ⟨Nat.zero_le _, Nat.zero_le _⟩ (fun H locs hP hD hS => ?_)
  refine lv_if_eq (tgt := 21) hx hb dX_isLive_5 (by decide) (fun c_2 => ?_) (fun c_2 => ?_)
  · replace hf := it_t hf c_2
    refine lv_iconst (v := (0 : Int32)) hx hb dX_isLive_21 (by decide) ?_
    exact xw_iret (wf := (w_X a cI cZ)) hx hb hr hlocks rfl hK hP hD hS hf dX_isLive_22
  · replace hf := it_f hf c_2
    refine lv_aload_n hx hb dX_isLive_8 rfl (lv_at hl 0 rfl) ?_
    refine aX_get_live hx hb hts hown hK hP dX_isLive_9 ?_
    refine lv_iload_n hx hb dX_isLive_12 rfl (lv_at hl 1 rfl) ?_
    obtain ⟨g_3, hf⟩ := gd_f hf
    refine aX_ld_live (σ := q_1.2) (f := (x_live q_1.2)) rfl hx hb hK hP g_3 dX_isLive_13 ?_
    refine lv_if_eq (tgt := 21) hx hb dX_isLive_14 (by decide) (fun c_4 => ?_) (fun c_4 => ?_)
    · replace hf := it_t hf c_4
      refine lv_iconst (v := (0 : Int32)) hx hb dX_isLive_21 (by decide) ?_
      exact xw_iret (wf := (w_X a cI cZ)) hx hb hr hlocks rfl hK hP hD hS hf dX_isLive_22
    · replace hf := it_f hf c_4
      refine lv_iconst (v := (1 : Int32)) hx hb dX_isLive_17 (by decide) ?_
      refine lv_goto (tgt := 22) hx hb dX_isLive_18 (by decide) ?_
      exact xw_iret (wf := (w_X a cI cZ)) hx hb hr hlocks rfl hK hP hD hS hf dX_isLive_22
def fX_isHeading (K : Nat) (p1 : Int32) (σ : XSt) : Option (Int32 × XSt) := (if p1 < (1 : Int32) then some ((0 : Int32), σ) else (if (99 : Int32) < p1 then some ((0 : Int32), σ) else some ((1 : Int32), σ)))
set_option maxHeartbeats 4000000 in
set_option maxRecDepth 100000 in
theorem kX_isHeading (l : Launch) (dC : Nat → ClassId) (dI : Nat → Nat → Nat) (a : Nat → Nat) (cI cZ : ClassId) (tb : Nat) (K : Nat) (p1 : Int32) (σ σ' : XSt) (r : Int32) (hf : fX_isHeading K p1 σ = some (r, σ')) : xw_Ct l yX_isHeading wdX_isHeading ({ frames := 0, cells := 0, slots := 0, locals := 0 } : Room) (dC, dI) vwCl [(cI, .int), (cZ, .boolean)] (zz tb) ((w_X a cI cZ) σ) ((w_X a cI cZ) σ') [.int p1] r := by
  refine xw_ofW (cc := cX_isHeading) (maxL := 1) (ret := (some .boolean)) (lv := [(0, .int p1)]) (by decide) rfl (Nat.le_of_ble_eq_true rfl) rfl ?_
  intro p e s m below meth c A hAt hP hD hS ls hl
  obtain ⟨hx, hb, hr, hml, hown, hts, hlocks, hK, hZ, hA⟩ := hAt
  replace hts : ∀ w ∈ lw_g, w.before _ s = true := fun w h => hts w (List.mem_cons_of_mem _ h)
  unfold fX_isHeading at hf
  refine lv_iload_n hx hb dX_isHeading_0 rfl (lv_at hl 0 rfl) ?_
  refine lv_iconst (v := (1 : Int32)) hx hb dX_isHeading_1 (by decide) ?_
  refine lv_icmp_lt (tgt := 15) hx hb dX_isHeading_2 (by decide) (fun c_1 => ?_) (fun c_1 => ?_)
  · replace hf := it_t hf c_1
    refine lv_iconst (v := (0 : Int32)) hx hb dX_isHeading_15 (by decide) ?_
    exact xw_iret (wf := (w_X a cI cZ)) hx hb hr hlocks rfl hK hP hD hS hf dX_isHeading_16
  · replace hf := it_f hf c_1
    refine lv_iload_n hx hb dX_isHeading_5 rfl (lv_at hl 0 rfl) ?_
    refine lv_bipush (v := (99 : Int32)) hx hb dX_isHeading_6 (by decide) ?_
    refine lv_icmp_gt (tgt := 15) hx hb dX_isHeading_8 (by decide) (fun c_2 => ?_) (fun c_2 => ?_)
    · replace hf := it_t hf c_2
      refine lv_iconst (v := (0 : Int32)) hx hb dX_isHeading_15 (by decide) ?_
      exact xw_iret (wf := (w_X a cI cZ)) hx hb hr hlocks rfl hK hP hD hS hf dX_isHeading_16
    · replace hf := it_f hf c_2
      refine lv_iconst (v := (1 : Int32)) hx hb dX_isHeading_11 (by decide) ?_
      refine lv_goto (tgt := 16) hx hb dX_isHeading_12 (by decide) ?_
      exact xw_iret (wf := (w_X a cI cZ)) hx hb hr hlocks rfl hK hP hD hS hf dX_isHeading_16
def fX_mayGoTo (K : Nat) (p1 p2 p3 : Int32) (σ : XSt) : Option (Int32 × XSt) := (if p2 < (4 : Int32) then ((fX_isLive K p3 σ).bind fun q_2 => (if q_2.1 = 0 then some ((0 : Int32), q_2.2) else (if p3 = p1 then some ((0 : Int32), q_2.2) else some ((1 : Int32), q_2.2)))) else ((fX_isHeading K p3 σ).bind fun q_5 => (if ¬ (q_5.1 = 0 ∨ q_5.1 = 1) then none else some (q_5.1, q_5.2))))
set_option maxHeartbeats 4000000 in
set_option maxRecDepth 100000 in
theorem kX_mayGoTo (l : Launch) (dC : Nat → ClassId) (dI : Nat → Nat → Nat) (a : Nat → Nat) (cI cZ : ClassId) (tb : Nat) (K : Nat) (p1 p2 p3 : Int32) (σ σ' : XSt) (r : Int32) (hf : fX_mayGoTo K p1 p2 p3 σ = some (r, σ')) : xw_Ct l yX_mayGoTo wdX_mayGoTo ({ frames := 2, cells := 0, slots := 0, locals := 42 } : Room) (dC, dI) vwCl [(cI, .int), (cZ, .boolean)] (zz tb) ((w_X a cI cZ) σ) ((w_X a cI cZ) σ') [.ref (a 0), .int p1, .int p2, .int p3] r := by
  refine xw_ofW (cc := cX_mayGoTo) (maxL := 4) (ret := (some .boolean)) (lv := [(0, .ref (a 0)), (1, .int p1), (2, .int p2), (3, .int p3)]) (by decide) rfl (Nat.le_of_ble_eq_true rfl) rfl ?_
  intro p e s m below meth c A hAt hP hD hS ls hl
  obtain ⟨hx, hb, hr, hml, hown, hts, hlocks, hK, hZ, hA⟩ := hAt
  replace hts : ∀ w ∈ lw_g, w.before _ s = true := fun w h => hts w (List.mem_cons_of_mem _ h)
  unfold fX_mayGoTo at hf
  refine lv_iload_n hx hb dX_mayGoTo_0 rfl (lv_at hl 2 rfl) ?_
  refine lv_iconst (v := (4 : Int32)) hx hb dX_mayGoTo_1 (by decide) ?_
  refine lv_icmp_lt (tgt := 10) hx hb dX_mayGoTo_2 (by decide) (fun c_1 => ?_) (fun c_1 => ?_)
  · replace hf := it_t hf c_1
    refine lv_aload_n hx hb dX_mayGoTo_10 rfl (lv_at hl 0 rfl) ?_
    refine lv_iload_n hx hb dX_mayGoTo_11 rfl (lv_at hl 3 rfl) ?_
    obtain ⟨q_2, hq_2, hf⟩ := bd_s hf
    refine xw_callV (kX_isLive l dC dI a cI cZ tb K p3 σ q_2.2 q_2.1 hq_2) ⟨hx, hb, hml, hown, hts⟩ (cwV 1 hts (gw_V mt_91 mt_93 mt_1 mt_25 mt_94) rfl rfl rfl hdX_isLive ⟨Nat.le_of_ble_eq_true rfl, Nat.le_of_ble_eq_true rfl⟩) hK hP hD hS hA hZ (q0 := 0) (ci := 0) rfl rfl rfl hl.1 rfl (Nat.le_of_ble_eq_true rfl) dX_mayGoTo_12 ⟨Nat.zero_le _, Nat.zero_le _⟩ (fun H locs hP hD hS => ?_)
    refine lv_if_eq (tgt := 27) hx hb dX_mayGoTo_15 (by decide) (fun c_3 => ?_) (fun c_3 => ?_)
    · replace hf := it_t hf c_3
      refine lv_iconst (v := (0 : Int32)) hx hb dX_mayGoTo_27 (by decide) ?_
      exact xw_iret (wf := (w_X a cI cZ)) hx hb hr hlocks rfl hK hP hD hS hf dX_mayGoTo_28
    · replace hf := it_f hf c_3
      refine lv_iload_n hx hb dX_mayGoTo_18 rfl (lv_at hl 3 rfl) ?_
      refine lv_iload_n hx hb dX_mayGoTo_19 rfl (lv_at hl 1 rfl) ?_
      refine lv_icmp_eq (tgt := 27) hx hb dX_mayGoTo_20 (by decide) (fun c_4 => ?_) (fun c_4 => ?_)
      · replace hf := it_t hf c_4
        refine lv_iconst (v := (0 : Int32)) hx hb dX_mayGoTo_27 (by decide) ?_
        exact xw_iret (wf := (w_X a cI cZ)) hx hb hr hlocks rfl hK hP hD hS hf dX_mayGoTo_28
      · replace hf := it_f hf c_4
        refine lv_iconst (v := (1 : Int32)) hx hb dX_mayGoTo_23 (by decide) ?_
        refine lv_goto (tgt := 28) hx hb dX_mayGoTo_24 (by decide) ?_
        exact xw_iret (wf := (w_X a cI cZ)) hx hb hr hlocks rfl hK hP hD hS hf dX_mayGoTo_28
  · replace hf := it_f hf c_1
    refine lv_iload_n hx hb dX_mayGoTo_5 rfl (lv_at hl 3 rfl) ?_
    obtain ⟨q_5, hq_5, hf⟩ := bd_s hf
    refine xw_callS (kX_isHeading l dC dI a cI cZ tb K p3 σ q_5.2 q_5.1 hq_5) ⟨hx, hb, hml, hown, hts⟩ (va_cwS 1 hts (gw_S mt_103 mt_104 mt_25 mt_105) rfl rfl rfl hdX_isHeading ⟨Nat.le_of_ble_eq_true rfl, Nat.le_of_ble_eq_true rfl⟩) hK hP hD hS hA hZ rfl hl.1 rfl (Nat.le_of_ble_eq_true rfl) dX_mayGoTo_6 ⟨Nat.zero_le _, Nat.zero_le _⟩ (fun H locs hP hD hS => ?_)
    obtain ⟨g_6, hf⟩ := gd_f hf
    exact xw_iret (wf := (w_X a cI cZ)) hx hb hr hlocks (nb_01 g_6) hK hP hD hS hf dX_mayGoTo_9
def gX_hasRoomFor_39 (K : Nat) : Nat → Int32 → Int32 → Int32 → Int32 → Int32 → Int32 → Int32 → XSt → Option (Int32 × XSt)
  | 0, _, _, _, _, _, _, _, _ => none
  | n + 1, x1, x2, x3, x4, x5, x6, x7, τ => (if (x_links τ) ≤ x7 then (if x2 < 0 ∨ 10 ≤ x2.toNatClampNeg then none else (if (most_f x2.toNatClampNeg) ≤ x5 then some ((0 : Int32), τ) else (if (200 : Int32) ≤ x6 then some ((0 : Int32), τ) else some ((1 : Int32), τ)))) else (if x7 = x4 then (gX_hasRoomFor_39 K n x1 x2 x3 x4 x5 x6 (x7 + 1) τ) else (if x7 < 0 ∨ 200 ≤ x7.toNatClampNeg then none else (if ((x_linkFrom τ) x7.toNatClampNeg) = x1 then (if x7 < 0 ∨ 200 ≤ x7.toNatClampNeg then none else (if ((x_linkField τ) x7.toNatClampNeg) = x2 then (if x7 < 0 ∨ 200 ≤ x7.toNatClampNeg then none else (if ((x_linkTo τ) x7.toNatClampNeg) = x3 then some ((0 : Int32), τ) else (gX_hasRoomFor_39 K n x1 x2 x3 x4 (x5 + 1) (x6 + 1) (x7 + 1) τ))) else (gX_hasRoomFor_39 K n x1 x2 x3 x4 x5 (x6 + 1) (x7 + 1) τ))) else (gX_hasRoomFor_39 K n x1 x2 x3 x4 x5 (x6 + 1) (x7 + 1) τ)))))
def fX_hasRoomFor (K : Nat) (p1 p2 p3 p4 : Int32) (σ : XSt) : Option (Int32 × XSt) := ((fX_isLive K p1 σ).bind fun q_1 => (if q_1.1 = 0 then some ((0 : Int32), q_1.2) else (if p2 < 0 then some ((0 : Int32), q_1.2) else (if (9 : Int32) < p2 then some ((0 : Int32), q_1.2) else ((fX_mayGoTo K p1 p2 p3 q_1.2).bind fun q_5 => (if q_5.1 = 0 then some ((0 : Int32), q_5.2) else (gX_hasRoomFor_39 K K p1 p2 p3 p4 (0 : Int32) (0 : Int32) (0 : Int32) q_5.2)))))))
set_option maxHeartbeats 4000000 in
set_option maxRecDepth 100000 in
theorem kX_hasRoomFor (l : Launch) (dC : Nat → ClassId) (dI : Nat → Nat → Nat) (a : Nat → Nat) (cI cZ : ClassId) (tb : Nat) (K : Nat) (p1 p2 p3 p4 : Int32) (σ σ' : XSt) (r : Int32) (hf : fX_hasRoomFor K p1 p2 p3 p4 σ = some (r, σ')) : xw_Ct l yX_hasRoomFor wdX_hasRoomFor ({ frames := 3, cells := 0, slots := 0, locals := 65 } : Room) (dC, dI) vwCl [(cI, .int), (cZ, .boolean)] (zz tb) ((w_X a cI cZ) σ) ((w_X a cI cZ) σ') [.ref (a 0), .int p1, .int p2, .int p3, .int p4] r := by
  refine xw_ofW (cc := cX_hasRoomFor) (maxL := 8) (ret := (some .boolean)) (lv := [(0, .ref (a 0)), (1, .int p1), (2, .int p2), (3, .int p3), (4, .int p4)]) (by decide) rfl (Nat.le_of_ble_eq_true rfl) rfl ?_
  intro p e s m below meth c A hAt hP hD hS ls hl
  obtain ⟨hx, hb, hr, hml, hown, hts, hlocks, hK, hZ, hA⟩ := hAt
  replace hts : ∀ w ∈ lw_g, w.before _ s = true := fun w h => hts w (List.mem_cons_of_mem _ h)
  have kz_MOST_OF_FIELD := hts _ mt_106
  have L_39 : ∀ (n : Nat) (x1 x2 x3 x4 x5 x6 x7 : Int32) (τ : XSt), gX_hasRoomFor_39 K n x1 x2 x3 x4 x5 x6 x7 τ = some (r, σ') → ∀ (H : Heap) (locs : List Loc), va_P (dC, dI) vwCl ((w_X a cI cZ) τ) H → va_D A ((w_X a cI cZ) τ) → va_S A s.heap H locs → ∀ (ls : Array Slot), lv_has ls 8 [(0, .ref (a 0)), (1, .int x1), (2, .int x2), (3, .int x3), (4, .int x4), (5, .int x5), (6, .int x6), (7, .int x7)] → W p l e ({ frames := 3, cells := 0, slots := 0, locals := 65 } : Room) s m ([.ref (a 0), .int p1, .int p2, .int p3, .int p4] : List Value).toArray below meth c H locs 0 0 (MQ below (va_Qi (fun (r2 : Int32) (_ : Unit) => r2 = r) (fun _ t => xw_B (dC, dI) vwCl [(cI, .int), (cZ, .boolean)] A ((w_X a cI cZ) σ') t) A) ([.ref (a 0), .int p1, .int p2, .int p3, .int p4] : List Value).toArray s 0 0 A) (F0 m 39 ls []) := by
    intro n
    induction n with
    | zero =>
      intro x1 x2 x3 x4 x5 x6 x7 τ hf
      rw [gX_hasRoomFor_39] at hf
      cases hf
    | succ n ih =>
      intro x1 x2 x3 x4 x5 x6 x7 τ hf H locs hP hD hS ls hl
      rw [gX_hasRoomFor_39] at hf
      refine lv_iload hx hb dX_hasRoomFor_39 (lv_at hl 7 rfl) ?_
      refine lv_aload_n hx hb dX_hasRoomFor_41 rfl (lv_at hl 0 rfl) ?_
      refine aX_get_links (σ := τ) (v := (x_links τ)) rfl hx hb hts hown hK hP dX_hasRoomFor_42 ?_
      refine lv_icmp_ge (tgt := 105) hx hb dX_hasRoomFor_45 (by decide) (fun c_7 => ?_) (fun c_7 => ?_)
      · replace hf := it_t hf c_7
        refine lv_iload hx hb dX_hasRoomFor_105 (lv_at hl 5 rfl) ?_
        refine va_gets hx hb (hZ 0 _ rfl).1 hS hown kz_MOST_OF_FIELD (fun _ h9 => h9) dX_hasRoomFor_107 ?_
        refine lv_iload_n hx hb dX_hasRoomFor_110 rfl (lv_at hl 2 rfl) ?_
        obtain ⟨g_8, hf⟩ := gd_f hf
        refine va_ti (v := .int (most_f x2.toNatClampNeg)) hx hb (hZ 0 _ rfl).2 hS g_8 rfl dX_hasRoomFor_111 ?_
        refine lv_icmp_ge (tgt := 127) hx hb dX_hasRoomFor_112 (by decide) (fun c_9 => ?_) (fun c_9 => ?_)
        · replace hf := it_t hf c_9
          refine lv_iconst (v := (0 : Int32)) hx hb dX_hasRoomFor_127 (by decide) ?_
          exact xw_iret (wf := (w_X a cI cZ)) hx hb hr hlocks rfl hK hP hD hS hf dX_hasRoomFor_128
        · replace hf := it_f hf c_9
          refine lv_iload hx hb dX_hasRoomFor_115 (lv_at hl 6 rfl) ?_
          refine lv_sipush (v := (200 : Int32)) hx hb dX_hasRoomFor_117 (by decide) ?_
          refine lv_icmp_ge (tgt := 127) hx hb dX_hasRoomFor_120 (by decide) (fun c_10 => ?_) (fun c_10 => ?_)
          · replace hf := it_t hf c_10
            refine lv_iconst (v := (0 : Int32)) hx hb dX_hasRoomFor_127 (by decide) ?_
            exact xw_iret (wf := (w_X a cI cZ)) hx hb hr hlocks rfl hK hP hD hS hf dX_hasRoomFor_128
          · replace hf := it_f hf c_10
            refine lv_iconst (v := (1 : Int32)) hx hb dX_hasRoomFor_123 (by decide) ?_
            refine lv_goto (tgt := 128) hx hb dX_hasRoomFor_124 (by decide) ?_
            exact xw_iret (wf := (w_X a cI cZ)) hx hb hr hlocks rfl hK hP hD hS hf dX_hasRoomFor_128
      · replace hf := it_f hf c_7
        refine lv_iload hx hb dX_hasRoomFor_48 (lv_at hl 7 rfl) ?_
        refine lv_iload hx hb dX_hasRoomFor_50 (lv_at hl 4 rfl) ?_
        refine lv_icmp_ne (tgt := 58) hx hb dX_hasRoomFor_52 (by decide) (fun c_11 => ?_) (fun c_11 => ?_)
        · replace hf := it_f hf c_11
          refine lv_iinc (v := (x6 + 1)) (lv' := [(6, .int (x6 + 1)), (0, .ref (a 0)), (1, .int x1), (2, .int x2), (3, .int x3), (4, .int x4), (5, .int x5), (7, .int x7)]) hx hb dX_hasRoomFor_58 hl (k := 6) rfl (congrArg (HAdd.hAdd _) (by decide : Int32.ofInt (1) = (1 : Int32))) (by decide) rfl (fun ls hl => ?_)
          refine lv_aload_n hx hb dX_hasRoomFor_61 rfl (lv_at hl 1 rfl) ?_
          refine aX_get_linkFrom hx hb hts hown hK hP dX_hasRoomFor_62 ?_
          refine lv_iload hx hb dX_hasRoomFor_65 (lv_at hl 7 rfl) ?_
          obtain ⟨g_12, hf⟩ := gd_f hf
          refine aX_ld_linkFrom (σ := τ) (f := (x_linkFrom τ)) rfl hx hb hK hP g_12 dX_hasRoomFor_67 ?_
          refine lv_iload_n hx hb dX_hasRoomFor_68 rfl (lv_at hl 2 rfl) ?_
          refine lv_icmp_ne (tgt := 99) hx hb dX_hasRoomFor_69 (by decide) (fun c_13 => ?_) (fun c_13 => ?_)
          · replace hf := it_f hf c_13
            refine lv_iinc (v := (x7 + 1)) (lv' := [(7, .int (x7 + 1)), (6, .int (x6 + 1)), (0, .ref (a 0)), (1, .int x1), (2, .int x2), (3, .int x3), (4, .int x4), (5, .int x5)]) hx hb dX_hasRoomFor_99 hl (k := 7) rfl (congrArg (HAdd.hAdd _) (by decide : Int32.ofInt (1) = (1 : Int32))) (by decide) rfl (fun ls hl => ?_)
            refine lv_goto (tgt := 39) hx hb dX_hasRoomFor_102 (by decide) ?_
            exact ih x1 x2 x3 x4 x5 (x6 + 1) (x7 + 1) τ hf _ _ hP hD hS _ (lv_sub hl [2, 3, 4, 5, 6, 7, 1, 0] rfl)
          · replace hf := it_t hf c_13
            refine lv_aload_n hx hb dX_hasRoomFor_72 rfl (lv_at hl 1 rfl) ?_
            refine aX_get_linkField hx hb hts hown hK hP dX_hasRoomFor_73 ?_
            refine lv_iload hx hb dX_hasRoomFor_76 (lv_at hl 7 rfl) ?_
            obtain ⟨g_14, hf⟩ := gd_f hf
            refine aX_ld_linkField (σ := τ) (f := (x_linkField τ)) rfl hx hb hK hP g_14 dX_hasRoomFor_78 ?_
            refine lv_iload_n hx hb dX_hasRoomFor_79 rfl (lv_at hl 3 rfl) ?_
            refine lv_icmp_ne (tgt := 99) hx hb dX_hasRoomFor_80 (by decide) (fun c_15 => ?_) (fun c_15 => ?_)
            · replace hf := it_f hf c_15
              refine lv_iinc (v := (x7 + 1)) (lv' := [(7, .int (x7 + 1)), (6, .int (x6 + 1)), (0, .ref (a 0)), (1, .int x1), (2, .int x2), (3, .int x3), (4, .int x4), (5, .int x5)]) hx hb dX_hasRoomFor_99 hl (k := 7) rfl (congrArg (HAdd.hAdd _) (by decide : Int32.ofInt (1) = (1 : Int32))) (by decide) rfl (fun ls hl => ?_)
              refine lv_goto (tgt := 39) hx hb dX_hasRoomFor_102 (by decide) ?_
              exact ih x1 x2 x3 x4 x5 (x6 + 1) (x7 + 1) τ hf _ _ hP hD hS _ (lv_sub hl [2, 3, 4, 5, 6, 7, 1, 0] rfl)
            · replace hf := it_t hf c_15
              refine lv_iinc (v := (x5 + 1)) (lv' := [(5, .int (x5 + 1)), (6, .int (x6 + 1)), (0, .ref (a 0)), (1, .int x1), (2, .int x2), (3, .int x3), (4, .int x4), (7, .int x7)]) hx hb dX_hasRoomFor_83 hl (k := 6) rfl (congrArg (HAdd.hAdd _) (by decide : Int32.ofInt (1) = (1 : Int32))) (by decide) rfl (fun ls hl => ?_)
              refine lv_aload_n hx hb dX_hasRoomFor_86 rfl (lv_at hl 2 rfl) ?_
              refine aX_get_linkTo hx hb hts hown hK hP dX_hasRoomFor_87 ?_
              refine lv_iload hx hb dX_hasRoomFor_90 (lv_at hl 7 rfl) ?_
              obtain ⟨g_16, hf⟩ := gd_f hf
              refine aX_ld_linkTo (σ := τ) (f := (x_linkTo τ)) rfl hx hb hK hP g_16 dX_hasRoomFor_92 ?_
              refine lv_iload_n hx hb dX_hasRoomFor_93 rfl (lv_at hl 5 rfl) ?_
              refine lv_icmp_ne (tgt := 99) hx hb dX_hasRoomFor_94 (by decide) (fun c_17 => ?_) (fun c_17 => ?_)
              · replace hf := it_f hf c_17
                refine lv_iinc (v := (x7 + 1)) (lv' := [(7, .int (x7 + 1)), (5, .int (x5 + 1)), (6, .int (x6 + 1)), (0, .ref (a 0)), (1, .int x1), (2, .int x2), (3, .int x3), (4, .int x4)]) hx hb dX_hasRoomFor_99 hl (k := 7) rfl (congrArg (HAdd.hAdd _) (by decide : Int32.ofInt (1) = (1 : Int32))) (by decide) rfl (fun ls hl => ?_)
                refine lv_goto (tgt := 39) hx hb dX_hasRoomFor_102 (by decide) ?_
                exact ih x1 x2 x3 x4 (x5 + 1) (x6 + 1) (x7 + 1) τ hf _ _ hP hD hS _ (lv_sub hl [3, 4, 5, 6, 7, 1, 2, 0] rfl)
              · replace hf := it_t hf c_17
                refine lv_iconst (v := (0 : Int32)) hx hb dX_hasRoomFor_97 (by decide) ?_
                exact xw_iret (wf := (w_X a cI cZ)) hx hb hr hlocks rfl hK hP hD hS hf dX_hasRoomFor_98
        · replace hf := it_t hf c_11
          refine lv_goto (tgt := 99) hx hb dX_hasRoomFor_55 (by decide) ?_
          refine lv_iinc (v := (x7 + 1)) (lv' := [(7, .int (x7 + 1)), (0, .ref (a 0)), (1, .int x1), (2, .int x2), (3, .int x3), (4, .int x4), (5, .int x5), (6, .int x6)]) hx hb dX_hasRoomFor_99 hl (k := 7) rfl (congrArg (HAdd.hAdd _) (by decide : Int32.ofInt (1) = (1 : Int32))) (by decide) rfl (fun ls hl => ?_)
          refine lv_goto (tgt := 39) hx hb dX_hasRoomFor_102 (by decide) ?_
          exact ih x1 x2 x3 x4 x5 x6 (x7 + 1) τ hf _ _ hP hD hS _ (lv_sub hl [1, 2, 3, 4, 5, 6, 7, 0] rfl)
  unfold fX_hasRoomFor at hf
  refine lv_aload_n hx hb dX_hasRoomFor_0 rfl (lv_at hl 0 rfl) ?_
  refine lv_iload_n hx hb dX_hasRoomFor_1 rfl (lv_at hl 1 rfl) ?_
  obtain ⟨q_1, hq_1, hf⟩ := bd_s hf
  refine xw_callV (kX_isLive l dC dI a cI cZ tb K p1 σ q_1.2 q_1.1 hq_1) ⟨hx, hb, hml, hown, hts⟩ (cwV 1 hts (gw_V mt_91 mt_93 mt_1 mt_25 mt_94) rfl rfl rfl hdX_isLive ⟨Nat.le_of_ble_eq_true rfl, Nat.le_of_ble_eq_true rfl⟩) hK hP hD hS hA hZ (q0 := 0) (ci := 0) rfl rfl rfl hl.1 rfl (Nat.le_of_ble_eq_true rfl) dX_hasRoomFor_2 ⟨Nat.zero_le _, Nat.zero_le _⟩ (fun H locs hP hD hS => ?_)
  refine lv_if_eq (tgt := 28) hx hb dX_hasRoomFor_5 (by decide) (fun c_2 => ?_) (fun c_2 => ?_)
  · replace hf := it_t hf c_2
    refine lv_iconst (v := (0 : Int32)) hx hb dX_hasRoomFor_28 (by decide) ?_
    exact xw_iret (wf := (w_X a cI cZ)) hx hb hr hlocks rfl hK hP hD hS hf dX_hasRoomFor_29
  · replace hf := it_f hf c_2
    refine lv_iload_n hx hb dX_hasRoomFor_8 rfl (lv_at hl 2 rfl) ?_
    refine lv_if_lt (tgt := 28) hx hb dX_hasRoomFor_9 (by decide) (fun c_3 => ?_) (fun c_3 => ?_)
    · replace hf := it_t hf c_3
      refine lv_iconst (v := (0 : Int32)) hx hb dX_hasRoomFor_28 (by decide) ?_
      exact xw_iret (wf := (w_X a cI cZ)) hx hb hr hlocks rfl hK hP hD hS hf dX_hasRoomFor_29
    · replace hf := it_f hf c_3
      refine lv_iload_n hx hb dX_hasRoomFor_12 rfl (lv_at hl 2 rfl) ?_
      refine lv_bipush (v := (9 : Int32)) hx hb dX_hasRoomFor_13 (by decide) ?_
      refine lv_icmp_gt (tgt := 28) hx hb dX_hasRoomFor_15 (by decide) (fun c_4 => ?_) (fun c_4 => ?_)
      · replace hf := it_t hf c_4
        refine lv_iconst (v := (0 : Int32)) hx hb dX_hasRoomFor_28 (by decide) ?_
        exact xw_iret (wf := (w_X a cI cZ)) hx hb hr hlocks rfl hK hP hD hS hf dX_hasRoomFor_29
      · replace hf := it_f hf c_4
        refine lv_aload_n hx hb dX_hasRoomFor_18 rfl (lv_at hl 0 rfl) ?_
        refine lv_iload_n hx hb dX_hasRoomFor_19 rfl (lv_at hl 1 rfl) ?_
        refine lv_iload_n hx hb dX_hasRoomFor_20 rfl (lv_at hl 2 rfl) ?_
        refine lv_iload_n hx hb dX_hasRoomFor_21 rfl (lv_at hl 3 rfl) ?_
        obtain ⟨q_5, hq_5, hf⟩ := bd_s hf
        refine xw_callV (kX_mayGoTo l dC dI a cI cZ tb K p1 p2 p3 q_1.2 q_5.2 q_5.1 hq_5) ⟨hx, hb, hml, hown, hts⟩ (cwV 3 hts (gw_V mt_99 mt_101 mt_3 mt_25 mt_102) rfl rfl rfl hdX_mayGoTo ⟨Nat.le_of_ble_eq_true rfl, Nat.le_of_ble_eq_true rfl⟩) hK hP hD hS hA hZ (q0 := 0) (ci := 0) rfl rfl rfl hl.1 rfl (Nat.le_of_ble_eq_true rfl) dX_hasRoomFor_22 ⟨Nat.zero_le _, Nat.zero_le _⟩ (fun H locs hP hD hS => ?_)
        refine lv_if_ne (tgt := 30) hx hb dX_hasRoomFor_25 (by decide) (fun c_6 => ?_) (fun c_6 => ?_)
        · replace hf := it_f hf c_6
          refine lv_iconst (v := (0 : Int32)) hx hb dX_hasRoomFor_30 (by decide) ?_
          refine lv_istore (lv' := [(5, .int (0 : Int32)), (0, .ref (a 0)), (1, .int p1), (2, .int p2), (3, .int p3), (4, .int p4)]) hx hb dX_hasRoomFor_31 hl (by decide) rfl (fun ls hl => ?_)
          refine lv_iconst (v := (0 : Int32)) hx hb dX_hasRoomFor_33 (by decide) ?_
          refine lv_istore (lv' := [(6, .int (0 : Int32)), (5, .int (0 : Int32)), (0, .ref (a 0)), (1, .int p1), (2, .int p2), (3, .int p3), (4, .int p4)]) hx hb dX_hasRoomFor_34 hl (by decide) rfl (fun ls hl => ?_)
          refine lv_iconst (v := (0 : Int32)) hx hb dX_hasRoomFor_36 (by decide) ?_
          refine lv_istore (lv' := [(7, .int (0 : Int32)), (6, .int (0 : Int32)), (5, .int (0 : Int32)), (0, .ref (a 0)), (1, .int p1), (2, .int p2), (3, .int p3), (4, .int p4)]) hx hb dX_hasRoomFor_37 hl (by decide) rfl (fun ls hl => ?_)
          exact L_39 K p1 p2 p3 p4 (0 : Int32) (0 : Int32) (0 : Int32) q_5.2 hf _ _ hP hD hS _ (lv_sub hl [3, 4, 5, 6, 7, 2, 1, 0] rfl)
        · replace hf := it_t hf c_6
          refine lv_iconst (v := (0 : Int32)) hx hb dX_hasRoomFor_28 (by decide) ?_
          exact xw_iret (wf := (w_X a cI cZ)) hx hb hr hlocks rfl hK hP hD hS hf dX_hasRoomFor_29
def gX_liesIn_10 (K : Nat) : Nat → Int32 → Int32 → Int32 → Int32 → XSt → Option (Int32 × XSt)
  | 0, _, _, _, _, _ => none
  | n + 1, x1, x2, x3, x4, τ => (if (60 : Int32) ≤ x4 then some ((0 : Int32), τ) else (if x3 = 0 then some ((0 : Int32), τ) else (if x3 = x2 then some ((1 : Int32), τ) else (if x3 < 0 ∨ 61 ≤ x3.toNatClampNeg then none else (gX_liesIn_10 K n x1 x2 ((x_hosts τ) x3.toNatClampNeg) (x4 + 1) τ)))))
def fX_liesIn (K : Nat) (p1 p2 : Int32) (σ : XSt) : Option (Int32 × XSt) := (if p1 < 0 ∨ 61 ≤ p1.toNatClampNeg then none else (gX_liesIn_10 K K p1 p2 ((x_hosts σ) p1.toNatClampNeg) (0 : Int32) σ))
set_option maxHeartbeats 4000000 in
set_option maxRecDepth 100000 in
theorem kX_liesIn (l : Launch) (dC : Nat → ClassId) (dI : Nat → Nat → Nat) (a : Nat → Nat) (cI cZ : ClassId) (tb : Nat) (K : Nat) (p1 p2 : Int32) (σ σ' : XSt) (r : Int32) (hf : fX_liesIn K p1 p2 σ = some (r, σ')) : xw_Ct l yX_liesIn wdX_liesIn ({ frames := 0, cells := 0, slots := 0, locals := 0 } : Room) (dC, dI) vwCl [(cI, .int), (cZ, .boolean)] (zz tb) ((w_X a cI cZ) σ) ((w_X a cI cZ) σ') [.ref (a 0), .int p1, .int p2] r := by
  refine xw_ofW (cc := cX_liesIn) (maxL := 5) (ret := (some .boolean)) (lv := [(0, .ref (a 0)), (1, .int p1), (2, .int p2)]) (by decide) rfl (Nat.le_of_ble_eq_true rfl) rfl ?_
  intro p e s m below meth c A hAt hP hD hS ls hl
  obtain ⟨hx, hb, hr, hml, hown, hts, hlocks, hK, hZ, hA⟩ := hAt
  replace hts : ∀ w ∈ lw_g, w.before _ s = true := fun w h => hts w (List.mem_cons_of_mem _ h)
  have L_10 : ∀ (n : Nat) (x1 x2 x3 x4 : Int32) (τ : XSt), gX_liesIn_10 K n x1 x2 x3 x4 τ = some (r, σ') → ∀ (H : Heap) (locs : List Loc), va_P (dC, dI) vwCl ((w_X a cI cZ) τ) H → va_D A ((w_X a cI cZ) τ) → va_S A s.heap H locs → ∀ (ls : Array Slot), lv_has ls 5 [(0, .ref (a 0)), (1, .int x1), (2, .int x2), (3, .int x3), (4, .int x4)] → W p l e ({ frames := 0, cells := 0, slots := 0, locals := 0 } : Room) s m ([.ref (a 0), .int p1, .int p2] : List Value).toArray below meth c H locs 0 0 (MQ below (va_Qi (fun (r2 : Int32) (_ : Unit) => r2 = r) (fun _ t => xw_B (dC, dI) vwCl [(cI, .int), (cZ, .boolean)] A ((w_X a cI cZ) σ') t) A) ([.ref (a 0), .int p1, .int p2] : List Value).toArray s 0 0 A) (F0 m 10 ls []) := by
    intro n
    induction n with
    | zero =>
      intro x1 x2 x3 x4 τ hf
      rw [gX_liesIn_10] at hf
      cases hf
    | succ n ih =>
      intro x1 x2 x3 x4 τ hf H locs hP hD hS ls hl
      rw [gX_liesIn_10] at hf
      refine lv_iload hx hb dX_liesIn_10 (lv_at hl 4 rfl) ?_
      refine lv_bipush (v := (60 : Int32)) hx hb dX_liesIn_12 (by decide) ?_
      refine lv_icmp_ge (tgt := 41) hx hb dX_liesIn_14 (by decide) (fun c_2 => ?_) (fun c_2 => ?_)
      · replace hf := it_t hf c_2
        refine lv_iconst (v := (0 : Int32)) hx hb dX_liesIn_41 (by decide) ?_
        exact xw_iret (wf := (w_X a cI cZ)) hx hb hr hlocks rfl hK hP hD hS hf dX_liesIn_42
      · replace hf := it_f hf c_2
        refine lv_iload_n hx hb dX_liesIn_17 rfl (lv_at hl 3 rfl) ?_
        refine lv_if_eq (tgt := 41) hx hb dX_liesIn_18 (by decide) (fun c_3 => ?_) (fun c_3 => ?_)
        · replace hf := it_t hf c_3
          refine lv_iconst (v := (0 : Int32)) hx hb dX_liesIn_41 (by decide) ?_
          exact xw_iret (wf := (w_X a cI cZ)) hx hb hr hlocks rfl hK hP hD hS hf dX_liesIn_42
        · replace hf := it_f hf c_3
          refine lv_iload_n hx hb dX_liesIn_21 rfl (lv_at hl 3 rfl) ?_
          refine lv_iload_n hx hb dX_liesIn_22 rfl (lv_at hl 2 rfl) ?_
          refine lv_icmp_ne (tgt := 28) hx hb dX_liesIn_23 (by decide) (fun c_4 => ?_) (fun c_4 => ?_)
          · replace hf := it_f hf c_4
            refine lv_aload_n hx hb dX_liesIn_28 rfl (lv_at hl 0 rfl) ?_
            refine aX_get_hosts hx hb hts hown hK hP dX_liesIn_29 ?_
            refine lv_iload_n hx hb dX_liesIn_32 rfl (lv_at hl 3 rfl) ?_
            obtain ⟨g_5, hf⟩ := gd_f hf
            refine aX_ld_hosts (σ := τ) (f := (x_hosts τ)) rfl hx hb hK hP g_5 dX_liesIn_33 ?_
            refine lv_istore_n (lv' := [(3, .int ((x_hosts τ) x3.toNatClampNeg)), (0, .ref (a 0)), (1, .int x1), (2, .int x2), (4, .int x4)]) hx hb dX_liesIn_34 rfl hl (by decide) rfl (fun ls hl => ?_)
            refine lv_iinc (v := (x4 + 1)) (lv' := [(4, .int (x4 + 1)), (3, .int ((x_hosts τ) x3.toNatClampNeg)), (0, .ref (a 0)), (1, .int x1), (2, .int x2)]) hx hb dX_liesIn_35 hl (k := 4) rfl (congrArg (HAdd.hAdd _) (by decide : Int32.ofInt (1) = (1 : Int32))) (by decide) rfl (fun ls hl => ?_)
            refine lv_goto (tgt := 10) hx hb dX_liesIn_38 (by decide) ?_
            exact ih x1 x2 ((x_hosts τ) x3.toNatClampNeg) (x4 + 1) τ hf _ _ hP hD hS _ (lv_sub hl [2, 3, 4, 1, 0] rfl)
          · replace hf := it_t hf c_4
            refine lv_iconst (v := (1 : Int32)) hx hb dX_liesIn_26 (by decide) ?_
            exact xw_iret (wf := (w_X a cI cZ)) hx hb hr hlocks rfl hK hP hD hS hf dX_liesIn_27
  unfold fX_liesIn at hf
  refine lv_aload_n hx hb dX_liesIn_0 rfl (lv_at hl 0 rfl) ?_
  refine aX_get_hosts hx hb hts hown hK hP dX_liesIn_1 ?_
  refine lv_iload_n hx hb dX_liesIn_4 rfl (lv_at hl 1 rfl) ?_
  obtain ⟨g_1, hf⟩ := gd_f hf
  refine aX_ld_hosts (σ := σ) (f := (x_hosts σ)) rfl hx hb hK hP g_1 dX_liesIn_5 ?_
  refine lv_istore_n (lv' := [(3, .int ((x_hosts σ) p1.toNatClampNeg)), (0, .ref (a 0)), (1, .int p1), (2, .int p2)]) hx hb dX_liesIn_6 rfl hl (by decide) rfl (fun ls hl => ?_)
  refine lv_iconst (v := (0 : Int32)) hx hb dX_liesIn_7 (by decide) ?_
  refine lv_istore (lv' := [(4, .int (0 : Int32)), (3, .int ((x_hosts σ) p1.toNatClampNeg)), (0, .ref (a 0)), (1, .int p1), (2, .int p2)]) hx hb dX_liesIn_8 hl (by decide) rfl (fun ls hl => ?_)
  exact L_10 K p1 p2 ((x_hosts σ) p1.toNatClampNeg) (0 : Int32) σ hf _ _ hP hD hS _ (lv_sub hl [2, 3, 4, 1, 0] rfl)
def gX_keepRefusedWay_7 (K : Nat) : Nat → Int32 → Int32 → Int32 → XSt → Option (Int32 × XSt)
  | 0, _, _, _, _ => none
  | n + 1, x1, x2, x3, τ => (if (60 : Int32) ≤ (x_refusedWayLength τ) then some ((0 : Int32), τ) else (if x3 = 0 then some ((0 : Int32), τ) else (if (x_refusedWayLength τ) < 0 ∨ 60 ≤ (x_refusedWayLength τ).toNatClampNeg then none else (if x3 = x2 then (gX_keepRefusedWay_7 K n x1 x2 (0 : Int32) (x_prefusedWayLength (x_prefusedWay τ (upd (x_refusedWay τ) (x_refusedWayLength τ).toNatClampNeg x3)) ((x_refusedWayLength τ) + (1 : Int32)))) else (if x3 < 0 ∨ 61 ≤ x3.toNatClampNeg then none else (gX_keepRefusedWay_7 K n x1 x2 ((x_hosts τ) x3.toNatClampNeg) (x_prefusedWayLength (x_prefusedWay τ (upd (x_refusedWay τ) (x_refusedWayLength τ).toNatClampNeg x3)) ((x_refusedWayLength τ) + (1 : Int32)))))))))
def fX_keepRefusedWay (K : Nat) (p1 p2 : Int32) (σ : XSt) : Option (Int32 × XSt) := (gX_keepRefusedWay_7 K K p1 p2 p1 (x_prefusedWayLength σ (0 : Int32)))
set_option maxHeartbeats 4000000 in
set_option maxRecDepth 100000 in
theorem kX_keepRefusedWay (l : Launch) (dC : Nat → ClassId) (dI : Nat → Nat → Nat) (a : Nat → Nat) (cI cZ : ClassId) (tb : Nat) (K : Nat) (p1 p2 : Int32) (σ σ' : XSt) (r : Int32) (hf : fX_keepRefusedWay K p1 p2 σ = some (r, σ')) : xw_Cv l yX_keepRefusedWay wdX_keepRefusedWay ({ frames := 0, cells := 0, slots := 0, locals := 0 } : Room) (dC, dI) vwCl [(cI, .int), (cZ, .boolean)] (zz tb) ((w_X a cI cZ) σ) ((w_X a cI cZ) σ') [.ref (a 0), .int p1, .int p2] := by
  refine xw_ofWv (cc := cX_keepRefusedWay) (maxL := 4) (ret := none) (lv := [(0, .ref (a 0)), (1, .int p1), (2, .int p2)]) (by decide) rfl (Nat.le_of_ble_eq_true rfl) rfl ?_
  intro p e s m below meth c A hAt hP hD hS ls hl
  obtain ⟨hx, hb, hr, hml, hown, hts, hlocks, hK, hZ, hA⟩ := hAt
  replace hts : ∀ w ∈ lw_g, w.before _ s = true := fun w h => hts w (List.mem_cons_of_mem _ h)
  have L_7 : ∀ (n : Nat) (x1 x2 x3 : Int32) (τ : XSt), gX_keepRefusedWay_7 K n x1 x2 x3 τ = some (r, σ') → ∀ (H : Heap) (locs : List Loc), va_P (dC, dI) vwCl ((w_X a cI cZ) τ) H → va_D A ((w_X a cI cZ) τ) → va_S A s.heap H locs → ∀ (ls : Array Slot), lv_has ls 4 [(0, .ref (a 0)), (1, .int x1), (2, .int x2), (3, .int x3)] → W p l e ({ frames := 0, cells := 0, slots := 0, locals := 0 } : Room) s m ([.ref (a 0), .int p1, .int p2] : List Value).toArray below meth c H locs 0 0 (MQ below (va_Qv (fun (_ : Unit) => True) (fun _ t => xw_B (dC, dI) vwCl [(cI, .int), (cZ, .boolean)] A ((w_X a cI cZ) σ') t) A) ([.ref (a 0), .int p1, .int p2] : List Value).toArray s 0 0 A) (F0 m 7 ls []) := by
    intro n
    induction n with
    | zero =>
      intro x1 x2 x3 τ hf
      rw [gX_keepRefusedWay_7] at hf
      cases hf
    | succ n ih =>
      intro x1 x2 x3 τ hf H locs hP hD hS ls hl
      rw [gX_keepRefusedWay_7] at hf
      refine lv_aload_n hx hb dX_keepRefusedWay_7 rfl (lv_at hl 0 rfl) ?_
      refine aX_get_refusedWayLength (σ := τ) (v := (x_refusedWayLength τ)) rfl hx hb hts hown hK hP dX_keepRefusedWay_8 ?_
      refine lv_bipush (v := (60 : Int32)) hx hb dX_keepRefusedWay_11 (by decide) ?_
      refine lv_icmp_ge (tgt := 59) hx hb dX_keepRefusedWay_13 (by decide) (fun c_1 => ?_) (fun c_1 => ?_)
      · replace hf := it_t hf c_1
        exact xw_vret (wf := (w_X a cI cZ)) hx hb hr hlocks hK hP hD hS hf dX_keepRefusedWay_59
      · replace hf := it_f hf c_1
        refine lv_iload_n hx hb dX_keepRefusedWay_16 rfl (lv_at hl 3 rfl) ?_
        refine lv_if_eq (tgt := 59) hx hb dX_keepRefusedWay_17 (by decide) (fun c_2 => ?_) (fun c_2 => ?_)
        · replace hf := it_t hf c_2
          exact xw_vret (wf := (w_X a cI cZ)) hx hb hr hlocks hK hP hD hS hf dX_keepRefusedWay_59
        · replace hf := it_f hf c_2
          refine lv_aload_n hx hb dX_keepRefusedWay_20 rfl (lv_at hl 0 rfl) ?_
          refine aX_get_refusedWay hx hb hts hown hK hP dX_keepRefusedWay_21 ?_
          refine lv_aload_n hx hb dX_keepRefusedWay_24 rfl (lv_at hl 0 rfl) ?_
          refine aX_get_refusedWayLength (σ := τ) (v := (x_refusedWayLength τ)) rfl hx hb hts hown hK hP dX_keepRefusedWay_25 ?_
          refine lv_iload_n hx hb dX_keepRefusedWay_28 rfl (lv_at hl 3 rfl) ?_
          obtain ⟨g_3, hf⟩ := gd_f hf
          refine aX_st_refusedWay (σ := τ) (f := (x_refusedWay τ)) (x := x3) (τ := (x_prefusedWay τ (upd (x_refusedWay τ) (x_refusedWayLength τ).toNatClampNeg x3))) rfl rfl hx hb hK hP hD hS g_3 dX_keepRefusedWay_29 (fun H locs hP hD hS => ?_)
          refine lv_aload_n hx hb dX_keepRefusedWay_30 rfl (lv_at hl 0 rfl) ?_
          refine lv_dup hx hb dX_keepRefusedWay_31 rfl ?_
          refine aX_get_refusedWayLength (σ := (x_prefusedWay τ (upd (x_refusedWay τ) (x_refusedWayLength τ).toNatClampNeg x3))) (v := (x_refusedWayLength τ)) rfl hx hb hts hown hK hP dX_keepRefusedWay_32 ?_
          refine lv_iconst (v := (1 : Int32)) hx hb dX_keepRefusedWay_35 (by decide) ?_
          refine lv_iadd hx hb dX_keepRefusedWay_36 ?_
          refine aX_put_refusedWayLength (σ := (x_prefusedWay τ (upd (x_refusedWay τ) (x_refusedWayLength τ).toNatClampNeg x3))) (v := ((x_refusedWayLength τ) + (1 : Int32))) (τ := (x_prefusedWayLength (x_prefusedWay τ (upd (x_refusedWay τ) (x_refusedWayLength τ).toNatClampNeg x3)) ((x_refusedWayLength τ) + (1 : Int32)))) rfl hx hb hts hown hK hP hD hS dX_keepRefusedWay_37 (fun H locs hP hD hS => ?_)
          refine lv_iload_n hx hb dX_keepRefusedWay_40 rfl (lv_at hl 3 rfl) ?_
          refine lv_iload_n hx hb dX_keepRefusedWay_41 rfl (lv_at hl 2 rfl) ?_
          refine lv_icmp_ne (tgt := 49) hx hb dX_keepRefusedWay_42 (by decide) (fun c_4 => ?_) (fun c_4 => ?_)
          · replace hf := it_f hf c_4
            refine lv_aload_n hx hb dX_keepRefusedWay_49 rfl (lv_at hl 0 rfl) ?_
            refine aX_get_hosts hx hb hts hown hK hP dX_keepRefusedWay_50 ?_
            refine lv_iload_n hx hb dX_keepRefusedWay_53 rfl (lv_at hl 3 rfl) ?_
            obtain ⟨g_5, hf⟩ := gd_f hf
            refine aX_ld_hosts (σ := (x_prefusedWayLength (x_prefusedWay τ (upd (x_refusedWay τ) (x_refusedWayLength τ).toNatClampNeg x3)) ((x_refusedWayLength τ) + (1 : Int32)))) (f := (x_hosts τ)) rfl hx hb hK hP g_5 dX_keepRefusedWay_54 ?_
            refine lv_istore_n (lv' := [(3, .int ((x_hosts τ) x3.toNatClampNeg)), (0, .ref (a 0)), (1, .int x1), (2, .int x2)]) hx hb dX_keepRefusedWay_55 rfl hl (by decide) rfl (fun ls hl => ?_)
            refine lv_goto (tgt := 7) hx hb dX_keepRefusedWay_56 (by decide) ?_
            exact ih x1 x2 ((x_hosts τ) x3.toNatClampNeg) (x_prefusedWayLength (x_prefusedWay τ (upd (x_refusedWay τ) (x_refusedWayLength τ).toNatClampNeg x3)) ((x_refusedWayLength τ) + (1 : Int32))) hf _ _ hP hD hS _ (lv_sub hl [1, 2, 3, 0] rfl)
          · replace hf := it_t hf c_4
            refine lv_iconst (v := (0 : Int32)) hx hb dX_keepRefusedWay_45 (by decide) ?_
            refine lv_goto (tgt := 55) hx hb dX_keepRefusedWay_46 (by decide) ?_
            refine lv_istore_n (lv' := [(3, .int (0 : Int32)), (0, .ref (a 0)), (1, .int x1), (2, .int x2)]) hx hb dX_keepRefusedWay_55 rfl hl (by decide) rfl (fun ls hl => ?_)
            refine lv_goto (tgt := 7) hx hb dX_keepRefusedWay_56 (by decide) ?_
            exact ih x1 x2 (0 : Int32) (x_prefusedWayLength (x_prefusedWay τ (upd (x_refusedWay τ) (x_refusedWayLength τ).toNatClampNeg x3)) ((x_refusedWayLength τ) + (1 : Int32))) hf _ _ hP hD hS _ (lv_sub hl [1, 2, 3, 0] rfl)
  unfold fX_keepRefusedWay at hf
  refine lv_aload_n hx hb dX_keepRefusedWay_0 rfl (lv_at hl 0 rfl) ?_
  refine lv_iconst (v := (0 : Int32)) hx hb dX_keepRefusedWay_1 (by decide) ?_
  refine aX_put_refusedWayLength (σ := σ) (v := (0 : Int32)) (τ := (x_prefusedWayLength σ (0 : Int32))) rfl hx hb hts hown hK hP hD hS dX_keepRefusedWay_2 (fun H locs hP hD hS => ?_)
  refine lv_iload_n hx hb dX_keepRefusedWay_5 rfl (lv_at hl 1 rfl) ?_
  refine lv_istore_n (lv' := [(3, .int p1), (0, .ref (a 0)), (1, .int p1), (2, .int p2)]) hx hb dX_keepRefusedWay_6 rfl hl (by decide) rfl (fun ls hl => ?_)
  exact L_7 K p1 p2 p1 (x_prefusedWayLength σ (0 : Int32)) hf _ _ hP hD hS _ (lv_sub hl [1, 2, 3, 0] rfl)
def fX_addLink (K : Nat) (p1 p2 p3 : Int32) (σ : XSt) : Option (Int32 × XSt) := (if (x_links σ) < 0 ∨ 200 ≤ (x_links σ).toNatClampNeg then none else (if (x_links σ) < 0 ∨ 200 ≤ (x_links σ).toNatClampNeg then none else (if (x_links σ) < 0 ∨ 200 ≤ (x_links σ).toNatClampNeg then none else (if p2 = 0 then (if p1 < 0 ∨ 61 ≤ p1.toNatClampNeg then none else some ((0 : Int32), (x_plinks (x_plinkTo (x_plinkField (x_plinkFrom (x_phosts σ (upd (x_hosts σ) p1.toNatClampNeg p3)) (upd (x_linkFrom σ) (x_links σ).toNatClampNeg p1)) (upd (x_linkField σ) (x_links σ).toNatClampNeg p2)) (upd (x_linkTo σ) (x_links σ).toNatClampNeg p3)) ((x_links σ) + (1 : Int32))))) else some ((0 : Int32), (x_plinks (x_plinkTo (x_plinkField (x_plinkFrom σ (upd (x_linkFrom σ) (x_links σ).toNatClampNeg p1)) (upd (x_linkField σ) (x_links σ).toNatClampNeg p2)) (upd (x_linkTo σ) (x_links σ).toNatClampNeg p3)) ((x_links σ) + (1 : Int32))))))))
set_option maxHeartbeats 4000000 in
set_option maxRecDepth 100000 in
theorem kX_addLink (l : Launch) (dC : Nat → ClassId) (dI : Nat → Nat → Nat) (a : Nat → Nat) (cI cZ : ClassId) (tb : Nat) (K : Nat) (p1 p2 p3 : Int32) (σ σ' : XSt) (r : Int32) (hf : fX_addLink K p1 p2 p3 σ = some (r, σ')) : xw_Cv l yX_addLink wdX_addLink ({ frames := 0, cells := 0, slots := 0, locals := 0 } : Room) (dC, dI) vwCl [(cI, .int), (cZ, .boolean)] (zz tb) ((w_X a cI cZ) σ) ((w_X a cI cZ) σ') [.ref (a 0), .int p1, .int p2, .int p3] := by
  refine xw_ofWv (cc := cX_addLink) (maxL := 4) (ret := none) (lv := [(0, .ref (a 0)), (1, .int p1), (2, .int p2), (3, .int p3)]) (by decide) rfl (Nat.le_of_ble_eq_true rfl) rfl ?_
  intro p e s m below meth c A hAt hP hD hS ls hl
  obtain ⟨hx, hb, hr, hml, hown, hts, hlocks, hK, hZ, hA⟩ := hAt
  replace hts : ∀ w ∈ lw_g, w.before _ s = true := fun w h => hts w (List.mem_cons_of_mem _ h)
  unfold fX_addLink at hf
  refine lv_aload_n hx hb dX_addLink_0 rfl (lv_at hl 0 rfl) ?_
  refine aX_get_linkFrom hx hb hts hown hK hP dX_addLink_1 ?_
  refine lv_aload_n hx hb dX_addLink_4 rfl (lv_at hl 0 rfl) ?_
  refine aX_get_links (σ := σ) (v := (x_links σ)) rfl hx hb hts hown hK hP dX_addLink_5 ?_
  refine lv_iload_n hx hb dX_addLink_8 rfl (lv_at hl 1 rfl) ?_
  obtain ⟨g_1, hf⟩ := gd_f hf
  refine aX_st_linkFrom (σ := σ) (f := (x_linkFrom σ)) (x := p1) (τ := (x_plinkFrom σ (upd (x_linkFrom σ) (x_links σ).toNatClampNeg p1))) rfl rfl hx hb hK hP hD hS g_1 dX_addLink_9 (fun H locs hP hD hS => ?_)
  refine lv_aload_n hx hb dX_addLink_10 rfl (lv_at hl 0 rfl) ?_
  refine aX_get_linkField hx hb hts hown hK hP dX_addLink_11 ?_
  refine lv_aload_n hx hb dX_addLink_14 rfl (lv_at hl 0 rfl) ?_
  refine aX_get_links (σ := (x_plinkFrom σ (upd (x_linkFrom σ) (x_links σ).toNatClampNeg p1))) (v := (x_links σ)) rfl hx hb hts hown hK hP dX_addLink_15 ?_
  refine lv_iload_n hx hb dX_addLink_18 rfl (lv_at hl 2 rfl) ?_
  obtain ⟨g_2, hf⟩ := gd_f hf
  refine aX_st_linkField (σ := (x_plinkFrom σ (upd (x_linkFrom σ) (x_links σ).toNatClampNeg p1))) (f := (x_linkField σ)) (x := p2) (τ := (x_plinkField (x_plinkFrom σ (upd (x_linkFrom σ) (x_links σ).toNatClampNeg p1)) (upd (x_linkField σ) (x_links σ).toNatClampNeg p2))) rfl rfl hx hb hK hP hD hS g_2 dX_addLink_19 (fun H locs hP hD hS => ?_)
  refine lv_aload_n hx hb dX_addLink_20 rfl (lv_at hl 0 rfl) ?_
  refine aX_get_linkTo hx hb hts hown hK hP dX_addLink_21 ?_
  refine lv_aload_n hx hb dX_addLink_24 rfl (lv_at hl 0 rfl) ?_
  refine aX_get_links (σ := (x_plinkField (x_plinkFrom σ (upd (x_linkFrom σ) (x_links σ).toNatClampNeg p1)) (upd (x_linkField σ) (x_links σ).toNatClampNeg p2))) (v := (x_links σ)) rfl hx hb hts hown hK hP dX_addLink_25 ?_
  refine lv_iload_n hx hb dX_addLink_28 rfl (lv_at hl 3 rfl) ?_
  obtain ⟨g_3, hf⟩ := gd_f hf
  refine aX_st_linkTo (σ := (x_plinkField (x_plinkFrom σ (upd (x_linkFrom σ) (x_links σ).toNatClampNeg p1)) (upd (x_linkField σ) (x_links σ).toNatClampNeg p2))) (f := (x_linkTo σ)) (x := p3) (τ := (x_plinkTo (x_plinkField (x_plinkFrom σ (upd (x_linkFrom σ) (x_links σ).toNatClampNeg p1)) (upd (x_linkField σ) (x_links σ).toNatClampNeg p2)) (upd (x_linkTo σ) (x_links σ).toNatClampNeg p3))) rfl rfl hx hb hK hP hD hS g_3 dX_addLink_29 (fun H locs hP hD hS => ?_)
  refine lv_aload_n hx hb dX_addLink_30 rfl (lv_at hl 0 rfl) ?_
  refine lv_dup hx hb dX_addLink_31 rfl ?_
  refine aX_get_links (σ := (x_plinkTo (x_plinkField (x_plinkFrom σ (upd (x_linkFrom σ) (x_links σ).toNatClampNeg p1)) (upd (x_linkField σ) (x_links σ).toNatClampNeg p2)) (upd (x_linkTo σ) (x_links σ).toNatClampNeg p3))) (v := (x_links σ)) rfl hx hb hts hown hK hP dX_addLink_32 ?_
  refine lv_iconst (v := (1 : Int32)) hx hb dX_addLink_35 (by decide) ?_
  refine lv_iadd hx hb dX_addLink_36 ?_
  refine aX_put_links (σ := (x_plinkTo (x_plinkField (x_plinkFrom σ (upd (x_linkFrom σ) (x_links σ).toNatClampNeg p1)) (upd (x_linkField σ) (x_links σ).toNatClampNeg p2)) (upd (x_linkTo σ) (x_links σ).toNatClampNeg p3))) (v := ((x_links σ) + (1 : Int32))) (τ := (x_plinks (x_plinkTo (x_plinkField (x_plinkFrom σ (upd (x_linkFrom σ) (x_links σ).toNatClampNeg p1)) (upd (x_linkField σ) (x_links σ).toNatClampNeg p2)) (upd (x_linkTo σ) (x_links σ).toNatClampNeg p3)) ((x_links σ) + (1 : Int32)))) rfl hx hb hts hown hK hP hD hS dX_addLink_37 (fun H locs hP hD hS => ?_)
  refine lv_iload_n hx hb dX_addLink_40 rfl (lv_at hl 2 rfl) ?_
  refine lv_if_ne (tgt := 51) hx hb dX_addLink_41 (by decide) (fun c_4 => ?_) (fun c_4 => ?_)
  · replace hf := it_f hf c_4
    exact xw_vret (wf := (w_X a cI cZ)) hx hb hr hlocks hK hP hD hS hf dX_addLink_51
  · replace hf := it_t hf c_4
    refine lv_aload_n hx hb dX_addLink_44 rfl (lv_at hl 0 rfl) ?_
    refine aX_get_hosts hx hb hts hown hK hP dX_addLink_45 ?_
    refine lv_iload_n hx hb dX_addLink_48 rfl (lv_at hl 1 rfl) ?_
    refine lv_iload_n hx hb dX_addLink_49 rfl (lv_at hl 3 rfl) ?_
    obtain ⟨g_5, hf⟩ := gd_f hf
    refine aX_st_hosts (σ := (x_plinks (x_plinkTo (x_plinkField (x_plinkFrom σ (upd (x_linkFrom σ) (x_links σ).toNatClampNeg p1)) (upd (x_linkField σ) (x_links σ).toNatClampNeg p2)) (upd (x_linkTo σ) (x_links σ).toNatClampNeg p3)) ((x_links σ) + (1 : Int32)))) (f := (x_hosts σ)) (x := p3) (τ := (x_plinks (x_plinkTo (x_plinkField (x_plinkFrom (x_phosts σ (upd (x_hosts σ) p1.toNatClampNeg p3)) (upd (x_linkFrom σ) (x_links σ).toNatClampNeg p1)) (upd (x_linkField σ) (x_links σ).toNatClampNeg p2)) (upd (x_linkTo σ) (x_links σ).toNatClampNeg p3)) ((x_links σ) + (1 : Int32)))) rfl rfl hx hb hK hP hD hS g_5 dX_addLink_50 (fun H locs hP hD hS => ?_)
    exact xw_vret (wf := (w_X a cI cZ)) hx hb hr hlocks hK hP hD hS hf dX_addLink_51
def fX_noteChange (K : Nat) (p1 : Int32) (σ : XSt) : Option (Int32 × XSt) := (if p1 < 0 ∨ 61 ≤ p1.toNatClampNeg then none else (if ((x_changeCounts σ) p1.toNatClampNeg) < (40 : Int32) then (if ((x_changeCounts σ) p1.toNatClampNeg) ≤ 0 then (if ((p1 * (40 : Int32)) + ((x_changeCounts σ) p1.toNatClampNeg)) < 0 ∨ 2440 ≤ ((p1 * (40 : Int32)) + ((x_changeCounts σ) p1.toNatClampNeg)).toNatClampNeg then none else (if p1 < 0 ∨ 61 ≤ p1.toNatClampNeg then none else some ((0 : Int32), (x_pchangeMoments (x_pchangeCounts σ (upd (x_changeCounts σ) p1.toNatClampNeg (((x_changeCounts σ) p1.toNatClampNeg) + (1 : Int32)))) (upd (x_changeMoments σ) ((p1 * (40 : Int32)) + ((x_changeCounts σ) p1.toNatClampNeg)).toNatClampNeg (x_moment σ)))))) else (if (((p1 * (40 : Int32)) + ((x_changeCounts σ) p1.toNatClampNeg)) - (1 : Int32)) < 0 ∨ 2440 ≤ (((p1 * (40 : Int32)) + ((x_changeCounts σ) p1.toNatClampNeg)) - (1 : Int32)).toNatClampNeg then none else (if ((x_changeMoments σ) (((p1 * (40 : Int32)) + ((x_changeCounts σ) p1.toNatClampNeg)) - (1 : Int32)).toNatClampNeg) = (x_moment σ) then some ((0 : Int32), σ) else (if ((p1 * (40 : Int32)) + ((x_changeCounts σ) p1.toNatClampNeg)) < 0 ∨ 2440 ≤ ((p1 * (40 : Int32)) + ((x_changeCounts σ) p1.toNatClampNeg)).toNatClampNeg then none else (if p1 < 0 ∨ 61 ≤ p1.toNatClampNeg then none else some ((0 : Int32), (x_pchangeMoments (x_pchangeCounts σ (upd (x_changeCounts σ) p1.toNatClampNeg (((x_changeCounts σ) p1.toNatClampNeg) + (1 : Int32)))) (upd (x_changeMoments σ) ((p1 * (40 : Int32)) + ((x_changeCounts σ) p1.toNatClampNeg)).toNatClampNeg (x_moment σ))))))))) else some ((0 : Int32), σ)))
set_option maxHeartbeats 4000000 in
set_option maxRecDepth 100000 in
theorem kX_noteChange (l : Launch) (dC : Nat → ClassId) (dI : Nat → Nat → Nat) (a : Nat → Nat) (cI cZ : ClassId) (tb : Nat) (K : Nat) (p1 : Int32) (σ σ' : XSt) (r : Int32) (hf : fX_noteChange K p1 σ = some (r, σ')) : xw_Cv l yX_noteChange wdX_noteChange ({ frames := 0, cells := 0, slots := 0, locals := 0 } : Room) (dC, dI) vwCl [(cI, .int), (cZ, .boolean)] (zz tb) ((w_X a cI cZ) σ) ((w_X a cI cZ) σ') [.ref (a 0), .int p1] := by
  refine xw_ofWv (cc := cX_noteChange) (maxL := 4) (ret := none) (lv := [(0, .ref (a 0)), (1, .int p1)]) (by decide) rfl (Nat.le_of_ble_eq_true rfl) rfl ?_
  intro p e s m below meth c A hAt hP hD hS ls hl
  obtain ⟨hx, hb, hr, hml, hown, hts, hlocks, hK, hZ, hA⟩ := hAt
  replace hts : ∀ w ∈ lw_g, w.before _ s = true := fun w h => hts w (List.mem_cons_of_mem _ h)
  unfold fX_noteChange at hf
  refine lv_aload_n hx hb dX_noteChange_0 rfl (lv_at hl 0 rfl) ?_
  refine aX_get_changeCounts hx hb hts hown hK hP dX_noteChange_1 ?_
  refine lv_iload_n hx hb dX_noteChange_4 rfl (lv_at hl 1 rfl) ?_
  obtain ⟨g_1, hf⟩ := gd_f hf
  refine aX_ld_changeCounts (σ := σ) (f := (x_changeCounts σ)) rfl hx hb hK hP g_1 dX_noteChange_5 ?_
  refine lv_istore_n (lv' := [(2, .int ((x_changeCounts σ) p1.toNatClampNeg)), (0, .ref (a 0)), (1, .int p1)]) hx hb dX_noteChange_6 rfl hl (by decide) rfl (fun ls hl => ?_)
  refine lv_iload_n hx hb dX_noteChange_7 rfl (lv_at hl 0 rfl) ?_
  refine lv_bipush (v := (40 : Int32)) hx hb dX_noteChange_8 (by decide) ?_
  refine lv_icmp_lt (tgt := 14) hx hb dX_noteChange_10 (by decide) (fun c_2 => ?_) (fun c_2 => ?_)
  · replace hf := it_t hf c_2
    refine lv_iload_n hx hb dX_noteChange_14 rfl (lv_at hl 2 rfl) ?_
    refine lv_bipush (v := (40 : Int32)) hx hb dX_noteChange_15 (by decide) ?_
    refine lv_imul hx hb dX_noteChange_17 ?_
    refine lv_iload_n hx hb dX_noteChange_18 rfl (lv_at hl 0 rfl) ?_
    refine lv_iadd hx hb dX_noteChange_19 ?_
    refine lv_istore_n (lv' := [(3, .int ((p1 * (40 : Int32)) + ((x_changeCounts σ) p1.toNatClampNeg))), (2, .int ((x_changeCounts σ) p1.toNatClampNeg)), (0, .ref (a 0)), (1, .int p1)]) hx hb dX_noteChange_20 rfl hl (by decide) rfl (fun ls hl => ?_)
    refine lv_iload_n hx hb dX_noteChange_21 rfl (lv_at hl 1 rfl) ?_
    refine lv_if_le (tgt := 41) hx hb dX_noteChange_22 (by decide) (fun c_3 => ?_) (fun c_3 => ?_)
    · replace hf := it_t hf c_3
      refine lv_aload_n hx hb dX_noteChange_41 rfl (lv_at hl 2 rfl) ?_
      refine aX_get_changeMoments hx hb hts hown hK hP dX_noteChange_42 ?_
      refine lv_iload_n hx hb dX_noteChange_45 rfl (lv_at hl 0 rfl) ?_
      refine lv_aload_n hx hb dX_noteChange_46 rfl (lv_at hl 2 rfl) ?_
      refine aX_get_moment (σ := σ) (v := (x_moment σ)) rfl hx hb hts hown hK hP dX_noteChange_47 ?_
      obtain ⟨g_4, hf⟩ := gd_f hf
      refine aX_st_changeMoments (σ := σ) (f := (x_changeMoments σ)) (x := (x_moment σ)) (τ := (x_pchangeMoments σ (upd (x_changeMoments σ) ((p1 * (40 : Int32)) + ((x_changeCounts σ) p1.toNatClampNeg)).toNatClampNeg (x_moment σ)))) rfl rfl hx hb hK hP hD hS g_4 dX_noteChange_50 (fun H locs hP hD hS => ?_)
      refine lv_aload_n hx hb dX_noteChange_51 rfl (lv_at hl 2 rfl) ?_
      refine aX_get_changeCounts hx hb hts hown hK hP dX_noteChange_52 ?_
      refine lv_iload_n hx hb dX_noteChange_55 rfl (lv_at hl 3 rfl) ?_
      refine lv_iload_n hx hb dX_noteChange_56 rfl (lv_at hl 1 rfl) ?_
      refine lv_iconst (v := (1 : Int32)) hx hb dX_noteChange_57 (by decide) ?_
      refine lv_iadd hx hb dX_noteChange_58 ?_
      obtain ⟨g_5, hf⟩ := gd_f hf
      refine aX_st_changeCounts (σ := (x_pchangeMoments σ (upd (x_changeMoments σ) ((p1 * (40 : Int32)) + ((x_changeCounts σ) p1.toNatClampNeg)).toNatClampNeg (x_moment σ)))) (f := (x_changeCounts σ)) (x := (((x_changeCounts σ) p1.toNatClampNeg) + (1 : Int32))) (τ := (x_pchangeMoments (x_pchangeCounts σ (upd (x_changeCounts σ) p1.toNatClampNeg (((x_changeCounts σ) p1.toNatClampNeg) + (1 : Int32)))) (upd (x_changeMoments σ) ((p1 * (40 : Int32)) + ((x_changeCounts σ) p1.toNatClampNeg)).toNatClampNeg (x_moment σ)))) rfl rfl hx hb hK hP hD hS g_5 dX_noteChange_59 (fun H locs hP hD hS => ?_)
      exact xw_vret (wf := (w_X a cI cZ)) hx hb hr hlocks hK hP hD hS hf dX_noteChange_60
    · replace hf := it_f hf c_3
      refine lv_aload_n hx hb dX_noteChange_25 rfl (lv_at hl 2 rfl) ?_
      refine aX_get_changeMoments hx hb hts hown hK hP dX_noteChange_26 ?_
      refine lv_iload_n hx hb dX_noteChange_29 rfl (lv_at hl 0 rfl) ?_
      refine lv_iconst (v := (1 : Int32)) hx hb dX_noteChange_30 (by decide) ?_
      refine lv_isub hx hb dX_noteChange_31 ?_
      obtain ⟨g_6, hf⟩ := gd_f hf
      refine aX_ld_changeMoments (σ := σ) (f := (x_changeMoments σ)) rfl hx hb hK hP g_6 dX_noteChange_32 ?_
      refine lv_aload_n hx hb dX_noteChange_33 rfl (lv_at hl 2 rfl) ?_
      refine aX_get_moment (σ := σ) (v := (x_moment σ)) rfl hx hb hts hown hK hP dX_noteChange_34 ?_
      refine lv_icmp_ne (tgt := 41) hx hb dX_noteChange_37 (by decide) (fun c_7 => ?_) (fun c_7 => ?_)
      · replace hf := it_f hf c_7
        refine lv_aload_n hx hb dX_noteChange_41 rfl (lv_at hl 2 rfl) ?_
        refine aX_get_changeMoments hx hb hts hown hK hP dX_noteChange_42 ?_
        refine lv_iload_n hx hb dX_noteChange_45 rfl (lv_at hl 0 rfl) ?_
        refine lv_aload_n hx hb dX_noteChange_46 rfl (lv_at hl 2 rfl) ?_
        refine aX_get_moment (σ := σ) (v := (x_moment σ)) rfl hx hb hts hown hK hP dX_noteChange_47 ?_
        obtain ⟨g_8, hf⟩ := gd_f hf
        refine aX_st_changeMoments (σ := σ) (f := (x_changeMoments σ)) (x := (x_moment σ)) (τ := (x_pchangeMoments σ (upd (x_changeMoments σ) ((p1 * (40 : Int32)) + ((x_changeCounts σ) p1.toNatClampNeg)).toNatClampNeg (x_moment σ)))) rfl rfl hx hb hK hP hD hS g_8 dX_noteChange_50 (fun H locs hP hD hS => ?_)
        refine lv_aload_n hx hb dX_noteChange_51 rfl (lv_at hl 2 rfl) ?_
        refine aX_get_changeCounts hx hb hts hown hK hP dX_noteChange_52 ?_
        refine lv_iload_n hx hb dX_noteChange_55 rfl (lv_at hl 3 rfl) ?_
        refine lv_iload_n hx hb dX_noteChange_56 rfl (lv_at hl 1 rfl) ?_
        refine lv_iconst (v := (1 : Int32)) hx hb dX_noteChange_57 (by decide) ?_
        refine lv_iadd hx hb dX_noteChange_58 ?_
        obtain ⟨g_9, hf⟩ := gd_f hf
        refine aX_st_changeCounts (σ := (x_pchangeMoments σ (upd (x_changeMoments σ) ((p1 * (40 : Int32)) + ((x_changeCounts σ) p1.toNatClampNeg)).toNatClampNeg (x_moment σ)))) (f := (x_changeCounts σ)) (x := (((x_changeCounts σ) p1.toNatClampNeg) + (1 : Int32))) (τ := (x_pchangeMoments (x_pchangeCounts σ (upd (x_changeCounts σ) p1.toNatClampNeg (((x_changeCounts σ) p1.toNatClampNeg) + (1 : Int32)))) (upd (x_changeMoments σ) ((p1 * (40 : Int32)) + ((x_changeCounts σ) p1.toNatClampNeg)).toNatClampNeg (x_moment σ)))) rfl rfl hx hb hK hP hD hS g_9 dX_noteChange_59 (fun H locs hP hD hS => ?_)
        exact xw_vret (wf := (w_X a cI cZ)) hx hb hr hlocks hK hP hD hS hf dX_noteChange_60
      · replace hf := it_t hf c_7
        exact xw_vret (wf := (w_X a cI cZ)) hx hb hr hlocks hK hP hD hS hf dX_noteChange_40
  · replace hf := it_f hf c_2
    exact xw_vret (wf := (w_X a cI cZ)) hx hb hr hlocks hK hP hD hS hf dX_noteChange_13
def fX_link (K : Nat) (p1 p2 p3 : Int32) (σ : XSt) : Option (Int32 × XSt) := ((fX_hasRoomFor K p1 p2 p3 (-1 : Int32) (x_pmoment σ ((x_moment σ) + (1 : Int32)))).bind fun q_1 => (if q_1.1 = 0 then some ((0 : Int32), q_1.2) else (if p2 = 0 then ((fX_liesIn K p3 p1 q_1.2).bind fun q_6 => (if q_6.1 = 0 then ((fX_addLink K p1 p2 p3 q_6.2).bind fun q_8 => ((fX_noteChange K p1 q_8.2).bind fun q_9 => some ((1 : Int32), q_9.2))) else ((fX_keepRefusedWay K p3 p1 q_6.2).bind fun q_10 => some ((0 : Int32), q_10.2)))) else ((fX_addLink K p1 p2 p3 q_1.2).bind fun q_4 => ((fX_noteChange K p1 q_4.2).bind fun q_5 => some ((1 : Int32), q_5.2))))))
set_option maxHeartbeats 4000000 in
set_option maxRecDepth 100000 in
theorem kX_link (l : Launch) (dC : Nat → ClassId) (dI : Nat → Nat → Nat) (a : Nat → Nat) (cI cZ : ClassId) (tb : Nat) (K : Nat) (p1 p2 p3 : Int32) (σ σ' : XSt) (r : Int32) (hf : fX_link K p1 p2 p3 σ = some (r, σ')) : xw_Ct l yX_link wdX_link ({ frames := 4, cells := 0, slots := 0, locals := 92 } : Room) (dC, dI) vwCl [(cI, .int), (cZ, .boolean)] (zz tb) ((w_X a cI cZ) σ) ((w_X a cI cZ) σ') [.ref (a 0), .int p1, .int p2, .int p3] r := by
  refine xw_ofW (cc := cX_link) (maxL := 4) (ret := (some .int)) (lv := [(0, .ref (a 0)), (1, .int p1), (2, .int p2), (3, .int p3)]) (by decide) rfl (Nat.le_of_ble_eq_true rfl) rfl ?_
  intro p e s m below meth c A hAt hP hD hS ls hl
  obtain ⟨hx, hb, hr, hml, hown, hts, hlocks, hK, hZ, hA⟩ := hAt
  replace hts : ∀ w ∈ lw_g, w.before _ s = true := fun w h => hts w (List.mem_cons_of_mem _ h)
  unfold fX_link at hf
  refine lv_aload_n hx hb dX_link_0 rfl (lv_at hl 0 rfl) ?_
  refine lv_dup hx hb dX_link_1 rfl ?_
  refine aX_get_moment (σ := σ) (v := (x_moment σ)) rfl hx hb hts hown hK hP dX_link_2 ?_
  refine lv_iconst (v := (1 : Int32)) hx hb dX_link_5 (by decide) ?_
  refine lv_iadd hx hb dX_link_6 ?_
  refine aX_put_moment (σ := σ) (v := ((x_moment σ) + (1 : Int32))) (τ := (x_pmoment σ ((x_moment σ) + (1 : Int32)))) rfl hx hb hts hown hK hP hD hS dX_link_7 (fun H locs hP hD hS => ?_)
  refine lv_aload_n hx hb dX_link_10 rfl (lv_at hl 0 rfl) ?_
  refine lv_iload_n hx hb dX_link_11 rfl (lv_at hl 1 rfl) ?_
  refine lv_iload_n hx hb dX_link_12 rfl (lv_at hl 2 rfl) ?_
  refine lv_iload_n hx hb dX_link_13 rfl (lv_at hl 3 rfl) ?_
  refine lv_iconst (v := (-1 : Int32)) hx hb dX_link_14 (by decide) ?_
  obtain ⟨q_1, hq_1, hf⟩ := bd_s hf
  refine xw_callV (kX_hasRoomFor l dC dI a cI cZ tb K p1 p2 p3 (-1 : Int32) (x_pmoment σ ((x_moment σ) + (1 : Int32))) q_1.2 q_1.1 hq_1) ⟨hx, hb, hml, hown, hts⟩ (cwV 4 hts (gw_V mt_87 mt_89 mt_0 mt_25 mt_90) rfl rfl rfl hdX_hasRoomFor ⟨Nat.le_of_ble_eq_true rfl, Nat.le_of_ble_eq_true rfl⟩) hK hP hD hS hA hZ (q0 := 0) (ci := 0) rfl rfl rfl hl.1 rfl (Nat.le_of_ble_eq_true rfl) dX_link_15 ⟨Nat.zero_le _, Nat.zero_le _⟩ (fun H locs hP hD hS => ?_)
  refine lv_if_ne (tgt := 23) hx hb dX_link_18 (by decide) (fun c_2 => ?_) (fun c_2 => ?_)
  · replace hf := it_f hf c_2
    refine lv_iload_n hx hb dX_link_23 rfl (lv_at hl 2 rfl) ?_
    refine lv_if_ne (tgt := 44) hx hb dX_link_24 (by decide) (fun c_3 => ?_) (fun c_3 => ?_)
    · replace hf := it_f hf c_3
      refine lv_aload_n hx hb dX_link_44 rfl (lv_at hl 0 rfl) ?_
      refine lv_iload_n hx hb dX_link_45 rfl (lv_at hl 1 rfl) ?_
      refine lv_iload_n hx hb dX_link_46 rfl (lv_at hl 2 rfl) ?_
      refine lv_iload_n hx hb dX_link_47 rfl (lv_at hl 3 rfl) ?_
      obtain ⟨q_4, hq_4, hf⟩ := bd_s hf
      refine xw_callVv (kX_addLink l dC dI a cI cZ tb K p1 p2 p3 q_1.2 q_4.2 q_4.1 hq_4) ⟨hx, hb, hml, hown, hts⟩ (cwV 3 hts (gw_V mt_116 mt_118 mt_6 mt_25 mt_119) rfl rfl rfl hdX_addLink ⟨Nat.le_of_ble_eq_true rfl, Nat.le_of_ble_eq_true rfl⟩) hK hP hD hS hA hZ (q0 := 0) (ci := 0) rfl rfl rfl hl.1 rfl (Nat.le_of_ble_eq_true rfl) dX_link_48 ⟨Nat.zero_le _, Nat.zero_le _⟩ (fun H locs hP hD hS => ?_)
      refine lv_aload_n hx hb dX_link_51 rfl (lv_at hl 0 rfl) ?_
      refine lv_iload_n hx hb dX_link_52 rfl (lv_at hl 1 rfl) ?_
      obtain ⟨q_5, hq_5, hf⟩ := bd_s hf
      refine xw_callVv (kX_noteChange l dC dI a cI cZ tb K p1 q_4.2 q_5.2 q_5.1 hq_5) ⟨hx, hb, hml, hown, hts⟩ (cwV 1 hts (gw_V mt_120 mt_122 mt_7 mt_25 mt_123) rfl rfl rfl hdX_noteChange ⟨Nat.le_of_ble_eq_true rfl, Nat.le_of_ble_eq_true rfl⟩) hK hP hD hS hA hZ (q0 := 0) (ci := 0) rfl rfl rfl hl.1 rfl (Nat.le_of_ble_eq_true rfl) dX_link_53 ⟨Nat.zero_le _, Nat.zero_le _⟩ (fun H locs hP hD hS => ?_)
      refine lv_iconst (v := (1 : Int32)) hx hb dX_link_56 (by decide) ?_
      exact xw_iret (wf := (w_X a cI cZ)) hx hb hr hlocks rfl hK hP hD hS hf dX_link_57
    · replace hf := it_t hf c_3
      refine lv_aload_n hx hb dX_link_27 rfl (lv_at hl 0 rfl) ?_
      refine lv_iload_n hx hb dX_link_28 rfl (lv_at hl 3 rfl) ?_
      refine lv_iload_n hx hb dX_link_29 rfl (lv_at hl 1 rfl) ?_
      obtain ⟨q_6, hq_6, hf⟩ := bd_s hf
      refine xw_callV (kX_liesIn l dC dI a cI cZ tb K p3 p1 q_1.2 q_6.2 q_6.1 hq_6) ⟨hx, hb, hml, hown, hts⟩ (cwV 2 hts (gw_V mt_108 mt_110 mt_4 mt_25 mt_111) rfl rfl rfl hdX_liesIn ⟨Nat.le_of_ble_eq_true rfl, Nat.le_of_ble_eq_true rfl⟩) hK hP hD hS hA hZ (q0 := 0) (ci := 0) rfl rfl rfl hl.1 rfl (Nat.le_of_ble_eq_true rfl) dX_link_30 ⟨Nat.zero_le _, Nat.zero_le _⟩ (fun H locs hP hD hS => ?_)
      refine lv_if_eq (tgt := 44) hx hb dX_link_33 (by decide) (fun c_7 => ?_) (fun c_7 => ?_)
      · replace hf := it_t hf c_7
        refine lv_aload_n hx hb dX_link_44 rfl (lv_at hl 0 rfl) ?_
        refine lv_iload_n hx hb dX_link_45 rfl (lv_at hl 1 rfl) ?_
        refine lv_iload_n hx hb dX_link_46 rfl (lv_at hl 2 rfl) ?_
        refine lv_iload_n hx hb dX_link_47 rfl (lv_at hl 3 rfl) ?_
        obtain ⟨q_8, hq_8, hf⟩ := bd_s hf
        refine xw_callVv (kX_addLink l dC dI a cI cZ tb K p1 p2 p3 q_6.2 q_8.2 q_8.1 hq_8) ⟨hx, hb, hml, hown, hts⟩ (cwV 3 hts (gw_V mt_116 mt_118 mt_6 mt_25 mt_119) rfl rfl rfl hdX_addLink ⟨Nat.le_of_ble_eq_true rfl, Nat.le_of_ble_eq_true rfl⟩) hK hP hD hS hA hZ (q0 := 0) (ci := 0) rfl rfl rfl hl.1 rfl (Nat.le_of_ble_eq_true rfl) dX_link_48 ⟨Nat.zero_le _, Nat.zero_le _⟩ (fun H locs hP hD hS => ?_)
        refine lv_aload_n hx hb dX_link_51 rfl (lv_at hl 0 rfl) ?_
        refine lv_iload_n hx hb dX_link_52 rfl (lv_at hl 1 rfl) ?_
        obtain ⟨q_9, hq_9, hf⟩ := bd_s hf
        refine xw_callVv (kX_noteChange l dC dI a cI cZ tb K p1 q_8.2 q_9.2 q_9.1 hq_9) ⟨hx, hb, hml, hown, hts⟩ (cwV 1 hts (gw_V mt_120 mt_122 mt_7 mt_25 mt_123) rfl rfl rfl hdX_noteChange ⟨Nat.le_of_ble_eq_true rfl, Nat.le_of_ble_eq_true rfl⟩) hK hP hD hS hA hZ (q0 := 0) (ci := 0) rfl rfl rfl hl.1 rfl (Nat.le_of_ble_eq_true rfl) dX_link_53 ⟨Nat.zero_le _, Nat.zero_le _⟩ (fun H locs hP hD hS => ?_)
        refine lv_iconst (v := (1 : Int32)) hx hb dX_link_56 (by decide) ?_
        exact xw_iret (wf := (w_X a cI cZ)) hx hb hr hlocks rfl hK hP hD hS hf dX_link_57
      · replace hf := it_f hf c_7
        refine lv_aload_n hx hb dX_link_36 rfl (lv_at hl 0 rfl) ?_
        refine lv_iload_n hx hb dX_link_37 rfl (lv_at hl 3 rfl) ?_
        refine lv_iload_n hx hb dX_link_38 rfl (lv_at hl 1 rfl) ?_
        obtain ⟨q_10, hq_10, hf⟩ := bd_s hf
        refine xw_callVv (kX_keepRefusedWay l dC dI a cI cZ tb K p3 p1 q_6.2 q_10.2 q_10.1 hq_10) ⟨hx, hb, hml, hown, hts⟩ (cwV 2 hts (gw_V mt_112 mt_114 mt_5 mt_25 mt_115) rfl rfl rfl hdX_keepRefusedWay ⟨Nat.le_of_ble_eq_true rfl, Nat.le_of_ble_eq_true rfl⟩) hK hP hD hS hA hZ (q0 := 0) (ci := 0) rfl rfl rfl hl.1 rfl (Nat.le_of_ble_eq_true rfl) dX_link_39 ⟨Nat.zero_le _, Nat.zero_le _⟩ (fun H locs hP hD hS => ?_)
        refine lv_iconst (v := (0 : Int32)) hx hb dX_link_42 (by decide) ?_
        exact xw_iret (wf := (w_X a cI cZ)) hx hb hr hlocks rfl hK hP hD hS hf dX_link_43
  · replace hf := it_t hf c_2
    refine lv_iconst (v := (0 : Int32)) hx hb dX_link_21 (by decide) ?_
    exact xw_iret (wf := (w_X a cI cZ)) hx hb hr hlocks rfl hK hP hD hS hf dX_link_22
