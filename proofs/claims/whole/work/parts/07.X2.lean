def fX_ring (K : Nat) (p1 : Int32) (σ : XSt) : Option (Int32 × XSt) := (if p1 < 0 then some ((0 : Int32), σ) else (if (x_refusedWayLength σ) ≤ p1 then some ((0 : Int32), σ) else (if p1 < 0 ∨ 60 ≤ p1.toNatClampNeg then none else some (((x_refusedWay σ) p1.toNatClampNeg), σ))))
set_option maxHeartbeats 4000000 in
set_option maxRecDepth 100000 in
theorem kX_ring (l : Launch) (dC : Nat → ClassId) (dI : Nat → Nat → Nat) (a : Nat → Nat) (cI cZ : ClassId) (tb : Nat) (K : Nat) (p1 : Int32) (σ σ' : XSt) (r : Int32) (hf : fX_ring K p1 σ = some (r, σ')) : xw_Ct l yX_ring wdX_ring ({ frames := 0, cells := 0, slots := 0, locals := 0 } : Room) (dC, dI) vwCl [(cI, .int), (cZ, .boolean)] (zz tb) ((w_X a cI cZ) σ) ((w_X a cI cZ) σ') [.ref (a 0), .int p1] r := by
  refine xw_ofW (cc := cX_ring) (maxL := 2) (ret := (some .int)) (lv := [(0, .ref (a 0)), (1, .int p1)]) (by decide) rfl (Nat.le_of_ble_eq_true rfl) rfl ?_
  intro p e s m below meth c A hAt hP hD hS ls hl
  obtain ⟨hx, hb, hr, hml, hown, hts, hlocks, hK, hZ, hA⟩ := hAt
  replace hts : ∀ w ∈ lw_g, w.before _ s = true := fun w h => hts w (List.mem_cons_of_mem _ h)
  unfold fX_ring at hf
  refine lv_iload_n hx hb dX_ring_0 rfl (lv_at hl 1 rfl) ?_
  refine lv_if_lt (tgt := 21) hx hb dX_ring_1 (by decide) (fun c_1 => ?_) (fun c_1 => ?_)
  · replace hf := it_t hf c_1
    refine lv_iconst (v := (0 : Int32)) hx hb dX_ring_21 (by decide) ?_
    exact xw_iret (wf := (w_X a cI cZ)) hx hb hr hlocks rfl hK hP hD hS hf dX_ring_22
  · replace hf := it_f hf c_1
    refine lv_iload_n hx hb dX_ring_4 rfl (lv_at hl 1 rfl) ?_
    refine lv_aload_n hx hb dX_ring_5 rfl (lv_at hl 0 rfl) ?_
    refine aX_get_refusedWayLength (σ := σ) (v := (x_refusedWayLength σ)) rfl hx hb hts hown hK hP dX_ring_6 ?_
    refine lv_icmp_ge (tgt := 21) hx hb dX_ring_9 (by decide) (fun c_2 => ?_) (fun c_2 => ?_)
    · replace hf := it_t hf c_2
      refine lv_iconst (v := (0 : Int32)) hx hb dX_ring_21 (by decide) ?_
      exact xw_iret (wf := (w_X a cI cZ)) hx hb hr hlocks rfl hK hP hD hS hf dX_ring_22
    · replace hf := it_f hf c_2
      refine lv_aload_n hx hb dX_ring_12 rfl (lv_at hl 0 rfl) ?_
      refine aX_get_refusedWay hx hb hts hown hK hP dX_ring_13 ?_
      refine lv_iload_n hx hb dX_ring_16 rfl (lv_at hl 1 rfl) ?_
      obtain ⟨g_3, hf⟩ := gd_f hf
      refine aX_ld_refusedWay (σ := σ) (f := (x_refusedWay σ)) rfl hx hb hK hP g_3 dX_ring_17 ?_
      refine lv_goto (tgt := 22) hx hb dX_ring_18 (by decide) ?_
      exact xw_iret (wf := (w_X a cI cZ)) hx hb hr hlocks rfl hK hP hD hS hf dX_ring_22
def fX_host (K : Nat) (p1 : Int32) (σ : XSt) : Option (Int32 × XSt) := ((fX_isLive K p1 σ).bind fun q_1 => (if q_1.1 = 0 then some ((0 : Int32), q_1.2) else (if p1 < 0 ∨ 61 ≤ p1.toNatClampNeg then none else some (((x_hosts q_1.2) p1.toNatClampNeg), q_1.2))))
set_option maxHeartbeats 4000000 in
set_option maxRecDepth 100000 in
theorem kX_host (l : Launch) (dC : Nat → ClassId) (dI : Nat → Nat → Nat) (a : Nat → Nat) (cI cZ : ClassId) (tb : Nat) (K : Nat) (p1 : Int32) (σ σ' : XSt) (r : Int32) (hf : fX_host K p1 σ = some (r, σ')) : xw_Ct l yX_host wdX_host ({ frames := 2, cells := 0, slots := 0, locals := 42 } : Room) (dC, dI) vwCl [(cI, .int), (cZ, .boolean)] (zz tb) ((w_X a cI cZ) σ) ((w_X a cI cZ) σ') [.ref (a 0), .int p1] r := by
  refine xw_ofW (cc := cX_host) (maxL := 2) (ret := (some .int)) (lv := [(0, .ref (a 0)), (1, .int p1)]) (by decide) rfl (Nat.le_of_ble_eq_true rfl) rfl ?_
  intro p e s m below meth c A hAt hP hD hS ls hl
  obtain ⟨hx, hb, hr, hml, hown, hts, hlocks, hK, hZ, hA⟩ := hAt
  replace hts : ∀ w ∈ lw_g, w.before _ s = true := fun w h => hts w (List.mem_cons_of_mem _ h)
  unfold fX_host at hf
  refine lv_aload_n hx hb dX_host_0 rfl (lv_at hl 0 rfl) ?_
  refine lv_iload_n hx hb dX_host_1 rfl (lv_at hl 1 rfl) ?_
  obtain ⟨q_1, hq_1, hf⟩ := bd_s hf
  refine xw_callV (kX_isLive l dC dI a cI cZ tb K p1 σ q_1.2 q_1.1 hq_1) ⟨hx, hb, hml, hown, hts⟩ (cwV 1 hts (gw_V mt_91 mt_93 mt_1 mt_25 mt_94) rfl rfl rfl hdX_isLive ⟨Nat.le_of_ble_eq_true rfl, Nat.le_of_ble_eq_true rfl⟩) hK hP hD hS hA hZ (q0 := 0) (ci := 0) rfl rfl rfl hl.1 rfl (Nat.le_of_ble_eq_true rfl) dX_host_2 ⟨Nat.zero_le _, Nat.zero_le _⟩ (fun H locs hP hD hS => ?_)
  refine lv_if_eq (tgt := 17) hx hb dX_host_5 (by decide) (fun c_2 => ?_) (fun c_2 => ?_)
  · replace hf := it_t hf c_2
    refine lv_iconst (v := (0 : Int32)) hx hb dX_host_17 (by decide) ?_
    exact xw_iret (wf := (w_X a cI cZ)) hx hb hr hlocks rfl hK hP hD hS hf dX_host_18
  · replace hf := it_f hf c_2
    refine lv_aload_n hx hb dX_host_8 rfl (lv_at hl 0 rfl) ?_
    refine aX_get_hosts hx hb hts hown hK hP dX_host_9 ?_
    refine lv_iload_n hx hb dX_host_12 rfl (lv_at hl 1 rfl) ?_
    obtain ⟨g_3, hf⟩ := gd_f hf
    refine aX_ld_hosts (σ := q_1.2) (f := (x_hosts q_1.2)) rfl hx hb hK hP g_3 dX_host_13 ?_
    refine lv_goto (tgt := 18) hx hb dX_host_14 (by decide) ?_
    exact xw_iret (wf := (w_X a cI cZ)) hx hb hr hlocks rfl hK hP hD hS hf dX_host_18
def gX_move_35 (K : Nat) : Nat → Int32 → Int32 → Int32 → Int32 → XSt → Option (Int32 × XSt)
  | 0, _, _, _, _, _ => none
  | n + 1, x1, x2, x3, x4, τ => (if (x_records τ) < x4 then some (x3, τ) else (if x4 = x1 then (if x4 < 0 ∨ 61 ≤ x4.toNatClampNeg then none else (if ((x_houses τ) x4.toNatClampNeg) = x2 then (gX_move_35 K n x1 x2 x3 (x4 + 1) τ) else (if x4 < 0 ∨ 61 ≤ x4.toNatClampNeg then none else (gX_move_35 K n x1 x2 (x3 + 1) (x4 + 1) (x_phouses τ (upd (x_houses τ) x4.toNatClampNeg x2)))))) else (if x4 < 0 ∨ 61 ≤ x4.toNatClampNeg then none else (if ((x_live τ) x4.toNatClampNeg) = 0 then (gX_move_35 K n x1 x2 x3 (x4 + 1) τ) else ((fX_liesIn K x4 x1 τ).bind fun q_14 => (if q_14.1 = 0 then (gX_move_35 K n x1 x2 x3 (x4 + 1) q_14.2) else (if x4 < 0 ∨ 61 ≤ x4.toNatClampNeg then none else (if ((x_houses q_14.2) x4.toNatClampNeg) = x2 then (gX_move_35 K n x1 x2 x3 (x4 + 1) q_14.2) else (if x4 < 0 ∨ 61 ≤ x4.toNatClampNeg then none else (gX_move_35 K n x1 x2 (x3 + 1) (x4 + 1) (x_phouses q_14.2 (upd (x_houses q_14.2) x4.toNatClampNeg x2))))))))))))
def fX_move (K : Nat) (p1 p2 : Int32) (σ : XSt) : Option (Int32 × XSt) := ((fX_isLive K p1 (x_pmoment σ ((x_moment σ) + (1 : Int32)))).bind fun q_1 => (if q_1.1 = 0 then some ((0 : Int32), q_1.2) else (if p2 < 0 then some ((0 : Int32), q_1.2) else (if p2 ≤ (9 : Int32) then (gX_move_35 K K p1 p2 (0 : Int32) (1 : Int32) q_1.2) else some ((0 : Int32), q_1.2)))))
set_option maxHeartbeats 4000000 in
set_option maxRecDepth 100000 in
theorem kX_move (l : Launch) (dC : Nat → ClassId) (dI : Nat → Nat → Nat) (a : Nat → Nat) (cI cZ : ClassId) (tb : Nat) (K : Nat) (p1 p2 : Int32) (σ σ' : XSt) (r : Int32) (hf : fX_move K p1 p2 σ = some (r, σ')) : xw_Ct l yX_move wdX_move ({ frames := 2, cells := 0, slots := 0, locals := 42 } : Room) (dC, dI) vwCl [(cI, .int), (cZ, .boolean)] (zz tb) ((w_X a cI cZ) σ) ((w_X a cI cZ) σ') [.ref (a 0), .int p1, .int p2] r := by
  refine xw_ofW (cc := cX_move) (maxL := 6) (ret := (some .int)) (lv := [(0, .ref (a 0)), (1, .int p1), (2, .int p2)]) (by decide) rfl (Nat.le_of_ble_eq_true rfl) rfl ?_
  intro p e s m below meth c A hAt hP hD hS ls hl
  obtain ⟨hx, hb, hr, hml, hown, hts, hlocks, hK, hZ, hA⟩ := hAt
  replace hts : ∀ w ∈ lw_g, w.before _ s = true := fun w h => hts w (List.mem_cons_of_mem _ h)
  have L_35 : ∀ (n : Nat) (x1 x2 x3 x4 : Int32) (τ : XSt), gX_move_35 K n x1 x2 x3 x4 τ = some (r, σ') → ∀ (H : Heap) (locs : List Loc), va_P (dC, dI) vwCl ((w_X a cI cZ) τ) H → va_D A ((w_X a cI cZ) τ) → va_S A s.heap H locs → ∀ (ls : Array Slot), lv_has ls 6 [(0, .ref (a 0)), (1, .int x1), (2, .int x2), (3, .int x3), (4, .int x4)] → W p l e ({ frames := 2, cells := 0, slots := 0, locals := 42 } : Room) s m ([.ref (a 0), .int p1, .int p2] : List Value).toArray below meth c H locs 0 0 (MQ below (va_Qi (fun (r2 : Int32) (_ : Unit) => r2 = r) (fun _ t => xw_B (dC, dI) vwCl [(cI, .int), (cZ, .boolean)] A ((w_X a cI cZ) σ') t) A) ([.ref (a 0), .int p1, .int p2] : List Value).toArray s 0 0 A) (F0 m 35 ls []) := by
    intro n
    induction n with
    | zero =>
      intro x1 x2 x3 x4 τ hf
      rw [gX_move_35] at hf
      cases hf
    | succ n ih =>
      intro x1 x2 x3 x4 τ hf H locs hP hD hS ls hl
      rw [gX_move_35] at hf
      refine lv_iload hx hb dX_move_35 (lv_at hl 4 rfl) ?_
      refine lv_aload_n hx hb dX_move_37 rfl (lv_at hl 0 rfl) ?_
      refine aX_get_records (σ := τ) (v := (x_records τ)) rfl hx hb hts hown hK hP dX_move_38 ?_
      refine lv_icmp_gt (tgt := 110) hx hb dX_move_41 (by decide) (fun c_5 => ?_) (fun c_5 => ?_)
      · replace hf := it_t hf c_5
        refine lv_iload_n hx hb dX_move_110 rfl (lv_at hl 3 rfl) ?_
        exact xw_iret (wf := (w_X a cI cZ)) hx hb hr hlocks rfl hK hP hD hS hf dX_move_111
      · replace hf := it_f hf c_5
        refine lv_iload hx hb dX_move_44 (lv_at hl 4 rfl) ?_
        refine lv_iload_n hx hb dX_move_46 rfl (lv_at hl 1 rfl) ?_
        refine lv_icmp_eq (tgt := 70) hx hb dX_move_47 (by decide) (fun c_6 => ?_) (fun c_6 => ?_)
        · replace hf := it_t hf c_6
          refine lv_iconst (v := (1 : Int32)) hx hb dX_move_70 (by decide) ?_
          refine lv_goto (tgt := 75) hx hb dX_move_71 (by decide) ?_
          refine lv_istore (lv' := [(5, .int (1 : Int32)), (0, .ref (a 0)), (1, .int x1), (2, .int x2), (3, .int x3), (4, .int x4)]) hx hb dX_move_75 hl (by decide) rfl (fun ls hl => ?_)
          refine lv_iload hx hb dX_move_77 (lv_at hl 0 rfl) ?_
          refine lv_if_eq (tgt := 104) hx hb dX_move_79 (by decide) (fun c_7 => absurd c_7 (by decide)) (fun c_7 => ?_)
          refine lv_aload_n hx hb dX_move_82 rfl (lv_at hl 1 rfl) ?_
          refine aX_get_houses hx hb hts hown hK hP dX_move_83 ?_
          refine lv_iload hx hb dX_move_86 (lv_at hl 5 rfl) ?_
          obtain ⟨g_8, hf⟩ := gd_f hf
          refine aX_ld_houses (σ := τ) (f := (x_houses τ)) rfl hx hb hK hP g_8 dX_move_88 ?_
          refine lv_iload_n hx hb dX_move_89 rfl (lv_at hl 3 rfl) ?_
          refine lv_icmp_eq (tgt := 104) hx hb dX_move_90 (by decide) (fun c_9 => ?_) (fun c_9 => ?_)
          · replace hf := it_t hf c_9
            refine lv_iinc (v := (x4 + 1)) (lv' := [(4, .int (x4 + 1)), (5, .int (1 : Int32)), (0, .ref (a 0)), (1, .int x1), (2, .int x2), (3, .int x3)]) hx hb dX_move_104 hl (k := 5) rfl (congrArg (HAdd.hAdd _) (by decide : Int32.ofInt (1) = (1 : Int32))) (by decide) rfl (fun ls hl => ?_)
            refine lv_goto (tgt := 35) hx hb dX_move_107 (by decide) ?_
            exact ih x1 x2 x3 (x4 + 1) τ hf _ _ hP hD hS _ (lv_sub hl [2, 3, 4, 5, 0] rfl)
          · replace hf := it_f hf c_9
            refine lv_aload_n hx hb dX_move_93 rfl (lv_at hl 1 rfl) ?_
            refine aX_get_houses hx hb hts hown hK hP dX_move_94 ?_
            refine lv_iload hx hb dX_move_97 (lv_at hl 5 rfl) ?_
            refine lv_iload_n hx hb dX_move_99 rfl (lv_at hl 3 rfl) ?_
            obtain ⟨g_10, hf⟩ := gd_f hf
            refine aX_st_houses (σ := τ) (f := (x_houses τ)) (x := x2) (τ := (x_phouses τ (upd (x_houses τ) x4.toNatClampNeg x2))) rfl rfl hx hb hK hP hD hS g_10 dX_move_100 (fun H locs hP hD hS => ?_)
            refine lv_iinc (v := (x3 + 1)) (lv' := [(3, .int (x3 + 1)), (5, .int (1 : Int32)), (0, .ref (a 0)), (1, .int x1), (2, .int x2), (4, .int x4)]) hx hb dX_move_101 hl (k := 4) rfl (congrArg (HAdd.hAdd _) (by decide : Int32.ofInt (1) = (1 : Int32))) (by decide) rfl (fun ls hl => ?_)
            refine lv_iinc (v := (x4 + 1)) (lv' := [(4, .int (x4 + 1)), (3, .int (x3 + 1)), (5, .int (1 : Int32)), (0, .ref (a 0)), (1, .int x1), (2, .int x2)]) hx hb dX_move_104 hl (k := 5) rfl (congrArg (HAdd.hAdd _) (by decide : Int32.ofInt (1) = (1 : Int32))) (by decide) rfl (fun ls hl => ?_)
            refine lv_goto (tgt := 35) hx hb dX_move_107 (by decide) ?_
            exact ih x1 x2 (x3 + 1) (x4 + 1) (x_phouses τ (upd (x_houses τ) x4.toNatClampNeg x2)) hf _ _ hP hD hS _ (lv_sub hl [3, 4, 5, 1, 0] rfl)
        · replace hf := it_f hf c_6
          refine lv_aload_n hx hb dX_move_50 rfl (lv_at hl 0 rfl) ?_
          refine aX_get_live hx hb hts hown hK hP dX_move_51 ?_
          refine lv_iload hx hb dX_move_54 (lv_at hl 4 rfl) ?_
          obtain ⟨g_11, hf⟩ := gd_f hf
          refine aX_ld_live (σ := τ) (f := (x_live τ)) rfl hx hb hK hP g_11 dX_move_56 ?_
          refine lv_if_eq (tgt := 74) hx hb dX_move_57 (by decide) (fun c_12 => ?_) (fun c_12 => ?_)
          · replace hf := it_t hf c_12
            refine lv_iconst (v := (0 : Int32)) hx hb dX_move_74 (by decide) ?_
            refine lv_istore (lv' := [(5, .int (0 : Int32)), (0, .ref (a 0)), (1, .int x1), (2, .int x2), (3, .int x3), (4, .int x4)]) hx hb dX_move_75 hl (by decide) rfl (fun ls hl => ?_)
            refine lv_iload hx hb dX_move_77 (lv_at hl 0 rfl) ?_
            refine lv_if_eq (tgt := 104) hx hb dX_move_79 (by decide) (fun c_13 => ?_) (fun c_13 => absurd c_13 (by decide))
            refine lv_iinc (v := (x4 + 1)) (lv' := [(4, .int (x4 + 1)), (5, .int (0 : Int32)), (0, .ref (a 0)), (1, .int x1), (2, .int x2), (3, .int x3)]) hx hb dX_move_104 hl (k := 5) rfl (congrArg (HAdd.hAdd _) (by decide : Int32.ofInt (1) = (1 : Int32))) (by decide) rfl (fun ls hl => ?_)
            refine lv_goto (tgt := 35) hx hb dX_move_107 (by decide) ?_
            exact ih x1 x2 x3 (x4 + 1) τ hf _ _ hP hD hS _ (lv_sub hl [2, 3, 4, 5, 0] rfl)
          · replace hf := it_f hf c_12
            refine lv_aload_n hx hb dX_move_60 rfl (lv_at hl 0 rfl) ?_
            refine lv_iload hx hb dX_move_61 (lv_at hl 4 rfl) ?_
            refine lv_iload_n hx hb dX_move_63 rfl (lv_at hl 1 rfl) ?_
            obtain ⟨q_14, hq_14, hf⟩ := bd_s hf
            refine xw_callV (kX_liesIn l dC dI a cI cZ tb K x4 x1 τ q_14.2 q_14.1 hq_14) ⟨hx, hb, hml, hown, hts⟩ (cwV 2 hts (gw_V mt_108 mt_110 mt_4 mt_25 mt_111) rfl rfl rfl hdX_liesIn ⟨Nat.le_of_ble_eq_true rfl, Nat.le_of_ble_eq_true rfl⟩) hK hP hD hS hA hZ (q0 := 0) (ci := 0) rfl rfl rfl hl.1 rfl (Nat.le_of_ble_eq_true rfl) dX_move_64 ⟨Nat.zero_le _, Nat.zero_le _⟩ (fun H locs hP hD hS => ?_)
            refine lv_if_eq (tgt := 74) hx hb dX_move_67 (by decide) (fun c_15 => ?_) (fun c_15 => ?_)
            · replace hf := it_t hf c_15
              refine lv_iconst (v := (0 : Int32)) hx hb dX_move_74 (by decide) ?_
              refine lv_istore (lv' := [(5, .int (0 : Int32)), (0, .ref (a 0)), (1, .int x1), (2, .int x2), (3, .int x3), (4, .int x4)]) hx hb dX_move_75 hl (by decide) rfl (fun ls hl => ?_)
              refine lv_iload hx hb dX_move_77 (lv_at hl 0 rfl) ?_
              refine lv_if_eq (tgt := 104) hx hb dX_move_79 (by decide) (fun c_16 => ?_) (fun c_16 => absurd c_16 (by decide))
              refine lv_iinc (v := (x4 + 1)) (lv' := [(4, .int (x4 + 1)), (5, .int (0 : Int32)), (0, .ref (a 0)), (1, .int x1), (2, .int x2), (3, .int x3)]) hx hb dX_move_104 hl (k := 5) rfl (congrArg (HAdd.hAdd _) (by decide : Int32.ofInt (1) = (1 : Int32))) (by decide) rfl (fun ls hl => ?_)
              refine lv_goto (tgt := 35) hx hb dX_move_107 (by decide) ?_
              exact ih x1 x2 x3 (x4 + 1) q_14.2 hf _ _ hP hD hS _ (lv_sub hl [2, 3, 4, 5, 0] rfl)
            · replace hf := it_f hf c_15
              refine lv_iconst (v := (1 : Int32)) hx hb dX_move_70 (by decide) ?_
              refine lv_goto (tgt := 75) hx hb dX_move_71 (by decide) ?_
              refine lv_istore (lv' := [(5, .int (1 : Int32)), (0, .ref (a 0)), (1, .int x1), (2, .int x2), (3, .int x3), (4, .int x4)]) hx hb dX_move_75 hl (by decide) rfl (fun ls hl => ?_)
              refine lv_iload hx hb dX_move_77 (lv_at hl 0 rfl) ?_
              refine lv_if_eq (tgt := 104) hx hb dX_move_79 (by decide) (fun c_17 => absurd c_17 (by decide)) (fun c_17 => ?_)
              refine lv_aload_n hx hb dX_move_82 rfl (lv_at hl 1 rfl) ?_
              refine aX_get_houses hx hb hts hown hK hP dX_move_83 ?_
              refine lv_iload hx hb dX_move_86 (lv_at hl 5 rfl) ?_
              obtain ⟨g_18, hf⟩ := gd_f hf
              refine aX_ld_houses (σ := q_14.2) (f := (x_houses q_14.2)) rfl hx hb hK hP g_18 dX_move_88 ?_
              refine lv_iload_n hx hb dX_move_89 rfl (lv_at hl 3 rfl) ?_
              refine lv_icmp_eq (tgt := 104) hx hb dX_move_90 (by decide) (fun c_19 => ?_) (fun c_19 => ?_)
              · replace hf := it_t hf c_19
                refine lv_iinc (v := (x4 + 1)) (lv' := [(4, .int (x4 + 1)), (5, .int (1 : Int32)), (0, .ref (a 0)), (1, .int x1), (2, .int x2), (3, .int x3)]) hx hb dX_move_104 hl (k := 5) rfl (congrArg (HAdd.hAdd _) (by decide : Int32.ofInt (1) = (1 : Int32))) (by decide) rfl (fun ls hl => ?_)
                refine lv_goto (tgt := 35) hx hb dX_move_107 (by decide) ?_
                exact ih x1 x2 x3 (x4 + 1) q_14.2 hf _ _ hP hD hS _ (lv_sub hl [2, 3, 4, 5, 0] rfl)
              · replace hf := it_f hf c_19
                refine lv_aload_n hx hb dX_move_93 rfl (lv_at hl 1 rfl) ?_
                refine aX_get_houses hx hb hts hown hK hP dX_move_94 ?_
                refine lv_iload hx hb dX_move_97 (lv_at hl 5 rfl) ?_
                refine lv_iload_n hx hb dX_move_99 rfl (lv_at hl 3 rfl) ?_
                obtain ⟨g_20, hf⟩ := gd_f hf
                refine aX_st_houses (σ := q_14.2) (f := (x_houses q_14.2)) (x := x2) (τ := (x_phouses q_14.2 (upd (x_houses q_14.2) x4.toNatClampNeg x2))) rfl rfl hx hb hK hP hD hS g_20 dX_move_100 (fun H locs hP hD hS => ?_)
                refine lv_iinc (v := (x3 + 1)) (lv' := [(3, .int (x3 + 1)), (5, .int (1 : Int32)), (0, .ref (a 0)), (1, .int x1), (2, .int x2), (4, .int x4)]) hx hb dX_move_101 hl (k := 4) rfl (congrArg (HAdd.hAdd _) (by decide : Int32.ofInt (1) = (1 : Int32))) (by decide) rfl (fun ls hl => ?_)
                refine lv_iinc (v := (x4 + 1)) (lv' := [(4, .int (x4 + 1)), (3, .int (x3 + 1)), (5, .int (1 : Int32)), (0, .ref (a 0)), (1, .int x1), (2, .int x2)]) hx hb dX_move_104 hl (k := 5) rfl (congrArg (HAdd.hAdd _) (by decide : Int32.ofInt (1) = (1 : Int32))) (by decide) rfl (fun ls hl => ?_)
                refine lv_goto (tgt := 35) hx hb dX_move_107 (by decide) ?_
                exact ih x1 x2 (x3 + 1) (x4 + 1) (x_phouses q_14.2 (upd (x_houses q_14.2) x4.toNatClampNeg x2)) hf _ _ hP hD hS _ (lv_sub hl [3, 4, 5, 1, 0] rfl)
  unfold fX_move at hf
  refine lv_aload_n hx hb dX_move_0 rfl (lv_at hl 0 rfl) ?_
  refine lv_dup hx hb dX_move_1 rfl ?_
  refine aX_get_moment (σ := σ) (v := (x_moment σ)) rfl hx hb hts hown hK hP dX_move_2 ?_
  refine lv_iconst (v := (1 : Int32)) hx hb dX_move_5 (by decide) ?_
  refine lv_iadd hx hb dX_move_6 ?_
  refine aX_put_moment (σ := σ) (v := ((x_moment σ) + (1 : Int32))) (τ := (x_pmoment σ ((x_moment σ) + (1 : Int32)))) rfl hx hb hts hown hK hP hD hS dX_move_7 (fun H locs hP hD hS => ?_)
  refine lv_aload_n hx hb dX_move_10 rfl (lv_at hl 0 rfl) ?_
  refine lv_iload_n hx hb dX_move_11 rfl (lv_at hl 1 rfl) ?_
  obtain ⟨q_1, hq_1, hf⟩ := bd_s hf
  refine xw_callV (kX_isLive l dC dI a cI cZ tb K p1 (x_pmoment σ ((x_moment σ) + (1 : Int32))) q_1.2 q_1.1 hq_1) ⟨hx, hb, hml, hown, hts⟩ (cwV 1 hts (gw_V mt_91 mt_93 mt_1 mt_25 mt_94) rfl rfl rfl hdX_isLive ⟨Nat.le_of_ble_eq_true rfl, Nat.le_of_ble_eq_true rfl⟩) hK hP hD hS hA hZ (q0 := 0) (ci := 0) rfl rfl rfl hl.1 rfl (Nat.le_of_ble_eq_true rfl) dX_move_12 ⟨Nat.zero_le _, Nat.zero_le _⟩ (fun H locs hP hD hS => ?_)
  refine lv_if_eq (tgt := 28) hx hb dX_move_15 (by decide) (fun c_2 => ?_) (fun c_2 => ?_)
  · replace hf := it_t hf c_2
    refine lv_iconst (v := (0 : Int32)) hx hb dX_move_28 (by decide) ?_
    exact xw_iret (wf := (w_X a cI cZ)) hx hb hr hlocks rfl hK hP hD hS hf dX_move_29
  · replace hf := it_f hf c_2
    refine lv_iload_n hx hb dX_move_18 rfl (lv_at hl 2 rfl) ?_
    refine lv_if_lt (tgt := 28) hx hb dX_move_19 (by decide) (fun c_3 => ?_) (fun c_3 => ?_)
    · replace hf := it_t hf c_3
      refine lv_iconst (v := (0 : Int32)) hx hb dX_move_28 (by decide) ?_
      exact xw_iret (wf := (w_X a cI cZ)) hx hb hr hlocks rfl hK hP hD hS hf dX_move_29
    · replace hf := it_f hf c_3
      refine lv_iload_n hx hb dX_move_22 rfl (lv_at hl 2 rfl) ?_
      refine lv_bipush (v := (9 : Int32)) hx hb dX_move_23 (by decide) ?_
      refine lv_icmp_le (tgt := 30) hx hb dX_move_25 (by decide) (fun c_4 => ?_) (fun c_4 => ?_)
      · replace hf := it_t hf c_4
        refine lv_iconst (v := (0 : Int32)) hx hb dX_move_30 (by decide) ?_
        refine lv_istore_n (lv' := [(3, .int (0 : Int32)), (0, .ref (a 0)), (1, .int p1), (2, .int p2)]) hx hb dX_move_31 rfl hl (by decide) rfl (fun ls hl => ?_)
        refine lv_iconst (v := (1 : Int32)) hx hb dX_move_32 (by decide) ?_
        refine lv_istore (lv' := [(4, .int (1 : Int32)), (3, .int (0 : Int32)), (0, .ref (a 0)), (1, .int p1), (2, .int p2)]) hx hb dX_move_33 hl (by decide) rfl (fun ls hl => ?_)
        exact L_35 K p1 p2 (0 : Int32) (1 : Int32) q_1.2 hf _ _ hP hD hS _ (lv_sub hl [2, 3, 4, 1, 0] rfl)
      · replace hf := it_f hf c_4
        refine lv_iconst (v := (0 : Int32)) hx hb dX_move_28 (by decide) ?_
        exact xw_iret (wf := (w_X a cI cZ)) hx hb hr hlocks rfl hK hP hD hS hf dX_move_29
def gX_countHostedBy_4 (K : Nat) : Nat → Int32 → Int32 → Int32 → XSt → Option (Int32 × XSt)
  | 0, _, _, _, _ => none
  | n + 1, x1, x2, x3, τ => (if (x_records τ) < x3 then some (x2, τ) else (if x3 < 0 ∨ 61 ≤ x3.toNatClampNeg then none else (if ((x_live τ) x3.toNatClampNeg) = 0 then (gX_countHostedBy_4 K n x1 x2 (x3 + 1) τ) else (if x3 < 0 ∨ 61 ≤ x3.toNatClampNeg then none else (if ((x_hosts τ) x3.toNatClampNeg) = x1 then (gX_countHostedBy_4 K n x1 (x2 + 1) (x3 + 1) τ) else (gX_countHostedBy_4 K n x1 x2 (x3 + 1) τ))))))
def fX_countHostedBy (K : Nat) (p1 : Int32) (σ : XSt) : Option (Int32 × XSt) := (gX_countHostedBy_4 K K p1 (0 : Int32) (1 : Int32) σ)
set_option maxHeartbeats 4000000 in
set_option maxRecDepth 100000 in
theorem kX_countHostedBy (l : Launch) (dC : Nat → ClassId) (dI : Nat → Nat → Nat) (a : Nat → Nat) (cI cZ : ClassId) (tb : Nat) (K : Nat) (p1 : Int32) (σ σ' : XSt) (r : Int32) (hf : fX_countHostedBy K p1 σ = some (r, σ')) : xw_Ct l yX_countHostedBy wdX_countHostedBy ({ frames := 0, cells := 0, slots := 0, locals := 0 } : Room) (dC, dI) vwCl [(cI, .int), (cZ, .boolean)] (zz tb) ((w_X a cI cZ) σ) ((w_X a cI cZ) σ') [.ref (a 0), .int p1] r := by
  refine xw_ofW (cc := cX_countHostedBy) (maxL := 4) (ret := (some .int)) (lv := [(0, .ref (a 0)), (1, .int p1)]) (by decide) rfl (Nat.le_of_ble_eq_true rfl) rfl ?_
  intro p e s m below meth c A hAt hP hD hS ls hl
  obtain ⟨hx, hb, hr, hml, hown, hts, hlocks, hK, hZ, hA⟩ := hAt
  replace hts : ∀ w ∈ lw_g, w.before _ s = true := fun w h => hts w (List.mem_cons_of_mem _ h)
  have L_4 : ∀ (n : Nat) (x1 x2 x3 : Int32) (τ : XSt), gX_countHostedBy_4 K n x1 x2 x3 τ = some (r, σ') → ∀ (H : Heap) (locs : List Loc), va_P (dC, dI) vwCl ((w_X a cI cZ) τ) H → va_D A ((w_X a cI cZ) τ) → va_S A s.heap H locs → ∀ (ls : Array Slot), lv_has ls 4 [(0, .ref (a 0)), (1, .int x1), (2, .int x2), (3, .int x3)] → W p l e ({ frames := 0, cells := 0, slots := 0, locals := 0 } : Room) s m ([.ref (a 0), .int p1] : List Value).toArray below meth c H locs 0 0 (MQ below (va_Qi (fun (r2 : Int32) (_ : Unit) => r2 = r) (fun _ t => xw_B (dC, dI) vwCl [(cI, .int), (cZ, .boolean)] A ((w_X a cI cZ) σ') t) A) ([.ref (a 0), .int p1] : List Value).toArray s 0 0 A) (F0 m 4 ls []) := by
    intro n
    induction n with
    | zero =>
      intro x1 x2 x3 τ hf
      rw [gX_countHostedBy_4] at hf
      cases hf
    | succ n ih =>
      intro x1 x2 x3 τ hf H locs hP hD hS ls hl
      rw [gX_countHostedBy_4] at hf
      refine lv_iload_n hx hb dX_countHostedBy_4 rfl (lv_at hl 3 rfl) ?_
      refine lv_aload_n hx hb dX_countHostedBy_5 rfl (lv_at hl 0 rfl) ?_
      refine aX_get_records (σ := τ) (v := (x_records τ)) rfl hx hb hts hown hK hP dX_countHostedBy_6 ?_
      refine lv_icmp_gt (tgt := 40) hx hb dX_countHostedBy_9 (by decide) (fun c_1 => ?_) (fun c_1 => ?_)
      · replace hf := it_t hf c_1
        refine lv_iload_n hx hb dX_countHostedBy_40 rfl (lv_at hl 2 rfl) ?_
        exact xw_iret (wf := (w_X a cI cZ)) hx hb hr hlocks rfl hK hP hD hS hf dX_countHostedBy_41
      · replace hf := it_f hf c_1
        refine lv_aload_n hx hb dX_countHostedBy_12 rfl (lv_at hl 0 rfl) ?_
        refine aX_get_live hx hb hts hown hK hP dX_countHostedBy_13 ?_
        refine lv_iload_n hx hb dX_countHostedBy_16 rfl (lv_at hl 3 rfl) ?_
        obtain ⟨g_2, hf⟩ := gd_f hf
        refine aX_ld_live (σ := τ) (f := (x_live τ)) rfl hx hb hK hP g_2 dX_countHostedBy_17 ?_
        refine lv_if_eq (tgt := 34) hx hb dX_countHostedBy_18 (by decide) (fun c_3 => ?_) (fun c_3 => ?_)
        · replace hf := it_t hf c_3
          refine lv_iinc (v := (x3 + 1)) (lv' := [(3, .int (x3 + 1)), (0, .ref (a 0)), (1, .int x1), (2, .int x2)]) hx hb dX_countHostedBy_34 hl (k := 3) rfl (congrArg (HAdd.hAdd _) (by decide : Int32.ofInt (1) = (1 : Int32))) (by decide) rfl (fun ls hl => ?_)
          refine lv_goto (tgt := 4) hx hb dX_countHostedBy_37 (by decide) ?_
          exact ih x1 x2 (x3 + 1) τ hf _ _ hP hD hS _ (lv_sub hl [1, 2, 3, 0] rfl)
        · replace hf := it_f hf c_3
          refine lv_aload_n hx hb dX_countHostedBy_21 rfl (lv_at hl 0 rfl) ?_
          refine aX_get_hosts hx hb hts hown hK hP dX_countHostedBy_22 ?_
          refine lv_iload_n hx hb dX_countHostedBy_25 rfl (lv_at hl 3 rfl) ?_
          obtain ⟨g_4, hf⟩ := gd_f hf
          refine aX_ld_hosts (σ := τ) (f := (x_hosts τ)) rfl hx hb hK hP g_4 dX_countHostedBy_26 ?_
          refine lv_iload_n hx hb dX_countHostedBy_27 rfl (lv_at hl 1 rfl) ?_
          refine lv_icmp_ne (tgt := 34) hx hb dX_countHostedBy_28 (by decide) (fun c_5 => ?_) (fun c_5 => ?_)
          · replace hf := it_f hf c_5
            refine lv_iinc (v := (x3 + 1)) (lv' := [(3, .int (x3 + 1)), (0, .ref (a 0)), (1, .int x1), (2, .int x2)]) hx hb dX_countHostedBy_34 hl (k := 3) rfl (congrArg (HAdd.hAdd _) (by decide : Int32.ofInt (1) = (1 : Int32))) (by decide) rfl (fun ls hl => ?_)
            refine lv_goto (tgt := 4) hx hb dX_countHostedBy_37 (by decide) ?_
            exact ih x1 x2 (x3 + 1) τ hf _ _ hP hD hS _ (lv_sub hl [1, 2, 3, 0] rfl)
          · replace hf := it_t hf c_5
            refine lv_iinc (v := (x2 + 1)) (lv' := [(2, .int (x2 + 1)), (0, .ref (a 0)), (1, .int x1), (3, .int x3)]) hx hb dX_countHostedBy_31 hl (k := 2) rfl (congrArg (HAdd.hAdd _) (by decide : Int32.ofInt (1) = (1 : Int32))) (by decide) rfl (fun ls hl => ?_)
            refine lv_iinc (v := (x3 + 1)) (lv' := [(3, .int (x3 + 1)), (2, .int (x2 + 1)), (0, .ref (a 0)), (1, .int x1)]) hx hb dX_countHostedBy_34 hl (k := 3) rfl (congrArg (HAdd.hAdd _) (by decide : Int32.ofInt (1) = (1 : Int32))) (by decide) rfl (fun ls hl => ?_)
            refine lv_goto (tgt := 4) hx hb dX_countHostedBy_37 (by decide) ?_
            exact ih x1 (x2 + 1) (x3 + 1) τ hf _ _ hP hD hS _ (lv_sub hl [2, 3, 1, 0] rfl)
  unfold fX_countHostedBy at hf
  refine lv_iconst (v := (0 : Int32)) hx hb dX_countHostedBy_0 (by decide) ?_
  refine lv_istore_n (lv' := [(2, .int (0 : Int32)), (0, .ref (a 0)), (1, .int p1)]) hx hb dX_countHostedBy_1 rfl hl (by decide) rfl (fun ls hl => ?_)
  refine lv_iconst (v := (1 : Int32)) hx hb dX_countHostedBy_2 (by decide) ?_
  refine lv_istore_n (lv' := [(3, .int (1 : Int32)), (2, .int (0 : Int32)), (0, .ref (a 0)), (1, .int p1)]) hx hb dX_countHostedBy_3 rfl hl (by decide) rfl (fun ls hl => ?_)
  exact L_4 K p1 (0 : Int32) (1 : Int32) σ hf _ _ hP hD hS _ (lv_sub hl [2, 3, 1, 0] rfl)
def gX_removeLinksOf_7 (K : Nat) : Nat → Int32 → Int32 → XSt → Option (Int32 × XSt)
  | 0, _, _, _ => none
  | n + 1, x1, x2, τ => (if x2 < 0 then some ((0 : Int32), τ) else (if x2 < 0 ∨ 200 ≤ x2.toNatClampNeg then none else (if ((x_linkFrom τ) x2.toNatClampNeg) = x1 then ((fX_noteChange K x1 τ).bind fun q_4 => ((fX_removeLink K x2 q_4.2).bind fun q_5 => (gX_removeLinksOf_7 K n x1 (x2 + (-1)) q_5.2))) else (gX_removeLinksOf_7 K n x1 (x2 + (-1)) τ))))
def fX_removeLinksOf (K : Nat) (p1 : Int32) (σ : XSt) : Option (Int32 × XSt) := (gX_removeLinksOf_7 K K p1 ((x_links σ) - (1 : Int32)) σ)
set_option maxHeartbeats 4000000 in
set_option maxRecDepth 100000 in
theorem kX_removeLinksOf (l : Launch) (dC : Nat → ClassId) (dI : Nat → Nat → Nat) (a : Nat → Nat) (cI cZ : ClassId) (tb : Nat) (K : Nat) (p1 : Int32) (σ σ' : XSt) (r : Int32) (hf : fX_removeLinksOf K p1 σ = some (r, σ')) : xw_Cv l yX_removeLinksOf wdX_removeLinksOf ({ frames := 2, cells := 0, slots := 0, locals := 53 } : Room) (dC, dI) vwCl [(cI, .int), (cZ, .boolean)] (zz tb) ((w_X a cI cZ) σ) ((w_X a cI cZ) σ') [.ref (a 0), .int p1] := by
  refine xw_ofWv (cc := cX_removeLinksOf) (maxL := 3) (ret := none) (lv := [(0, .ref (a 0)), (1, .int p1)]) (by decide) rfl (Nat.le_of_ble_eq_true rfl) rfl ?_
  intro p e s m below meth c A hAt hP hD hS ls hl
  obtain ⟨hx, hb, hr, hml, hown, hts, hlocks, hK, hZ, hA⟩ := hAt
  replace hts : ∀ w ∈ lw_g, w.before _ s = true := fun w h => hts w (List.mem_cons_of_mem _ h)
  have L_7 : ∀ (n : Nat) (x1 x2 : Int32) (τ : XSt), gX_removeLinksOf_7 K n x1 x2 τ = some (r, σ') → ∀ (H : Heap) (locs : List Loc), va_P (dC, dI) vwCl ((w_X a cI cZ) τ) H → va_D A ((w_X a cI cZ) τ) → va_S A s.heap H locs → ∀ (ls : Array Slot), lv_has ls 3 [(0, .ref (a 0)), (1, .int x1), (2, .int x2)] → W p l e ({ frames := 2, cells := 0, slots := 0, locals := 53 } : Room) s m ([.ref (a 0), .int p1] : List Value).toArray below meth c H locs 0 0 (MQ below (va_Qv (fun (_ : Unit) => True) (fun _ t => xw_B (dC, dI) vwCl [(cI, .int), (cZ, .boolean)] A ((w_X a cI cZ) σ') t) A) ([.ref (a 0), .int p1] : List Value).toArray s 0 0 A) (F0 m 7 ls []) := by
    intro n
    induction n with
    | zero =>
      intro x1 x2 τ hf
      rw [gX_removeLinksOf_7] at hf
      cases hf
    | succ n ih =>
      intro x1 x2 τ hf H locs hP hD hS ls hl
      rw [gX_removeLinksOf_7] at hf
      refine lv_iload_n hx hb dX_removeLinksOf_7 rfl (lv_at hl 2 rfl) ?_
      refine lv_if_lt (tgt := 37) hx hb dX_removeLinksOf_8 (by decide) (fun c_1 => ?_) (fun c_1 => ?_)
      · replace hf := it_t hf c_1
        exact xw_vret (wf := (w_X a cI cZ)) hx hb hr hlocks hK hP hD hS hf dX_removeLinksOf_37
      · replace hf := it_f hf c_1
        refine lv_aload_n hx hb dX_removeLinksOf_11 rfl (lv_at hl 0 rfl) ?_
        refine aX_get_linkFrom hx hb hts hown hK hP dX_removeLinksOf_12 ?_
        refine lv_iload_n hx hb dX_removeLinksOf_15 rfl (lv_at hl 2 rfl) ?_
        obtain ⟨g_2, hf⟩ := gd_f hf
        refine aX_ld_linkFrom (σ := τ) (f := (x_linkFrom τ)) rfl hx hb hK hP g_2 dX_removeLinksOf_16 ?_
        refine lv_iload_n hx hb dX_removeLinksOf_17 rfl (lv_at hl 1 rfl) ?_
        refine lv_icmp_ne (tgt := 31) hx hb dX_removeLinksOf_18 (by decide) (fun c_3 => ?_) (fun c_3 => ?_)
        · replace hf := it_f hf c_3
          refine lv_iinc (v := (x2 + (-1))) (lv' := [(2, .int (x2 + (-1))), (0, .ref (a 0)), (1, .int x1)]) hx hb dX_removeLinksOf_31 hl (k := 2) rfl (congrArg (HAdd.hAdd _) (by decide : Int32.ofInt (-1) = (-1 : Int32))) (by decide) rfl (fun ls hl => ?_)
          refine lv_goto (tgt := 7) hx hb dX_removeLinksOf_34 (by decide) ?_
          exact ih x1 (x2 + (-1)) τ hf _ _ hP hD hS _ (lv_sub hl [1, 2, 0] rfl)
        · replace hf := it_t hf c_3
          refine lv_aload_n hx hb dX_removeLinksOf_21 rfl (lv_at hl 0 rfl) ?_
          refine lv_iload_n hx hb dX_removeLinksOf_22 rfl (lv_at hl 1 rfl) ?_
          obtain ⟨q_4, hq_4, hf⟩ := bd_s hf
          refine xw_callVv (kX_noteChange l dC dI a cI cZ tb K x1 τ q_4.2 q_4.1 hq_4) ⟨hx, hb, hml, hown, hts⟩ (cwV 1 hts (gw_V mt_120 mt_122 mt_7 mt_25 mt_123) rfl rfl rfl hdX_noteChange ⟨Nat.le_of_ble_eq_true rfl, Nat.le_of_ble_eq_true rfl⟩) hK hP hD hS hA hZ (q0 := 0) (ci := 0) rfl rfl rfl hl.1 rfl (Nat.le_of_ble_eq_true rfl) dX_removeLinksOf_23 ⟨Nat.zero_le _, Nat.zero_le _⟩ (fun H locs hP hD hS => ?_)
          refine lv_aload_n hx hb dX_removeLinksOf_26 rfl (lv_at hl 0 rfl) ?_
          refine lv_iload_n hx hb dX_removeLinksOf_27 rfl (lv_at hl 2 rfl) ?_
          obtain ⟨q_5, hq_5, hf⟩ := bd_s hf
          refine xw_callVv (kX_removeLink l dC dI a cI cZ tb K x2 q_4.2 q_5.2 q_5.1 hq_5) ⟨hx, hb, hml, hown, hts⟩ (cwV 1 hts (gw_V mt_139 mt_141 mt_10 mt_25 mt_142) rfl rfl rfl hdX_removeLink ⟨Nat.le_of_ble_eq_true rfl, Nat.le_of_ble_eq_true rfl⟩) hK hP hD hS hA hZ (q0 := 0) (ci := 0) rfl rfl rfl hl.1 rfl (Nat.le_of_ble_eq_true rfl) dX_removeLinksOf_28 ⟨Nat.zero_le _, Nat.zero_le _⟩ (fun H locs hP hD hS => ?_)
          refine lv_iinc (v := (x2 + (-1))) (lv' := [(2, .int (x2 + (-1))), (0, .ref (a 0)), (1, .int x1)]) hx hb dX_removeLinksOf_31 hl (k := 2) rfl (congrArg (HAdd.hAdd _) (by decide : Int32.ofInt (-1) = (-1 : Int32))) (by decide) rfl (fun ls hl => ?_)
          refine lv_goto (tgt := 7) hx hb dX_removeLinksOf_34 (by decide) ?_
          exact ih x1 (x2 + (-1)) q_5.2 hf _ _ hP hD hS _ (lv_sub hl [1, 2, 0] rfl)
  unfold fX_removeLinksOf at hf
  refine lv_aload_n hx hb dX_removeLinksOf_0 rfl (lv_at hl 0 rfl) ?_
  refine aX_get_links (σ := σ) (v := (x_links σ)) rfl hx hb hts hown hK hP dX_removeLinksOf_1 ?_
  refine lv_iconst (v := (1 : Int32)) hx hb dX_removeLinksOf_4 (by decide) ?_
  refine lv_isub hx hb dX_removeLinksOf_5 ?_
  refine lv_istore_n (lv' := [(2, .int ((x_links σ) - (1 : Int32))), (0, .ref (a 0)), (1, .int p1)]) hx hb dX_removeLinksOf_6 rfl hl (by decide) rfl (fun ls hl => ?_)
  exact L_7 K p1 ((x_links σ) - (1 : Int32)) σ hf _ _ hP hD hS _ (lv_sub hl [1, 2, 0] rfl)
def fX_delete (K : Nat) (p1 : Int32) (σ : XSt) : Option (Int32 × XSt) := ((fX_isLive K p1 (x_pmoment σ ((x_moment σ) + (1 : Int32)))).bind fun q_1 => (if q_1.1 = 0 then some ((0 : Int32), q_1.2) else ((fX_countHostedBy K p1 q_1.2).bind fun q_3 => (if q_3.1 ≤ 0 then (if p1 < 0 ∨ 61 ≤ p1.toNatClampNeg then none else ((fX_removeLinksOf K p1 (x_plive q_3.2 (upd (x_live q_3.2) p1.toNatClampNeg (vp_nar .boolean (0 : Int32))))).bind fun q_6 => some ((1 : Int32), q_6.2))) else some ((-q_3.1), q_3.2)))))
set_option maxHeartbeats 4000000 in
set_option maxRecDepth 100000 in
theorem kX_delete (l : Launch) (dC : Nat → ClassId) (dI : Nat → Nat → Nat) (a : Nat → Nat) (cI cZ : ClassId) (tb : Nat) (K : Nat) (p1 : Int32) (σ σ' : XSt) (r : Int32) (hf : fX_delete K p1 σ = some (r, σ')) : xw_Ct l yX_delete wdX_delete ({ frames := 3, cells := 0, slots := 0, locals := 75 } : Room) (dC, dI) vwCl [(cI, .int), (cZ, .boolean)] (zz tb) ((w_X a cI cZ) σ) ((w_X a cI cZ) σ') [.ref (a 0), .int p1] r := by
  refine xw_ofW (cc := cX_delete) (maxL := 3) (ret := (some .int)) (lv := [(0, .ref (a 0)), (1, .int p1)]) (by decide) rfl (Nat.le_of_ble_eq_true rfl) rfl ?_
  intro p e s m below meth c A hAt hP hD hS ls hl
  obtain ⟨hx, hb, hr, hml, hown, hts, hlocks, hK, hZ, hA⟩ := hAt
  replace hts : ∀ w ∈ lw_g, w.before _ s = true := fun w h => hts w (List.mem_cons_of_mem _ h)
  unfold fX_delete at hf
  refine lv_aload_n hx hb dX_delete_0 rfl (lv_at hl 0 rfl) ?_
  refine lv_dup hx hb dX_delete_1 rfl ?_
  refine aX_get_moment (σ := σ) (v := (x_moment σ)) rfl hx hb hts hown hK hP dX_delete_2 ?_
  refine lv_iconst (v := (1 : Int32)) hx hb dX_delete_5 (by decide) ?_
  refine lv_iadd hx hb dX_delete_6 ?_
  refine aX_put_moment (σ := σ) (v := ((x_moment σ) + (1 : Int32))) (τ := (x_pmoment σ ((x_moment σ) + (1 : Int32)))) rfl hx hb hts hown hK hP hD hS dX_delete_7 (fun H locs hP hD hS => ?_)
  refine lv_aload_n hx hb dX_delete_10 rfl (lv_at hl 0 rfl) ?_
  refine lv_iload_n hx hb dX_delete_11 rfl (lv_at hl 1 rfl) ?_
  obtain ⟨q_1, hq_1, hf⟩ := bd_s hf
  refine xw_callV (kX_isLive l dC dI a cI cZ tb K p1 (x_pmoment σ ((x_moment σ) + (1 : Int32))) q_1.2 q_1.1 hq_1) ⟨hx, hb, hml, hown, hts⟩ (cwV 1 hts (gw_V mt_91 mt_93 mt_1 mt_25 mt_94) rfl rfl rfl hdX_isLive ⟨Nat.le_of_ble_eq_true rfl, Nat.le_of_ble_eq_true rfl⟩) hK hP hD hS hA hZ (q0 := 0) (ci := 0) rfl rfl rfl hl.1 rfl (Nat.le_of_ble_eq_true rfl) dX_delete_12 ⟨Nat.zero_le _, Nat.zero_le _⟩ (fun H locs hP hD hS => ?_)
  refine lv_if_ne (tgt := 20) hx hb dX_delete_15 (by decide) (fun c_2 => ?_) (fun c_2 => ?_)
  · replace hf := it_f hf c_2
    refine lv_aload_n hx hb dX_delete_20 rfl (lv_at hl 0 rfl) ?_
    refine lv_iload_n hx hb dX_delete_21 rfl (lv_at hl 1 rfl) ?_
    obtain ⟨q_3, hq_3, hf⟩ := bd_s hf
    refine xw_callV (kX_countHostedBy l dC dI a cI cZ tb K p1 q_1.2 q_3.2 q_3.1 hq_3) ⟨hx, hb, hml, hown, hts⟩ (cwV 1 hts (gw_V mt_178 mt_180 mt_12 mt_25 mt_181) rfl rfl rfl hdX_countHostedBy ⟨Nat.le_of_ble_eq_true rfl, Nat.le_of_ble_eq_true rfl⟩) hK hP hD hS hA hZ (q0 := 0) (ci := 0) rfl rfl rfl hl.1 rfl (Nat.le_of_ble_eq_true rfl) dX_delete_22 ⟨Nat.zero_le _, Nat.zero_le _⟩ (fun H locs hP hD hS => ?_)
    refine lv_istore_n (lv' := [(2, .int q_3.1), (0, .ref (a 0)), (1, .int p1)]) hx hb dX_delete_25 rfl hl (by decide) rfl (fun ls hl => ?_)
    refine lv_iload_n hx hb dX_delete_26 rfl (lv_at hl 0 rfl) ?_
    refine lv_if_le (tgt := 33) hx hb dX_delete_27 (by decide) (fun c_4 => ?_) (fun c_4 => ?_)
    · replace hf := it_t hf c_4
      refine lv_aload_n hx hb dX_delete_33 rfl (lv_at hl 1 rfl) ?_
      refine aX_get_live hx hb hts hown hK hP dX_delete_34 ?_
      refine lv_iload_n hx hb dX_delete_37 rfl (lv_at hl 2 rfl) ?_
      refine lv_iconst (v := (0 : Int32)) hx hb dX_delete_38 (by decide) ?_
      obtain ⟨g_5, hf⟩ := gd_f hf
      refine aX_st_live (σ := q_3.2) (f := (x_live q_3.2)) (x := (0 : Int32)) (τ := (x_plive q_3.2 (upd (x_live q_3.2) p1.toNatClampNeg (vp_nar .boolean (0 : Int32))))) rfl rfl hx hb hK hP hD hS g_5 dX_delete_39 (fun H locs hP hD hS => ?_)
      refine lv_aload_n hx hb dX_delete_40 rfl (lv_at hl 1 rfl) ?_
      refine lv_iload_n hx hb dX_delete_41 rfl (lv_at hl 2 rfl) ?_
      obtain ⟨q_6, hq_6, hf⟩ := bd_s hf
      refine xw_callVv (kX_removeLinksOf l dC dI a cI cZ tb K p1 (x_plive q_3.2 (upd (x_live q_3.2) p1.toNatClampNeg (vp_nar .boolean (0 : Int32)))) q_6.2 q_6.1 hq_6) ⟨hx, hb, hml, hown, hts⟩ (cwV 1 hts (gw_V mt_182 mt_184 mt_13 mt_25 mt_185) rfl rfl rfl hdX_removeLinksOf ⟨Nat.le_of_ble_eq_true rfl, Nat.le_of_ble_eq_true rfl⟩) hK hP hD hS hA hZ (q0 := 0) (ci := 0) rfl rfl rfl hl.1 rfl (Nat.le_of_ble_eq_true rfl) dX_delete_42 ⟨Nat.zero_le _, Nat.zero_le _⟩ (fun H locs hP hD hS => ?_)
      refine lv_iconst (v := (1 : Int32)) hx hb dX_delete_45 (by decide) ?_
      exact xw_iret (wf := (w_X a cI cZ)) hx hb hr hlocks rfl hK hP hD hS hf dX_delete_46
    · replace hf := it_f hf c_4
      refine lv_iload_n hx hb dX_delete_30 rfl (lv_at hl 0 rfl) ?_
      refine lv_ineg hx hb dX_delete_31 ?_
      exact xw_iret (wf := (w_X a cI cZ)) hx hb hr hlocks rfl hK hP hD hS hf dX_delete_32
  · replace hf := it_t hf c_2
    refine lv_iconst (v := (0 : Int32)) hx hb dX_delete_18 (by decide) ?_
    exact xw_iret (wf := (w_X a cI cZ)) hx hb hr hlocks rfl hK hP hD hS hf dX_delete_19
def fX_times (K : Nat) (p1 p2 : Int32) (σ : XSt) : Option (Int32 × XSt) := ((fX_isRecord K p1 σ).bind fun q_1 => (if q_1.1 = 0 then some ((0 : Int32), q_1.2) else (if p2 < 0 then some ((0 : Int32), q_1.2) else (if p1 < 0 ∨ 61 ≤ p1.toNatClampNeg then none else (if p2 < ((x_changeCounts q_1.2) p1.toNatClampNeg) then (if ((p1 * (40 : Int32)) + p2) < 0 ∨ 2440 ≤ ((p1 * (40 : Int32)) + p2).toNatClampNeg then none else some (((x_changeMoments q_1.2) ((p1 * (40 : Int32)) + p2).toNatClampNeg), q_1.2)) else some ((0 : Int32), q_1.2))))))
set_option maxHeartbeats 4000000 in
set_option maxRecDepth 100000 in
theorem kX_times (l : Launch) (dC : Nat → ClassId) (dI : Nat → Nat → Nat) (a : Nat → Nat) (cI cZ : ClassId) (tb : Nat) (K : Nat) (p1 p2 : Int32) (σ σ' : XSt) (r : Int32) (hf : fX_times K p1 p2 σ = some (r, σ')) : xw_Ct l yX_times wdX_times ({ frames := 1, cells := 0, slots := 0, locals := 21 } : Room) (dC, dI) vwCl [(cI, .int), (cZ, .boolean)] (zz tb) ((w_X a cI cZ) σ) ((w_X a cI cZ) σ') [.ref (a 0), .int p1, .int p2] r := by
  refine xw_ofW (cc := cX_times) (maxL := 3) (ret := (some .int)) (lv := [(0, .ref (a 0)), (1, .int p1), (2, .int p2)]) (by decide) rfl (Nat.le_of_ble_eq_true rfl) rfl ?_
  intro p e s m below meth c A hAt hP hD hS ls hl
  obtain ⟨hx, hb, hr, hml, hown, hts, hlocks, hK, hZ, hA⟩ := hAt
  replace hts : ∀ w ∈ lw_g, w.before _ s = true := fun w h => hts w (List.mem_cons_of_mem _ h)
  unfold fX_times at hf
  refine lv_aload_n hx hb dX_times_0 rfl (lv_at hl 0 rfl) ?_
  refine lv_iload_n hx hb dX_times_1 rfl (lv_at hl 1 rfl) ?_
  obtain ⟨q_1, hq_1, hf⟩ := bd_s hf
  refine xw_callV (kX_isRecord l dC dI a cI cZ tb K p1 σ q_1.2 q_1.1 hq_1) ⟨hx, hb, hml, hown, hts⟩ (cwV 1 hts (gw_V mt_95 mt_97 mt_2 mt_25 mt_98) rfl rfl rfl hdX_isRecord ⟨Nat.le_of_ble_eq_true rfl, Nat.le_of_ble_eq_true rfl⟩) hK hP hD hS hA hZ (q0 := 0) (ci := 0) rfl rfl rfl hl.1 rfl (Nat.le_of_ble_eq_true rfl) dX_times_2 ⟨Nat.zero_le _, Nat.zero_le _⟩ (fun H locs hP hD hS => ?_)
  refine lv_if_eq (tgt := 22) hx hb dX_times_5 (by decide) (fun c_2 => ?_) (fun c_2 => ?_)
  · replace hf := it_t hf c_2
    refine lv_iconst (v := (0 : Int32)) hx hb dX_times_22 (by decide) ?_
    exact xw_iret (wf := (w_X a cI cZ)) hx hb hr hlocks rfl hK hP hD hS hf dX_times_23
  · replace hf := it_f hf c_2
    refine lv_iload_n hx hb dX_times_8 rfl (lv_at hl 2 rfl) ?_
    refine lv_if_lt (tgt := 22) hx hb dX_times_9 (by decide) (fun c_3 => ?_) (fun c_3 => ?_)
    · replace hf := it_t hf c_3
      refine lv_iconst (v := (0 : Int32)) hx hb dX_times_22 (by decide) ?_
      exact xw_iret (wf := (w_X a cI cZ)) hx hb hr hlocks rfl hK hP hD hS hf dX_times_23
    · replace hf := it_f hf c_3
      refine lv_iload_n hx hb dX_times_12 rfl (lv_at hl 2 rfl) ?_
      refine lv_aload_n hx hb dX_times_13 rfl (lv_at hl 0 rfl) ?_
      refine aX_get_changeCounts hx hb hts hown hK hP dX_times_14 ?_
      refine lv_iload_n hx hb dX_times_17 rfl (lv_at hl 1 rfl) ?_
      obtain ⟨g_4, hf⟩ := gd_f hf
      refine aX_ld_changeCounts (σ := q_1.2) (f := (x_changeCounts q_1.2)) rfl hx hb hK hP g_4 dX_times_18 ?_
      refine lv_icmp_lt (tgt := 24) hx hb dX_times_19 (by decide) (fun c_5 => ?_) (fun c_5 => ?_)
      · replace hf := it_t hf c_5
        refine lv_aload_n hx hb dX_times_24 rfl (lv_at hl 0 rfl) ?_
        refine aX_get_changeMoments hx hb hts hown hK hP dX_times_25 ?_
        refine lv_iload_n hx hb dX_times_28 rfl (lv_at hl 1 rfl) ?_
        refine lv_bipush (v := (40 : Int32)) hx hb dX_times_29 (by decide) ?_
        refine lv_imul hx hb dX_times_31 ?_
        refine lv_iload_n hx hb dX_times_32 rfl (lv_at hl 2 rfl) ?_
        refine lv_iadd hx hb dX_times_33 ?_
        obtain ⟨g_6, hf⟩ := gd_f hf
        refine aX_ld_changeMoments (σ := q_1.2) (f := (x_changeMoments q_1.2)) rfl hx hb hK hP g_6 dX_times_34 ?_
        exact xw_iret (wf := (w_X a cI cZ)) hx hb hr hlocks rfl hK hP hD hS hf dX_times_35
      · replace hf := it_f hf c_5
        refine lv_iconst (v := (0 : Int32)) hx hb dX_times_22 (by decide) ?_
        exact xw_iret (wf := (w_X a cI cZ)) hx hb hr hlocks rfl hK hP hD hS hf dX_times_23
def gX_isLinked_2 (K : Nat) : Nat → Int32 → Int32 → XSt → Option (Int32 × XSt)
  | 0, _, _, _ => none
  | n + 1, x1, x2, τ => (if (x_links τ) ≤ x2 then some ((0 : Int32), τ) else (if x2 < 0 ∨ 200 ≤ x2.toNatClampNeg then none else (if (4 : Int32) ≤ ((x_linkField τ) x2.toNatClampNeg) then (if x2 < 0 ∨ 200 ≤ x2.toNatClampNeg then none else (if ((x_linkFrom τ) x2.toNatClampNeg) = x1 then some ((1 : Int32), τ) else (gX_isLinked_2 K n x1 (x2 + 1) τ))) else (if x2 < 0 ∨ 200 ≤ x2.toNatClampNeg then none else (if ((x_linkTo τ) x2.toNatClampNeg) = x1 then some ((1 : Int32), τ) else (if x2 < 0 ∨ 200 ≤ x2.toNatClampNeg then none else (if ((x_linkFrom τ) x2.toNatClampNeg) = x1 then some ((1 : Int32), τ) else (gX_isLinked_2 K n x1 (x2 + 1) τ))))))))
def fX_isLinked (K : Nat) (p1 : Int32) (σ : XSt) : Option (Int32 × XSt) := (gX_isLinked_2 K K p1 (0 : Int32) σ)
set_option maxHeartbeats 4000000 in
set_option maxRecDepth 100000 in
theorem kX_isLinked (l : Launch) (dC : Nat → ClassId) (dI : Nat → Nat → Nat) (a : Nat → Nat) (cI cZ : ClassId) (tb : Nat) (K : Nat) (p1 : Int32) (σ σ' : XSt) (r : Int32) (hf : fX_isLinked K p1 σ = some (r, σ')) : xw_Ct l yX_isLinked wdX_isLinked ({ frames := 0, cells := 0, slots := 0, locals := 0 } : Room) (dC, dI) vwCl [(cI, .int), (cZ, .boolean)] (zz tb) ((w_X a cI cZ) σ) ((w_X a cI cZ) σ') [.ref (a 0), .int p1] r := by
  refine xw_ofW (cc := cX_isLinked) (maxL := 4) (ret := (some .boolean)) (lv := [(0, .ref (a 0)), (1, .int p1)]) (by decide) rfl (Nat.le_of_ble_eq_true rfl) rfl ?_
  intro p e s m below meth c A hAt hP hD hS ls hl
  obtain ⟨hx, hb, hr, hml, hown, hts, hlocks, hK, hZ, hA⟩ := hAt
  replace hts : ∀ w ∈ lw_g, w.before _ s = true := fun w h => hts w (List.mem_cons_of_mem _ h)
  have L_2 : ∀ (n : Nat) (x1 x2 : Int32) (τ : XSt), gX_isLinked_2 K n x1 x2 τ = some (r, σ') → ∀ (H : Heap) (locs : List Loc), va_P (dC, dI) vwCl ((w_X a cI cZ) τ) H → va_D A ((w_X a cI cZ) τ) → va_S A s.heap H locs → ∀ (ls : Array Slot), lv_has ls 4 [(0, .ref (a 0)), (1, .int x1), (2, .int x2)] → W p l e ({ frames := 0, cells := 0, slots := 0, locals := 0 } : Room) s m ([.ref (a 0), .int p1] : List Value).toArray below meth c H locs 0 0 (MQ below (va_Qi (fun (r2 : Int32) (_ : Unit) => r2 = r) (fun _ t => xw_B (dC, dI) vwCl [(cI, .int), (cZ, .boolean)] A ((w_X a cI cZ) σ') t) A) ([.ref (a 0), .int p1] : List Value).toArray s 0 0 A) (F0 m 2 ls []) := by
    intro n
    induction n with
    | zero =>
      intro x1 x2 τ hf
      rw [gX_isLinked_2] at hf
      cases hf
    | succ n ih =>
      intro x1 x2 τ hf H locs hP hD hS ls hl
      rw [gX_isLinked_2] at hf
      refine lv_iload_n hx hb dX_isLinked_2 rfl (lv_at hl 2 rfl) ?_
      refine lv_aload_n hx hb dX_isLinked_3 rfl (lv_at hl 0 rfl) ?_
      refine aX_get_links (σ := τ) (v := (x_links τ)) rfl hx hb hts hown hK hP dX_isLinked_4 ?_
      refine lv_icmp_ge (tgt := 58) hx hb dX_isLinked_7 (by decide) (fun c_1 => ?_) (fun c_1 => ?_)
      · replace hf := it_t hf c_1
        refine lv_iconst (v := (0 : Int32)) hx hb dX_isLinked_58 (by decide) ?_
        exact xw_iret (wf := (w_X a cI cZ)) hx hb hr hlocks rfl hK hP hD hS hf dX_isLinked_59
      · replace hf := it_f hf c_1
        refine lv_aload_n hx hb dX_isLinked_10 rfl (lv_at hl 0 rfl) ?_
        refine aX_get_linkField hx hb hts hown hK hP dX_isLinked_11 ?_
        refine lv_iload_n hx hb dX_isLinked_14 rfl (lv_at hl 2 rfl) ?_
        obtain ⟨g_2, hf⟩ := gd_f hf
        refine aX_ld_linkField (σ := τ) (f := (x_linkField τ)) rfl hx hb hK hP g_2 dX_isLinked_15 ?_
        refine lv_iconst (v := (4 : Int32)) hx hb dX_isLinked_16 (by decide) ?_
        refine lv_icmp_ge (tgt := 34) hx hb dX_isLinked_17 (by decide) (fun c_3 => ?_) (fun c_3 => ?_)
        · replace hf := it_t hf c_3
          refine lv_iconst (v := (0 : Int32)) hx hb dX_isLinked_34 (by decide) ?_
          refine lv_istore_n (lv' := [(3, .int (0 : Int32)), (0, .ref (a 0)), (1, .int x1), (2, .int x2)]) hx hb dX_isLinked_35 rfl hl (by decide) rfl (fun ls hl => ?_)
          refine lv_iload_n hx hb dX_isLinked_36 rfl (lv_at hl 0 rfl) ?_
          refine lv_if_ne (tgt := 50) hx hb dX_isLinked_37 (by decide) (fun c_4 => absurd c_4 (by decide)) (fun c_4 => ?_)
          refine lv_aload_n hx hb dX_isLinked_40 rfl (lv_at hl 1 rfl) ?_
          refine aX_get_linkFrom hx hb hts hown hK hP dX_isLinked_41 ?_
          refine lv_iload_n hx hb dX_isLinked_44 rfl (lv_at hl 3 rfl) ?_
          obtain ⟨g_5, hf⟩ := gd_f hf
          refine aX_ld_linkFrom (σ := τ) (f := (x_linkFrom τ)) rfl hx hb hK hP g_5 dX_isLinked_45 ?_
          refine lv_iload_n hx hb dX_isLinked_46 rfl (lv_at hl 2 rfl) ?_
          refine lv_icmp_ne (tgt := 52) hx hb dX_isLinked_47 (by decide) (fun c_6 => ?_) (fun c_6 => ?_)
          · replace hf := it_f hf c_6
            refine lv_iinc (v := (x2 + 1)) (lv' := [(2, .int (x2 + 1)), (3, .int (0 : Int32)), (0, .ref (a 0)), (1, .int x1)]) hx hb dX_isLinked_52 hl (k := 3) rfl (congrArg (HAdd.hAdd _) (by decide : Int32.ofInt (1) = (1 : Int32))) (by decide) rfl (fun ls hl => ?_)
            refine lv_goto (tgt := 2) hx hb dX_isLinked_55 (by decide) ?_
            exact ih x1 (x2 + 1) τ hf _ _ hP hD hS _ (lv_sub hl [2, 3, 0] rfl)
          · replace hf := it_t hf c_6
            refine lv_iconst (v := (1 : Int32)) hx hb dX_isLinked_50 (by decide) ?_
            exact xw_iret (wf := (w_X a cI cZ)) hx hb hr hlocks rfl hK hP hD hS hf dX_isLinked_51
        · replace hf := it_f hf c_3
          refine lv_aload_n hx hb dX_isLinked_20 rfl (lv_at hl 0 rfl) ?_
          refine aX_get_linkTo hx hb hts hown hK hP dX_isLinked_21 ?_
          refine lv_iload_n hx hb dX_isLinked_24 rfl (lv_at hl 2 rfl) ?_
          obtain ⟨g_7, hf⟩ := gd_f hf
          refine aX_ld_linkTo (σ := τ) (f := (x_linkTo τ)) rfl hx hb hK hP g_7 dX_isLinked_25 ?_
          refine lv_iload_n hx hb dX_isLinked_26 rfl (lv_at hl 1 rfl) ?_
          refine lv_icmp_ne (tgt := 34) hx hb dX_isLinked_27 (by decide) (fun c_8 => ?_) (fun c_8 => ?_)
          · replace hf := it_f hf c_8
            refine lv_iconst (v := (0 : Int32)) hx hb dX_isLinked_34 (by decide) ?_
            refine lv_istore_n (lv' := [(3, .int (0 : Int32)), (0, .ref (a 0)), (1, .int x1), (2, .int x2)]) hx hb dX_isLinked_35 rfl hl (by decide) rfl (fun ls hl => ?_)
            refine lv_iload_n hx hb dX_isLinked_36 rfl (lv_at hl 0 rfl) ?_
            refine lv_if_ne (tgt := 50) hx hb dX_isLinked_37 (by decide) (fun c_9 => absurd c_9 (by decide)) (fun c_9 => ?_)
            refine lv_aload_n hx hb dX_isLinked_40 rfl (lv_at hl 1 rfl) ?_
            refine aX_get_linkFrom hx hb hts hown hK hP dX_isLinked_41 ?_
            refine lv_iload_n hx hb dX_isLinked_44 rfl (lv_at hl 3 rfl) ?_
            obtain ⟨g_10, hf⟩ := gd_f hf
            refine aX_ld_linkFrom (σ := τ) (f := (x_linkFrom τ)) rfl hx hb hK hP g_10 dX_isLinked_45 ?_
            refine lv_iload_n hx hb dX_isLinked_46 rfl (lv_at hl 2 rfl) ?_
            refine lv_icmp_ne (tgt := 52) hx hb dX_isLinked_47 (by decide) (fun c_11 => ?_) (fun c_11 => ?_)
            · replace hf := it_f hf c_11
              refine lv_iinc (v := (x2 + 1)) (lv' := [(2, .int (x2 + 1)), (3, .int (0 : Int32)), (0, .ref (a 0)), (1, .int x1)]) hx hb dX_isLinked_52 hl (k := 3) rfl (congrArg (HAdd.hAdd _) (by decide : Int32.ofInt (1) = (1 : Int32))) (by decide) rfl (fun ls hl => ?_)
              refine lv_goto (tgt := 2) hx hb dX_isLinked_55 (by decide) ?_
              exact ih x1 (x2 + 1) τ hf _ _ hP hD hS _ (lv_sub hl [2, 3, 0] rfl)
            · replace hf := it_t hf c_11
              refine lv_iconst (v := (1 : Int32)) hx hb dX_isLinked_50 (by decide) ?_
              exact xw_iret (wf := (w_X a cI cZ)) hx hb hr hlocks rfl hK hP hD hS hf dX_isLinked_51
          · replace hf := it_t hf c_8
            refine lv_iconst (v := (1 : Int32)) hx hb dX_isLinked_30 (by decide) ?_
            refine lv_goto (tgt := 35) hx hb dX_isLinked_31 (by decide) ?_
            refine lv_istore_n (lv' := [(3, .int (1 : Int32)), (0, .ref (a 0)), (1, .int x1), (2, .int x2)]) hx hb dX_isLinked_35 rfl hl (by decide) rfl (fun ls hl => ?_)
            refine lv_iload_n hx hb dX_isLinked_36 rfl (lv_at hl 0 rfl) ?_
            refine lv_if_ne (tgt := 50) hx hb dX_isLinked_37 (by decide) (fun c_12 => ?_) (fun c_12 => absurd c_12 (by decide))
            refine lv_iconst (v := (1 : Int32)) hx hb dX_isLinked_50 (by decide) ?_
            exact xw_iret (wf := (w_X a cI cZ)) hx hb hr hlocks rfl hK hP hD hS hf dX_isLinked_51
  unfold fX_isLinked at hf
  refine lv_iconst (v := (0 : Int32)) hx hb dX_isLinked_0 (by decide) ?_
  refine lv_istore_n (lv' := [(2, .int (0 : Int32)), (0, .ref (a 0)), (1, .int p1)]) hx hb dX_isLinked_1 rfl hl (by decide) rfl (fun ls hl => ?_)
  exact L_2 K p1 (0 : Int32) σ hf _ _ hP hD hS _ (lv_sub hl [1, 2, 0] rfl)
def gX_orphan_10 (K : Nat) : Nat → Int32 → Int32 → Int32 → XSt → Option (Int32 × XSt)
  | 0, _, _, _, _ => none
  | n + 1, x1, x2, x3, τ => (if (x_records τ) < x3 then some ((0 : Int32), τ) else (if x3 < 0 ∨ 61 ≤ x3.toNatClampNeg then none else (if ((x_live τ) x3.toNatClampNeg) = 0 then (gX_orphan_10 K n x1 x2 (x3 + 1) τ) else ((fX_isLinked K x3 τ).bind fun q_5 => (if q_5.1 = 0 then (if x2 = x1 then some (x3, q_5.2) else (gX_orphan_10 K n x1 (x2 + 1) (x3 + 1) q_5.2)) else (gX_orphan_10 K n x1 x2 (x3 + 1) q_5.2))))))
def fX_orphan (K : Nat) (p1 : Int32) (σ : XSt) : Option (Int32 × XSt) := (if 0 ≤ p1 then (gX_orphan_10 K K p1 (0 : Int32) (1 : Int32) σ) else some ((0 : Int32), σ))
set_option maxHeartbeats 4000000 in
set_option maxRecDepth 100000 in
theorem kX_orphan (l : Launch) (dC : Nat → ClassId) (dI : Nat → Nat → Nat) (a : Nat → Nat) (cI cZ : ClassId) (tb : Nat) (K : Nat) (p1 : Int32) (σ σ' : XSt) (r : Int32) (hf : fX_orphan K p1 σ = some (r, σ')) : xw_Ct l yX_orphan wdX_orphan ({ frames := 1, cells := 0, slots := 0, locals := 23 } : Room) (dC, dI) vwCl [(cI, .int), (cZ, .boolean)] (zz tb) ((w_X a cI cZ) σ) ((w_X a cI cZ) σ') [.ref (a 0), .int p1] r := by
  refine xw_ofW (cc := cX_orphan) (maxL := 4) (ret := (some .int)) (lv := [(0, .ref (a 0)), (1, .int p1)]) (by decide) rfl (Nat.le_of_ble_eq_true rfl) rfl ?_
  intro p e s m below meth c A hAt hP hD hS ls hl
  obtain ⟨hx, hb, hr, hml, hown, hts, hlocks, hK, hZ, hA⟩ := hAt
  replace hts : ∀ w ∈ lw_g, w.before _ s = true := fun w h => hts w (List.mem_cons_of_mem _ h)
  have L_10 : ∀ (n : Nat) (x1 x2 x3 : Int32) (τ : XSt), gX_orphan_10 K n x1 x2 x3 τ = some (r, σ') → ∀ (H : Heap) (locs : List Loc), va_P (dC, dI) vwCl ((w_X a cI cZ) τ) H → va_D A ((w_X a cI cZ) τ) → va_S A s.heap H locs → ∀ (ls : Array Slot), lv_has ls 4 [(0, .ref (a 0)), (1, .int x1), (2, .int x2), (3, .int x3)] → W p l e ({ frames := 1, cells := 0, slots := 0, locals := 23 } : Room) s m ([.ref (a 0), .int p1] : List Value).toArray below meth c H locs 0 0 (MQ below (va_Qi (fun (r2 : Int32) (_ : Unit) => r2 = r) (fun _ t => xw_B (dC, dI) vwCl [(cI, .int), (cZ, .boolean)] A ((w_X a cI cZ) σ') t) A) ([.ref (a 0), .int p1] : List Value).toArray s 0 0 A) (F0 m 10 ls []) := by
    intro n
    induction n with
    | zero =>
      intro x1 x2 x3 τ hf
      rw [gX_orphan_10] at hf
      cases hf
    | succ n ih =>
      intro x1 x2 x3 τ hf H locs hP hD hS ls hl
      rw [gX_orphan_10] at hf
      refine lv_iload_n hx hb dX_orphan_10 rfl (lv_at hl 3 rfl) ?_
      refine lv_aload_n hx hb dX_orphan_11 rfl (lv_at hl 0 rfl) ?_
      refine aX_get_records (σ := τ) (v := (x_records τ)) rfl hx hb hts hown hK hP dX_orphan_12 ?_
      refine lv_icmp_gt (tgt := 51) hx hb dX_orphan_15 (by decide) (fun c_2 => ?_) (fun c_2 => ?_)
      · replace hf := it_t hf c_2
        refine lv_iconst (v := (0 : Int32)) hx hb dX_orphan_51 (by decide) ?_
        exact xw_iret (wf := (w_X a cI cZ)) hx hb hr hlocks rfl hK hP hD hS hf dX_orphan_52
      · replace hf := it_f hf c_2
        refine lv_aload_n hx hb dX_orphan_18 rfl (lv_at hl 0 rfl) ?_
        refine aX_get_live hx hb hts hown hK hP dX_orphan_19 ?_
        refine lv_iload_n hx hb dX_orphan_22 rfl (lv_at hl 3 rfl) ?_
        obtain ⟨g_3, hf⟩ := gd_f hf
        refine aX_ld_live (σ := τ) (f := (x_live τ)) rfl hx hb hK hP g_3 dX_orphan_23 ?_
        refine lv_if_eq (tgt := 45) hx hb dX_orphan_24 (by decide) (fun c_4 => ?_) (fun c_4 => ?_)
        · replace hf := it_t hf c_4
          refine lv_iinc (v := (x3 + 1)) (lv' := [(3, .int (x3 + 1)), (0, .ref (a 0)), (1, .int x1), (2, .int x2)]) hx hb dX_orphan_45 hl (k := 3) rfl (congrArg (HAdd.hAdd _) (by decide : Int32.ofInt (1) = (1 : Int32))) (by decide) rfl (fun ls hl => ?_)
          refine lv_goto (tgt := 10) hx hb dX_orphan_48 (by decide) ?_
          exact ih x1 x2 (x3 + 1) τ hf _ _ hP hD hS _ (lv_sub hl [1, 2, 3, 0] rfl)
        · replace hf := it_f hf c_4
          refine lv_aload_n hx hb dX_orphan_27 rfl (lv_at hl 0 rfl) ?_
          refine lv_iload_n hx hb dX_orphan_28 rfl (lv_at hl 3 rfl) ?_
          obtain ⟨q_5, hq_5, hf⟩ := bd_s hf
          refine xw_callV (kX_isLinked l dC dI a cI cZ tb K x3 τ q_5.2 q_5.1 hq_5) ⟨hx, hb, hml, hown, hts⟩ (cwV 1 hts (gw_V mt_194 mt_196 mt_14 mt_25 mt_197) rfl rfl rfl hdX_isLinked ⟨Nat.le_of_ble_eq_true rfl, Nat.le_of_ble_eq_true rfl⟩) hK hP hD hS hA hZ (q0 := 0) (ci := 0) rfl rfl rfl hl.1 rfl (Nat.le_of_ble_eq_true rfl) dX_orphan_29 ⟨Nat.zero_le _, Nat.zero_le _⟩ (fun H locs hP hD hS => ?_)
          refine lv_if_ne (tgt := 45) hx hb dX_orphan_32 (by decide) (fun c_6 => ?_) (fun c_6 => ?_)
          · replace hf := it_f hf c_6
            refine lv_iinc (v := (x3 + 1)) (lv' := [(3, .int (x3 + 1)), (0, .ref (a 0)), (1, .int x1), (2, .int x2)]) hx hb dX_orphan_45 hl (k := 3) rfl (congrArg (HAdd.hAdd _) (by decide : Int32.ofInt (1) = (1 : Int32))) (by decide) rfl (fun ls hl => ?_)
            refine lv_goto (tgt := 10) hx hb dX_orphan_48 (by decide) ?_
            exact ih x1 x2 (x3 + 1) q_5.2 hf _ _ hP hD hS _ (lv_sub hl [1, 2, 3, 0] rfl)
          · replace hf := it_t hf c_6
            refine lv_iload_n hx hb dX_orphan_35 rfl (lv_at hl 2 rfl) ?_
            refine lv_iload_n hx hb dX_orphan_36 rfl (lv_at hl 1 rfl) ?_
            refine lv_icmp_ne (tgt := 42) hx hb dX_orphan_37 (by decide) (fun c_7 => ?_) (fun c_7 => ?_)
            · replace hf := it_f hf c_7
              refine lv_iinc (v := (x2 + 1)) (lv' := [(2, .int (x2 + 1)), (0, .ref (a 0)), (1, .int x1), (3, .int x3)]) hx hb dX_orphan_42 hl (k := 2) rfl (congrArg (HAdd.hAdd _) (by decide : Int32.ofInt (1) = (1 : Int32))) (by decide) rfl (fun ls hl => ?_)
              refine lv_iinc (v := (x3 + 1)) (lv' := [(3, .int (x3 + 1)), (2, .int (x2 + 1)), (0, .ref (a 0)), (1, .int x1)]) hx hb dX_orphan_45 hl (k := 3) rfl (congrArg (HAdd.hAdd _) (by decide : Int32.ofInt (1) = (1 : Int32))) (by decide) rfl (fun ls hl => ?_)
              refine lv_goto (tgt := 10) hx hb dX_orphan_48 (by decide) ?_
              exact ih x1 (x2 + 1) (x3 + 1) q_5.2 hf _ _ hP hD hS _ (lv_sub hl [2, 3, 1, 0] rfl)
            · replace hf := it_t hf c_7
              refine lv_iload_n hx hb dX_orphan_40 rfl (lv_at hl 3 rfl) ?_
              exact xw_iret (wf := (w_X a cI cZ)) hx hb hr hlocks rfl hK hP hD hS hf dX_orphan_41
  unfold fX_orphan at hf
  refine lv_iload_n hx hb dX_orphan_0 rfl (lv_at hl 1 rfl) ?_
  refine lv_if_ge (tgt := 6) hx hb dX_orphan_1 (by decide) (fun c_1 => ?_) (fun c_1 => ?_)
  · replace hf := it_t hf c_1
    refine lv_iconst (v := (0 : Int32)) hx hb dX_orphan_6 (by decide) ?_
    refine lv_istore_n (lv' := [(2, .int (0 : Int32)), (0, .ref (a 0)), (1, .int p1)]) hx hb dX_orphan_7 rfl hl (by decide) rfl (fun ls hl => ?_)
    refine lv_iconst (v := (1 : Int32)) hx hb dX_orphan_8 (by decide) ?_
    refine lv_istore_n (lv' := [(3, .int (1 : Int32)), (2, .int (0 : Int32)), (0, .ref (a 0)), (1, .int p1)]) hx hb dX_orphan_9 rfl hl (by decide) rfl (fun ls hl => ?_)
    exact L_10 K p1 (0 : Int32) (1 : Int32) σ hf _ _ hP hD hS _ (lv_sub hl [2, 3, 1, 0] rfl)
  · replace hf := it_f hf c_1
    refine lv_iconst (v := (0 : Int32)) hx hb dX_orphan_4 (by decide) ?_
    exact xw_iret (wf := (w_X a cI cZ)) hx hb hr hlocks rfl hK hP hD hS hf dX_orphan_5
def fX_house (K : Nat) (p1 : Int32) (σ : XSt) : Option (Int32 × XSt) := ((fX_isRecord K p1 σ).bind fun q_1 => (if q_1.1 = 0 then some ((-1 : Int32), q_1.2) else (if p1 < 0 ∨ 61 ≤ p1.toNatClampNeg then none else some (((x_houses q_1.2) p1.toNatClampNeg), q_1.2))))
set_option maxHeartbeats 4000000 in
set_option maxRecDepth 100000 in
theorem kX_house (l : Launch) (dC : Nat → ClassId) (dI : Nat → Nat → Nat) (a : Nat → Nat) (cI cZ : ClassId) (tb : Nat) (K : Nat) (p1 : Int32) (σ σ' : XSt) (r : Int32) (hf : fX_house K p1 σ = some (r, σ')) : xw_Ct l yX_house wdX_house ({ frames := 1, cells := 0, slots := 0, locals := 21 } : Room) (dC, dI) vwCl [(cI, .int), (cZ, .boolean)] (zz tb) ((w_X a cI cZ) σ) ((w_X a cI cZ) σ') [.ref (a 0), .int p1] r := by
  refine xw_ofW (cc := cX_house) (maxL := 2) (ret := (some .int)) (lv := [(0, .ref (a 0)), (1, .int p1)]) (by decide) rfl (Nat.le_of_ble_eq_true rfl) rfl ?_
  intro p e s m below meth c A hAt hP hD hS ls hl
  obtain ⟨hx, hb, hr, hml, hown, hts, hlocks, hK, hZ, hA⟩ := hAt
  replace hts : ∀ w ∈ lw_g, w.before _ s = true := fun w h => hts w (List.mem_cons_of_mem _ h)
  unfold fX_house at hf
  refine lv_aload_n hx hb dX_house_0 rfl (lv_at hl 0 rfl) ?_
  refine lv_iload_n hx hb dX_house_1 rfl (lv_at hl 1 rfl) ?_
  obtain ⟨q_1, hq_1, hf⟩ := bd_s hf
  refine xw_callV (kX_isRecord l dC dI a cI cZ tb K p1 σ q_1.2 q_1.1 hq_1) ⟨hx, hb, hml, hown, hts⟩ (cwV 1 hts (gw_V mt_95 mt_97 mt_2 mt_25 mt_98) rfl rfl rfl hdX_isRecord ⟨Nat.le_of_ble_eq_true rfl, Nat.le_of_ble_eq_true rfl⟩) hK hP hD hS hA hZ (q0 := 0) (ci := 0) rfl rfl rfl hl.1 rfl (Nat.le_of_ble_eq_true rfl) dX_house_2 ⟨Nat.zero_le _, Nat.zero_le _⟩ (fun H locs hP hD hS => ?_)
  refine lv_if_eq (tgt := 17) hx hb dX_house_5 (by decide) (fun c_2 => ?_) (fun c_2 => ?_)
  · replace hf := it_t hf c_2
    refine lv_iconst (v := (-1 : Int32)) hx hb dX_house_17 (by decide) ?_
    exact xw_iret (wf := (w_X a cI cZ)) hx hb hr hlocks rfl hK hP hD hS hf dX_house_18
  · replace hf := it_f hf c_2
    refine lv_aload_n hx hb dX_house_8 rfl (lv_at hl 0 rfl) ?_
    refine aX_get_houses hx hb hts hown hK hP dX_house_9 ?_
    refine lv_iload_n hx hb dX_house_12 rfl (lv_at hl 1 rfl) ?_
    obtain ⟨g_3, hf⟩ := gd_f hf
    refine aX_ld_houses (σ := q_1.2) (f := (x_houses q_1.2)) rfl hx hb hK hP g_3 dX_house_13 ?_
    refine lv_goto (tgt := 18) hx hb dX_house_14 (by decide) ?_
    exact xw_iret (wf := (w_X a cI cZ)) hx hb hr hlocks rfl hK hP hD hS hf dX_house_18
