def fM_ring (K : Nat) (p1 : Int32) (σ : MSt) : Option (Int32 × MSt) := (if p1 < 0 then some ((0 : Int32), (m_pthrown σ (0 : Int32))) else (if p1 < (m_ringLength σ) then (if p1 < 0 ∨ 61 ≤ p1.toNatClampNeg then none else some (((m_ring σ) p1.toNatClampNeg), (m_pthrown σ (0 : Int32)))) else some ((0 : Int32), (m_pthrown σ (0 : Int32)))))
set_option maxHeartbeats 4000000 in
set_option maxRecDepth 100000 in
theorem kM_ring (l : Launch) (dC : Nat → ClassId) (dI : Nat → Nat → Nat) (a : Nat → Nat) (cI cZ : ClassId) (tb : Nat) (K : Nat) (p1 : Int32) (σ σ' : MSt) (r : Int32) (hf : fM_ring K p1 σ = some (r, σ')) : xw_Ct l yM_ring wdM_ring ({ frames := 0, cells := 0, slots := 0, locals := 0 } : Room) (dC, dI) vwCl [(cI, .int), (cZ, .boolean)] (zz tb) ((w_M a cI cZ) σ) ((w_M a cI cZ) σ') [.ref (a 0), .int p1] r := by
  refine xw_ofW (cc := cM_ring) (maxL := 2) (ret := (some .int)) (lv := [(0, .ref (a 0)), (1, .int p1)]) (by decide) rfl (Nat.le_of_ble_eq_true rfl) rfl ?_
  intro p e s m below meth c A hAt hP hD hS ls hl
  obtain ⟨hx, hb, hr, hml, hown, hts, hlocks, hK, hZ, hA⟩ := hAt
  replace hts : ∀ w ∈ lw_g, w.before _ s = true := fun w h => hts w (List.mem_cons_of_mem _ h)
  unfold fM_ring at hf
  refine lv_aload_n hx hb dM_ring_0 rfl (lv_at hl 0 rfl) ?_
  refine lv_iconst (v := (0 : Int32)) hx hb dM_ring_1 (by decide) ?_
  refine aM_put_thrown (σ := σ) (v := (0 : Int32)) (τ := (m_pthrown σ (0 : Int32))) rfl hx hb hts hown hK hP hD hS dM_ring_2 (fun H locs hP hD hS => ?_)
  refine lv_iload_n hx hb dM_ring_5 rfl (lv_at hl 1 rfl) ?_
  refine lv_if_lt (tgt := 17) hx hb dM_ring_6 (by decide) (fun c_1 => ?_) (fun c_1 => ?_)
  · replace hf := it_t hf c_1
    refine lv_iconst (v := (0 : Int32)) hx hb dM_ring_17 (by decide) ?_
    refine lv_goto (tgt := 27) hx hb dM_ring_18 (by decide) ?_
    exact xw_iret (wf := (w_M a cI cZ)) hx hb hr hlocks rfl hK hP hD hS hf dM_ring_27
  · replace hf := it_f hf c_1
    refine lv_iload_n hx hb dM_ring_9 rfl (lv_at hl 1 rfl) ?_
    refine lv_aload_n hx hb dM_ring_10 rfl (lv_at hl 0 rfl) ?_
    refine aM_get_ringLength (σ := (m_pthrown σ (0 : Int32))) (v := (m_ringLength σ)) rfl hx hb hts hown hK hP dM_ring_11 ?_
    refine lv_icmp_lt (tgt := 21) hx hb dM_ring_14 (by decide) (fun c_2 => ?_) (fun c_2 => ?_)
    · replace hf := it_t hf c_2
      refine lv_aload_n hx hb dM_ring_21 rfl (lv_at hl 0 rfl) ?_
      refine aM_get_ring hx hb hts hown hK hP dM_ring_22 ?_
      refine lv_iload_n hx hb dM_ring_25 rfl (lv_at hl 1 rfl) ?_
      obtain ⟨g_3, hf⟩ := gd_f hf
      refine aM_ld_ring (σ := (m_pthrown σ (0 : Int32))) (f := (m_ring σ)) rfl hx hb hK hP g_3 dM_ring_26 ?_
      exact xw_iret (wf := (w_M a cI cZ)) hx hb hr hlocks rfl hK hP hD hS hf dM_ring_27
    · replace hf := it_f hf c_2
      refine lv_iconst (v := (0 : Int32)) hx hb dM_ring_17 (by decide) ?_
      refine lv_goto (tgt := 27) hx hb dM_ring_18 (by decide) ?_
      exact xw_iret (wf := (w_M a cI cZ)) hx hb hr hlocks rfl hK hP hD hS hf dM_ring_27
def fM_host (K : Nat) (p1 : Int32) (σ : MSt) : Option (Int32 × MSt) := ((fM_isLive K p1 (m_pthrown σ (0 : Int32))).bind fun q_1 => (if q_1.1 = 0 then some ((0 : Int32), q_1.2) else ((fM_hostOf K p1 q_1.2).bind fun q_3 => some (q_3.1, q_3.2))))
set_option maxHeartbeats 4000000 in
set_option maxRecDepth 100000 in
theorem kM_host (l : Launch) (dC : Nat → ClassId) (dI : Nat → Nat → Nat) (a : Nat → Nat) (cI cZ : ClassId) (tb : Nat) (K : Nat) (p1 : Int32) (σ σ' : MSt) (r : Int32) (hf : fM_host K p1 σ = some (r, σ')) : xw_Ct l yM_host wdM_host ({ frames := 1, cells := 0, slots := 0, locals := 22 } : Room) (dC, dI) vwCl [(cI, .int), (cZ, .boolean)] (zz tb) ((w_M a cI cZ) σ) ((w_M a cI cZ) σ') [.ref (a 0), .int p1] r := by
  refine xw_ofW (cc := cM_host) (maxL := 2) (ret := (some .int)) (lv := [(0, .ref (a 0)), (1, .int p1)]) (by decide) rfl (Nat.le_of_ble_eq_true rfl) rfl ?_
  intro p e s m below meth c A hAt hP hD hS ls hl
  obtain ⟨hx, hb, hr, hml, hown, hts, hlocks, hK, hZ, hA⟩ := hAt
  replace hts : ∀ w ∈ lw_g, w.before _ s = true := fun w h => hts w (List.mem_cons_of_mem _ h)
  unfold fM_host at hf
  refine lv_aload_n hx hb dM_host_0 rfl (lv_at hl 0 rfl) ?_
  refine lv_iconst (v := (0 : Int32)) hx hb dM_host_1 (by decide) ?_
  refine aM_put_thrown (σ := σ) (v := (0 : Int32)) (τ := (m_pthrown σ (0 : Int32))) rfl hx hb hts hown hK hP hD hS dM_host_2 (fun H locs hP hD hS => ?_)
  refine lv_aload_n hx hb dM_host_5 rfl (lv_at hl 0 rfl) ?_
  refine lv_iload_n hx hb dM_host_6 rfl (lv_at hl 1 rfl) ?_
  obtain ⟨q_1, hq_1, hf⟩ := bd_s hf
  refine xw_callV (kM_isLive l dC dI a cI cZ tb K p1 (m_pthrown σ (0 : Int32)) q_1.2 q_1.1 hq_1) ⟨hx, hb, hml, hown, hts⟩ (cwV 1 hts (gw_V mt_263 mt_265 mt_15 mt_26 mt_266) rfl rfl rfl hdM_isLive ⟨Nat.le_of_ble_eq_true rfl, Nat.le_of_ble_eq_true rfl⟩) hK hP hD hS hA hZ (q0 := 0) (ci := 1) rfl rfl rfl hl.1 rfl (Nat.le_of_ble_eq_true rfl) dM_host_7 ⟨Nat.zero_le _, Nat.zero_le _⟩ (fun H locs hP hD hS => ?_)
  refine lv_if_eq (tgt := 21) hx hb dM_host_10 (by decide) (fun c_2 => ?_) (fun c_2 => ?_)
  · replace hf := it_t hf c_2
    refine lv_iconst (v := (0 : Int32)) hx hb dM_host_21 (by decide) ?_
    exact xw_iret (wf := (w_M a cI cZ)) hx hb hr hlocks rfl hK hP hD hS hf dM_host_22
  · replace hf := it_f hf c_2
    refine lv_aload_n hx hb dM_host_13 rfl (lv_at hl 0 rfl) ?_
    refine lv_iload_n hx hb dM_host_14 rfl (lv_at hl 1 rfl) ?_
    obtain ⟨q_3, hq_3, hf⟩ := bd_s hf
    refine xw_callV (kM_hostOf l dC dI a cI cZ tb K p1 q_1.2 q_3.2 q_3.1 hq_3) ⟨hx, hb, hml, hown, hts⟩ (cwV 1 hts (gw_V mt_285 mt_287 mt_19 mt_26 mt_288) rfl rfl rfl hdM_hostOf ⟨Nat.le_of_ble_eq_true rfl, Nat.le_of_ble_eq_true rfl⟩) hK hP hD hS hA hZ (q0 := 0) (ci := 1) rfl rfl rfl hl.1 rfl (Nat.le_of_ble_eq_true rfl) dM_host_15 ⟨Nat.zero_le _, Nat.zero_le _⟩ (fun H locs hP hD hS => ?_)
    refine lv_goto (tgt := 22) hx hb dM_host_18 (by decide) ?_
    exact xw_iret (wf := (w_M a cI cZ)) hx hb hr hlocks rfl hK hP hD hS hf dM_host_22
def gM_move_40 (K : Nat) : Nat → Int32 → Int32 → Int32 → Int32 → MSt → Option (Int32 × MSt)
  | 0, _, _, _, _, _ => none
  | n + 1, x1, x2, x3, x4, τ => (if (m_records τ) < x4 then some (x3, τ) else (if x4 < 0 ∨ 61 ≤ x4.toNatClampNeg then none else (if ((m_live τ) x4.toNatClampNeg) = 0 then (gM_move_40 K n x1 x2 x3 (x4 + 1) τ) else ((fM_liesIn K x4 x1 τ).bind fun q_8 => (if q_8.1 = 0 then (gM_move_40 K n x1 x2 x3 (x4 + 1) q_8.2) else (if x4 < 0 ∨ 61 ≤ x4.toNatClampNeg then none else (if ((m_houses q_8.2) x4.toNatClampNeg) = x2 then (if x4 < 0 ∨ 61 ≤ x4.toNatClampNeg then none else (gM_move_40 K n x1 x2 (x3 + (0 : Int32)) (x4 + 1) (m_phouses q_8.2 (upd (m_houses q_8.2) x4.toNatClampNeg x2)))) else (if x4 < 0 ∨ 61 ≤ x4.toNatClampNeg then none else (gM_move_40 K n x1 x2 (x3 + (1 : Int32)) (x4 + 1) (m_phouses q_8.2 (upd (m_houses q_8.2) x4.toNatClampNeg x2)))))))))))
def fM_move (K : Nat) (p1 p2 : Int32) (σ : MSt) : Option (Int32 × MSt) := ((fM_isLive K p1 (m_pmoment (m_pthrown σ (0 : Int32)) ((m_moment σ) + (1 : Int32)))).bind fun q_1 => (if q_1.1 = 0 then some ((0 : Int32), q_1.2) else (if p2 < 0 then some ((0 : Int32), q_1.2) else (if p2 ≤ (9 : Int32) then (gM_move_40 K K p1 p2 (0 : Int32) (1 : Int32) q_1.2) else some ((0 : Int32), q_1.2)))))
set_option maxHeartbeats 4000000 in
set_option maxRecDepth 100000 in
theorem kM_move (l : Launch) (dC : Nat → ClassId) (dI : Nat → Nat → Nat) (a : Nat → Nat) (cI cZ : ClassId) (tb : Nat) (K : Nat) (p1 p2 : Int32) (σ σ' : MSt) (r : Int32) (hf : fM_move K p1 p2 σ = some (r, σ')) : xw_Ct l yM_move wdM_move ({ frames := 2, cells := 0, slots := 0, locals := 45 } : Room) (dC, dI) vwCl [(cI, .int), (cZ, .boolean)] (zz tb) ((w_M a cI cZ) σ) ((w_M a cI cZ) σ') [.ref (a 0), .int p1, .int p2] r := by
  refine xw_ofW (cc := cM_move) (maxL := 5) (ret := (some .int)) (lv := [(0, .ref (a 0)), (1, .int p1), (2, .int p2)]) (by decide) rfl (Nat.le_of_ble_eq_true rfl) rfl ?_
  intro p e s m below meth c A hAt hP hD hS ls hl
  obtain ⟨hx, hb, hr, hml, hown, hts, hlocks, hK, hZ, hA⟩ := hAt
  replace hts : ∀ w ∈ lw_g, w.before _ s = true := fun w h => hts w (List.mem_cons_of_mem _ h)
  have L_40 : ∀ (n : Nat) (x1 x2 x3 x4 : Int32) (τ : MSt), gM_move_40 K n x1 x2 x3 x4 τ = some (r, σ') → ∀ (H : Heap) (locs : List Loc), va_P (dC, dI) vwCl ((w_M a cI cZ) τ) H → va_D A ((w_M a cI cZ) τ) → va_S A s.heap H locs → ∀ (ls : Array Slot), lv_has ls 5 [(0, .ref (a 0)), (1, .int x1), (2, .int x2), (3, .int x3), (4, .int x4)] → W p l e ({ frames := 2, cells := 0, slots := 0, locals := 45 } : Room) s m ([.ref (a 0), .int p1, .int p2] : List Value).toArray below meth c H locs 0 0 (MQ below (va_Qi (fun (r2 : Int32) (_ : Unit) => r2 = r) (fun _ t => xw_B (dC, dI) vwCl [(cI, .int), (cZ, .boolean)] A ((w_M a cI cZ) σ') t) A) ([.ref (a 0), .int p1, .int p2] : List Value).toArray s 0 0 A) (F0 m 40 ls []) := by
    intro n
    induction n with
    | zero =>
      intro x1 x2 x3 x4 τ hf
      rw [gM_move_40] at hf
      cases hf
    | succ n ih =>
      intro x1 x2 x3 x4 τ hf H locs hP hD hS ls hl
      rw [gM_move_40] at hf
      refine lv_iload hx hb dM_move_40 (lv_at hl 4 rfl) ?_
      refine lv_aload_n hx hb dM_move_42 rfl (lv_at hl 0 rfl) ?_
      refine aM_get_records (σ := τ) (v := (m_records τ)) rfl hx hb hts hown hK hP dM_move_43 ?_
      refine lv_icmp_gt (tgt := 102) hx hb dM_move_46 (by decide) (fun c_5 => ?_) (fun c_5 => ?_)
      · replace hf := it_t hf c_5
        refine lv_iload_n hx hb dM_move_102 rfl (lv_at hl 3 rfl) ?_
        exact xw_iret (wf := (w_M a cI cZ)) hx hb hr hlocks rfl hK hP hD hS hf dM_move_103
      · replace hf := it_f hf c_5
        refine lv_aload_n hx hb dM_move_49 rfl (lv_at hl 0 rfl) ?_
        refine aM_get_live hx hb hts hown hK hP dM_move_50 ?_
        refine lv_iload hx hb dM_move_53 (lv_at hl 4 rfl) ?_
        obtain ⟨g_6, hf⟩ := gd_f hf
        refine aM_ld_live (σ := τ) (f := (m_live τ)) rfl hx hb hK hP g_6 dM_move_55 ?_
        refine lv_if_eq (tgt := 96) hx hb dM_move_56 (by decide) (fun c_7 => ?_) (fun c_7 => ?_)
        · replace hf := it_t hf c_7
          refine lv_iinc (v := (x4 + 1)) (lv' := [(4, .int (x4 + 1)), (0, .ref (a 0)), (1, .int x1), (2, .int x2), (3, .int x3)]) hx hb dM_move_96 hl (k := 4) rfl (congrArg (HAdd.hAdd _) (by decide : Int32.ofInt (1) = (1 : Int32))) (by decide) rfl (fun ls hl => ?_)
          refine lv_goto (tgt := 40) hx hb dM_move_99 (by decide) ?_
          exact ih x1 x2 x3 (x4 + 1) τ hf _ _ hP hD hS _ (lv_sub hl [1, 2, 3, 4, 0] rfl)
        · replace hf := it_f hf c_7
          refine lv_aload_n hx hb dM_move_59 rfl (lv_at hl 0 rfl) ?_
          refine lv_iload hx hb dM_move_60 (lv_at hl 4 rfl) ?_
          refine lv_iload_n hx hb dM_move_62 rfl (lv_at hl 1 rfl) ?_
          obtain ⟨q_8, hq_8, hf⟩ := bd_s hf
          refine xw_callV (kM_liesIn l dC dI a cI cZ tb K x4 x1 τ q_8.2 q_8.1 hq_8) ⟨hx, hb, hml, hown, hts⟩ (cwV 2 hts (gw_V mt_281 mt_283 mt_18 mt_26 mt_284) rfl rfl rfl hdM_liesIn ⟨Nat.le_of_ble_eq_true rfl, Nat.le_of_ble_eq_true rfl⟩) hK hP hD hS hA hZ (q0 := 0) (ci := 1) rfl rfl rfl hl.1 rfl (Nat.le_of_ble_eq_true rfl) dM_move_63 ⟨Nat.zero_le _, Nat.zero_le _⟩ (fun H locs hP hD hS => ?_)
          refine lv_if_eq (tgt := 96) hx hb dM_move_66 (by decide) (fun c_9 => ?_) (fun c_9 => ?_)
          · replace hf := it_t hf c_9
            refine lv_iinc (v := (x4 + 1)) (lv' := [(4, .int (x4 + 1)), (0, .ref (a 0)), (1, .int x1), (2, .int x2), (3, .int x3)]) hx hb dM_move_96 hl (k := 4) rfl (congrArg (HAdd.hAdd _) (by decide : Int32.ofInt (1) = (1 : Int32))) (by decide) rfl (fun ls hl => ?_)
            refine lv_goto (tgt := 40) hx hb dM_move_99 (by decide) ?_
            exact ih x1 x2 x3 (x4 + 1) q_8.2 hf _ _ hP hD hS _ (lv_sub hl [1, 2, 3, 4, 0] rfl)
          · replace hf := it_f hf c_9
            refine lv_iload_n hx hb dM_move_69 rfl (lv_at hl 3 rfl) ?_
            refine lv_aload_n hx hb dM_move_70 rfl (lv_at hl 0 rfl) ?_
            refine aM_get_houses hx hb hts hown hK hP dM_move_71 ?_
            refine lv_iload hx hb dM_move_74 (lv_at hl 4 rfl) ?_
            obtain ⟨g_10, hf⟩ := gd_f hf
            refine aM_ld_houses (σ := q_8.2) (f := (m_houses q_8.2)) rfl hx hb hK hP g_10 dM_move_76 ?_
            refine lv_iload_n hx hb dM_move_77 rfl (lv_at hl 2 rfl) ?_
            refine lv_icmp_eq (tgt := 85) hx hb dM_move_78 (by decide) (fun c_11 => ?_) (fun c_11 => ?_)
            · replace hf := it_t hf c_11
              refine lv_iconst (v := (0 : Int32)) hx hb dM_move_85 (by decide) ?_
              refine lv_iadd hx hb dM_move_86 ?_
              refine lv_istore_n (lv' := [(3, .int (x3 + (0 : Int32))), (0, .ref (a 0)), (1, .int x1), (2, .int x2), (4, .int x4)]) hx hb dM_move_87 rfl hl (by decide) rfl (fun ls hl => ?_)
              refine lv_aload_n hx hb dM_move_88 rfl (lv_at hl 1 rfl) ?_
              refine aM_get_houses hx hb hts hown hK hP dM_move_89 ?_
              refine lv_iload hx hb dM_move_92 (lv_at hl 4 rfl) ?_
              refine lv_iload_n hx hb dM_move_94 rfl (lv_at hl 3 rfl) ?_
              obtain ⟨g_12, hf⟩ := gd_f hf
              refine aM_st_houses (σ := q_8.2) (f := (m_houses q_8.2)) (x := x2) (τ := (m_phouses q_8.2 (upd (m_houses q_8.2) x4.toNatClampNeg x2))) rfl rfl hx hb hK hP hD hS g_12 dM_move_95 (fun H locs hP hD hS => ?_)
              refine lv_iinc (v := (x4 + 1)) (lv' := [(4, .int (x4 + 1)), (3, .int (x3 + (0 : Int32))), (0, .ref (a 0)), (1, .int x1), (2, .int x2)]) hx hb dM_move_96 hl (k := 4) rfl (congrArg (HAdd.hAdd _) (by decide : Int32.ofInt (1) = (1 : Int32))) (by decide) rfl (fun ls hl => ?_)
              refine lv_goto (tgt := 40) hx hb dM_move_99 (by decide) ?_
              exact ih x1 x2 (x3 + (0 : Int32)) (x4 + 1) (m_phouses q_8.2 (upd (m_houses q_8.2) x4.toNatClampNeg x2)) hf _ _ hP hD hS _ (lv_sub hl [2, 3, 4, 1, 0] rfl)
            · replace hf := it_f hf c_11
              refine lv_iconst (v := (1 : Int32)) hx hb dM_move_81 (by decide) ?_
              refine lv_goto (tgt := 86) hx hb dM_move_82 (by decide) ?_
              refine lv_iadd hx hb dM_move_86 ?_
              refine lv_istore_n (lv' := [(3, .int (x3 + (1 : Int32))), (0, .ref (a 0)), (1, .int x1), (2, .int x2), (4, .int x4)]) hx hb dM_move_87 rfl hl (by decide) rfl (fun ls hl => ?_)
              refine lv_aload_n hx hb dM_move_88 rfl (lv_at hl 1 rfl) ?_
              refine aM_get_houses hx hb hts hown hK hP dM_move_89 ?_
              refine lv_iload hx hb dM_move_92 (lv_at hl 4 rfl) ?_
              refine lv_iload_n hx hb dM_move_94 rfl (lv_at hl 3 rfl) ?_
              obtain ⟨g_13, hf⟩ := gd_f hf
              refine aM_st_houses (σ := q_8.2) (f := (m_houses q_8.2)) (x := x2) (τ := (m_phouses q_8.2 (upd (m_houses q_8.2) x4.toNatClampNeg x2))) rfl rfl hx hb hK hP hD hS g_13 dM_move_95 (fun H locs hP hD hS => ?_)
              refine lv_iinc (v := (x4 + 1)) (lv' := [(4, .int (x4 + 1)), (3, .int (x3 + (1 : Int32))), (0, .ref (a 0)), (1, .int x1), (2, .int x2)]) hx hb dM_move_96 hl (k := 4) rfl (congrArg (HAdd.hAdd _) (by decide : Int32.ofInt (1) = (1 : Int32))) (by decide) rfl (fun ls hl => ?_)
              refine lv_goto (tgt := 40) hx hb dM_move_99 (by decide) ?_
              exact ih x1 x2 (x3 + (1 : Int32)) (x4 + 1) (m_phouses q_8.2 (upd (m_houses q_8.2) x4.toNatClampNeg x2)) hf _ _ hP hD hS _ (lv_sub hl [2, 3, 4, 1, 0] rfl)
  unfold fM_move at hf
  refine lv_aload_n hx hb dM_move_0 rfl (lv_at hl 0 rfl) ?_
  refine lv_iconst (v := (0 : Int32)) hx hb dM_move_1 (by decide) ?_
  refine aM_put_thrown (σ := σ) (v := (0 : Int32)) (τ := (m_pthrown σ (0 : Int32))) rfl hx hb hts hown hK hP hD hS dM_move_2 (fun H locs hP hD hS => ?_)
  refine lv_aload_n hx hb dM_move_5 rfl (lv_at hl 0 rfl) ?_
  refine lv_dup hx hb dM_move_6 rfl ?_
  refine aM_get_moment (σ := (m_pthrown σ (0 : Int32))) (v := (m_moment σ)) rfl hx hb hts hown hK hP dM_move_7 ?_
  refine lv_iconst (v := (1 : Int32)) hx hb dM_move_10 (by decide) ?_
  refine lv_iadd hx hb dM_move_11 ?_
  refine aM_put_moment (σ := (m_pthrown σ (0 : Int32))) (v := ((m_moment σ) + (1 : Int32))) (τ := (m_pmoment (m_pthrown σ (0 : Int32)) ((m_moment σ) + (1 : Int32)))) rfl hx hb hts hown hK hP hD hS dM_move_12 (fun H locs hP hD hS => ?_)
  refine lv_aload_n hx hb dM_move_15 rfl (lv_at hl 0 rfl) ?_
  refine lv_iload_n hx hb dM_move_16 rfl (lv_at hl 1 rfl) ?_
  obtain ⟨q_1, hq_1, hf⟩ := bd_s hf
  refine xw_callV (kM_isLive l dC dI a cI cZ tb K p1 (m_pmoment (m_pthrown σ (0 : Int32)) ((m_moment σ) + (1 : Int32))) q_1.2 q_1.1 hq_1) ⟨hx, hb, hml, hown, hts⟩ (cwV 1 hts (gw_V mt_263 mt_265 mt_15 mt_26 mt_266) rfl rfl rfl hdM_isLive ⟨Nat.le_of_ble_eq_true rfl, Nat.le_of_ble_eq_true rfl⟩) hK hP hD hS hA hZ (q0 := 0) (ci := 1) rfl rfl rfl hl.1 rfl (Nat.le_of_ble_eq_true rfl) dM_move_17 ⟨Nat.zero_le _, Nat.zero_le _⟩ (fun H locs hP hD hS => ?_)
  refine lv_if_eq (tgt := 33) hx hb dM_move_20 (by decide) (fun c_2 => ?_) (fun c_2 => ?_)
  · replace hf := it_t hf c_2
    refine lv_iconst (v := (0 : Int32)) hx hb dM_move_33 (by decide) ?_
    exact xw_iret (wf := (w_M a cI cZ)) hx hb hr hlocks rfl hK hP hD hS hf dM_move_34
  · replace hf := it_f hf c_2
    refine lv_iload_n hx hb dM_move_23 rfl (lv_at hl 2 rfl) ?_
    refine lv_if_lt (tgt := 33) hx hb dM_move_24 (by decide) (fun c_3 => ?_) (fun c_3 => ?_)
    · replace hf := it_t hf c_3
      refine lv_iconst (v := (0 : Int32)) hx hb dM_move_33 (by decide) ?_
      exact xw_iret (wf := (w_M a cI cZ)) hx hb hr hlocks rfl hK hP hD hS hf dM_move_34
    · replace hf := it_f hf c_3
      refine lv_iload_n hx hb dM_move_27 rfl (lv_at hl 2 rfl) ?_
      refine lv_bipush (v := (9 : Int32)) hx hb dM_move_28 (by decide) ?_
      refine lv_icmp_le (tgt := 35) hx hb dM_move_30 (by decide) (fun c_4 => ?_) (fun c_4 => ?_)
      · replace hf := it_t hf c_4
        refine lv_iconst (v := (0 : Int32)) hx hb dM_move_35 (by decide) ?_
        refine lv_istore_n (lv' := [(3, .int (0 : Int32)), (0, .ref (a 0)), (1, .int p1), (2, .int p2)]) hx hb dM_move_36 rfl hl (by decide) rfl (fun ls hl => ?_)
        refine lv_iconst (v := (1 : Int32)) hx hb dM_move_37 (by decide) ?_
        refine lv_istore (lv' := [(4, .int (1 : Int32)), (3, .int (0 : Int32)), (0, .ref (a 0)), (1, .int p1), (2, .int p2)]) hx hb dM_move_38 hl (by decide) rfl (fun ls hl => ?_)
        exact L_40 K p1 p2 (0 : Int32) (1 : Int32) q_1.2 hf _ _ hP hD hS _ (lv_sub hl [2, 3, 4, 1, 0] rfl)
      · replace hf := it_f hf c_4
        refine lv_iconst (v := (0 : Int32)) hx hb dM_move_33 (by decide) ?_
        exact xw_iret (wf := (w_M a cI cZ)) hx hb hr hlocks rfl hK hP hD hS hf dM_move_34
def gM_delete_97 (K : Nat) (k : Int32 → Int32 → Int32 → MSt → Option (Int32 × MSt)) : Nat → Int32 → Int32 → Int32 → MSt → Option (Int32 × MSt)
  | 0, _, _, _, _ => none
  | n2 + 1, x1, x2, x3, τ => (if (m_links τ) ≤ x3 then some ((1 : Int32), τ) else (if x3 < 0 ∨ 200 ≤ x3.toNatClampNeg then none else (if ((m_from τ) x3.toNatClampNeg) = x1 then ((fM_changed K x1 τ).bind fun q_11 => ((fM_drop K x3 q_11.2).bind fun q_12 => (gM_delete_97 K k n2 x1 x2 x3 q_12.2))) else (gM_delete_97 K k n2 x1 x2 (x3 + 1) τ))))
def gM_delete_29 (K : Nat) : Nat → Int32 → Int32 → Int32 → MSt → Option (Int32 × MSt)
  | 0, _, _, _, _ => none
  | n + 1, x1, x2, x3, τ => (if (m_links τ) ≤ x3 then (if x2 ≤ 0 then ((fM_hostOf K x1 τ).bind fun q_5 => (if x1 < 0 ∨ 61 ≤ x1.toNatClampNeg then none else (if x1 < 0 ∨ 61 ≤ x1.toNatClampNeg then none else (gM_delete_97 K (fun (y0 y1 y2 : Int32) (t : MSt) => gM_delete_29 K n y0 y1 y2 t) K x1 x2 (0 : Int32) (m_phadHost (m_plive q_5.2 (upd (m_live q_5.2) x1.toNatClampNeg (vp_nar .boolean (0 : Int32)))) (upd (m_hadHost q_5.2) x1.toNatClampNeg q_5.1)))))) else some ((-x2), τ)) else (if x3 < 0 ∨ 200 ≤ x3.toNatClampNeg then none else (if ((m_field τ) x3.toNatClampNeg) = 0 then (if x3 < 0 ∨ 200 ≤ x3.toNatClampNeg then none else (if ((m_to τ) x3.toNatClampNeg) = x1 then (gM_delete_29 K n x1 (x2 + (1 : Int32)) (x3 + 1) τ) else (gM_delete_29 K n x1 (x2 + (0 : Int32)) (x3 + 1) τ))) else (gM_delete_29 K n x1 (x2 + (0 : Int32)) (x3 + 1) τ))))
def fM_delete (K : Nat) (p1 : Int32) (σ : MSt) : Option (Int32 × MSt) := ((fM_isLive K p1 (m_pmoment (m_pthrown σ (0 : Int32)) ((m_moment σ) + (1 : Int32)))).bind fun q_1 => (if q_1.1 = 0 then some ((0 : Int32), q_1.2) else (gM_delete_29 K K p1 (0 : Int32) (0 : Int32) q_1.2)))
set_option maxHeartbeats 4000000 in
set_option maxRecDepth 100000 in
theorem kM_delete (l : Launch) (dC : Nat → ClassId) (dI : Nat → Nat → Nat) (a : Nat → Nat) (cI cZ : ClassId) (tb : Nat) (K : Nat) (p1 : Int32) (σ σ' : MSt) (r : Int32) (hf : fM_delete K p1 σ = some (r, σ')) : xw_Ct l yM_delete wdM_delete ({ frames := 1, cells := 0, slots := 0, locals := 22 } : Room) (dC, dI) vwCl [(cI, .int), (cZ, .boolean)] (zz tb) ((w_M a cI cZ) σ) ((w_M a cI cZ) σ') [.ref (a 0), .int p1] r := by
  refine xw_ofW (cc := cM_delete) (maxL := 4) (ret := (some .int)) (lv := [(0, .ref (a 0)), (1, .int p1)]) (by decide) rfl (Nat.le_of_ble_eq_true rfl) rfl ?_
  intro p e s m below meth c A hAt hP hD hS ls hl
  obtain ⟨hx, hb, hr, hml, hown, hts, hlocks, hK, hZ, hA⟩ := hAt
  replace hts : ∀ w ∈ lw_g, w.before _ s = true := fun w h => hts w (List.mem_cons_of_mem _ h)
  have L_29 : ∀ (n : Nat) (x1 x2 x3 : Int32) (τ : MSt), gM_delete_29 K n x1 x2 x3 τ = some (r, σ') → ∀ (H : Heap) (locs : List Loc), va_P (dC, dI) vwCl ((w_M a cI cZ) τ) H → va_D A ((w_M a cI cZ) τ) → va_S A s.heap H locs → ∀ (ls : Array Slot), lv_has ls 4 [(0, .ref (a 0)), (1, .int x1), (2, .int x2), (3, .int x3)] → W p l e ({ frames := 1, cells := 0, slots := 0, locals := 22 } : Room) s m ([.ref (a 0), .int p1] : List Value).toArray below meth c H locs 0 0 (MQ below (va_Qi (fun (r2 : Int32) (_ : Unit) => r2 = r) (fun _ t => xw_B (dC, dI) vwCl [(cI, .int), (cZ, .boolean)] A ((w_M a cI cZ) σ') t) A) ([.ref (a 0), .int p1] : List Value).toArray s 0 0 A) (F0 m 29 ls []) := by
    intro n
    induction n with
    | zero =>
      intro x1 x2 x3 τ hf
      rw [gM_delete_29] at hf
      cases hf
    | succ n ih =>
      intro x1 x2 x3 τ hf H locs hP hD hS ls hl
      rw [gM_delete_29] at hf
      have L_97 : ∀ (n2 : Nat) (x1 x2 x3 : Int32) (τ : MSt), gM_delete_97 K (fun (y0 y1 y2 : Int32) (t : MSt) => gM_delete_29 K n y0 y1 y2 t) n2 x1 x2 x3 τ = some (r, σ') → ∀ (H : Heap) (locs : List Loc), va_P (dC, dI) vwCl ((w_M a cI cZ) τ) H → va_D A ((w_M a cI cZ) τ) → va_S A s.heap H locs → ∀ (ls : Array Slot), lv_has ls 4 [(0, .ref (a 0)), (1, .int x1), (2, .int x2), (3, .int x3)] → W p l e ({ frames := 1, cells := 0, slots := 0, locals := 22 } : Room) s m ([.ref (a 0), .int p1] : List Value).toArray below meth c H locs 0 0 (MQ below (va_Qi (fun (r2 : Int32) (_ : Unit) => r2 = r) (fun _ t => xw_B (dC, dI) vwCl [(cI, .int), (cZ, .boolean)] A ((w_M a cI cZ) σ') t) A) ([.ref (a 0), .int p1] : List Value).toArray s 0 0 A) (F0 m 97 ls []) := by
        intro n2
        induction n2 with
        | zero =>
          intro x1 x2 x3 τ hf
          rw [gM_delete_97] at hf
          cases hf
        | succ n2 ih2 =>
          intro x1 x2 x3 τ hf H locs hP hD hS ls hl
          rw [gM_delete_97] at hf
          refine lv_iload_n hx hb dM_delete_97 rfl (lv_at hl 3 rfl) ?_
          refine lv_aload_n hx hb dM_delete_98 rfl (lv_at hl 0 rfl) ?_
          refine aM_get_links (σ := τ) (v := (m_links τ)) rfl hx hb hts hown hK hP dM_delete_99 ?_
          refine lv_icmp_ge (tgt := 134) hx hb dM_delete_102 (by decide) (fun c_8 => ?_) (fun c_8 => ?_)
          · replace hf := it_t hf c_8
            refine lv_iconst (v := (1 : Int32)) hx hb dM_delete_134 (by decide) ?_
            exact xw_iret (wf := (w_M a cI cZ)) hx hb hr hlocks rfl hK hP hD hS hf dM_delete_135
          · replace hf := it_f hf c_8
            refine lv_aload_n hx hb dM_delete_105 rfl (lv_at hl 0 rfl) ?_
            refine aM_get_from hx hb hts hown hK hP dM_delete_106 ?_
            refine lv_iload_n hx hb dM_delete_109 rfl (lv_at hl 3 rfl) ?_
            obtain ⟨g_9, hf⟩ := gd_f hf
            refine aM_ld_from (σ := τ) (f := (m_from τ)) rfl hx hb hK hP g_9 dM_delete_110 ?_
            refine lv_iload_n hx hb dM_delete_111 rfl (lv_at hl 1 rfl) ?_
            refine lv_icmp_ne (tgt := 128) hx hb dM_delete_112 (by decide) (fun c_10 => ?_) (fun c_10 => ?_)
            · replace hf := it_f hf c_10
              refine lv_iinc (v := (x3 + 1)) (lv' := [(3, .int (x3 + 1)), (0, .ref (a 0)), (1, .int x1), (2, .int x2)]) hx hb dM_delete_128 hl (k := 3) rfl (congrArg (HAdd.hAdd _) (by decide : Int32.ofInt (1) = (1 : Int32))) (by decide) rfl (fun ls hl => ?_)
              refine lv_goto (tgt := 97) hx hb dM_delete_131 (by decide) ?_
              exact ih2 x1 x2 (x3 + 1) τ hf _ _ hP hD hS _ (lv_sub hl [1, 2, 3, 0] rfl)
            · replace hf := it_t hf c_10
              refine lv_aload_n hx hb dM_delete_115 rfl (lv_at hl 0 rfl) ?_
              refine lv_iload_n hx hb dM_delete_116 rfl (lv_at hl 1 rfl) ?_
              obtain ⟨q_11, hq_11, hf⟩ := bd_s hf
              refine xw_callVv (kM_changed l dC dI a cI cZ tb K x1 τ q_11.2 q_11.1 hq_11) ⟨hx, hb, hml, hown, hts⟩ (cwV 1 hts (gw_V mt_289 mt_291 mt_20 mt_26 mt_292) rfl rfl rfl hdM_changed ⟨Nat.le_of_ble_eq_true rfl, Nat.le_of_ble_eq_true rfl⟩) hK hP hD hS hA hZ (q0 := 0) (ci := 1) rfl rfl rfl hl.1 rfl (Nat.le_of_ble_eq_true rfl) dM_delete_117 ⟨Nat.zero_le _, Nat.zero_le _⟩ (fun H locs hP hD hS => ?_)
              refine lv_aload_n hx hb dM_delete_120 rfl (lv_at hl 0 rfl) ?_
              refine lv_iload_n hx hb dM_delete_121 rfl (lv_at hl 3 rfl) ?_
              obtain ⟨q_12, hq_12, hf⟩ := bd_s hf
              refine xw_callVv (kM_drop l dC dI a cI cZ tb K x3 q_11.2 q_12.2 q_12.1 hq_12) ⟨hx, hb, hml, hown, hts⟩ (cwV 1 hts (gw_V mt_297 mt_299 mt_21 mt_26 mt_300) rfl rfl rfl hdM_drop ⟨Nat.le_of_ble_eq_true rfl, Nat.le_of_ble_eq_true rfl⟩) hK hP hD hS hA hZ (q0 := 0) (ci := 1) rfl rfl rfl hl.1 rfl (Nat.le_of_ble_eq_true rfl) dM_delete_122 ⟨Nat.zero_le _, Nat.zero_le _⟩ (fun H locs hP hD hS => ?_)
              refine lv_goto (tgt := 97) hx hb dM_delete_125 (by decide) ?_
              exact ih2 x1 x2 x3 q_12.2 hf _ _ hP hD hS _ (lv_sub hl [0, 1, 2, 3] rfl)
      refine lv_iload_n hx hb dM_delete_29 rfl (lv_at hl 3 rfl) ?_
      refine lv_aload_n hx hb dM_delete_30 rfl (lv_at hl 0 rfl) ?_
      refine aM_get_links (σ := τ) (v := (m_links τ)) rfl hx hb hts hown hK hP dM_delete_31 ?_
      refine lv_icmp_ge (tgt := 70) hx hb dM_delete_34 (by decide) (fun c_3 => ?_) (fun c_3 => ?_)
      · replace hf := it_t hf c_3
        refine lv_iload_n hx hb dM_delete_70 rfl (lv_at hl 2 rfl) ?_
        refine lv_if_le (tgt := 77) hx hb dM_delete_71 (by decide) (fun c_4 => ?_) (fun c_4 => ?_)
        · replace hf := it_t hf c_4
          refine lv_aload_n hx hb dM_delete_77 rfl (lv_at hl 0 rfl) ?_
          refine aM_get_hadHost hx hb hts hown hK hP dM_delete_78 ?_
          refine lv_iload_n hx hb dM_delete_81 rfl (lv_at hl 1 rfl) ?_
          refine lv_aload_n hx hb dM_delete_82 rfl (lv_at hl 0 rfl) ?_
          refine lv_iload_n hx hb dM_delete_83 rfl (lv_at hl 1 rfl) ?_
          obtain ⟨q_5, hq_5, hf⟩ := bd_s hf
          refine xw_callV (kM_hostOf l dC dI a cI cZ tb K x1 τ q_5.2 q_5.1 hq_5) ⟨hx, hb, hml, hown, hts⟩ (cwV 1 hts (gw_V mt_285 mt_287 mt_19 mt_26 mt_288) rfl rfl rfl hdM_hostOf ⟨Nat.le_of_ble_eq_true rfl, Nat.le_of_ble_eq_true rfl⟩) hK hP hD hS hA hZ (q0 := 0) (ci := 1) rfl rfl rfl hl.1 rfl (Nat.le_of_ble_eq_true rfl) dM_delete_84 ⟨Nat.zero_le _, Nat.zero_le _⟩ (fun H locs hP hD hS => ?_)
          obtain ⟨g_6, hf⟩ := gd_f hf
          refine aM_st_hadHost (σ := q_5.2) (f := (m_hadHost q_5.2)) (x := q_5.1) (τ := (m_phadHost q_5.2 (upd (m_hadHost q_5.2) x1.toNatClampNeg q_5.1))) rfl rfl hx hb hK hP hD hS g_6 dM_delete_87 (fun H locs hP hD hS => ?_)
          refine lv_aload_n hx hb dM_delete_88 rfl (lv_at hl 0 rfl) ?_
          refine aM_get_live hx hb hts hown hK hP dM_delete_89 ?_
          refine lv_iload_n hx hb dM_delete_92 rfl (lv_at hl 1 rfl) ?_
          refine lv_iconst (v := (0 : Int32)) hx hb dM_delete_93 (by decide) ?_
          obtain ⟨g_7, hf⟩ := gd_f hf
          refine aM_st_live (σ := (m_phadHost q_5.2 (upd (m_hadHost q_5.2) x1.toNatClampNeg q_5.1))) (f := (m_live q_5.2)) (x := (0 : Int32)) (τ := (m_phadHost (m_plive q_5.2 (upd (m_live q_5.2) x1.toNatClampNeg (vp_nar .boolean (0 : Int32)))) (upd (m_hadHost q_5.2) x1.toNatClampNeg q_5.1))) rfl rfl hx hb hK hP hD hS g_7 dM_delete_94 (fun H locs hP hD hS => ?_)
          refine lv_iconst (v := (0 : Int32)) hx hb dM_delete_95 (by decide) ?_
          refine lv_istore_n (lv' := [(3, .int (0 : Int32)), (0, .ref (a 0)), (1, .int x1), (2, .int x2)]) hx hb dM_delete_96 rfl hl (by decide) rfl (fun ls hl => ?_)
          exact L_97 K x1 x2 (0 : Int32) (m_phadHost (m_plive q_5.2 (upd (m_live q_5.2) x1.toNatClampNeg (vp_nar .boolean (0 : Int32)))) (upd (m_hadHost q_5.2) x1.toNatClampNeg q_5.1)) hf _ _ hP hD hS _ (lv_sub hl [1, 2, 3, 0] rfl)
        · replace hf := it_f hf c_4
          refine lv_iload_n hx hb dM_delete_74 rfl (lv_at hl 2 rfl) ?_
          refine lv_ineg hx hb dM_delete_75 ?_
          exact xw_iret (wf := (w_M a cI cZ)) hx hb hr hlocks rfl hK hP hD hS hf dM_delete_76
      · replace hf := it_f hf c_3
        refine lv_iload_n hx hb dM_delete_37 rfl (lv_at hl 2 rfl) ?_
        refine lv_aload_n hx hb dM_delete_38 rfl (lv_at hl 0 rfl) ?_
        refine aM_get_field hx hb hts hown hK hP dM_delete_39 ?_
        refine lv_iload_n hx hb dM_delete_42 rfl (lv_at hl 3 rfl) ?_
        obtain ⟨g_13, hf⟩ := gd_f hf
        refine aM_ld_field (σ := τ) (f := (m_field τ)) rfl hx hb hK hP g_13 dM_delete_43 ?_
        refine lv_if_ne (tgt := 61) hx hb dM_delete_44 (by decide) (fun c_14 => ?_) (fun c_14 => ?_)
        · replace hf := it_f hf c_14
          refine lv_iconst (v := (0 : Int32)) hx hb dM_delete_61 (by decide) ?_
          refine lv_iadd hx hb dM_delete_62 ?_
          refine lv_istore_n (lv' := [(2, .int (x2 + (0 : Int32))), (0, .ref (a 0)), (1, .int x1), (3, .int x3)]) hx hb dM_delete_63 rfl hl (by decide) rfl (fun ls hl => ?_)
          refine lv_iinc (v := (x3 + 1)) (lv' := [(3, .int (x3 + 1)), (2, .int (x2 + (0 : Int32))), (0, .ref (a 0)), (1, .int x1)]) hx hb dM_delete_64 hl (k := 3) rfl (congrArg (HAdd.hAdd _) (by decide : Int32.ofInt (1) = (1 : Int32))) (by decide) rfl (fun ls hl => ?_)
          refine lv_goto (tgt := 29) hx hb dM_delete_67 (by decide) ?_
          exact ih x1 (x2 + (0 : Int32)) (x3 + 1) τ hf _ _ hP hD hS _ (lv_sub hl [2, 3, 1, 0] rfl)
        · replace hf := it_t hf c_14
          refine lv_aload_n hx hb dM_delete_47 rfl (lv_at hl 0 rfl) ?_
          refine aM_get_to hx hb hts hown hK hP dM_delete_48 ?_
          refine lv_iload_n hx hb dM_delete_51 rfl (lv_at hl 3 rfl) ?_
          obtain ⟨g_15, hf⟩ := gd_f hf
          refine aM_ld_to (σ := τ) (f := (m_to τ)) rfl hx hb hK hP g_15 dM_delete_52 ?_
          refine lv_iload_n hx hb dM_delete_53 rfl (lv_at hl 1 rfl) ?_
          refine lv_icmp_ne (tgt := 61) hx hb dM_delete_54 (by decide) (fun c_16 => ?_) (fun c_16 => ?_)
          · replace hf := it_f hf c_16
            refine lv_iconst (v := (0 : Int32)) hx hb dM_delete_61 (by decide) ?_
            refine lv_iadd hx hb dM_delete_62 ?_
            refine lv_istore_n (lv' := [(2, .int (x2 + (0 : Int32))), (0, .ref (a 0)), (1, .int x1), (3, .int x3)]) hx hb dM_delete_63 rfl hl (by decide) rfl (fun ls hl => ?_)
            refine lv_iinc (v := (x3 + 1)) (lv' := [(3, .int (x3 + 1)), (2, .int (x2 + (0 : Int32))), (0, .ref (a 0)), (1, .int x1)]) hx hb dM_delete_64 hl (k := 3) rfl (congrArg (HAdd.hAdd _) (by decide : Int32.ofInt (1) = (1 : Int32))) (by decide) rfl (fun ls hl => ?_)
            refine lv_goto (tgt := 29) hx hb dM_delete_67 (by decide) ?_
            exact ih x1 (x2 + (0 : Int32)) (x3 + 1) τ hf _ _ hP hD hS _ (lv_sub hl [2, 3, 1, 0] rfl)
          · replace hf := it_t hf c_16
            refine lv_iconst (v := (1 : Int32)) hx hb dM_delete_57 (by decide) ?_
            refine lv_goto (tgt := 62) hx hb dM_delete_58 (by decide) ?_
            refine lv_iadd hx hb dM_delete_62 ?_
            refine lv_istore_n (lv' := [(2, .int (x2 + (1 : Int32))), (0, .ref (a 0)), (1, .int x1), (3, .int x3)]) hx hb dM_delete_63 rfl hl (by decide) rfl (fun ls hl => ?_)
            refine lv_iinc (v := (x3 + 1)) (lv' := [(3, .int (x3 + 1)), (2, .int (x2 + (1 : Int32))), (0, .ref (a 0)), (1, .int x1)]) hx hb dM_delete_64 hl (k := 3) rfl (congrArg (HAdd.hAdd _) (by decide : Int32.ofInt (1) = (1 : Int32))) (by decide) rfl (fun ls hl => ?_)
            refine lv_goto (tgt := 29) hx hb dM_delete_67 (by decide) ?_
            exact ih x1 (x2 + (1 : Int32)) (x3 + 1) τ hf _ _ hP hD hS _ (lv_sub hl [2, 3, 1, 0] rfl)
  unfold fM_delete at hf
  refine lv_aload_n hx hb dM_delete_0 rfl (lv_at hl 0 rfl) ?_
  refine lv_iconst (v := (0 : Int32)) hx hb dM_delete_1 (by decide) ?_
  refine aM_put_thrown (σ := σ) (v := (0 : Int32)) (τ := (m_pthrown σ (0 : Int32))) rfl hx hb hts hown hK hP hD hS dM_delete_2 (fun H locs hP hD hS => ?_)
  refine lv_aload_n hx hb dM_delete_5 rfl (lv_at hl 0 rfl) ?_
  refine lv_dup hx hb dM_delete_6 rfl ?_
  refine aM_get_moment (σ := (m_pthrown σ (0 : Int32))) (v := (m_moment σ)) rfl hx hb hts hown hK hP dM_delete_7 ?_
  refine lv_iconst (v := (1 : Int32)) hx hb dM_delete_10 (by decide) ?_
  refine lv_iadd hx hb dM_delete_11 ?_
  refine aM_put_moment (σ := (m_pthrown σ (0 : Int32))) (v := ((m_moment σ) + (1 : Int32))) (τ := (m_pmoment (m_pthrown σ (0 : Int32)) ((m_moment σ) + (1 : Int32)))) rfl hx hb hts hown hK hP hD hS dM_delete_12 (fun H locs hP hD hS => ?_)
  refine lv_aload_n hx hb dM_delete_15 rfl (lv_at hl 0 rfl) ?_
  refine lv_iload_n hx hb dM_delete_16 rfl (lv_at hl 1 rfl) ?_
  obtain ⟨q_1, hq_1, hf⟩ := bd_s hf
  refine xw_callV (kM_isLive l dC dI a cI cZ tb K p1 (m_pmoment (m_pthrown σ (0 : Int32)) ((m_moment σ) + (1 : Int32))) q_1.2 q_1.1 hq_1) ⟨hx, hb, hml, hown, hts⟩ (cwV 1 hts (gw_V mt_263 mt_265 mt_15 mt_26 mt_266) rfl rfl rfl hdM_isLive ⟨Nat.le_of_ble_eq_true rfl, Nat.le_of_ble_eq_true rfl⟩) hK hP hD hS hA hZ (q0 := 0) (ci := 1) rfl rfl rfl hl.1 rfl (Nat.le_of_ble_eq_true rfl) dM_delete_17 ⟨Nat.zero_le _, Nat.zero_le _⟩ (fun H locs hP hD hS => ?_)
  refine lv_if_ne (tgt := 25) hx hb dM_delete_20 (by decide) (fun c_2 => ?_) (fun c_2 => ?_)
  · replace hf := it_f hf c_2
    refine lv_iconst (v := (0 : Int32)) hx hb dM_delete_25 (by decide) ?_
    refine lv_istore_n (lv' := [(2, .int (0 : Int32)), (0, .ref (a 0)), (1, .int p1)]) hx hb dM_delete_26 rfl hl (by decide) rfl (fun ls hl => ?_)
    refine lv_iconst (v := (0 : Int32)) hx hb dM_delete_27 (by decide) ?_
    refine lv_istore_n (lv' := [(3, .int (0 : Int32)), (2, .int (0 : Int32)), (0, .ref (a 0)), (1, .int p1)]) hx hb dM_delete_28 rfl hl (by decide) rfl (fun ls hl => ?_)
    exact L_29 K p1 (0 : Int32) (0 : Int32) q_1.2 hf _ _ hP hD hS _ (lv_sub hl [2, 3, 1, 0] rfl)
  · replace hf := it_t hf c_2
    refine lv_iconst (v := (0 : Int32)) hx hb dM_delete_23 (by decide) ?_
    exact xw_iret (wf := (w_M a cI cZ)) hx hb hr hlocks rfl hK hP hD hS hf dM_delete_24
def fM_times (K : Nat) (p1 p2 : Int32) (σ : MSt) : Option (Int32 × MSt) := (if p1 < (1 : Int32) then some ((0 : Int32), (m_pthrown σ (0 : Int32))) else (if (m_records σ) < p1 then some ((0 : Int32), (m_pthrown σ (0 : Int32))) else (if p2 < 0 then some ((0 : Int32), (m_pthrown σ (0 : Int32))) else (if p1 < 0 ∨ 61 ≤ p1.toNatClampNeg then none else (if p2 < ((m_timeCount σ) p1.toNatClampNeg) then (if (((40 : Int32) * p1) + p2) < 0 ∨ 2440 ≤ (((40 : Int32) * p1) + p2).toNatClampNeg then none else some (((m_times σ) (((40 : Int32) * p1) + p2).toNatClampNeg), (m_pthrown σ (0 : Int32)))) else some ((0 : Int32), (m_pthrown σ (0 : Int32))))))))
set_option maxHeartbeats 4000000 in
set_option maxRecDepth 100000 in
theorem kM_times (l : Launch) (dC : Nat → ClassId) (dI : Nat → Nat → Nat) (a : Nat → Nat) (cI cZ : ClassId) (tb : Nat) (K : Nat) (p1 p2 : Int32) (σ σ' : MSt) (r : Int32) (hf : fM_times K p1 p2 σ = some (r, σ')) : xw_Ct l yM_times wdM_times ({ frames := 0, cells := 0, slots := 0, locals := 0 } : Room) (dC, dI) vwCl [(cI, .int), (cZ, .boolean)] (zz tb) ((w_M a cI cZ) σ) ((w_M a cI cZ) σ') [.ref (a 0), .int p1, .int p2] r := by
  refine xw_ofW (cc := cM_times) (maxL := 3) (ret := (some .int)) (lv := [(0, .ref (a 0)), (1, .int p1), (2, .int p2)]) (by decide) rfl (Nat.le_of_ble_eq_true rfl) rfl ?_
  intro p e s m below meth c A hAt hP hD hS ls hl
  obtain ⟨hx, hb, hr, hml, hown, hts, hlocks, hK, hZ, hA⟩ := hAt
  replace hts : ∀ w ∈ lw_g, w.before _ s = true := fun w h => hts w (List.mem_cons_of_mem _ h)
  unfold fM_times at hf
  refine lv_aload_n hx hb dM_times_0 rfl (lv_at hl 0 rfl) ?_
  refine lv_iconst (v := (0 : Int32)) hx hb dM_times_1 (by decide) ?_
  refine aM_put_thrown (σ := σ) (v := (0 : Int32)) (τ := (m_pthrown σ (0 : Int32))) rfl hx hb hts hown hK hP hD hS dM_times_2 (fun H locs hP hD hS => ?_)
  refine lv_iload_n hx hb dM_times_5 rfl (lv_at hl 1 rfl) ?_
  refine lv_iconst (v := (1 : Int32)) hx hb dM_times_6 (by decide) ?_
  refine lv_icmp_lt (tgt := 32) hx hb dM_times_7 (by decide) (fun c_1 => ?_) (fun c_1 => ?_)
  · replace hf := it_t hf c_1
    refine lv_iconst (v := (0 : Int32)) hx hb dM_times_32 (by decide) ?_
    refine lv_goto (tgt := 47) hx hb dM_times_33 (by decide) ?_
    exact xw_iret (wf := (w_M a cI cZ)) hx hb hr hlocks rfl hK hP hD hS hf dM_times_47
  · replace hf := it_f hf c_1
    refine lv_iload_n hx hb dM_times_10 rfl (lv_at hl 1 rfl) ?_
    refine lv_aload_n hx hb dM_times_11 rfl (lv_at hl 0 rfl) ?_
    refine aM_get_records (σ := (m_pthrown σ (0 : Int32))) (v := (m_records σ)) rfl hx hb hts hown hK hP dM_times_12 ?_
    refine lv_icmp_gt (tgt := 32) hx hb dM_times_15 (by decide) (fun c_2 => ?_) (fun c_2 => ?_)
    · replace hf := it_t hf c_2
      refine lv_iconst (v := (0 : Int32)) hx hb dM_times_32 (by decide) ?_
      refine lv_goto (tgt := 47) hx hb dM_times_33 (by decide) ?_
      exact xw_iret (wf := (w_M a cI cZ)) hx hb hr hlocks rfl hK hP hD hS hf dM_times_47
    · replace hf := it_f hf c_2
      refine lv_iload_n hx hb dM_times_18 rfl (lv_at hl 2 rfl) ?_
      refine lv_if_lt (tgt := 32) hx hb dM_times_19 (by decide) (fun c_3 => ?_) (fun c_3 => ?_)
      · replace hf := it_t hf c_3
        refine lv_iconst (v := (0 : Int32)) hx hb dM_times_32 (by decide) ?_
        refine lv_goto (tgt := 47) hx hb dM_times_33 (by decide) ?_
        exact xw_iret (wf := (w_M a cI cZ)) hx hb hr hlocks rfl hK hP hD hS hf dM_times_47
      · replace hf := it_f hf c_3
        refine lv_iload_n hx hb dM_times_22 rfl (lv_at hl 2 rfl) ?_
        refine lv_aload_n hx hb dM_times_23 rfl (lv_at hl 0 rfl) ?_
        refine aM_get_timeCount hx hb hts hown hK hP dM_times_24 ?_
        refine lv_iload_n hx hb dM_times_27 rfl (lv_at hl 1 rfl) ?_
        obtain ⟨g_4, hf⟩ := gd_f hf
        refine aM_ld_timeCount (σ := (m_pthrown σ (0 : Int32))) (f := (m_timeCount σ)) rfl hx hb hK hP g_4 dM_times_28 ?_
        refine lv_icmp_lt (tgt := 36) hx hb dM_times_29 (by decide) (fun c_5 => ?_) (fun c_5 => ?_)
        · replace hf := it_t hf c_5
          refine lv_aload_n hx hb dM_times_36 rfl (lv_at hl 0 rfl) ?_
          refine aM_get_times hx hb hts hown hK hP dM_times_37 ?_
          refine lv_bipush (v := (40 : Int32)) hx hb dM_times_40 (by decide) ?_
          refine lv_iload_n hx hb dM_times_42 rfl (lv_at hl 1 rfl) ?_
          refine lv_imul hx hb dM_times_43 ?_
          refine lv_iload_n hx hb dM_times_44 rfl (lv_at hl 2 rfl) ?_
          refine lv_iadd hx hb dM_times_45 ?_
          obtain ⟨g_6, hf⟩ := gd_f hf
          refine aM_ld_times (σ := (m_pthrown σ (0 : Int32))) (f := (m_times σ)) rfl hx hb hK hP g_6 dM_times_46 ?_
          exact xw_iret (wf := (w_M a cI cZ)) hx hb hr hlocks rfl hK hP hD hS hf dM_times_47
        · replace hf := it_f hf c_5
          refine lv_iconst (v := (0 : Int32)) hx hb dM_times_32 (by decide) ?_
          refine lv_goto (tgt := 47) hx hb dM_times_33 (by decide) ?_
          exact xw_iret (wf := (w_M a cI cZ)) hx hb hr hlocks rfl hK hP hD hS hf dM_times_47
def gM_orphan_32 (K : Nat) (k : Int32 → Int32 → Int32 → MSt → Option (Int32 × MSt)) : Nat → Int32 → Int32 → Int32 → Int32 → Int32 → MSt → Option (Int32 × MSt)
  | 0, _, _, _, _, _, _ => none
  | n2 + 1, x1, x2, x3, x4, x5, τ => (if (m_links τ) ≤ x5 then (if x4 = 0 then (k x1 x2 (x3 + 1) τ) else (if x2 = x1 then some (x3, τ) else (k x1 (x2 + 1) (x3 + 1) τ))) else (if x4 = 0 then (gM_orphan_32 K k n2 x1 x2 x3 (0 : Int32) (x5 + 1) τ) else (if x5 < 0 ∨ 200 ≤ x5.toNatClampNeg then none else (if ((m_from τ) x5.toNatClampNeg) = x3 then (gM_orphan_32 K k n2 x1 x2 x3 (0 : Int32) (x5 + 1) τ) else (if x5 < 0 ∨ 200 ≤ x5.toNatClampNeg then none else (if (3 : Int32) < ((m_field τ) x5.toNatClampNeg) then (gM_orphan_32 K k n2 x1 x2 x3 (1 : Int32) (x5 + 1) τ) else (if x5 < 0 ∨ 200 ≤ x5.toNatClampNeg then none else (if ((m_to τ) x5.toNatClampNeg) = x3 then (gM_orphan_32 K k n2 x1 x2 x3 (0 : Int32) (x5 + 1) τ) else (gM_orphan_32 K k n2 x1 x2 x3 (1 : Int32) (x5 + 1) τ)))))))))
def gM_orphan_9 (K : Nat) : Nat → Int32 → Int32 → Int32 → MSt → Option (Int32 × MSt)
  | 0, _, _, _, _ => none
  | n + 1, x1, x2, x3, τ => (if (m_records τ) < x3 then some ((0 : Int32), τ) else (if x1 < 0 then some ((0 : Int32), τ) else (if x3 < 0 ∨ 61 ≤ x3.toNatClampNeg then none else (gM_orphan_32 K (fun (y0 y1 y2 : Int32) (t : MSt) => gM_orphan_9 K n y0 y1 y2 t) K x1 x2 x3 ((m_live τ) x3.toNatClampNeg) (0 : Int32) τ))))
def fM_orphan (K : Nat) (p1 : Int32) (σ : MSt) : Option (Int32 × MSt) := (gM_orphan_9 K K p1 (0 : Int32) (1 : Int32) (m_pthrown σ (0 : Int32)))
set_option maxHeartbeats 4000000 in
set_option maxRecDepth 100000 in
theorem kM_orphan (l : Launch) (dC : Nat → ClassId) (dI : Nat → Nat → Nat) (a : Nat → Nat) (cI cZ : ClassId) (tb : Nat) (K : Nat) (p1 : Int32) (σ σ' : MSt) (r : Int32) (hf : fM_orphan K p1 σ = some (r, σ')) : xw_Ct l yM_orphan wdM_orphan ({ frames := 0, cells := 0, slots := 0, locals := 0 } : Room) (dC, dI) vwCl [(cI, .int), (cZ, .boolean)] (zz tb) ((w_M a cI cZ) σ) ((w_M a cI cZ) σ') [.ref (a 0), .int p1] r := by
  refine xw_ofW (cc := cM_orphan) (maxL := 6) (ret := (some .int)) (lv := [(0, .ref (a 0)), (1, .int p1)]) (by decide) rfl (Nat.le_of_ble_eq_true rfl) rfl ?_
  intro p e s m below meth c A hAt hP hD hS ls hl
  obtain ⟨hx, hb, hr, hml, hown, hts, hlocks, hK, hZ, hA⟩ := hAt
  replace hts : ∀ w ∈ lw_g, w.before _ s = true := fun w h => hts w (List.mem_cons_of_mem _ h)
  have L_9 : ∀ (n : Nat) (x1 x2 x3 : Int32) (τ : MSt), gM_orphan_9 K n x1 x2 x3 τ = some (r, σ') → ∀ (H : Heap) (locs : List Loc), va_P (dC, dI) vwCl ((w_M a cI cZ) τ) H → va_D A ((w_M a cI cZ) τ) → va_S A s.heap H locs → ∀ (ls : Array Slot), lv_has ls 6 [(0, .ref (a 0)), (1, .int x1), (2, .int x2), (3, .int x3)] → W p l e ({ frames := 0, cells := 0, slots := 0, locals := 0 } : Room) s m ([.ref (a 0), .int p1] : List Value).toArray below meth c H locs 0 0 (MQ below (va_Qi (fun (r2 : Int32) (_ : Unit) => r2 = r) (fun _ t => xw_B (dC, dI) vwCl [(cI, .int), (cZ, .boolean)] A ((w_M a cI cZ) σ') t) A) ([.ref (a 0), .int p1] : List Value).toArray s 0 0 A) (F0 m 9 ls []) := by
    intro n
    induction n with
    | zero =>
      intro x1 x2 x3 τ hf
      rw [gM_orphan_9] at hf
      cases hf
    | succ n ih =>
      intro x1 x2 x3 τ hf H locs hP hD hS ls hl
      rw [gM_orphan_9] at hf
      have L_32 : ∀ (n2 : Nat) (x1 x2 x3 x4 x5 : Int32) (τ : MSt), gM_orphan_32 K (fun (y0 y1 y2 : Int32) (t : MSt) => gM_orphan_9 K n y0 y1 y2 t) n2 x1 x2 x3 x4 x5 τ = some (r, σ') → ∀ (H : Heap) (locs : List Loc), va_P (dC, dI) vwCl ((w_M a cI cZ) τ) H → va_D A ((w_M a cI cZ) τ) → va_S A s.heap H locs → ∀ (ls : Array Slot), lv_has ls 6 [(0, .ref (a 0)), (1, .int x1), (2, .int x2), (3, .int x3), (4, .int x4), (5, .int x5)] → W p l e ({ frames := 0, cells := 0, slots := 0, locals := 0 } : Room) s m ([.ref (a 0), .int p1] : List Value).toArray below meth c H locs 0 0 (MQ below (va_Qi (fun (r2 : Int32) (_ : Unit) => r2 = r) (fun _ t => xw_B (dC, dI) vwCl [(cI, .int), (cZ, .boolean)] A ((w_M a cI cZ) σ') t) A) ([.ref (a 0), .int p1] : List Value).toArray s 0 0 A) (F0 m 32 ls []) := by
        intro n2
        induction n2 with
        | zero =>
          intro x1 x2 x3 x4 x5 τ hf
          rw [gM_orphan_32] at hf
          cases hf
        | succ n2 ih2 =>
          intro x1 x2 x3 x4 x5 τ hf H locs hP hD hS ls hl
          rw [gM_orphan_32] at hf
          refine lv_iload hx hb dM_orphan_32 (lv_at hl 5 rfl) ?_
          refine lv_aload_n hx hb dM_orphan_34 rfl (lv_at hl 0 rfl) ?_
          refine aM_get_links (σ := τ) (v := (m_links τ)) rfl hx hb hts hown hK hP dM_orphan_35 ?_
          refine lv_icmp_ge (tgt := 92) hx hb dM_orphan_38 (by decide) (fun c_4 => ?_) (fun c_4 => ?_)
          · replace hf := it_t hf c_4
            refine lv_iload hx hb dM_orphan_92 (lv_at hl 4 rfl) ?_
            refine lv_if_eq (tgt := 107) hx hb dM_orphan_94 (by decide) (fun c_5 => ?_) (fun c_5 => ?_)
            · replace hf := it_t hf c_5
              refine lv_iinc (v := (x3 + 1)) (lv' := [(3, .int (x3 + 1)), (0, .ref (a 0)), (1, .int x1), (2, .int x2), (4, .int x4), (5, .int x5)]) hx hb dM_orphan_107 hl (k := 3) rfl (congrArg (HAdd.hAdd _) (by decide : Int32.ofInt (1) = (1 : Int32))) (by decide) rfl (fun ls hl => ?_)
              refine lv_goto (tgt := 9) hx hb dM_orphan_110 (by decide) ?_
              exact ih x1 x2 (x3 + 1) τ hf _ _ hP hD hS _ (lv_sub hl [1, 2, 3, 0] rfl)
            · replace hf := it_f hf c_5
              refine lv_iload_n hx hb dM_orphan_97 rfl (lv_at hl 2 rfl) ?_
              refine lv_iload_n hx hb dM_orphan_98 rfl (lv_at hl 1 rfl) ?_
              refine lv_icmp_ne (tgt := 104) hx hb dM_orphan_99 (by decide) (fun c_6 => ?_) (fun c_6 => ?_)
              · replace hf := it_f hf c_6
                refine lv_iinc (v := (x2 + 1)) (lv' := [(2, .int (x2 + 1)), (0, .ref (a 0)), (1, .int x1), (3, .int x3), (4, .int x4), (5, .int x5)]) hx hb dM_orphan_104 hl (k := 2) rfl (congrArg (HAdd.hAdd _) (by decide : Int32.ofInt (1) = (1 : Int32))) (by decide) rfl (fun ls hl => ?_)
                refine lv_iinc (v := (x3 + 1)) (lv' := [(3, .int (x3 + 1)), (2, .int (x2 + 1)), (0, .ref (a 0)), (1, .int x1), (4, .int x4), (5, .int x5)]) hx hb dM_orphan_107 hl (k := 3) rfl (congrArg (HAdd.hAdd _) (by decide : Int32.ofInt (1) = (1 : Int32))) (by decide) rfl (fun ls hl => ?_)
                refine lv_goto (tgt := 9) hx hb dM_orphan_110 (by decide) ?_
                exact ih x1 (x2 + 1) (x3 + 1) τ hf _ _ hP hD hS _ (lv_sub hl [2, 3, 1, 0] rfl)
              · replace hf := it_t hf c_6
                refine lv_iload_n hx hb dM_orphan_102 rfl (lv_at hl 3 rfl) ?_
                exact xw_iret (wf := (w_M a cI cZ)) hx hb hr hlocks rfl hK hP hD hS hf dM_orphan_103
          · replace hf := it_f hf c_4
            refine lv_iload hx hb dM_orphan_41 (lv_at hl 4 rfl) ?_
            refine lv_if_eq (tgt := 83) hx hb dM_orphan_43 (by decide) (fun c_7 => ?_) (fun c_7 => ?_)
            · replace hf := it_t hf c_7
              refine lv_iconst (v := (0 : Int32)) hx hb dM_orphan_83 (by decide) ?_
              refine lv_istore (lv' := [(4, .int (0 : Int32)), (0, .ref (a 0)), (1, .int x1), (2, .int x2), (3, .int x3), (5, .int x5)]) hx hb dM_orphan_84 hl (by decide) rfl (fun ls hl => ?_)
              refine lv_iinc (v := (x5 + 1)) (lv' := [(5, .int (x5 + 1)), (4, .int (0 : Int32)), (0, .ref (a 0)), (1, .int x1), (2, .int x2), (3, .int x3)]) hx hb dM_orphan_86 hl (k := 5) rfl (congrArg (HAdd.hAdd _) (by decide : Int32.ofInt (1) = (1 : Int32))) (by decide) rfl (fun ls hl => ?_)
              refine lv_goto (tgt := 32) hx hb dM_orphan_89 (by decide) ?_
              exact ih2 x1 x2 x3 (0 : Int32) (x5 + 1) τ hf _ _ hP hD hS _ (lv_sub hl [2, 3, 4, 5, 1, 0] rfl)
            · replace hf := it_f hf c_7
              refine lv_aload_n hx hb dM_orphan_46 rfl (lv_at hl 0 rfl) ?_
              refine aM_get_from hx hb hts hown hK hP dM_orphan_47 ?_
              refine lv_iload hx hb dM_orphan_50 (lv_at hl 5 rfl) ?_
              obtain ⟨g_8, hf⟩ := gd_f hf
              refine aM_ld_from (σ := τ) (f := (m_from τ)) rfl hx hb hK hP g_8 dM_orphan_52 ?_
              refine lv_iload_n hx hb dM_orphan_53 rfl (lv_at hl 3 rfl) ?_
              refine lv_icmp_eq (tgt := 83) hx hb dM_orphan_54 (by decide) (fun c_9 => ?_) (fun c_9 => ?_)
              · replace hf := it_t hf c_9
                refine lv_iconst (v := (0 : Int32)) hx hb dM_orphan_83 (by decide) ?_
                refine lv_istore (lv' := [(4, .int (0 : Int32)), (0, .ref (a 0)), (1, .int x1), (2, .int x2), (3, .int x3), (5, .int x5)]) hx hb dM_orphan_84 hl (by decide) rfl (fun ls hl => ?_)
                refine lv_iinc (v := (x5 + 1)) (lv' := [(5, .int (x5 + 1)), (4, .int (0 : Int32)), (0, .ref (a 0)), (1, .int x1), (2, .int x2), (3, .int x3)]) hx hb dM_orphan_86 hl (k := 5) rfl (congrArg (HAdd.hAdd _) (by decide : Int32.ofInt (1) = (1 : Int32))) (by decide) rfl (fun ls hl => ?_)
                refine lv_goto (tgt := 32) hx hb dM_orphan_89 (by decide) ?_
                exact ih2 x1 x2 x3 (0 : Int32) (x5 + 1) τ hf _ _ hP hD hS _ (lv_sub hl [2, 3, 4, 5, 1, 0] rfl)
              · replace hf := it_f hf c_9
                refine lv_aload_n hx hb dM_orphan_57 rfl (lv_at hl 0 rfl) ?_
                refine aM_get_field hx hb hts hown hK hP dM_orphan_58 ?_
                refine lv_iload hx hb dM_orphan_61 (lv_at hl 5 rfl) ?_
                obtain ⟨g_10, hf⟩ := gd_f hf
                refine aM_ld_field (σ := τ) (f := (m_field τ)) rfl hx hb hK hP g_10 dM_orphan_63 ?_
                refine lv_iconst (v := (3 : Int32)) hx hb dM_orphan_64 (by decide) ?_
                refine lv_icmp_gt (tgt := 79) hx hb dM_orphan_65 (by decide) (fun c_11 => ?_) (fun c_11 => ?_)
                · replace hf := it_t hf c_11
                  refine lv_iconst (v := (1 : Int32)) hx hb dM_orphan_79 (by decide) ?_
                  refine lv_goto (tgt := 84) hx hb dM_orphan_80 (by decide) ?_
                  refine lv_istore (lv' := [(4, .int (1 : Int32)), (0, .ref (a 0)), (1, .int x1), (2, .int x2), (3, .int x3), (5, .int x5)]) hx hb dM_orphan_84 hl (by decide) rfl (fun ls hl => ?_)
                  refine lv_iinc (v := (x5 + 1)) (lv' := [(5, .int (x5 + 1)), (4, .int (1 : Int32)), (0, .ref (a 0)), (1, .int x1), (2, .int x2), (3, .int x3)]) hx hb dM_orphan_86 hl (k := 5) rfl (congrArg (HAdd.hAdd _) (by decide : Int32.ofInt (1) = (1 : Int32))) (by decide) rfl (fun ls hl => ?_)
                  refine lv_goto (tgt := 32) hx hb dM_orphan_89 (by decide) ?_
                  exact ih2 x1 x2 x3 (1 : Int32) (x5 + 1) τ hf _ _ hP hD hS _ (lv_sub hl [2, 3, 4, 5, 1, 0] rfl)
                · replace hf := it_f hf c_11
                  refine lv_aload_n hx hb dM_orphan_68 rfl (lv_at hl 0 rfl) ?_
                  refine aM_get_to hx hb hts hown hK hP dM_orphan_69 ?_
                  refine lv_iload hx hb dM_orphan_72 (lv_at hl 5 rfl) ?_
                  obtain ⟨g_12, hf⟩ := gd_f hf
                  refine aM_ld_to (σ := τ) (f := (m_to τ)) rfl hx hb hK hP g_12 dM_orphan_74 ?_
                  refine lv_iload_n hx hb dM_orphan_75 rfl (lv_at hl 3 rfl) ?_
                  refine lv_icmp_eq (tgt := 83) hx hb dM_orphan_76 (by decide) (fun c_13 => ?_) (fun c_13 => ?_)
                  · replace hf := it_t hf c_13
                    refine lv_iconst (v := (0 : Int32)) hx hb dM_orphan_83 (by decide) ?_
                    refine lv_istore (lv' := [(4, .int (0 : Int32)), (0, .ref (a 0)), (1, .int x1), (2, .int x2), (3, .int x3), (5, .int x5)]) hx hb dM_orphan_84 hl (by decide) rfl (fun ls hl => ?_)
                    refine lv_iinc (v := (x5 + 1)) (lv' := [(5, .int (x5 + 1)), (4, .int (0 : Int32)), (0, .ref (a 0)), (1, .int x1), (2, .int x2), (3, .int x3)]) hx hb dM_orphan_86 hl (k := 5) rfl (congrArg (HAdd.hAdd _) (by decide : Int32.ofInt (1) = (1 : Int32))) (by decide) rfl (fun ls hl => ?_)
                    refine lv_goto (tgt := 32) hx hb dM_orphan_89 (by decide) ?_
                    exact ih2 x1 x2 x3 (0 : Int32) (x5 + 1) τ hf _ _ hP hD hS _ (lv_sub hl [2, 3, 4, 5, 1, 0] rfl)
                  · replace hf := it_f hf c_13
                    refine lv_iconst (v := (1 : Int32)) hx hb dM_orphan_79 (by decide) ?_
                    refine lv_goto (tgt := 84) hx hb dM_orphan_80 (by decide) ?_
                    refine lv_istore (lv' := [(4, .int (1 : Int32)), (0, .ref (a 0)), (1, .int x1), (2, .int x2), (3, .int x3), (5, .int x5)]) hx hb dM_orphan_84 hl (by decide) rfl (fun ls hl => ?_)
                    refine lv_iinc (v := (x5 + 1)) (lv' := [(5, .int (x5 + 1)), (4, .int (1 : Int32)), (0, .ref (a 0)), (1, .int x1), (2, .int x2), (3, .int x3)]) hx hb dM_orphan_86 hl (k := 5) rfl (congrArg (HAdd.hAdd _) (by decide : Int32.ofInt (1) = (1 : Int32))) (by decide) rfl (fun ls hl => ?_)
                    refine lv_goto (tgt := 32) hx hb dM_orphan_89 (by decide) ?_
                    exact ih2 x1 x2 x3 (1 : Int32) (x5 + 1) τ hf _ _ hP hD hS _ (lv_sub hl [2, 3, 4, 5, 1, 0] rfl)
      refine lv_iload_n hx hb dM_orphan_9 rfl (lv_at hl 3 rfl) ?_
      refine lv_aload_n hx hb dM_orphan_10 rfl (lv_at hl 0 rfl) ?_
      refine aM_get_records (σ := τ) (v := (m_records τ)) rfl hx hb hts hown hK hP dM_orphan_11 ?_
      refine lv_icmp_gt (tgt := 113) hx hb dM_orphan_14 (by decide) (fun c_1 => ?_) (fun c_1 => ?_)
      · replace hf := it_t hf c_1
        refine lv_iconst (v := (0 : Int32)) hx hb dM_orphan_113 (by decide) ?_
        exact xw_iret (wf := (w_M a cI cZ)) hx hb hr hlocks rfl hK hP hD hS hf dM_orphan_114
      · replace hf := it_f hf c_1
        refine lv_iload_n hx hb dM_orphan_17 rfl (lv_at hl 1 rfl) ?_
        refine lv_if_lt (tgt := 113) hx hb dM_orphan_18 (by decide) (fun c_2 => ?_) (fun c_2 => ?_)
        · replace hf := it_t hf c_2
          refine lv_iconst (v := (0 : Int32)) hx hb dM_orphan_113 (by decide) ?_
          exact xw_iret (wf := (w_M a cI cZ)) hx hb hr hlocks rfl hK hP hD hS hf dM_orphan_114
        · replace hf := it_f hf c_2
          refine lv_aload_n hx hb dM_orphan_21 rfl (lv_at hl 0 rfl) ?_
          refine aM_get_live hx hb hts hown hK hP dM_orphan_22 ?_
          refine lv_iload_n hx hb dM_orphan_25 rfl (lv_at hl 3 rfl) ?_
          obtain ⟨g_3, hf⟩ := gd_f hf
          refine aM_ld_live (σ := τ) (f := (m_live τ)) rfl hx hb hK hP g_3 dM_orphan_26 ?_
          refine lv_istore (lv' := [(4, .int ((m_live τ) x3.toNatClampNeg)), (0, .ref (a 0)), (1, .int x1), (2, .int x2), (3, .int x3)]) hx hb dM_orphan_27 hl (by decide) rfl (fun ls hl => ?_)
          refine lv_iconst (v := (0 : Int32)) hx hb dM_orphan_29 (by decide) ?_
          refine lv_istore (lv' := [(5, .int (0 : Int32)), (4, .int ((m_live τ) x3.toNatClampNeg)), (0, .ref (a 0)), (1, .int x1), (2, .int x2), (3, .int x3)]) hx hb dM_orphan_30 hl (by decide) rfl (fun ls hl => ?_)
          exact L_32 K x1 x2 x3 ((m_live τ) x3.toNatClampNeg) (0 : Int32) τ hf _ _ hP hD hS _ (lv_sub hl [2, 3, 4, 5, 1, 0] rfl)
  unfold fM_orphan at hf
  refine lv_aload_n hx hb dM_orphan_0 rfl (lv_at hl 0 rfl) ?_
  refine lv_iconst (v := (0 : Int32)) hx hb dM_orphan_1 (by decide) ?_
  refine aM_put_thrown (σ := σ) (v := (0 : Int32)) (τ := (m_pthrown σ (0 : Int32))) rfl hx hb hts hown hK hP hD hS dM_orphan_2 (fun H locs hP hD hS => ?_)
  refine lv_iconst (v := (0 : Int32)) hx hb dM_orphan_5 (by decide) ?_
  refine lv_istore_n (lv' := [(2, .int (0 : Int32)), (0, .ref (a 0)), (1, .int p1)]) hx hb dM_orphan_6 rfl hl (by decide) rfl (fun ls hl => ?_)
  refine lv_iconst (v := (1 : Int32)) hx hb dM_orphan_7 (by decide) ?_
  refine lv_istore_n (lv' := [(3, .int (1 : Int32)), (2, .int (0 : Int32)), (0, .ref (a 0)), (1, .int p1)]) hx hb dM_orphan_8 rfl hl (by decide) rfl (fun ls hl => ?_)
  exact L_9 K p1 (0 : Int32) (1 : Int32) (m_pthrown σ (0 : Int32)) hf _ _ hP hD hS _ (lv_sub hl [2, 3, 1, 0] rfl)
def fM_house (K : Nat) (p1 : Int32) (σ : MSt) : Option (Int32 × MSt) := (if p1 < (1 : Int32) then some ((-1 : Int32), (m_pthrown σ (0 : Int32))) else (if p1 ≤ (m_records σ) then (if p1 < 0 ∨ 61 ≤ p1.toNatClampNeg then none else some (((m_houses σ) p1.toNatClampNeg), (m_pthrown σ (0 : Int32)))) else some ((-1 : Int32), (m_pthrown σ (0 : Int32)))))
set_option maxHeartbeats 4000000 in
set_option maxRecDepth 100000 in
theorem kM_house (l : Launch) (dC : Nat → ClassId) (dI : Nat → Nat → Nat) (a : Nat → Nat) (cI cZ : ClassId) (tb : Nat) (K : Nat) (p1 : Int32) (σ σ' : MSt) (r : Int32) (hf : fM_house K p1 σ = some (r, σ')) : xw_Ct l yM_house wdM_house ({ frames := 0, cells := 0, slots := 0, locals := 0 } : Room) (dC, dI) vwCl [(cI, .int), (cZ, .boolean)] (zz tb) ((w_M a cI cZ) σ) ((w_M a cI cZ) σ') [.ref (a 0), .int p1] r := by
  refine xw_ofW (cc := cM_house) (maxL := 2) (ret := (some .int)) (lv := [(0, .ref (a 0)), (1, .int p1)]) (by decide) rfl (Nat.le_of_ble_eq_true rfl) rfl ?_
  intro p e s m below meth c A hAt hP hD hS ls hl
  obtain ⟨hx, hb, hr, hml, hown, hts, hlocks, hK, hZ, hA⟩ := hAt
  replace hts : ∀ w ∈ lw_g, w.before _ s = true := fun w h => hts w (List.mem_cons_of_mem _ h)
  unfold fM_house at hf
  refine lv_aload_n hx hb dM_house_0 rfl (lv_at hl 0 rfl) ?_
  refine lv_iconst (v := (0 : Int32)) hx hb dM_house_1 (by decide) ?_
  refine aM_put_thrown (σ := σ) (v := (0 : Int32)) (τ := (m_pthrown σ (0 : Int32))) rfl hx hb hts hown hK hP hD hS dM_house_2 (fun H locs hP hD hS => ?_)
  refine lv_iload_n hx hb dM_house_5 rfl (lv_at hl 1 rfl) ?_
  refine lv_iconst (v := (1 : Int32)) hx hb dM_house_6 (by decide) ?_
  refine lv_icmp_lt (tgt := 18) hx hb dM_house_7 (by decide) (fun c_1 => ?_) (fun c_1 => ?_)
  · replace hf := it_t hf c_1
    refine lv_iconst (v := (-1 : Int32)) hx hb dM_house_18 (by decide) ?_
    refine lv_goto (tgt := 28) hx hb dM_house_19 (by decide) ?_
    exact xw_iret (wf := (w_M a cI cZ)) hx hb hr hlocks rfl hK hP hD hS hf dM_house_28
  · replace hf := it_f hf c_1
    refine lv_iload_n hx hb dM_house_10 rfl (lv_at hl 1 rfl) ?_
    refine lv_aload_n hx hb dM_house_11 rfl (lv_at hl 0 rfl) ?_
    refine aM_get_records (σ := (m_pthrown σ (0 : Int32))) (v := (m_records σ)) rfl hx hb hts hown hK hP dM_house_12 ?_
    refine lv_icmp_le (tgt := 22) hx hb dM_house_15 (by decide) (fun c_2 => ?_) (fun c_2 => ?_)
    · replace hf := it_t hf c_2
      refine lv_aload_n hx hb dM_house_22 rfl (lv_at hl 0 rfl) ?_
      refine aM_get_houses hx hb hts hown hK hP dM_house_23 ?_
      refine lv_iload_n hx hb dM_house_26 rfl (lv_at hl 1 rfl) ?_
      obtain ⟨g_3, hf⟩ := gd_f hf
      refine aM_ld_houses (σ := (m_pthrown σ (0 : Int32))) (f := (m_houses σ)) rfl hx hb hK hP g_3 dM_house_27 ?_
      exact xw_iret (wf := (w_M a cI cZ)) hx hb hr hlocks rfl hK hP hD hS hf dM_house_28
    · replace hf := it_f hf c_2
      refine lv_iconst (v := (-1 : Int32)) hx hb dM_house_18 (by decide) ?_
      refine lv_goto (tgt := 28) hx hb dM_house_19 (by decide) ?_
      exact xw_iret (wf := (w_M a cI cZ)) hx hb hr hlocks rfl hK hP hD hS hf dM_house_28
def gM_goes_11 (K : Nat) : Nat → Int32 → Int32 → Int32 → Int32 → Int32 → MSt → Option (Int32 × MSt)
  | 0, _, _, _, _, _, _ => none
  | n + 1, x1, x2, x3, x4, x5, τ => (if (m_links τ) ≤ x5 then some ((0 : Int32), τ) else (if x3 < 0 then some ((0 : Int32), τ) else (if x5 < 0 ∨ 200 ≤ x5.toNatClampNeg then none else (if ((m_from τ) x5.toNatClampNeg) = x1 then (if x5 < 0 ∨ 200 ≤ x5.toNatClampNeg then none else (if ((m_field τ) x5.toNatClampNeg) = x2 then (if x4 = x3 then (if x5 < 0 ∨ 200 ≤ x5.toNatClampNeg then none else some (((m_to τ) x5.toNatClampNeg), τ)) else (gM_goes_11 K n x1 x2 x3 (x4 + 1) (x5 + 1) τ)) else (gM_goes_11 K n x1 x2 x3 x4 (x5 + 1) τ))) else (gM_goes_11 K n x1 x2 x3 x4 (x5 + 1) τ)))))
def fM_goes (K : Nat) (p1 p2 p3 : Int32) (σ : MSt) : Option (Int32 × MSt) := (gM_goes_11 K K p1 p2 p3 (0 : Int32) (0 : Int32) (m_pthrown σ (0 : Int32)))
set_option maxHeartbeats 4000000 in
set_option maxRecDepth 100000 in
theorem kM_goes (l : Launch) (dC : Nat → ClassId) (dI : Nat → Nat → Nat) (a : Nat → Nat) (cI cZ : ClassId) (tb : Nat) (K : Nat) (p1 p2 p3 : Int32) (σ σ' : MSt) (r : Int32) (hf : fM_goes K p1 p2 p3 σ = some (r, σ')) : xw_Ct l yM_goes wdM_goes ({ frames := 0, cells := 0, slots := 0, locals := 0 } : Room) (dC, dI) vwCl [(cI, .int), (cZ, .boolean)] (zz tb) ((w_M a cI cZ) σ) ((w_M a cI cZ) σ') [.ref (a 0), .int p1, .int p2, .int p3] r := by
  refine xw_ofW (cc := cM_goes) (maxL := 6) (ret := (some .int)) (lv := [(0, .ref (a 0)), (1, .int p1), (2, .int p2), (3, .int p3)]) (by decide) rfl (Nat.le_of_ble_eq_true rfl) rfl ?_
  intro p e s m below meth c A hAt hP hD hS ls hl
  obtain ⟨hx, hb, hr, hml, hown, hts, hlocks, hK, hZ, hA⟩ := hAt
  replace hts : ∀ w ∈ lw_g, w.before _ s = true := fun w h => hts w (List.mem_cons_of_mem _ h)
  have L_11 : ∀ (n : Nat) (x1 x2 x3 x4 x5 : Int32) (τ : MSt), gM_goes_11 K n x1 x2 x3 x4 x5 τ = some (r, σ') → ∀ (H : Heap) (locs : List Loc), va_P (dC, dI) vwCl ((w_M a cI cZ) τ) H → va_D A ((w_M a cI cZ) τ) → va_S A s.heap H locs → ∀ (ls : Array Slot), lv_has ls 6 [(0, .ref (a 0)), (1, .int x1), (2, .int x2), (3, .int x3), (4, .int x4), (5, .int x5)] → W p l e ({ frames := 0, cells := 0, slots := 0, locals := 0 } : Room) s m ([.ref (a 0), .int p1, .int p2, .int p3] : List Value).toArray below meth c H locs 0 0 (MQ below (va_Qi (fun (r2 : Int32) (_ : Unit) => r2 = r) (fun _ t => xw_B (dC, dI) vwCl [(cI, .int), (cZ, .boolean)] A ((w_M a cI cZ) σ') t) A) ([.ref (a 0), .int p1, .int p2, .int p3] : List Value).toArray s 0 0 A) (F0 m 11 ls []) := by
    intro n
    induction n with
    | zero =>
      intro x1 x2 x3 x4 x5 τ hf
      rw [gM_goes_11] at hf
      cases hf
    | succ n ih =>
      intro x1 x2 x3 x4 x5 τ hf H locs hP hD hS ls hl
      rw [gM_goes_11] at hf
      refine lv_iload hx hb dM_goes_11 (lv_at hl 5 rfl) ?_
      refine lv_aload_n hx hb dM_goes_13 rfl (lv_at hl 0 rfl) ?_
      refine aM_get_links (σ := τ) (v := (m_links τ)) rfl hx hb hts hown hK hP dM_goes_14 ?_
      refine lv_icmp_ge (tgt := 69) hx hb dM_goes_17 (by decide) (fun c_1 => ?_) (fun c_1 => ?_)
      · replace hf := it_t hf c_1
        refine lv_iconst (v := (0 : Int32)) hx hb dM_goes_69 (by decide) ?_
        exact xw_iret (wf := (w_M a cI cZ)) hx hb hr hlocks rfl hK hP hD hS hf dM_goes_70
      · replace hf := it_f hf c_1
        refine lv_iload_n hx hb dM_goes_20 rfl (lv_at hl 3 rfl) ?_
        refine lv_if_lt (tgt := 69) hx hb dM_goes_21 (by decide) (fun c_2 => ?_) (fun c_2 => ?_)
        · replace hf := it_t hf c_2
          refine lv_iconst (v := (0 : Int32)) hx hb dM_goes_69 (by decide) ?_
          exact xw_iret (wf := (w_M a cI cZ)) hx hb hr hlocks rfl hK hP hD hS hf dM_goes_70
        · replace hf := it_f hf c_2
          refine lv_aload_n hx hb dM_goes_24 rfl (lv_at hl 0 rfl) ?_
          refine aM_get_from hx hb hts hown hK hP dM_goes_25 ?_
          refine lv_iload hx hb dM_goes_28 (lv_at hl 5 rfl) ?_
          obtain ⟨g_3, hf⟩ := gd_f hf
          refine aM_ld_from (σ := τ) (f := (m_from τ)) rfl hx hb hK hP g_3 dM_goes_30 ?_
          refine lv_iload_n hx hb dM_goes_31 rfl (lv_at hl 1 rfl) ?_
          refine lv_icmp_ne (tgt := 63) hx hb dM_goes_32 (by decide) (fun c_4 => ?_) (fun c_4 => ?_)
          · replace hf := it_f hf c_4
            refine lv_iinc (v := (x5 + 1)) (lv' := [(5, .int (x5 + 1)), (0, .ref (a 0)), (1, .int x1), (2, .int x2), (3, .int x3), (4, .int x4)]) hx hb dM_goes_63 hl (k := 5) rfl (congrArg (HAdd.hAdd _) (by decide : Int32.ofInt (1) = (1 : Int32))) (by decide) rfl (fun ls hl => ?_)
            refine lv_goto (tgt := 11) hx hb dM_goes_66 (by decide) ?_
            exact ih x1 x2 x3 x4 (x5 + 1) τ hf _ _ hP hD hS _ (lv_sub hl [1, 2, 3, 4, 5, 0] rfl)
          · replace hf := it_t hf c_4
            refine lv_aload_n hx hb dM_goes_35 rfl (lv_at hl 0 rfl) ?_
            refine aM_get_field hx hb hts hown hK hP dM_goes_36 ?_
            refine lv_iload hx hb dM_goes_39 (lv_at hl 5 rfl) ?_
            obtain ⟨g_5, hf⟩ := gd_f hf
            refine aM_ld_field (σ := τ) (f := (m_field τ)) rfl hx hb hK hP g_5 dM_goes_41 ?_
            refine lv_iload_n hx hb dM_goes_42 rfl (lv_at hl 2 rfl) ?_
            refine lv_icmp_ne (tgt := 63) hx hb dM_goes_43 (by decide) (fun c_6 => ?_) (fun c_6 => ?_)
            · replace hf := it_f hf c_6
              refine lv_iinc (v := (x5 + 1)) (lv' := [(5, .int (x5 + 1)), (0, .ref (a 0)), (1, .int x1), (2, .int x2), (3, .int x3), (4, .int x4)]) hx hb dM_goes_63 hl (k := 5) rfl (congrArg (HAdd.hAdd _) (by decide : Int32.ofInt (1) = (1 : Int32))) (by decide) rfl (fun ls hl => ?_)
              refine lv_goto (tgt := 11) hx hb dM_goes_66 (by decide) ?_
              exact ih x1 x2 x3 x4 (x5 + 1) τ hf _ _ hP hD hS _ (lv_sub hl [1, 2, 3, 4, 5, 0] rfl)
            · replace hf := it_t hf c_6
              refine lv_iload hx hb dM_goes_46 (lv_at hl 4 rfl) ?_
              refine lv_iload_n hx hb dM_goes_48 rfl (lv_at hl 3 rfl) ?_
              refine lv_icmp_ne (tgt := 60) hx hb dM_goes_49 (by decide) (fun c_7 => ?_) (fun c_7 => ?_)
              · replace hf := it_f hf c_7
                refine lv_iinc (v := (x4 + 1)) (lv' := [(4, .int (x4 + 1)), (0, .ref (a 0)), (1, .int x1), (2, .int x2), (3, .int x3), (5, .int x5)]) hx hb dM_goes_60 hl (k := 4) rfl (congrArg (HAdd.hAdd _) (by decide : Int32.ofInt (1) = (1 : Int32))) (by decide) rfl (fun ls hl => ?_)
                refine lv_iinc (v := (x5 + 1)) (lv' := [(5, .int (x5 + 1)), (4, .int (x4 + 1)), (0, .ref (a 0)), (1, .int x1), (2, .int x2), (3, .int x3)]) hx hb dM_goes_63 hl (k := 5) rfl (congrArg (HAdd.hAdd _) (by decide : Int32.ofInt (1) = (1 : Int32))) (by decide) rfl (fun ls hl => ?_)
                refine lv_goto (tgt := 11) hx hb dM_goes_66 (by decide) ?_
                exact ih x1 x2 x3 (x4 + 1) (x5 + 1) τ hf _ _ hP hD hS _ (lv_sub hl [2, 3, 4, 5, 1, 0] rfl)
              · replace hf := it_t hf c_7
                refine lv_aload_n hx hb dM_goes_52 rfl (lv_at hl 0 rfl) ?_
                refine aM_get_to hx hb hts hown hK hP dM_goes_53 ?_
                refine lv_iload hx hb dM_goes_56 (lv_at hl 5 rfl) ?_
                obtain ⟨g_8, hf⟩ := gd_f hf
                refine aM_ld_to (σ := τ) (f := (m_to τ)) rfl hx hb hK hP g_8 dM_goes_58 ?_
                exact xw_iret (wf := (w_M a cI cZ)) hx hb hr hlocks rfl hK hP hD hS hf dM_goes_59
  unfold fM_goes at hf
  refine lv_aload_n hx hb dM_goes_0 rfl (lv_at hl 0 rfl) ?_
  refine lv_iconst (v := (0 : Int32)) hx hb dM_goes_1 (by decide) ?_
  refine aM_put_thrown (σ := σ) (v := (0 : Int32)) (τ := (m_pthrown σ (0 : Int32))) rfl hx hb hts hown hK hP hD hS dM_goes_2 (fun H locs hP hD hS => ?_)
  refine lv_iconst (v := (0 : Int32)) hx hb dM_goes_5 (by decide) ?_
  refine lv_istore (lv' := [(4, .int (0 : Int32)), (0, .ref (a 0)), (1, .int p1), (2, .int p2), (3, .int p3)]) hx hb dM_goes_6 hl (by decide) rfl (fun ls hl => ?_)
  refine lv_iconst (v := (0 : Int32)) hx hb dM_goes_8 (by decide) ?_
  refine lv_istore (lv' := [(5, .int (0 : Int32)), (4, .int (0 : Int32)), (0, .ref (a 0)), (1, .int p1), (2, .int p2), (3, .int p3)]) hx hb dM_goes_9 hl (by decide) rfl (fun ls hl => ?_)
  exact L_11 K p1 p2 p3 (0 : Int32) (0 : Int32) (m_pthrown σ (0 : Int32)) hf _ _ hP hD hS _ (lv_sub hl [2, 3, 4, 5, 1, 0] rfl)
