def gM_drop_12 (K : Nat) : Nat → Int32 → Int32 → MSt → Option (Int32 × MSt)
  | 0, _, _, _ => none
  | n + 1, x1, x2, τ => (if (m_links τ) ≤ x2 then some ((0 : Int32), τ) else (if (x2 + (1 : Int32)) < 0 ∨ 200 ≤ (x2 + (1 : Int32)).toNatClampNeg then none else (if x2 < 0 ∨ 200 ≤ x2.toNatClampNeg then none else (if (x2 + (1 : Int32)) < 0 ∨ 200 ≤ (x2 + (1 : Int32)).toNatClampNeg then none else (if x2 < 0 ∨ 200 ≤ x2.toNatClampNeg then none else (if (x2 + (1 : Int32)) < 0 ∨ 200 ≤ (x2 + (1 : Int32)).toNatClampNeg then none else (if x2 < 0 ∨ 200 ≤ x2.toNatClampNeg then none else (gM_drop_12 K n x1 (x2 + 1) (m_pto (m_pfield (m_pfrom τ (upd (m_from τ) x2.toNatClampNeg ((m_from τ) (x2 + (1 : Int32)).toNatClampNeg))) (upd (m_field τ) x2.toNatClampNeg ((m_field τ) (x2 + (1 : Int32)).toNatClampNeg))) (upd (m_to τ) x2.toNatClampNeg ((m_to τ) (x2 + (1 : Int32)).toNatClampNeg)))))))))))
def fM_drop (K : Nat) (p1 : Int32) (σ : MSt) : Option (Int32 × MSt) := (gM_drop_12 K K p1 p1 (m_plinks σ ((m_links σ) - (1 : Int32))))
set_option maxHeartbeats 4000000 in
set_option maxRecDepth 100000 in
theorem kM_drop (l : Launch) (dC : Nat → ClassId) (dI : Nat → Nat → Nat) (a : Nat → Nat) (cI cZ : ClassId) (tb : Nat) (K : Nat) (p1 : Int32) (σ σ' : MSt) (r : Int32) (hf : fM_drop K p1 σ = some (r, σ')) : xw_Cv l yM_drop wdM_drop ({ frames := 0, cells := 0, slots := 0, locals := 0 } : Room) (dC, dI) vwCl [(cI, .int), (cZ, .boolean)] (zz tb) ((w_M a cI cZ) σ) ((w_M a cI cZ) σ') [.ref (a 0), .int p1] := by
  refine xw_ofWv (cc := cM_drop) (maxL := 3) (ret := none) (lv := [(0, .ref (a 0)), (1, .int p1)]) (by decide) rfl (Nat.le_of_ble_eq_true rfl) rfl ?_
  intro p e s m below meth c A hAt hP hD hS ls hl
  obtain ⟨hx, hb, hr, hml, hown, hts, hlocks, hK, hZ, hA⟩ := hAt
  replace hts : ∀ w ∈ lw_g, w.before _ s = true := fun w h => hts w (List.mem_cons_of_mem _ h)
  have L_12 : ∀ (n : Nat) (x1 x2 : Int32) (τ : MSt), gM_drop_12 K n x1 x2 τ = some (r, σ') → ∀ (H : Heap) (locs : List Loc), va_P (dC, dI) vwCl ((w_M a cI cZ) τ) H → va_D A ((w_M a cI cZ) τ) → va_S A s.heap H locs → ∀ (ls : Array Slot), lv_has ls 3 [(0, .ref (a 0)), (1, .int x1), (2, .int x2)] → W p l e ({ frames := 0, cells := 0, slots := 0, locals := 0 } : Room) s m ([.ref (a 0), .int p1] : List Value).toArray below meth c H locs 0 0 (MQ below (va_Qv (fun (_ : Unit) => True) (fun _ t => xw_B (dC, dI) vwCl [(cI, .int), (cZ, .boolean)] A ((w_M a cI cZ) σ') t) A) ([.ref (a 0), .int p1] : List Value).toArray s 0 0 A) (F0 m 12 ls []) := by
    intro n
    induction n with
    | zero =>
      intro x1 x2 τ hf
      rw [gM_drop_12] at hf
      cases hf
    | succ n ih =>
      intro x1 x2 τ hf H locs hP hD hS ls hl
      rw [gM_drop_12] at hf
      refine lv_iload_n hx hb dM_drop_12 rfl (lv_at hl 2 rfl) ?_
      refine lv_aload_n hx hb dM_drop_13 rfl (lv_at hl 0 rfl) ?_
      refine aM_get_links (σ := τ) (v := (m_links τ)) rfl hx hb hts hown hK hP dM_drop_14 ?_
      refine lv_icmp_ge (tgt := 68) hx hb dM_drop_17 (by decide) (fun c_1 => ?_) (fun c_1 => ?_)
      · replace hf := it_t hf c_1
        exact xw_vret (wf := (w_M a cI cZ)) hx hb hr hlocks hK hP hD hS hf dM_drop_68
      · replace hf := it_f hf c_1
        refine lv_aload_n hx hb dM_drop_20 rfl (lv_at hl 0 rfl) ?_
        refine aM_get_from hx hb hts hown hK hP dM_drop_21 ?_
        refine lv_iload_n hx hb dM_drop_24 rfl (lv_at hl 2 rfl) ?_
        refine lv_aload_n hx hb dM_drop_25 rfl (lv_at hl 0 rfl) ?_
        refine aM_get_from hx hb hts hown hK hP dM_drop_26 ?_
        refine lv_iload_n hx hb dM_drop_29 rfl (lv_at hl 2 rfl) ?_
        refine lv_iconst (v := (1 : Int32)) hx hb dM_drop_30 (by decide) ?_
        refine lv_iadd hx hb dM_drop_31 ?_
        obtain ⟨g_2, hf⟩ := gd_f hf
        refine aM_ld_from (σ := τ) (f := (m_from τ)) rfl hx hb hK hP g_2 dM_drop_32 ?_
        obtain ⟨g_3, hf⟩ := gd_f hf
        refine aM_st_from (σ := τ) (f := (m_from τ)) (x := ((m_from τ) (x2 + (1 : Int32)).toNatClampNeg)) (τ := (m_pfrom τ (upd (m_from τ) x2.toNatClampNeg ((m_from τ) (x2 + (1 : Int32)).toNatClampNeg)))) rfl rfl hx hb hK hP hD hS g_3 dM_drop_33 (fun H locs hP hD hS => ?_)
        refine lv_aload_n hx hb dM_drop_34 rfl (lv_at hl 0 rfl) ?_
        refine aM_get_field hx hb hts hown hK hP dM_drop_35 ?_
        refine lv_iload_n hx hb dM_drop_38 rfl (lv_at hl 2 rfl) ?_
        refine lv_aload_n hx hb dM_drop_39 rfl (lv_at hl 0 rfl) ?_
        refine aM_get_field hx hb hts hown hK hP dM_drop_40 ?_
        refine lv_iload_n hx hb dM_drop_43 rfl (lv_at hl 2 rfl) ?_
        refine lv_iconst (v := (1 : Int32)) hx hb dM_drop_44 (by decide) ?_
        refine lv_iadd hx hb dM_drop_45 ?_
        obtain ⟨g_4, hf⟩ := gd_f hf
        refine aM_ld_field (σ := (m_pfrom τ (upd (m_from τ) x2.toNatClampNeg ((m_from τ) (x2 + (1 : Int32)).toNatClampNeg)))) (f := (m_field τ)) rfl hx hb hK hP g_4 dM_drop_46 ?_
        obtain ⟨g_5, hf⟩ := gd_f hf
        refine aM_st_field (σ := (m_pfrom τ (upd (m_from τ) x2.toNatClampNeg ((m_from τ) (x2 + (1 : Int32)).toNatClampNeg)))) (f := (m_field τ)) (x := ((m_field τ) (x2 + (1 : Int32)).toNatClampNeg)) (τ := (m_pfield (m_pfrom τ (upd (m_from τ) x2.toNatClampNeg ((m_from τ) (x2 + (1 : Int32)).toNatClampNeg))) (upd (m_field τ) x2.toNatClampNeg ((m_field τ) (x2 + (1 : Int32)).toNatClampNeg)))) rfl rfl hx hb hK hP hD hS g_5 dM_drop_47 (fun H locs hP hD hS => ?_)
        refine lv_aload_n hx hb dM_drop_48 rfl (lv_at hl 0 rfl) ?_
        refine aM_get_to hx hb hts hown hK hP dM_drop_49 ?_
        refine lv_iload_n hx hb dM_drop_52 rfl (lv_at hl 2 rfl) ?_
        refine lv_aload_n hx hb dM_drop_53 rfl (lv_at hl 0 rfl) ?_
        refine aM_get_to hx hb hts hown hK hP dM_drop_54 ?_
        refine lv_iload_n hx hb dM_drop_57 rfl (lv_at hl 2 rfl) ?_
        refine lv_iconst (v := (1 : Int32)) hx hb dM_drop_58 (by decide) ?_
        refine lv_iadd hx hb dM_drop_59 ?_
        obtain ⟨g_6, hf⟩ := gd_f hf
        refine aM_ld_to (σ := (m_pfield (m_pfrom τ (upd (m_from τ) x2.toNatClampNeg ((m_from τ) (x2 + (1 : Int32)).toNatClampNeg))) (upd (m_field τ) x2.toNatClampNeg ((m_field τ) (x2 + (1 : Int32)).toNatClampNeg)))) (f := (m_to τ)) rfl hx hb hK hP g_6 dM_drop_60 ?_
        obtain ⟨g_7, hf⟩ := gd_f hf
        refine aM_st_to (σ := (m_pfield (m_pfrom τ (upd (m_from τ) x2.toNatClampNeg ((m_from τ) (x2 + (1 : Int32)).toNatClampNeg))) (upd (m_field τ) x2.toNatClampNeg ((m_field τ) (x2 + (1 : Int32)).toNatClampNeg)))) (f := (m_to τ)) (x := ((m_to τ) (x2 + (1 : Int32)).toNatClampNeg)) (τ := (m_pto (m_pfield (m_pfrom τ (upd (m_from τ) x2.toNatClampNeg ((m_from τ) (x2 + (1 : Int32)).toNatClampNeg))) (upd (m_field τ) x2.toNatClampNeg ((m_field τ) (x2 + (1 : Int32)).toNatClampNeg))) (upd (m_to τ) x2.toNatClampNeg ((m_to τ) (x2 + (1 : Int32)).toNatClampNeg)))) rfl rfl hx hb hK hP hD hS g_7 dM_drop_61 (fun H locs hP hD hS => ?_)
        refine lv_iinc (v := (x2 + 1)) (lv' := [(2, .int (x2 + 1)), (0, .ref (a 0)), (1, .int x1)]) hx hb dM_drop_62 hl (k := 2) rfl (congrArg (HAdd.hAdd _) (by decide : Int32.ofInt (1) = (1 : Int32))) (by decide) rfl (fun ls hl => ?_)
        refine lv_goto (tgt := 12) hx hb dM_drop_65 (by decide) ?_
        exact ih x1 (x2 + 1) (m_pto (m_pfield (m_pfrom τ (upd (m_from τ) x2.toNatClampNeg ((m_from τ) (x2 + (1 : Int32)).toNatClampNeg))) (upd (m_field τ) x2.toNatClampNeg ((m_field τ) (x2 + (1 : Int32)).toNatClampNeg))) (upd (m_to τ) x2.toNatClampNeg ((m_to τ) (x2 + (1 : Int32)).toNatClampNeg))) hf _ _ hP hD hS _ (lv_sub hl [1, 2, 0] rfl)
  unfold fM_drop at hf
  refine lv_aload_n hx hb dM_drop_0 rfl (lv_at hl 0 rfl) ?_
  refine lv_dup hx hb dM_drop_1 rfl ?_
  refine aM_get_links (σ := σ) (v := (m_links σ)) rfl hx hb hts hown hK hP dM_drop_2 ?_
  refine lv_iconst (v := (1 : Int32)) hx hb dM_drop_5 (by decide) ?_
  refine lv_isub hx hb dM_drop_6 ?_
  refine aM_put_links (σ := σ) (v := ((m_links σ) - (1 : Int32))) (τ := (m_plinks σ ((m_links σ) - (1 : Int32)))) rfl hx hb hts hown hK hP hD hS dM_drop_7 (fun H locs hP hD hS => ?_)
  refine lv_iload_n hx hb dM_drop_10 rfl (lv_at hl 1 rfl) ?_
  refine lv_istore_n (lv' := [(2, .int p1), (0, .ref (a 0)), (1, .int p1)]) hx hb dM_drop_11 rfl hl (by decide) rfl (fun ls hl => ?_)
  exact L_12 K p1 p1 (m_plinks σ ((m_links σ) - (1 : Int32))) hf _ _ hP hD hS _ (lv_sub hl [1, 2, 0] rfl)
def gM_change_41 (K : Nat) : Nat → Int32 → Int32 → Int32 → Int32 → MSt → Option (Int32 × MSt)
  | 0, _, _, _, _, _ => none
  | n + 1, x1, x2, x3, x4, τ => (if (m_links τ) ≤ x4 then some (x3, τ) else (if x4 < 0 ∨ 200 ≤ x4.toNatClampNeg then none else (if ((m_field τ) x4.toNatClampNeg) ≤ (3 : Int32) then (gM_change_41 K n x1 x2 x3 (x4 + (1 : Int32)) τ) else (if x4 < 0 ∨ 200 ≤ x4.toNatClampNeg then none else (if ((m_to τ) x4.toNatClampNeg) = x1 then (if x4 < 0 ∨ 200 ≤ x4.toNatClampNeg then none else ((fM_changed K ((m_from τ) x4.toNatClampNeg) τ).bind fun q_14 => (if x4 < 0 ∨ 200 ≤ x4.toNatClampNeg then none else (if x4 < 0 ∨ 200 ≤ x4.toNatClampNeg then none else ((fM_find K ((m_from q_14.2) x4.toNatClampNeg) ((m_field q_14.2) x4.toNatClampNeg) x2 q_14.2).bind fun q_17 => (if q_17.1 = (-1 : Int32) then (if x4 < 0 ∨ 200 ≤ x4.toNatClampNeg then none else (gM_change_41 K n x1 x2 (x3 + 1) (x4 + (1 : Int32)) (m_pto q_17.2 (upd (m_to q_17.2) x4.toNatClampNeg x2)))) else (if x4 ≤ q_17.1 then (if x4 < 0 ∨ 200 ≤ x4.toNatClampNeg then none else ((fM_drop K q_17.1 (m_pto q_17.2 (upd (m_to q_17.2) x4.toNatClampNeg x2))).bind fun q_21 => (gM_change_41 K n x1 x2 (x3 + 1) (x4 + (1 : Int32)) q_21.2))) else ((fM_drop K x4 q_17.2).bind fun q_23 => (gM_change_41 K n x1 x2 (x3 + 1) (x4 + (0 : Int32)) q_23.2))))))))) else (gM_change_41 K n x1 x2 x3 (x4 + (1 : Int32)) τ))))))
def fM_change (K : Nat) (p1 p2 : Int32) (σ : MSt) : Option (Int32 × MSt) := ((fM_isHeading K p1 (m_pmoment (m_pthrown σ (0 : Int32)) ((m_moment σ) + (1 : Int32)))).bind fun q_1 => (if q_1.1 = 0 then some ((0 : Int32), q_1.2) else ((fM_isHeading K p2 q_1.2).bind fun q_3 => (if q_3.1 = 0 then some ((0 : Int32), q_3.2) else (if p1 = p2 then some ((0 : Int32), q_3.2) else (gM_change_41 K K p1 p2 (0 : Int32) (0 : Int32) q_3.2))))))
set_option maxHeartbeats 4000000 in
set_option maxRecDepth 100000 in
theorem kM_change (l : Launch) (dC : Nat → ClassId) (dI : Nat → Nat → Nat) (a : Nat → Nat) (cI cZ : ClassId) (tb : Nat) (K : Nat) (p1 p2 : Int32) (σ σ' : MSt) (r : Int32) (hf : fM_change K p1 p2 σ = some (r, σ')) : xw_Ct l yM_change wdM_change ({ frames := 1, cells := 0, slots := 0, locals := 24 } : Room) (dC, dI) vwCl [(cI, .int), (cZ, .boolean)] (zz tb) ((w_M a cI cZ) σ) ((w_M a cI cZ) σ') [.ref (a 0), .int p1, .int p2] r := by
  refine xw_ofW (cc := cM_change) (maxL := 7) (ret := (some .int)) (lv := [(0, .ref (a 0)), (1, .int p1), (2, .int p2)]) (by decide) rfl (Nat.le_of_ble_eq_true rfl) rfl ?_
  intro p e s m below meth c A hAt hP hD hS ls hl
  obtain ⟨hx, hb, hr, hml, hown, hts, hlocks, hK, hZ, hA⟩ := hAt
  replace hts : ∀ w ∈ lw_g, w.before _ s = true := fun w h => hts w (List.mem_cons_of_mem _ h)
  have L_41 : ∀ (n : Nat) (x1 x2 x3 x4 : Int32) (τ : MSt), gM_change_41 K n x1 x2 x3 x4 τ = some (r, σ') → ∀ (H : Heap) (locs : List Loc), va_P (dC, dI) vwCl ((w_M a cI cZ) τ) H → va_D A ((w_M a cI cZ) τ) → va_S A s.heap H locs → ∀ (ls : Array Slot), lv_has ls 7 [(0, .ref (a 0)), (1, .int x1), (2, .int x2), (3, .int x3), (4, .int x4)] → W p l e ({ frames := 1, cells := 0, slots := 0, locals := 24 } : Room) s m ([.ref (a 0), .int p1, .int p2] : List Value).toArray below meth c H locs 0 0 (MQ below (va_Qi (fun (r2 : Int32) (_ : Unit) => r2 = r) (fun _ t => xw_B (dC, dI) vwCl [(cI, .int), (cZ, .boolean)] A ((w_M a cI cZ) σ') t) A) ([.ref (a 0), .int p1, .int p2] : List Value).toArray s 0 0 A) (F0 m 41 ls []) := by
    intro n
    induction n with
    | zero =>
      intro x1 x2 x3 x4 τ hf
      rw [gM_change_41] at hf
      cases hf
    | succ n ih =>
      intro x1 x2 x3 x4 τ hf H locs hP hD hS ls hl
      rw [gM_change_41] at hf
      refine lv_iload hx hb dM_change_41 (lv_at hl 4 rfl) ?_
      refine lv_aload_n hx hb dM_change_43 rfl (lv_at hl 0 rfl) ?_
      refine aM_get_links (σ := τ) (v := (m_links τ)) rfl hx hb hts hown hK hP dM_change_44 ?_
      refine lv_icmp_ge (tgt := 178) hx hb dM_change_47 (by decide) (fun c_6 => ?_) (fun c_6 => ?_)
      · replace hf := it_t hf c_6
        refine lv_iload_n hx hb dM_change_178 rfl (lv_at hl 3 rfl) ?_
        exact xw_iret (wf := (w_M a cI cZ)) hx hb hr hlocks rfl hK hP hD hS hf dM_change_179
      · replace hf := it_f hf c_6
        refine lv_iconst (v := (1 : Int32)) hx hb dM_change_50 (by decide) ?_
        refine lv_istore (lv' := [(5, .int (1 : Int32)), (0, .ref (a 0)), (1, .int x1), (2, .int x2), (3, .int x3), (4, .int x4)]) hx hb dM_change_51 hl (by decide) rfl (fun ls hl => ?_)
        refine lv_aload_n hx hb dM_change_53 rfl (lv_at hl 1 rfl) ?_
        refine aM_get_field hx hb hts hown hK hP dM_change_54 ?_
        refine lv_iload hx hb dM_change_57 (lv_at hl 5 rfl) ?_
        obtain ⟨g_7, hf⟩ := gd_f hf
        refine aM_ld_field (σ := τ) (f := (m_field τ)) rfl hx hb hK hP g_7 dM_change_59 ?_
        refine lv_iconst (v := (3 : Int32)) hx hb dM_change_60 (by decide) ?_
        refine lv_icmp_le (tgt := 160) hx hb dM_change_61 (by decide) (fun c_8 => ?_) (fun c_8 => ?_)
        · replace hf := it_t hf c_8
          refine lv_iload hx hb dM_change_160 (lv_at hl 5 rfl) ?_
          refine lv_iload hx hb dM_change_162 (lv_at hl 0 rfl) ?_
          refine lv_if_eq (tgt := 171) hx hb dM_change_164 (by decide) (fun c_9 => absurd c_9 (by decide)) (fun c_9 => ?_)
          refine lv_iconst (v := (1 : Int32)) hx hb dM_change_167 (by decide) ?_
          refine lv_goto (tgt := 172) hx hb dM_change_168 (by decide) ?_
          refine lv_iadd hx hb dM_change_172 ?_
          refine lv_istore (lv' := [(4, .int (x4 + (1 : Int32))), (5, .int (1 : Int32)), (0, .ref (a 0)), (1, .int x1), (2, .int x2), (3, .int x3)]) hx hb dM_change_173 hl (by decide) rfl (fun ls hl => ?_)
          refine lv_goto (tgt := 41) hx hb dM_change_175 (by decide) ?_
          exact ih x1 x2 x3 (x4 + (1 : Int32)) τ hf _ _ hP hD hS _ (lv_sub hl [2, 3, 4, 5, 0] rfl)
        · replace hf := it_f hf c_8
          refine lv_aload_n hx hb dM_change_64 rfl (lv_at hl 1 rfl) ?_
          refine aM_get_to hx hb hts hown hK hP dM_change_65 ?_
          refine lv_iload hx hb dM_change_68 (lv_at hl 5 rfl) ?_
          obtain ⟨g_10, hf⟩ := gd_f hf
          refine aM_ld_to (σ := τ) (f := (m_to τ)) rfl hx hb hK hP g_10 dM_change_70 ?_
          refine lv_iload_n hx hb dM_change_71 rfl (lv_at hl 2 rfl) ?_
          refine lv_icmp_ne (tgt := 160) hx hb dM_change_72 (by decide) (fun c_11 => ?_) (fun c_11 => ?_)
          · replace hf := it_f hf c_11
            refine lv_iload hx hb dM_change_160 (lv_at hl 5 rfl) ?_
            refine lv_iload hx hb dM_change_162 (lv_at hl 0 rfl) ?_
            refine lv_if_eq (tgt := 171) hx hb dM_change_164 (by decide) (fun c_12 => absurd c_12 (by decide)) (fun c_12 => ?_)
            refine lv_iconst (v := (1 : Int32)) hx hb dM_change_167 (by decide) ?_
            refine lv_goto (tgt := 172) hx hb dM_change_168 (by decide) ?_
            refine lv_iadd hx hb dM_change_172 ?_
            refine lv_istore (lv' := [(4, .int (x4 + (1 : Int32))), (5, .int (1 : Int32)), (0, .ref (a 0)), (1, .int x1), (2, .int x2), (3, .int x3)]) hx hb dM_change_173 hl (by decide) rfl (fun ls hl => ?_)
            refine lv_goto (tgt := 41) hx hb dM_change_175 (by decide) ?_
            exact ih x1 x2 x3 (x4 + (1 : Int32)) τ hf _ _ hP hD hS _ (lv_sub hl [2, 3, 4, 5, 0] rfl)
          · replace hf := it_t hf c_11
            refine lv_iinc (v := (x3 + 1)) (lv' := [(3, .int (x3 + 1)), (5, .int (1 : Int32)), (0, .ref (a 0)), (1, .int x1), (2, .int x2), (4, .int x4)]) hx hb dM_change_75 hl (k := 4) rfl (congrArg (HAdd.hAdd _) (by decide : Int32.ofInt (1) = (1 : Int32))) (by decide) rfl (fun ls hl => ?_)
            refine lv_aload_n hx hb dM_change_78 rfl (lv_at hl 2 rfl) ?_
            refine lv_aload_n hx hb dM_change_79 rfl (lv_at hl 2 rfl) ?_
            refine aM_get_from hx hb hts hown hK hP dM_change_80 ?_
            refine lv_iload hx hb dM_change_83 (lv_at hl 5 rfl) ?_
            obtain ⟨g_13, hf⟩ := gd_f hf
            refine aM_ld_from (σ := τ) (f := (m_from τ)) rfl hx hb hK hP g_13 dM_change_85 ?_
            obtain ⟨q_14, hq_14, hf⟩ := bd_s hf
            refine xw_callVv (kM_changed l dC dI a cI cZ tb K ((m_from τ) x4.toNatClampNeg) τ q_14.2 q_14.1 hq_14) ⟨hx, hb, hml, hown, hts⟩ (cwV 1 hts (gw_V mt_289 mt_291 mt_20 mt_26 mt_292) rfl rfl rfl hdM_changed ⟨Nat.le_of_ble_eq_true rfl, Nat.le_of_ble_eq_true rfl⟩) hK hP hD hS hA hZ (q0 := 0) (ci := 1) rfl rfl rfl hl.1 rfl (Nat.le_of_ble_eq_true rfl) dM_change_86 ⟨Nat.zero_le _, Nat.zero_le _⟩ (fun H locs hP hD hS => ?_)
            refine lv_aload_n hx hb dM_change_89 rfl (lv_at hl 2 rfl) ?_
            refine lv_aload_n hx hb dM_change_90 rfl (lv_at hl 2 rfl) ?_
            refine aM_get_from hx hb hts hown hK hP dM_change_91 ?_
            refine lv_iload hx hb dM_change_94 (lv_at hl 5 rfl) ?_
            obtain ⟨g_15, hf⟩ := gd_f hf
            refine aM_ld_from (σ := q_14.2) (f := (m_from q_14.2)) rfl hx hb hK hP g_15 dM_change_96 ?_
            refine lv_aload_n hx hb dM_change_97 rfl (lv_at hl 2 rfl) ?_
            refine aM_get_field hx hb hts hown hK hP dM_change_98 ?_
            refine lv_iload hx hb dM_change_101 (lv_at hl 5 rfl) ?_
            obtain ⟨g_16, hf⟩ := gd_f hf
            refine aM_ld_field (σ := q_14.2) (f := (m_field q_14.2)) rfl hx hb hK hP g_16 dM_change_103 ?_
            refine lv_iload_n hx hb dM_change_104 rfl (lv_at hl 4 rfl) ?_
            obtain ⟨q_17, hq_17, hf⟩ := bd_s hf
            refine xw_callV (kM_find l dC dI a cI cZ tb K ((m_from q_14.2) x4.toNatClampNeg) ((m_field q_14.2) x4.toNatClampNeg) x2 q_14.2 q_17.2 q_17.1 hq_17) ⟨hx, hb, hml, hown, hts⟩ (cwV 3 hts (gw_V mt_277 mt_279 mt_17 mt_26 mt_280) rfl rfl rfl hdM_find ⟨Nat.le_of_ble_eq_true rfl, Nat.le_of_ble_eq_true rfl⟩) hK hP hD hS hA hZ (q0 := 0) (ci := 1) rfl rfl rfl hl.1 rfl (Nat.le_of_ble_eq_true rfl) dM_change_105 ⟨Nat.zero_le _, Nat.zero_le _⟩ (fun H locs hP hD hS => ?_)
            refine lv_istore (lv' := [(6, .int q_17.1), (3, .int (x3 + 1)), (5, .int (1 : Int32)), (0, .ref (a 0)), (1, .int x1), (2, .int x2), (4, .int x4)]) hx hb dM_change_108 hl (by decide) rfl (fun ls hl => ?_)
            refine lv_iload hx hb dM_change_110 (lv_at hl 0 rfl) ?_
            refine lv_iconst (v := (-1 : Int32)) hx hb dM_change_112 (by decide) ?_
            refine lv_icmp_ne (tgt := 127) hx hb dM_change_113 (by decide) (fun c_18 => ?_) (fun c_18 => ?_)
            · replace hf := it_f hf c_18
              refine lv_iload hx hb dM_change_127 (lv_at hl 0 rfl) ?_
              refine lv_iload hx hb dM_change_129 (lv_at hl 6 rfl) ?_
              refine lv_icmp_ge (tgt := 146) hx hb dM_change_131 (by decide) (fun c_19 => ?_) (fun c_19 => ?_)
              · replace hf := it_t hf c_19
                refine lv_aload_n hx hb dM_change_146 rfl (lv_at hl 3 rfl) ?_
                refine aM_get_to hx hb hts hown hK hP dM_change_147 ?_
                refine lv_iload hx hb dM_change_150 (lv_at hl 6 rfl) ?_
                refine lv_iload_n hx hb dM_change_152 rfl (lv_at hl 5 rfl) ?_
                obtain ⟨g_20, hf⟩ := gd_f hf
                refine aM_st_to (σ := q_17.2) (f := (m_to q_17.2)) (x := x2) (τ := (m_pto q_17.2 (upd (m_to q_17.2) x4.toNatClampNeg x2))) rfl rfl hx hb hK hP hD hS g_20 dM_change_153 (fun H locs hP hD hS => ?_)
                refine lv_aload_n hx hb dM_change_154 rfl (lv_at hl 3 rfl) ?_
                refine lv_iload hx hb dM_change_155 (lv_at hl 0 rfl) ?_
                obtain ⟨q_21, hq_21, hf⟩ := bd_s hf
                refine xw_callVv (kM_drop l dC dI a cI cZ tb K q_17.1 (m_pto q_17.2 (upd (m_to q_17.2) x4.toNatClampNeg x2)) q_21.2 q_21.1 hq_21) ⟨hx, hb, hml, hown, hts⟩ (cwV 1 hts (gw_V mt_297 mt_299 mt_21 mt_26 mt_300) rfl rfl rfl hdM_drop ⟨Nat.le_of_ble_eq_true rfl, Nat.le_of_ble_eq_true rfl⟩) hK hP hD hS hA hZ (q0 := 0) (ci := 1) rfl rfl rfl hl.1 rfl (Nat.le_of_ble_eq_true rfl) dM_change_157 ⟨Nat.zero_le _, Nat.zero_le _⟩ (fun H locs hP hD hS => ?_)
                refine lv_iload hx hb dM_change_160 (lv_at hl 6 rfl) ?_
                refine lv_iload hx hb dM_change_162 (lv_at hl 2 rfl) ?_
                refine lv_if_eq (tgt := 171) hx hb dM_change_164 (by decide) (fun c_22 => absurd c_22 (by decide)) (fun c_22 => ?_)
                refine lv_iconst (v := (1 : Int32)) hx hb dM_change_167 (by decide) ?_
                refine lv_goto (tgt := 172) hx hb dM_change_168 (by decide) ?_
                refine lv_iadd hx hb dM_change_172 ?_
                refine lv_istore (lv' := [(4, .int (x4 + (1 : Int32))), (6, .int q_17.1), (3, .int (x3 + 1)), (5, .int (1 : Int32)), (0, .ref (a 0)), (1, .int x1), (2, .int x2)]) hx hb dM_change_173 hl (by decide) rfl (fun ls hl => ?_)
                refine lv_goto (tgt := 41) hx hb dM_change_175 (by decide) ?_
                exact ih x1 x2 (x3 + 1) (x4 + (1 : Int32)) q_21.2 hf _ _ hP hD hS _ (lv_sub hl [4, 5, 6, 2, 0] rfl)
              · replace hf := it_f hf c_19
                refine lv_aload_n hx hb dM_change_134 rfl (lv_at hl 3 rfl) ?_
                refine lv_iload hx hb dM_change_135 (lv_at hl 6 rfl) ?_
                obtain ⟨q_23, hq_23, hf⟩ := bd_s hf
                refine xw_callVv (kM_drop l dC dI a cI cZ tb K x4 q_17.2 q_23.2 q_23.1 hq_23) ⟨hx, hb, hml, hown, hts⟩ (cwV 1 hts (gw_V mt_297 mt_299 mt_21 mt_26 mt_300) rfl rfl rfl hdM_drop ⟨Nat.le_of_ble_eq_true rfl, Nat.le_of_ble_eq_true rfl⟩) hK hP hD hS hA hZ (q0 := 0) (ci := 1) rfl rfl rfl hl.1 rfl (Nat.le_of_ble_eq_true rfl) dM_change_137 ⟨Nat.zero_le _, Nat.zero_le _⟩ (fun H locs hP hD hS => ?_)
                refine lv_iconst (v := (0 : Int32)) hx hb dM_change_140 (by decide) ?_
                refine lv_istore (lv' := [(5, .int (0 : Int32)), (6, .int q_17.1), (3, .int (x3 + 1)), (0, .ref (a 0)), (1, .int x1), (2, .int x2), (4, .int x4)]) hx hb dM_change_141 hl (by decide) rfl (fun ls hl => ?_)
                refine lv_goto (tgt := 160) hx hb dM_change_143 (by decide) ?_
                refine lv_iload hx hb dM_change_160 (lv_at hl 6 rfl) ?_
                refine lv_iload hx hb dM_change_162 (lv_at hl 0 rfl) ?_
                refine lv_if_eq (tgt := 171) hx hb dM_change_164 (by decide) (fun c_24 => ?_) (fun c_24 => absurd c_24 (by decide))
                refine lv_iconst (v := (0 : Int32)) hx hb dM_change_171 (by decide) ?_
                refine lv_iadd hx hb dM_change_172 ?_
                refine lv_istore (lv' := [(4, .int (x4 + (0 : Int32))), (5, .int (0 : Int32)), (6, .int q_17.1), (3, .int (x3 + 1)), (0, .ref (a 0)), (1, .int x1), (2, .int x2)]) hx hb dM_change_173 hl (by decide) rfl (fun ls hl => ?_)
                refine lv_goto (tgt := 41) hx hb dM_change_175 (by decide) ?_
                exact ih x1 x2 (x3 + 1) (x4 + (0 : Int32)) q_23.2 hf _ _ hP hD hS _ (lv_sub hl [4, 5, 6, 3, 0] rfl)
            · replace hf := it_t hf c_18
              refine lv_aload_n hx hb dM_change_116 rfl (lv_at hl 3 rfl) ?_
              refine aM_get_to hx hb hts hown hK hP dM_change_117 ?_
              refine lv_iload hx hb dM_change_120 (lv_at hl 6 rfl) ?_
              refine lv_iload_n hx hb dM_change_122 rfl (lv_at hl 5 rfl) ?_
              obtain ⟨g_25, hf⟩ := gd_f hf
              refine aM_st_to (σ := q_17.2) (f := (m_to q_17.2)) (x := x2) (τ := (m_pto q_17.2 (upd (m_to q_17.2) x4.toNatClampNeg x2))) rfl rfl hx hb hK hP hD hS g_25 dM_change_123 (fun H locs hP hD hS => ?_)
              refine lv_goto (tgt := 160) hx hb dM_change_124 (by decide) ?_
              refine lv_iload hx hb dM_change_160 (lv_at hl 6 rfl) ?_
              refine lv_iload hx hb dM_change_162 (lv_at hl 2 rfl) ?_
              refine lv_if_eq (tgt := 171) hx hb dM_change_164 (by decide) (fun c_26 => absurd c_26 (by decide)) (fun c_26 => ?_)
              refine lv_iconst (v := (1 : Int32)) hx hb dM_change_167 (by decide) ?_
              refine lv_goto (tgt := 172) hx hb dM_change_168 (by decide) ?_
              refine lv_iadd hx hb dM_change_172 ?_
              refine lv_istore (lv' := [(4, .int (x4 + (1 : Int32))), (6, .int q_17.1), (3, .int (x3 + 1)), (5, .int (1 : Int32)), (0, .ref (a 0)), (1, .int x1), (2, .int x2)]) hx hb dM_change_173 hl (by decide) rfl (fun ls hl => ?_)
              refine lv_goto (tgt := 41) hx hb dM_change_175 (by decide) ?_
              exact ih x1 x2 (x3 + 1) (x4 + (1 : Int32)) (m_pto q_17.2 (upd (m_to q_17.2) x4.toNatClampNeg x2)) hf _ _ hP hD hS _ (lv_sub hl [4, 5, 6, 2, 0] rfl)
  unfold fM_change at hf
  refine lv_aload_n hx hb dM_change_0 rfl (lv_at hl 0 rfl) ?_
  refine lv_iconst (v := (0 : Int32)) hx hb dM_change_1 (by decide) ?_
  refine aM_put_thrown (σ := σ) (v := (0 : Int32)) (τ := (m_pthrown σ (0 : Int32))) rfl hx hb hts hown hK hP hD hS dM_change_2 (fun H locs hP hD hS => ?_)
  refine lv_aload_n hx hb dM_change_5 rfl (lv_at hl 0 rfl) ?_
  refine lv_dup hx hb dM_change_6 rfl ?_
  refine aM_get_moment (σ := (m_pthrown σ (0 : Int32))) (v := (m_moment σ)) rfl hx hb hts hown hK hP dM_change_7 ?_
  refine lv_iconst (v := (1 : Int32)) hx hb dM_change_10 (by decide) ?_
  refine lv_iadd hx hb dM_change_11 ?_
  refine aM_put_moment (σ := (m_pthrown σ (0 : Int32))) (v := ((m_moment σ) + (1 : Int32))) (τ := (m_pmoment (m_pthrown σ (0 : Int32)) ((m_moment σ) + (1 : Int32)))) rfl hx hb hts hown hK hP hD hS dM_change_12 (fun H locs hP hD hS => ?_)
  refine lv_iload_n hx hb dM_change_15 rfl (lv_at hl 1 rfl) ?_
  obtain ⟨q_1, hq_1, hf⟩ := bd_s hf
  refine xw_callS (kM_isHeading l dC dI a cI cZ tb K p1 (m_pmoment (m_pthrown σ (0 : Int32)) ((m_moment σ) + (1 : Int32))) q_1.2 q_1.1 hq_1) ⟨hx, hb, hml, hown, hts⟩ (va_cwS 1 hts (gw_S mt_267 mt_268 mt_26 mt_269) rfl rfl rfl hdM_isHeading ⟨Nat.le_of_ble_eq_true rfl, Nat.le_of_ble_eq_true rfl⟩) hK hP hD hS hA hZ rfl hl.1 rfl (Nat.le_of_ble_eq_true rfl) dM_change_16 ⟨Nat.zero_le _, Nat.zero_le _⟩ (fun H locs hP hD hS => ?_)
  refine lv_if_eq (tgt := 34) hx hb dM_change_19 (by decide) (fun c_2 => ?_) (fun c_2 => ?_)
  · replace hf := it_t hf c_2
    refine lv_iconst (v := (0 : Int32)) hx hb dM_change_34 (by decide) ?_
    exact xw_iret (wf := (w_M a cI cZ)) hx hb hr hlocks rfl hK hP hD hS hf dM_change_35
  · replace hf := it_f hf c_2
    refine lv_iload_n hx hb dM_change_22 rfl (lv_at hl 2 rfl) ?_
    obtain ⟨q_3, hq_3, hf⟩ := bd_s hf
    refine xw_callS (kM_isHeading l dC dI a cI cZ tb K p2 q_1.2 q_3.2 q_3.1 hq_3) ⟨hx, hb, hml, hown, hts⟩ (va_cwS 1 hts (gw_S mt_267 mt_268 mt_26 mt_269) rfl rfl rfl hdM_isHeading ⟨Nat.le_of_ble_eq_true rfl, Nat.le_of_ble_eq_true rfl⟩) hK hP hD hS hA hZ rfl hl.1 rfl (Nat.le_of_ble_eq_true rfl) dM_change_23 ⟨Nat.zero_le _, Nat.zero_le _⟩ (fun H locs hP hD hS => ?_)
    refine lv_if_eq (tgt := 34) hx hb dM_change_26 (by decide) (fun c_4 => ?_) (fun c_4 => ?_)
    · replace hf := it_t hf c_4
      refine lv_iconst (v := (0 : Int32)) hx hb dM_change_34 (by decide) ?_
      exact xw_iret (wf := (w_M a cI cZ)) hx hb hr hlocks rfl hK hP hD hS hf dM_change_35
    · replace hf := it_f hf c_4
      refine lv_iload_n hx hb dM_change_29 rfl (lv_at hl 1 rfl) ?_
      refine lv_iload_n hx hb dM_change_30 rfl (lv_at hl 2 rfl) ?_
      refine lv_icmp_ne (tgt := 36) hx hb dM_change_31 (by decide) (fun c_5 => ?_) (fun c_5 => ?_)
      · replace hf := it_f hf c_5
        refine lv_iconst (v := (0 : Int32)) hx hb dM_change_36 (by decide) ?_
        refine lv_istore_n (lv' := [(3, .int (0 : Int32)), (0, .ref (a 0)), (1, .int p1), (2, .int p2)]) hx hb dM_change_37 rfl hl (by decide) rfl (fun ls hl => ?_)
        refine lv_iconst (v := (0 : Int32)) hx hb dM_change_38 (by decide) ?_
        refine lv_istore (lv' := [(4, .int (0 : Int32)), (3, .int (0 : Int32)), (0, .ref (a 0)), (1, .int p1), (2, .int p2)]) hx hb dM_change_39 hl (by decide) rfl (fun ls hl => ?_)
        exact L_41 K p1 p2 (0 : Int32) (0 : Int32) q_3.2 hf _ _ hP hD hS _ (lv_sub hl [2, 3, 4, 1, 0] rfl)
      · replace hf := it_t hf c_5
        refine lv_iconst (v := (0 : Int32)) hx hb dM_change_34 (by decide) ?_
        exact xw_iret (wf := (w_M a cI cZ)) hx hb hr hlocks rfl hK hP hD hS hf dM_change_35
def fM_isBroken (K : Nat) (p1 : Int32) (σ : MSt) : Option (Int32 × MSt) := (if p1 < 0 ∨ 200 ≤ p1.toNatClampNeg then none else (if (4 : Int32) ≤ ((m_field σ) p1.toNatClampNeg) then some ((0 : Int32), σ) else (if p1 < 0 ∨ 200 ≤ p1.toNatClampNeg then none else (if ((m_to σ) p1.toNatClampNeg) < 0 ∨ 61 ≤ ((m_to σ) p1.toNatClampNeg).toNatClampNeg then none else (if ((m_live σ) ((m_to σ) p1.toNatClampNeg).toNatClampNeg) = 0 then some ((1 : Int32), σ) else some ((0 : Int32), σ))))))
set_option maxHeartbeats 4000000 in
set_option maxRecDepth 100000 in
theorem kM_isBroken (l : Launch) (dC : Nat → ClassId) (dI : Nat → Nat → Nat) (a : Nat → Nat) (cI cZ : ClassId) (tb : Nat) (K : Nat) (p1 : Int32) (σ σ' : MSt) (r : Int32) (hf : fM_isBroken K p1 σ = some (r, σ')) : xw_Ct l yM_isBroken wdM_isBroken ({ frames := 0, cells := 0, slots := 0, locals := 0 } : Room) (dC, dI) vwCl [(cI, .int), (cZ, .boolean)] (zz tb) ((w_M a cI cZ) σ) ((w_M a cI cZ) σ') [.ref (a 0), .int p1] r := by
  refine xw_ofW (cc := cM_isBroken) (maxL := 2) (ret := (some .boolean)) (lv := [(0, .ref (a 0)), (1, .int p1)]) (by decide) rfl (Nat.le_of_ble_eq_true rfl) rfl ?_
  intro p e s m below meth c A hAt hP hD hS ls hl
  obtain ⟨hx, hb, hr, hml, hown, hts, hlocks, hK, hZ, hA⟩ := hAt
  replace hts : ∀ w ∈ lw_g, w.before _ s = true := fun w h => hts w (List.mem_cons_of_mem _ h)
  unfold fM_isBroken at hf
  refine lv_aload_n hx hb dM_isBroken_0 rfl (lv_at hl 0 rfl) ?_
  refine aM_get_field hx hb hts hown hK hP dM_isBroken_1 ?_
  refine lv_iload_n hx hb dM_isBroken_4 rfl (lv_at hl 1 rfl) ?_
  obtain ⟨g_1, hf⟩ := gd_f hf
  refine aM_ld_field (σ := σ) (f := (m_field σ)) rfl hx hb hK hP g_1 dM_isBroken_5 ?_
  refine lv_iconst (v := (4 : Int32)) hx hb dM_isBroken_6 (by decide) ?_
  refine lv_icmp_ge (tgt := 28) hx hb dM_isBroken_7 (by decide) (fun c_2 => ?_) (fun c_2 => ?_)
  · replace hf := it_t hf c_2
    refine lv_iconst (v := (0 : Int32)) hx hb dM_isBroken_28 (by decide) ?_
    exact xw_iret (wf := (w_M a cI cZ)) hx hb hr hlocks rfl hK hP hD hS hf dM_isBroken_29
  · replace hf := it_f hf c_2
    refine lv_aload_n hx hb dM_isBroken_10 rfl (lv_at hl 0 rfl) ?_
    refine aM_get_live hx hb hts hown hK hP dM_isBroken_11 ?_
    refine lv_aload_n hx hb dM_isBroken_14 rfl (lv_at hl 0 rfl) ?_
    refine aM_get_to hx hb hts hown hK hP dM_isBroken_15 ?_
    refine lv_iload_n hx hb dM_isBroken_18 rfl (lv_at hl 1 rfl) ?_
    obtain ⟨g_3, hf⟩ := gd_f hf
    refine aM_ld_to (σ := σ) (f := (m_to σ)) rfl hx hb hK hP g_3 dM_isBroken_19 ?_
    obtain ⟨g_4, hf⟩ := gd_f hf
    refine aM_ld_live (σ := σ) (f := (m_live σ)) rfl hx hb hK hP g_4 dM_isBroken_20 ?_
    refine lv_if_ne (tgt := 28) hx hb dM_isBroken_21 (by decide) (fun c_5 => ?_) (fun c_5 => ?_)
    · replace hf := it_f hf c_5
      refine lv_iconst (v := (0 : Int32)) hx hb dM_isBroken_28 (by decide) ?_
      exact xw_iret (wf := (w_M a cI cZ)) hx hb hr hlocks rfl hK hP hD hS hf dM_isBroken_29
    · replace hf := it_t hf c_5
      refine lv_iconst (v := (1 : Int32)) hx hb dM_isBroken_24 (by decide) ?_
      refine lv_goto (tgt := 29) hx hb dM_isBroken_25 (by decide) ?_
      exact xw_iret (wf := (w_M a cI cZ)) hx hb hr hlocks rfl hK hP hD hS hf dM_isBroken_29
def gM_brokenAt_4 (K : Nat) : Nat → Int32 → Int32 → Int32 → MSt → Option (Int32 × MSt)
  | 0, _, _, _, _ => none
  | n + 1, x1, x2, x3, τ => (if (m_links τ) ≤ x3 then some ((-1 : Int32), τ) else (if x1 < 0 then some ((-1 : Int32), τ) else ((fM_isBroken K x3 τ).bind fun q_3 => (if q_3.1 = 0 then (gM_brokenAt_4 K n x1 x2 (x3 + 1) q_3.2) else (if x2 = x1 then some (x3, q_3.2) else (gM_brokenAt_4 K n x1 (x2 + 1) (x3 + 1) q_3.2))))))
def fM_brokenAt (K : Nat) (p1 : Int32) (σ : MSt) : Option (Int32 × MSt) := (gM_brokenAt_4 K K p1 (0 : Int32) (0 : Int32) σ)
set_option maxHeartbeats 4000000 in
set_option maxRecDepth 100000 in
theorem kM_brokenAt (l : Launch) (dC : Nat → ClassId) (dI : Nat → Nat → Nat) (a : Nat → Nat) (cI cZ : ClassId) (tb : Nat) (K : Nat) (p1 : Int32) (σ σ' : MSt) (r : Int32) (hf : fM_brokenAt K p1 σ = some (r, σ')) : xw_Ct l yM_brokenAt wdM_brokenAt ({ frames := 1, cells := 0, slots := 0, locals := 21 } : Room) (dC, dI) vwCl [(cI, .int), (cZ, .boolean)] (zz tb) ((w_M a cI cZ) σ) ((w_M a cI cZ) σ') [.ref (a 0), .int p1] r := by
  refine xw_ofW (cc := cM_brokenAt) (maxL := 4) (ret := (some .int)) (lv := [(0, .ref (a 0)), (1, .int p1)]) (by decide) rfl (Nat.le_of_ble_eq_true rfl) rfl ?_
  intro p e s m below meth c A hAt hP hD hS ls hl
  obtain ⟨hx, hb, hr, hml, hown, hts, hlocks, hK, hZ, hA⟩ := hAt
  replace hts : ∀ w ∈ lw_g, w.before _ s = true := fun w h => hts w (List.mem_cons_of_mem _ h)
  have L_4 : ∀ (n : Nat) (x1 x2 x3 : Int32) (τ : MSt), gM_brokenAt_4 K n x1 x2 x3 τ = some (r, σ') → ∀ (H : Heap) (locs : List Loc), va_P (dC, dI) vwCl ((w_M a cI cZ) τ) H → va_D A ((w_M a cI cZ) τ) → va_S A s.heap H locs → ∀ (ls : Array Slot), lv_has ls 4 [(0, .ref (a 0)), (1, .int x1), (2, .int x2), (3, .int x3)] → W p l e ({ frames := 1, cells := 0, slots := 0, locals := 21 } : Room) s m ([.ref (a 0), .int p1] : List Value).toArray below meth c H locs 0 0 (MQ below (va_Qi (fun (r2 : Int32) (_ : Unit) => r2 = r) (fun _ t => xw_B (dC, dI) vwCl [(cI, .int), (cZ, .boolean)] A ((w_M a cI cZ) σ') t) A) ([.ref (a 0), .int p1] : List Value).toArray s 0 0 A) (F0 m 4 ls []) := by
    intro n
    induction n with
    | zero =>
      intro x1 x2 x3 τ hf
      rw [gM_brokenAt_4] at hf
      cases hf
    | succ n ih =>
      intro x1 x2 x3 τ hf H locs hP hD hS ls hl
      rw [gM_brokenAt_4] at hf
      refine lv_iload_n hx hb dM_brokenAt_4 rfl (lv_at hl 3 rfl) ?_
      refine lv_aload_n hx hb dM_brokenAt_5 rfl (lv_at hl 0 rfl) ?_
      refine aM_get_links (σ := τ) (v := (m_links τ)) rfl hx hb hts hown hK hP dM_brokenAt_6 ?_
      refine lv_icmp_ge (tgt := 40) hx hb dM_brokenAt_9 (by decide) (fun c_1 => ?_) (fun c_1 => ?_)
      · replace hf := it_t hf c_1
        refine lv_iconst (v := (-1 : Int32)) hx hb dM_brokenAt_40 (by decide) ?_
        exact xw_iret (wf := (w_M a cI cZ)) hx hb hr hlocks rfl hK hP hD hS hf dM_brokenAt_41
      · replace hf := it_f hf c_1
        refine lv_iload_n hx hb dM_brokenAt_12 rfl (lv_at hl 1 rfl) ?_
        refine lv_if_lt (tgt := 40) hx hb dM_brokenAt_13 (by decide) (fun c_2 => ?_) (fun c_2 => ?_)
        · replace hf := it_t hf c_2
          refine lv_iconst (v := (-1 : Int32)) hx hb dM_brokenAt_40 (by decide) ?_
          exact xw_iret (wf := (w_M a cI cZ)) hx hb hr hlocks rfl hK hP hD hS hf dM_brokenAt_41
        · replace hf := it_f hf c_2
          refine lv_aload_n hx hb dM_brokenAt_16 rfl (lv_at hl 0 rfl) ?_
          refine lv_iload_n hx hb dM_brokenAt_17 rfl (lv_at hl 3 rfl) ?_
          obtain ⟨q_3, hq_3, hf⟩ := bd_s hf
          refine xw_callV (kM_isBroken l dC dI a cI cZ tb K x3 τ q_3.2 q_3.1 hq_3) ⟨hx, hb, hml, hown, hts⟩ (cwV 1 hts (gw_V mt_309 mt_311 mt_23 mt_26 mt_312) rfl rfl rfl hdM_isBroken ⟨Nat.le_of_ble_eq_true rfl, Nat.le_of_ble_eq_true rfl⟩) hK hP hD hS hA hZ (q0 := 0) (ci := 1) rfl rfl rfl hl.1 rfl (Nat.le_of_ble_eq_true rfl) dM_brokenAt_18 ⟨Nat.zero_le _, Nat.zero_le _⟩ (fun H locs hP hD hS => ?_)
          refine lv_if_eq (tgt := 34) hx hb dM_brokenAt_21 (by decide) (fun c_4 => ?_) (fun c_4 => ?_)
          · replace hf := it_t hf c_4
            refine lv_iinc (v := (x3 + 1)) (lv' := [(3, .int (x3 + 1)), (0, .ref (a 0)), (1, .int x1), (2, .int x2)]) hx hb dM_brokenAt_34 hl (k := 3) rfl (congrArg (HAdd.hAdd _) (by decide : Int32.ofInt (1) = (1 : Int32))) (by decide) rfl (fun ls hl => ?_)
            refine lv_goto (tgt := 4) hx hb dM_brokenAt_37 (by decide) ?_
            exact ih x1 x2 (x3 + 1) q_3.2 hf _ _ hP hD hS _ (lv_sub hl [1, 2, 3, 0] rfl)
          · replace hf := it_f hf c_4
            refine lv_iload_n hx hb dM_brokenAt_24 rfl (lv_at hl 2 rfl) ?_
            refine lv_iload_n hx hb dM_brokenAt_25 rfl (lv_at hl 1 rfl) ?_
            refine lv_icmp_ne (tgt := 31) hx hb dM_brokenAt_26 (by decide) (fun c_5 => ?_) (fun c_5 => ?_)
            · replace hf := it_f hf c_5
              refine lv_iinc (v := (x2 + 1)) (lv' := [(2, .int (x2 + 1)), (0, .ref (a 0)), (1, .int x1), (3, .int x3)]) hx hb dM_brokenAt_31 hl (k := 2) rfl (congrArg (HAdd.hAdd _) (by decide : Int32.ofInt (1) = (1 : Int32))) (by decide) rfl (fun ls hl => ?_)
              refine lv_iinc (v := (x3 + 1)) (lv' := [(3, .int (x3 + 1)), (2, .int (x2 + 1)), (0, .ref (a 0)), (1, .int x1)]) hx hb dM_brokenAt_34 hl (k := 3) rfl (congrArg (HAdd.hAdd _) (by decide : Int32.ofInt (1) = (1 : Int32))) (by decide) rfl (fun ls hl => ?_)
              refine lv_goto (tgt := 4) hx hb dM_brokenAt_37 (by decide) ?_
              exact ih x1 (x2 + 1) (x3 + 1) q_3.2 hf _ _ hP hD hS _ (lv_sub hl [2, 3, 1, 0] rfl)
            · replace hf := it_t hf c_5
              refine lv_iload_n hx hb dM_brokenAt_29 rfl (lv_at hl 3 rfl) ?_
              exact xw_iret (wf := (w_M a cI cZ)) hx hb hr hlocks rfl hK hP hD hS hf dM_brokenAt_30
  unfold fM_brokenAt at hf
  refine lv_iconst (v := (0 : Int32)) hx hb dM_brokenAt_0 (by decide) ?_
  refine lv_istore_n (lv' := [(2, .int (0 : Int32)), (0, .ref (a 0)), (1, .int p1)]) hx hb dM_brokenAt_1 rfl hl (by decide) rfl (fun ls hl => ?_)
  refine lv_iconst (v := (0 : Int32)) hx hb dM_brokenAt_2 (by decide) ?_
  refine lv_istore_n (lv' := [(3, .int (0 : Int32)), (2, .int (0 : Int32)), (0, .ref (a 0)), (1, .int p1)]) hx hb dM_brokenAt_3 rfl hl (by decide) rfl (fun ls hl => ?_)
  exact L_4 K p1 (0 : Int32) (0 : Int32) σ hf _ _ hP hD hS _ (lv_sub hl [2, 3, 1, 0] rfl)
def fM_broken (K : Nat) (p1 p2 : Int32) (σ : MSt) : Option (Int32 × MSt) := ((fM_brokenAt K p1 (m_pthrown σ (0 : Int32))).bind fun q_1 => (if q_1.1 = (-1 : Int32) then some ((-1 : Int32), q_1.2) else (if p2 = 0 then (if q_1.1 < 0 ∨ 200 ≤ q_1.1.toNatClampNeg then none else some (((m_from q_1.2) q_1.1.toNatClampNeg), q_1.2)) else (if p2 = (1 : Int32) then (if q_1.1 < 0 ∨ 200 ≤ q_1.1.toNatClampNeg then none else some (((m_field q_1.2) q_1.1.toNatClampNeg), q_1.2)) else (if p2 = (2 : Int32) then (if q_1.1 < 0 ∨ 200 ≤ q_1.1.toNatClampNeg then none else some (((m_to q_1.2) q_1.1.toNatClampNeg), q_1.2)) else some ((-1 : Int32), q_1.2))))))
set_option maxHeartbeats 4000000 in
set_option maxRecDepth 100000 in
theorem kM_broken (l : Launch) (dC : Nat → ClassId) (dI : Nat → Nat → Nat) (a : Nat → Nat) (cI cZ : ClassId) (tb : Nat) (K : Nat) (p1 p2 : Int32) (σ σ' : MSt) (r : Int32) (hf : fM_broken K p1 p2 σ = some (r, σ')) : xw_Ct l yM_broken wdM_broken ({ frames := 2, cells := 0, slots := 0, locals := 44 } : Room) (dC, dI) vwCl [(cI, .int), (cZ, .boolean)] (zz tb) ((w_M a cI cZ) σ) ((w_M a cI cZ) σ') [.ref (a 0), .int p1, .int p2] r := by
  refine xw_ofW (cc := cM_broken) (maxL := 4) (ret := (some .int)) (lv := [(0, .ref (a 0)), (1, .int p1), (2, .int p2)]) (by decide) rfl (Nat.le_of_ble_eq_true rfl) rfl ?_
  intro p e s m below meth c A hAt hP hD hS ls hl
  obtain ⟨hx, hb, hr, hml, hown, hts, hlocks, hK, hZ, hA⟩ := hAt
  replace hts : ∀ w ∈ lw_g, w.before _ s = true := fun w h => hts w (List.mem_cons_of_mem _ h)
  unfold fM_broken at hf
  refine lv_aload_n hx hb dM_broken_0 rfl (lv_at hl 0 rfl) ?_
  refine lv_iconst (v := (0 : Int32)) hx hb dM_broken_1 (by decide) ?_
  refine aM_put_thrown (σ := σ) (v := (0 : Int32)) (τ := (m_pthrown σ (0 : Int32))) rfl hx hb hts hown hK hP hD hS dM_broken_2 (fun H locs hP hD hS => ?_)
  refine lv_aload_n hx hb dM_broken_5 rfl (lv_at hl 0 rfl) ?_
  refine lv_iload_n hx hb dM_broken_6 rfl (lv_at hl 1 rfl) ?_
  obtain ⟨q_1, hq_1, hf⟩ := bd_s hf
  refine xw_callV (kM_brokenAt l dC dI a cI cZ tb K p1 (m_pthrown σ (0 : Int32)) q_1.2 q_1.1 hq_1) ⟨hx, hb, hml, hown, hts⟩ (cwV 1 hts (gw_V mt_305 mt_307 mt_22 mt_26 mt_308) rfl rfl rfl hdM_brokenAt ⟨Nat.le_of_ble_eq_true rfl, Nat.le_of_ble_eq_true rfl⟩) hK hP hD hS hA hZ (q0 := 0) (ci := 1) rfl rfl rfl hl.1 rfl (Nat.le_of_ble_eq_true rfl) dM_broken_7 ⟨Nat.zero_le _, Nat.zero_le _⟩ (fun H locs hP hD hS => ?_)
  refine lv_istore_n (lv' := [(3, .int q_1.1), (0, .ref (a 0)), (1, .int p1), (2, .int p2)]) hx hb dM_broken_10 rfl hl (by decide) rfl (fun ls hl => ?_)
  refine lv_iload_n hx hb dM_broken_11 rfl (lv_at hl 0 rfl) ?_
  refine lv_iconst (v := (-1 : Int32)) hx hb dM_broken_12 (by decide) ?_
  refine lv_icmp_ne (tgt := 20) hx hb dM_broken_13 (by decide) (fun c_2 => ?_) (fun c_2 => ?_)
  · replace hf := it_f hf c_2
    refine lv_iload_n hx hb dM_broken_20 rfl (lv_at hl 3 rfl) ?_
    refine lv_if_ne (tgt := 33) hx hb dM_broken_21 (by decide) (fun c_3 => ?_) (fun c_3 => ?_)
    · replace hf := it_f hf c_3
      refine lv_iload_n hx hb dM_broken_33 rfl (lv_at hl 3 rfl) ?_
      refine lv_iconst (v := (1 : Int32)) hx hb dM_broken_34 (by decide) ?_
      refine lv_icmp_ne (tgt := 47) hx hb dM_broken_35 (by decide) (fun c_4 => ?_) (fun c_4 => ?_)
      · replace hf := it_f hf c_4
        refine lv_iload_n hx hb dM_broken_47 rfl (lv_at hl 3 rfl) ?_
        refine lv_iconst (v := (2 : Int32)) hx hb dM_broken_48 (by decide) ?_
        refine lv_icmp_ne (tgt := 61) hx hb dM_broken_49 (by decide) (fun c_5 => ?_) (fun c_5 => ?_)
        · replace hf := it_f hf c_5
          refine lv_iconst (v := (-1 : Int32)) hx hb dM_broken_61 (by decide) ?_
          exact xw_iret (wf := (w_M a cI cZ)) hx hb hr hlocks rfl hK hP hD hS hf dM_broken_62
        · replace hf := it_t hf c_5
          refine lv_aload_n hx hb dM_broken_52 rfl (lv_at hl 1 rfl) ?_
          refine aM_get_to hx hb hts hown hK hP dM_broken_53 ?_
          refine lv_iload_n hx hb dM_broken_56 rfl (lv_at hl 0 rfl) ?_
          obtain ⟨g_6, hf⟩ := gd_f hf
          refine aM_ld_to (σ := q_1.2) (f := (m_to q_1.2)) rfl hx hb hK hP g_6 dM_broken_57 ?_
          refine lv_goto (tgt := 62) hx hb dM_broken_58 (by decide) ?_
          exact xw_iret (wf := (w_M a cI cZ)) hx hb hr hlocks rfl hK hP hD hS hf dM_broken_62
      · replace hf := it_t hf c_4
        refine lv_aload_n hx hb dM_broken_38 rfl (lv_at hl 1 rfl) ?_
        refine aM_get_field hx hb hts hown hK hP dM_broken_39 ?_
        refine lv_iload_n hx hb dM_broken_42 rfl (lv_at hl 0 rfl) ?_
        obtain ⟨g_7, hf⟩ := gd_f hf
        refine aM_ld_field (σ := q_1.2) (f := (m_field q_1.2)) rfl hx hb hK hP g_7 dM_broken_43 ?_
        refine lv_goto (tgt := 62) hx hb dM_broken_44 (by decide) ?_
        exact xw_iret (wf := (w_M a cI cZ)) hx hb hr hlocks rfl hK hP hD hS hf dM_broken_62
    · replace hf := it_t hf c_3
      refine lv_aload_n hx hb dM_broken_24 rfl (lv_at hl 1 rfl) ?_
      refine aM_get_from hx hb hts hown hK hP dM_broken_25 ?_
      refine lv_iload_n hx hb dM_broken_28 rfl (lv_at hl 0 rfl) ?_
      obtain ⟨g_8, hf⟩ := gd_f hf
      refine aM_ld_from (σ := q_1.2) (f := (m_from q_1.2)) rfl hx hb hK hP g_8 dM_broken_29 ?_
      refine lv_goto (tgt := 62) hx hb dM_broken_30 (by decide) ?_
      exact xw_iret (wf := (w_M a cI cZ)) hx hb hr hlocks rfl hK hP hD hS hf dM_broken_62
  · replace hf := it_t hf c_2
    refine lv_iconst (v := (-1 : Int32)) hx hb dM_broken_16 (by decide) ?_
    refine lv_goto (tgt := 62) hx hb dM_broken_17 (by decide) ?_
    exact xw_iret (wf := (w_M a cI cZ)) hx hb hr hlocks rfl hK hP hD hS hf dM_broken_62
def fM_repair (K : Nat) (p1 : Int32) (σ : MSt) : Option (Int32 × MSt) := ((fM_brokenAt K p1 (m_pmoment (m_pthrown σ (0 : Int32)) ((m_moment σ) + (1 : Int32)))).bind fun q_1 => (if q_1.1 = (-1 : Int32) then some ((-1 : Int32), q_1.2) else (if q_1.1 < 0 ∨ 200 ≤ q_1.1.toNatClampNeg then none else ((fM_changed K ((m_from q_1.2) q_1.1.toNatClampNeg) q_1.2).bind fun q_4 => (if q_1.1 < 0 ∨ 200 ≤ q_1.1.toNatClampNeg then none else (if ((m_to q_4.2) q_1.1.toNatClampNeg) < 0 ∨ 61 ≤ ((m_to q_4.2) q_1.1.toNatClampNeg).toNatClampNeg then none else ((fM_isLive K ((m_hadHost q_4.2) ((m_to q_4.2) q_1.1.toNatClampNeg).toNatClampNeg) q_4.2).bind fun q_7 => (if q_7.1 = 0 then ((fM_drop K q_1.1 q_7.2).bind fun q_9 => some ((0 : Int32), q_9.2)) else (if q_1.1 < 0 ∨ 200 ≤ q_1.1.toNatClampNeg then none else (if ((m_hadHost q_4.2) ((m_to q_4.2) q_1.1.toNatClampNeg).toNatClampNeg) = ((m_from q_7.2) q_1.1.toNatClampNeg) then ((fM_drop K q_1.1 q_7.2).bind fun q_12 => some ((0 : Int32), q_12.2)) else (if q_1.1 < 0 ∨ 200 ≤ q_1.1.toNatClampNeg then none else (if q_1.1 < 0 ∨ 200 ≤ q_1.1.toNatClampNeg then none else ((fM_find K ((m_from q_7.2) q_1.1.toNatClampNeg) ((m_field q_7.2) q_1.1.toNatClampNeg) ((m_hadHost q_4.2) ((m_to q_4.2) q_1.1.toNatClampNeg).toNatClampNeg) q_7.2).bind fun q_15 => (if q_15.1 = (-1 : Int32) then (if q_1.1 < 0 ∨ 200 ≤ q_1.1.toNatClampNeg then none else some ((1 : Int32), (m_pto q_15.2 (upd (m_to q_15.2) q_1.1.toNatClampNeg ((m_hadHost q_4.2) ((m_to q_4.2) q_1.1.toNatClampNeg).toNatClampNeg))))) else ((fM_drop K q_1.1 q_15.2).bind fun q_17 => some ((0 : Int32), q_17.2))))))))))))))))
set_option maxHeartbeats 4000000 in
set_option maxRecDepth 100000 in
theorem kM_repair (l : Launch) (dC : Nat → ClassId) (dI : Nat → Nat → Nat) (a : Nat → Nat) (cI cZ : ClassId) (tb : Nat) (K : Nat) (p1 : Int32) (σ σ' : MSt) (r : Int32) (hf : fM_repair K p1 σ = some (r, σ')) : xw_Ct l yM_repair wdM_repair ({ frames := 2, cells := 0, slots := 0, locals := 44 } : Room) (dC, dI) vwCl [(cI, .int), (cZ, .boolean)] (zz tb) ((w_M a cI cZ) σ) ((w_M a cI cZ) σ') [.ref (a 0), .int p1] r := by
  refine xw_ofW (cc := cM_repair) (maxL := 4) (ret := (some .int)) (lv := [(0, .ref (a 0)), (1, .int p1)]) (by decide) rfl (Nat.le_of_ble_eq_true rfl) rfl ?_
  intro p e s m below meth c A hAt hP hD hS ls hl
  obtain ⟨hx, hb, hr, hml, hown, hts, hlocks, hK, hZ, hA⟩ := hAt
  replace hts : ∀ w ∈ lw_g, w.before _ s = true := fun w h => hts w (List.mem_cons_of_mem _ h)
  unfold fM_repair at hf
  refine lv_aload_n hx hb dM_repair_0 rfl (lv_at hl 0 rfl) ?_
  refine lv_iconst (v := (0 : Int32)) hx hb dM_repair_1 (by decide) ?_
  refine aM_put_thrown (σ := σ) (v := (0 : Int32)) (τ := (m_pthrown σ (0 : Int32))) rfl hx hb hts hown hK hP hD hS dM_repair_2 (fun H locs hP hD hS => ?_)
  refine lv_aload_n hx hb dM_repair_5 rfl (lv_at hl 0 rfl) ?_
  refine lv_dup hx hb dM_repair_6 rfl ?_
  refine aM_get_moment (σ := (m_pthrown σ (0 : Int32))) (v := (m_moment σ)) rfl hx hb hts hown hK hP dM_repair_7 ?_
  refine lv_iconst (v := (1 : Int32)) hx hb dM_repair_10 (by decide) ?_
  refine lv_iadd hx hb dM_repair_11 ?_
  refine aM_put_moment (σ := (m_pthrown σ (0 : Int32))) (v := ((m_moment σ) + (1 : Int32))) (τ := (m_pmoment (m_pthrown σ (0 : Int32)) ((m_moment σ) + (1 : Int32)))) rfl hx hb hts hown hK hP hD hS dM_repair_12 (fun H locs hP hD hS => ?_)
  refine lv_aload_n hx hb dM_repair_15 rfl (lv_at hl 0 rfl) ?_
  refine lv_iload_n hx hb dM_repair_16 rfl (lv_at hl 1 rfl) ?_
  obtain ⟨q_1, hq_1, hf⟩ := bd_s hf
  refine xw_callV (kM_brokenAt l dC dI a cI cZ tb K p1 (m_pmoment (m_pthrown σ (0 : Int32)) ((m_moment σ) + (1 : Int32))) q_1.2 q_1.1 hq_1) ⟨hx, hb, hml, hown, hts⟩ (cwV 1 hts (gw_V mt_305 mt_307 mt_22 mt_26 mt_308) rfl rfl rfl hdM_brokenAt ⟨Nat.le_of_ble_eq_true rfl, Nat.le_of_ble_eq_true rfl⟩) hK hP hD hS hA hZ (q0 := 0) (ci := 1) rfl rfl rfl hl.1 rfl (Nat.le_of_ble_eq_true rfl) dM_repair_17 ⟨Nat.zero_le _, Nat.zero_le _⟩ (fun H locs hP hD hS => ?_)
  refine lv_istore_n (lv' := [(2, .int q_1.1), (0, .ref (a 0)), (1, .int p1)]) hx hb dM_repair_20 rfl hl (by decide) rfl (fun ls hl => ?_)
  refine lv_iload_n hx hb dM_repair_21 rfl (lv_at hl 0 rfl) ?_
  refine lv_iconst (v := (-1 : Int32)) hx hb dM_repair_22 (by decide) ?_
  refine lv_icmp_ne (tgt := 28) hx hb dM_repair_23 (by decide) (fun c_2 => ?_) (fun c_2 => ?_)
  · replace hf := it_f hf c_2
    refine lv_aload_n hx hb dM_repair_28 rfl (lv_at hl 1 rfl) ?_
    refine lv_aload_n hx hb dM_repair_29 rfl (lv_at hl 1 rfl) ?_
    refine aM_get_from hx hb hts hown hK hP dM_repair_30 ?_
    refine lv_iload_n hx hb dM_repair_33 rfl (lv_at hl 0 rfl) ?_
    obtain ⟨g_3, hf⟩ := gd_f hf
    refine aM_ld_from (σ := q_1.2) (f := (m_from q_1.2)) rfl hx hb hK hP g_3 dM_repair_34 ?_
    obtain ⟨q_4, hq_4, hf⟩ := bd_s hf
    refine xw_callVv (kM_changed l dC dI a cI cZ tb K ((m_from q_1.2) q_1.1.toNatClampNeg) q_1.2 q_4.2 q_4.1 hq_4) ⟨hx, hb, hml, hown, hts⟩ (cwV 1 hts (gw_V mt_289 mt_291 mt_20 mt_26 mt_292) rfl rfl rfl hdM_changed ⟨Nat.le_of_ble_eq_true rfl, Nat.le_of_ble_eq_true rfl⟩) hK hP hD hS hA hZ (q0 := 0) (ci := 1) rfl rfl rfl hl.1 rfl (Nat.le_of_ble_eq_true rfl) dM_repair_35 ⟨Nat.zero_le _, Nat.zero_le _⟩ (fun H locs hP hD hS => ?_)
    refine lv_aload_n hx hb dM_repair_38 rfl (lv_at hl 1 rfl) ?_
    refine aM_get_hadHost hx hb hts hown hK hP dM_repair_39 ?_
    refine lv_aload_n hx hb dM_repair_42 rfl (lv_at hl 1 rfl) ?_
    refine aM_get_to hx hb hts hown hK hP dM_repair_43 ?_
    refine lv_iload_n hx hb dM_repair_46 rfl (lv_at hl 0 rfl) ?_
    obtain ⟨g_5, hf⟩ := gd_f hf
    refine aM_ld_to (σ := q_4.2) (f := (m_to q_4.2)) rfl hx hb hK hP g_5 dM_repair_47 ?_
    obtain ⟨g_6, hf⟩ := gd_f hf
    refine aM_ld_hadHost (σ := q_4.2) (f := (m_hadHost q_4.2)) rfl hx hb hK hP g_6 dM_repair_48 ?_
    refine lv_istore_n (lv' := [(3, .int ((m_hadHost q_4.2) ((m_to q_4.2) q_1.1.toNatClampNeg).toNatClampNeg)), (2, .int q_1.1), (0, .ref (a 0)), (1, .int p1)]) hx hb dM_repair_49 rfl hl (by decide) rfl (fun ls hl => ?_)
    refine lv_aload_n hx hb dM_repair_50 rfl (lv_at hl 2 rfl) ?_
    refine lv_iload_n hx hb dM_repair_51 rfl (lv_at hl 0 rfl) ?_
    obtain ⟨q_7, hq_7, hf⟩ := bd_s hf
    refine xw_callV (kM_isLive l dC dI a cI cZ tb K ((m_hadHost q_4.2) ((m_to q_4.2) q_1.1.toNatClampNeg).toNatClampNeg) q_4.2 q_7.2 q_7.1 hq_7) ⟨hx, hb, hml, hown, hts⟩ (cwV 1 hts (gw_V mt_263 mt_265 mt_15 mt_26 mt_266) rfl rfl rfl hdM_isLive ⟨Nat.le_of_ble_eq_true rfl, Nat.le_of_ble_eq_true rfl⟩) hK hP hD hS hA hZ (q0 := 0) (ci := 1) rfl rfl rfl hl.1 rfl (Nat.le_of_ble_eq_true rfl) dM_repair_52 ⟨Nat.zero_le _, Nat.zero_le _⟩ (fun H locs hP hD hS => ?_)
    refine lv_if_eq (tgt := 98) hx hb dM_repair_55 (by decide) (fun c_8 => ?_) (fun c_8 => ?_)
    · replace hf := it_t hf c_8
      refine lv_aload_n hx hb dM_repair_98 rfl (lv_at hl 2 rfl) ?_
      refine lv_iload_n hx hb dM_repair_99 rfl (lv_at hl 1 rfl) ?_
      obtain ⟨q_9, hq_9, hf⟩ := bd_s hf
      refine xw_callVv (kM_drop l dC dI a cI cZ tb K q_1.1 q_7.2 q_9.2 q_9.1 hq_9) ⟨hx, hb, hml, hown, hts⟩ (cwV 1 hts (gw_V mt_297 mt_299 mt_21 mt_26 mt_300) rfl rfl rfl hdM_drop ⟨Nat.le_of_ble_eq_true rfl, Nat.le_of_ble_eq_true rfl⟩) hK hP hD hS hA hZ (q0 := 0) (ci := 1) rfl rfl rfl hl.1 rfl (Nat.le_of_ble_eq_true rfl) dM_repair_100 ⟨Nat.zero_le _, Nat.zero_le _⟩ (fun H locs hP hD hS => ?_)
      refine lv_iconst (v := (0 : Int32)) hx hb dM_repair_103 (by decide) ?_
      exact xw_iret (wf := (w_M a cI cZ)) hx hb hr hlocks rfl hK hP hD hS hf dM_repair_104
    · replace hf := it_f hf c_8
      refine lv_iload_n hx hb dM_repair_58 rfl (lv_at hl 0 rfl) ?_
      refine lv_aload_n hx hb dM_repair_59 rfl (lv_at hl 2 rfl) ?_
      refine aM_get_from hx hb hts hown hK hP dM_repair_60 ?_
      refine lv_iload_n hx hb dM_repair_63 rfl (lv_at hl 1 rfl) ?_
      obtain ⟨g_10, hf⟩ := gd_f hf
      refine aM_ld_from (σ := q_7.2) (f := (m_from q_7.2)) rfl hx hb hK hP g_10 dM_repair_64 ?_
      refine lv_icmp_eq (tgt := 98) hx hb dM_repair_65 (by decide) (fun c_11 => ?_) (fun c_11 => ?_)
      · replace hf := it_t hf c_11
        refine lv_aload_n hx hb dM_repair_98 rfl (lv_at hl 2 rfl) ?_
        refine lv_iload_n hx hb dM_repair_99 rfl (lv_at hl 1 rfl) ?_
        obtain ⟨q_12, hq_12, hf⟩ := bd_s hf
        refine xw_callVv (kM_drop l dC dI a cI cZ tb K q_1.1 q_7.2 q_12.2 q_12.1 hq_12) ⟨hx, hb, hml, hown, hts⟩ (cwV 1 hts (gw_V mt_297 mt_299 mt_21 mt_26 mt_300) rfl rfl rfl hdM_drop ⟨Nat.le_of_ble_eq_true rfl, Nat.le_of_ble_eq_true rfl⟩) hK hP hD hS hA hZ (q0 := 0) (ci := 1) rfl rfl rfl hl.1 rfl (Nat.le_of_ble_eq_true rfl) dM_repair_100 ⟨Nat.zero_le _, Nat.zero_le _⟩ (fun H locs hP hD hS => ?_)
        refine lv_iconst (v := (0 : Int32)) hx hb dM_repair_103 (by decide) ?_
        exact xw_iret (wf := (w_M a cI cZ)) hx hb hr hlocks rfl hK hP hD hS hf dM_repair_104
      · replace hf := it_f hf c_11
        refine lv_aload_n hx hb dM_repair_68 rfl (lv_at hl 2 rfl) ?_
        refine lv_aload_n hx hb dM_repair_69 rfl (lv_at hl 2 rfl) ?_
        refine aM_get_from hx hb hts hown hK hP dM_repair_70 ?_
        refine lv_iload_n hx hb dM_repair_73 rfl (lv_at hl 1 rfl) ?_
        obtain ⟨g_13, hf⟩ := gd_f hf
        refine aM_ld_from (σ := q_7.2) (f := (m_from q_7.2)) rfl hx hb hK hP g_13 dM_repair_74 ?_
        refine lv_aload_n hx hb dM_repair_75 rfl (lv_at hl 2 rfl) ?_
        refine aM_get_field hx hb hts hown hK hP dM_repair_76 ?_
        refine lv_iload_n hx hb dM_repair_79 rfl (lv_at hl 1 rfl) ?_
        obtain ⟨g_14, hf⟩ := gd_f hf
        refine aM_ld_field (σ := q_7.2) (f := (m_field q_7.2)) rfl hx hb hK hP g_14 dM_repair_80 ?_
        refine lv_iload_n hx hb dM_repair_81 rfl (lv_at hl 0 rfl) ?_
        obtain ⟨q_15, hq_15, hf⟩ := bd_s hf
        refine xw_callV (kM_find l dC dI a cI cZ tb K ((m_from q_7.2) q_1.1.toNatClampNeg) ((m_field q_7.2) q_1.1.toNatClampNeg) ((m_hadHost q_4.2) ((m_to q_4.2) q_1.1.toNatClampNeg).toNatClampNeg) q_7.2 q_15.2 q_15.1 hq_15) ⟨hx, hb, hml, hown, hts⟩ (cwV 3 hts (gw_V mt_277 mt_279 mt_17 mt_26 mt_280) rfl rfl rfl hdM_find ⟨Nat.le_of_ble_eq_true rfl, Nat.le_of_ble_eq_true rfl⟩) hK hP hD hS hA hZ (q0 := 0) (ci := 1) rfl rfl rfl hl.1 rfl (Nat.le_of_ble_eq_true rfl) dM_repair_82 ⟨Nat.zero_le _, Nat.zero_le _⟩ (fun H locs hP hD hS => ?_)
        refine lv_iconst (v := (-1 : Int32)) hx hb dM_repair_85 (by decide) ?_
        refine lv_icmp_ne (tgt := 98) hx hb dM_repair_86 (by decide) (fun c_16 => ?_) (fun c_16 => ?_)
        · replace hf := it_f hf c_16
          refine lv_aload_n hx hb dM_repair_98 rfl (lv_at hl 2 rfl) ?_
          refine lv_iload_n hx hb dM_repair_99 rfl (lv_at hl 1 rfl) ?_
          obtain ⟨q_17, hq_17, hf⟩ := bd_s hf
          refine xw_callVv (kM_drop l dC dI a cI cZ tb K q_1.1 q_15.2 q_17.2 q_17.1 hq_17) ⟨hx, hb, hml, hown, hts⟩ (cwV 1 hts (gw_V mt_297 mt_299 mt_21 mt_26 mt_300) rfl rfl rfl hdM_drop ⟨Nat.le_of_ble_eq_true rfl, Nat.le_of_ble_eq_true rfl⟩) hK hP hD hS hA hZ (q0 := 0) (ci := 1) rfl rfl rfl hl.1 rfl (Nat.le_of_ble_eq_true rfl) dM_repair_100 ⟨Nat.zero_le _, Nat.zero_le _⟩ (fun H locs hP hD hS => ?_)
          refine lv_iconst (v := (0 : Int32)) hx hb dM_repair_103 (by decide) ?_
          exact xw_iret (wf := (w_M a cI cZ)) hx hb hr hlocks rfl hK hP hD hS hf dM_repair_104
        · replace hf := it_t hf c_16
          refine lv_aload_n hx hb dM_repair_89 rfl (lv_at hl 2 rfl) ?_
          refine aM_get_to hx hb hts hown hK hP dM_repair_90 ?_
          refine lv_iload_n hx hb dM_repair_93 rfl (lv_at hl 1 rfl) ?_
          refine lv_iload_n hx hb dM_repair_94 rfl (lv_at hl 0 rfl) ?_
          obtain ⟨g_18, hf⟩ := gd_f hf
          refine aM_st_to (σ := q_15.2) (f := (m_to q_15.2)) (x := ((m_hadHost q_4.2) ((m_to q_4.2) q_1.1.toNatClampNeg).toNatClampNeg)) (τ := (m_pto q_15.2 (upd (m_to q_15.2) q_1.1.toNatClampNeg ((m_hadHost q_4.2) ((m_to q_4.2) q_1.1.toNatClampNeg).toNatClampNeg)))) rfl rfl hx hb hK hP hD hS g_18 dM_repair_95 (fun H locs hP hD hS => ?_)
          refine lv_iconst (v := (1 : Int32)) hx hb dM_repair_96 (by decide) ?_
          exact xw_iret (wf := (w_M a cI cZ)) hx hb hr hlocks rfl hK hP hD hS hf dM_repair_97
  · replace hf := it_t hf c_2
    refine lv_iconst (v := (-1 : Int32)) hx hb dM_repair_26 (by decide) ?_
    exact xw_iret (wf := (w_M a cI cZ)) hx hb hr hlocks rfl hK hP hD hS hf dM_repair_27
def gM_chain_28 (K : Nat) : Nat → Int32 → Int32 → Int32 → Int32 → MSt → Option (Int32 × MSt)
  | 0, _, _, _, _, _ => none
  | n + 1, x1, x2, x3, x4, τ => (if x2 ≤ x4 then some (x3, τ) else (if x3 = 0 then some (x3, τ) else ((fM_hostOf K x3 τ).bind fun q_7 => (gM_chain_28 K n x1 x2 q_7.1 (x4 + 1) q_7.2))))
def fM_chain (K : Nat) (p1 p2 : Int32) (σ : MSt) : Option (Int32 × MSt) := ((fM_isLive K p1 (m_pthrown σ (0 : Int32))).bind fun q_1 => (if q_1.1 = 0 then some ((0 : Int32), q_1.2) else (if 0 ≤ p2 then ((fM_hostOf K p1 q_1.2).bind fun q_4 => (gM_chain_28 K K p1 p2 q_4.1 (0 : Int32) q_4.2)) else some ((0 : Int32), q_1.2))))
set_option maxHeartbeats 4000000 in
set_option maxRecDepth 100000 in
theorem kM_chain (l : Launch) (dC : Nat → ClassId) (dI : Nat → Nat → Nat) (a : Nat → Nat) (cI cZ : ClassId) (tb : Nat) (K : Nat) (p1 p2 : Int32) (σ σ' : MSt) (r : Int32) (hf : fM_chain K p1 p2 σ = some (r, σ')) : xw_Ct l yM_chain wdM_chain ({ frames := 1, cells := 0, slots := 0, locals := 22 } : Room) (dC, dI) vwCl [(cI, .int), (cZ, .boolean)] (zz tb) ((w_M a cI cZ) σ) ((w_M a cI cZ) σ') [.ref (a 0), .int p1, .int p2] r := by
  refine xw_ofW (cc := cM_chain) (maxL := 5) (ret := (some .int)) (lv := [(0, .ref (a 0)), (1, .int p1), (2, .int p2)]) (by decide) rfl (Nat.le_of_ble_eq_true rfl) rfl ?_
  intro p e s m below meth c A hAt hP hD hS ls hl
  obtain ⟨hx, hb, hr, hml, hown, hts, hlocks, hK, hZ, hA⟩ := hAt
  replace hts : ∀ w ∈ lw_g, w.before _ s = true := fun w h => hts w (List.mem_cons_of_mem _ h)
  have L_28 : ∀ (n : Nat) (x1 x2 x3 x4 : Int32) (τ : MSt), gM_chain_28 K n x1 x2 x3 x4 τ = some (r, σ') → ∀ (H : Heap) (locs : List Loc), va_P (dC, dI) vwCl ((w_M a cI cZ) τ) H → va_D A ((w_M a cI cZ) τ) → va_S A s.heap H locs → ∀ (ls : Array Slot), lv_has ls 5 [(0, .ref (a 0)), (1, .int x1), (2, .int x2), (3, .int x3), (4, .int x4)] → W p l e ({ frames := 1, cells := 0, slots := 0, locals := 22 } : Room) s m ([.ref (a 0), .int p1, .int p2] : List Value).toArray below meth c H locs 0 0 (MQ below (va_Qi (fun (r2 : Int32) (_ : Unit) => r2 = r) (fun _ t => xw_B (dC, dI) vwCl [(cI, .int), (cZ, .boolean)] A ((w_M a cI cZ) σ') t) A) ([.ref (a 0), .int p1, .int p2] : List Value).toArray s 0 0 A) (F0 m 28 ls []) := by
    intro n
    induction n with
    | zero =>
      intro x1 x2 x3 x4 τ hf
      rw [gM_chain_28] at hf
      cases hf
    | succ n ih =>
      intro x1 x2 x3 x4 τ hf H locs hP hD hS ls hl
      rw [gM_chain_28] at hf
      refine lv_iload hx hb dM_chain_28 (lv_at hl 4 rfl) ?_
      refine lv_iload_n hx hb dM_chain_30 rfl (lv_at hl 2 rfl) ?_
      refine lv_icmp_ge (tgt := 50) hx hb dM_chain_31 (by decide) (fun c_5 => ?_) (fun c_5 => ?_)
      · replace hf := it_t hf c_5
        refine lv_iload_n hx hb dM_chain_50 rfl (lv_at hl 3 rfl) ?_
        exact xw_iret (wf := (w_M a cI cZ)) hx hb hr hlocks rfl hK hP hD hS hf dM_chain_51
      · replace hf := it_f hf c_5
        refine lv_iload_n hx hb dM_chain_34 rfl (lv_at hl 3 rfl) ?_
        refine lv_if_eq (tgt := 50) hx hb dM_chain_35 (by decide) (fun c_6 => ?_) (fun c_6 => ?_)
        · replace hf := it_t hf c_6
          refine lv_iload_n hx hb dM_chain_50 rfl (lv_at hl 3 rfl) ?_
          exact xw_iret (wf := (w_M a cI cZ)) hx hb hr hlocks rfl hK hP hD hS hf dM_chain_51
        · replace hf := it_f hf c_6
          refine lv_aload_n hx hb dM_chain_38 rfl (lv_at hl 0 rfl) ?_
          refine lv_iload_n hx hb dM_chain_39 rfl (lv_at hl 3 rfl) ?_
          obtain ⟨q_7, hq_7, hf⟩ := bd_s hf
          refine xw_callV (kM_hostOf l dC dI a cI cZ tb K x3 τ q_7.2 q_7.1 hq_7) ⟨hx, hb, hml, hown, hts⟩ (cwV 1 hts (gw_V mt_285 mt_287 mt_19 mt_26 mt_288) rfl rfl rfl hdM_hostOf ⟨Nat.le_of_ble_eq_true rfl, Nat.le_of_ble_eq_true rfl⟩) hK hP hD hS hA hZ (q0 := 0) (ci := 1) rfl rfl rfl hl.1 rfl (Nat.le_of_ble_eq_true rfl) dM_chain_40 ⟨Nat.zero_le _, Nat.zero_le _⟩ (fun H locs hP hD hS => ?_)
          refine lv_istore_n (lv' := [(3, .int q_7.1), (0, .ref (a 0)), (1, .int x1), (2, .int x2), (4, .int x4)]) hx hb dM_chain_43 rfl hl (by decide) rfl (fun ls hl => ?_)
          refine lv_iinc (v := (x4 + 1)) (lv' := [(4, .int (x4 + 1)), (3, .int q_7.1), (0, .ref (a 0)), (1, .int x1), (2, .int x2)]) hx hb dM_chain_44 hl (k := 4) rfl (congrArg (HAdd.hAdd _) (by decide : Int32.ofInt (1) = (1 : Int32))) (by decide) rfl (fun ls hl => ?_)
          refine lv_goto (tgt := 28) hx hb dM_chain_47 (by decide) ?_
          exact ih x1 x2 q_7.1 (x4 + 1) q_7.2 hf _ _ hP hD hS _ (lv_sub hl [2, 3, 4, 1, 0] rfl)
  unfold fM_chain at hf
  refine lv_aload_n hx hb dM_chain_0 rfl (lv_at hl 0 rfl) ?_
  refine lv_iconst (v := (0 : Int32)) hx hb dM_chain_1 (by decide) ?_
  refine aM_put_thrown (σ := σ) (v := (0 : Int32)) (τ := (m_pthrown σ (0 : Int32))) rfl hx hb hts hown hK hP hD hS dM_chain_2 (fun H locs hP hD hS => ?_)
  refine lv_aload_n hx hb dM_chain_5 rfl (lv_at hl 0 rfl) ?_
  refine lv_iload_n hx hb dM_chain_6 rfl (lv_at hl 1 rfl) ?_
  obtain ⟨q_1, hq_1, hf⟩ := bd_s hf
  refine xw_callV (kM_isLive l dC dI a cI cZ tb K p1 (m_pthrown σ (0 : Int32)) q_1.2 q_1.1 hq_1) ⟨hx, hb, hml, hown, hts⟩ (cwV 1 hts (gw_V mt_263 mt_265 mt_15 mt_26 mt_266) rfl rfl rfl hdM_isLive ⟨Nat.le_of_ble_eq_true rfl, Nat.le_of_ble_eq_true rfl⟩) hK hP hD hS hA hZ (q0 := 0) (ci := 1) rfl rfl rfl hl.1 rfl (Nat.le_of_ble_eq_true rfl) dM_chain_7 ⟨Nat.zero_le _, Nat.zero_le _⟩ (fun H locs hP hD hS => ?_)
  refine lv_if_eq (tgt := 17) hx hb dM_chain_10 (by decide) (fun c_2 => ?_) (fun c_2 => ?_)
  · replace hf := it_t hf c_2
    refine lv_iconst (v := (0 : Int32)) hx hb dM_chain_17 (by decide) ?_
    exact xw_iret (wf := (w_M a cI cZ)) hx hb hr hlocks rfl hK hP hD hS hf dM_chain_18
  · replace hf := it_f hf c_2
    refine lv_iload_n hx hb dM_chain_13 rfl (lv_at hl 2 rfl) ?_
    refine lv_if_ge (tgt := 19) hx hb dM_chain_14 (by decide) (fun c_3 => ?_) (fun c_3 => ?_)
    · replace hf := it_t hf c_3
      refine lv_aload_n hx hb dM_chain_19 rfl (lv_at hl 0 rfl) ?_
      refine lv_iload_n hx hb dM_chain_20 rfl (lv_at hl 1 rfl) ?_
      obtain ⟨q_4, hq_4, hf⟩ := bd_s hf
      refine xw_callV (kM_hostOf l dC dI a cI cZ tb K p1 q_1.2 q_4.2 q_4.1 hq_4) ⟨hx, hb, hml, hown, hts⟩ (cwV 1 hts (gw_V mt_285 mt_287 mt_19 mt_26 mt_288) rfl rfl rfl hdM_hostOf ⟨Nat.le_of_ble_eq_true rfl, Nat.le_of_ble_eq_true rfl⟩) hK hP hD hS hA hZ (q0 := 0) (ci := 1) rfl rfl rfl hl.1 rfl (Nat.le_of_ble_eq_true rfl) dM_chain_21 ⟨Nat.zero_le _, Nat.zero_le _⟩ (fun H locs hP hD hS => ?_)
      refine lv_istore_n (lv' := [(3, .int q_4.1), (0, .ref (a 0)), (1, .int p1), (2, .int p2)]) hx hb dM_chain_24 rfl hl (by decide) rfl (fun ls hl => ?_)
      refine lv_iconst (v := (0 : Int32)) hx hb dM_chain_25 (by decide) ?_
      refine lv_istore (lv' := [(4, .int (0 : Int32)), (3, .int q_4.1), (0, .ref (a 0)), (1, .int p1), (2, .int p2)]) hx hb dM_chain_26 hl (by decide) rfl (fun ls hl => ?_)
      exact L_28 K p1 p2 q_4.1 (0 : Int32) q_4.2 hf _ _ hP hD hS _ (lv_sub hl [2, 3, 4, 1, 0] rfl)
    · replace hf := it_f hf c_3
      refine lv_iconst (v := (0 : Int32)) hx hb dM_chain_17 (by decide) ?_
      exact xw_iret (wf := (w_M a cI cZ)) hx hb hr hlocks rfl hK hP hD hS hf dM_chain_18
