def gL (xs : Nat → Int32) (L K : Nat) : Nat → Int32 → XSt → MSt → Option Int32
  | 0, _, _, _ => none
  | n + 1, x3, σ, τ => (if ((Int32.ofNat L) - (4 : Int32)) < x3 then some (1 : Int32) else (if x3 < 0 ∨ L ≤ x3.toNatClampNeg then none else (if ((xs x3.toNatClampNeg) &&& (15 : Int32)) = 0 then ((fX_record K σ).bind fun q_4 => ((fM_record K τ).bind fun q_5 => (if q_4.1 = q_5.1 then (gL xs L K n (x3 + 4) q_4.2 q_5.2) else some (0 : Int32)))) else (if ((xs x3.toNatClampNeg) &&& (15 : Int32)) = 1 then (if (x3 + (1 : Int32)) < 0 ∨ L ≤ (x3 + (1 : Int32)).toNatClampNeg then none else (if (x3 + (2 : Int32)) < 0 ∨ L ≤ (x3 + (2 : Int32)).toNatClampNeg then none else (if (x3 + (3 : Int32)) < 0 ∨ L ≤ (x3 + (3 : Int32)).toNatClampNeg then none else ((fX_link K (xs (x3 + (1 : Int32)).toNatClampNeg) (xs (x3 + (2 : Int32)).toNatClampNeg) (xs (x3 + (3 : Int32)).toNatClampNeg) σ).bind fun q_11 => (if (x3 + (1 : Int32)) < 0 ∨ L ≤ (x3 + (1 : Int32)).toNatClampNeg then none else (if (x3 + (2 : Int32)) < 0 ∨ L ≤ (x3 + (2 : Int32)).toNatClampNeg then none else (if (x3 + (3 : Int32)) < 0 ∨ L ≤ (x3 + (3 : Int32)).toNatClampNeg then none else ((fM_link K (xs (x3 + (1 : Int32)).toNatClampNeg) (xs (x3 + (2 : Int32)).toNatClampNeg) (xs (x3 + (3 : Int32)).toNatClampNeg) τ).bind fun q_15 => (if q_11.1 = q_15.1 then (gL xs L K n (x3 + 4) q_11.2 q_15.2) else some (0 : Int32)))))))))) else (if ((xs x3.toNatClampNeg) &&& (15 : Int32)) = 2 then (if (x3 + (1 : Int32)) < 0 ∨ L ≤ (x3 + (1 : Int32)).toNatClampNeg then none else (if (x3 + (2 : Int32)) < 0 ∨ L ≤ (x3 + (2 : Int32)).toNatClampNeg then none else ((fX_change K (xs (x3 + (1 : Int32)).toNatClampNeg) (xs (x3 + (2 : Int32)).toNatClampNeg) σ).bind fun q_20 => (if (x3 + (1 : Int32)) < 0 ∨ L ≤ (x3 + (1 : Int32)).toNatClampNeg then none else (if (x3 + (2 : Int32)) < 0 ∨ L ≤ (x3 + (2 : Int32)).toNatClampNeg then none else ((fM_change K (xs (x3 + (1 : Int32)).toNatClampNeg) (xs (x3 + (2 : Int32)).toNatClampNeg) τ).bind fun q_23 => (if q_20.1 = q_23.1 then (gL xs L K n (x3 + 4) q_20.2 q_23.2) else some (0 : Int32)))))))) else (if ((xs x3.toNatClampNeg) &&& (15 : Int32)) = 3 then (if (x3 + (1 : Int32)) < 0 ∨ L ≤ (x3 + (1 : Int32)).toNatClampNeg then none else (if (x3 + (2 : Int32)) < 0 ∨ L ≤ (x3 + (2 : Int32)).toNatClampNeg then none else ((fX_broken K (xs (x3 + (1 : Int32)).toNatClampNeg) (xs (x3 + (2 : Int32)).toNatClampNeg) σ).bind fun q_28 => (if (x3 + (1 : Int32)) < 0 ∨ L ≤ (x3 + (1 : Int32)).toNatClampNeg then none else (if (x3 + (2 : Int32)) < 0 ∨ L ≤ (x3 + (2 : Int32)).toNatClampNeg then none else ((fM_broken K (xs (x3 + (1 : Int32)).toNatClampNeg) (xs (x3 + (2 : Int32)).toNatClampNeg) τ).bind fun q_31 => (if q_28.1 = q_31.1 then (gL xs L K n (x3 + 4) q_28.2 q_31.2) else some (0 : Int32)))))))) else (if ((xs x3.toNatClampNeg) &&& (15 : Int32)) = 4 then (if (x3 + (1 : Int32)) < 0 ∨ L ≤ (x3 + (1 : Int32)).toNatClampNeg then none else ((fX_repair K (xs (x3 + (1 : Int32)).toNatClampNeg) σ).bind fun q_35 => (if (x3 + (1 : Int32)) < 0 ∨ L ≤ (x3 + (1 : Int32)).toNatClampNeg then none else ((fM_repair K (xs (x3 + (1 : Int32)).toNatClampNeg) τ).bind fun q_37 => (if q_35.1 = q_37.1 then (gL xs L K n (x3 + 4) q_35.2 q_37.2) else some (0 : Int32)))))) else (if ((xs x3.toNatClampNeg) &&& (15 : Int32)) = 5 then (if (x3 + (1 : Int32)) < 0 ∨ L ≤ (x3 + (1 : Int32)).toNatClampNeg then none else (if (x3 + (2 : Int32)) < 0 ∨ L ≤ (x3 + (2 : Int32)).toNatClampNeg then none else ((fX_chain K (xs (x3 + (1 : Int32)).toNatClampNeg) (xs (x3 + (2 : Int32)).toNatClampNeg) σ).bind fun q_42 => (if (x3 + (1 : Int32)) < 0 ∨ L ≤ (x3 + (1 : Int32)).toNatClampNeg then none else (if (x3 + (2 : Int32)) < 0 ∨ L ≤ (x3 + (2 : Int32)).toNatClampNeg then none else ((fM_chain K (xs (x3 + (1 : Int32)).toNatClampNeg) (xs (x3 + (2 : Int32)).toNatClampNeg) τ).bind fun q_45 => (if q_42.1 = q_45.1 then (gL xs L K n (x3 + 4) q_42.2 q_45.2) else some (0 : Int32)))))))) else (if ((xs x3.toNatClampNeg) &&& (15 : Int32)) = 6 then (if (x3 + (1 : Int32)) < 0 ∨ L ≤ (x3 + (1 : Int32)).toNatClampNeg then none else ((fX_ring K (xs (x3 + (1 : Int32)).toNatClampNeg) σ).bind fun q_49 => (if (x3 + (1 : Int32)) < 0 ∨ L ≤ (x3 + (1 : Int32)).toNatClampNeg then none else ((fM_ring K (xs (x3 + (1 : Int32)).toNatClampNeg) τ).bind fun q_51 => (if q_49.1 = q_51.1 then (gL xs L K n (x3 + 4) q_49.2 q_51.2) else some (0 : Int32)))))) else (if ((xs x3.toNatClampNeg) &&& (15 : Int32)) = 7 then (if (x3 + (1 : Int32)) < 0 ∨ L ≤ (x3 + (1 : Int32)).toNatClampNeg then none else ((fX_host K (xs (x3 + (1 : Int32)).toNatClampNeg) σ).bind fun q_55 => (if (x3 + (1 : Int32)) < 0 ∨ L ≤ (x3 + (1 : Int32)).toNatClampNeg then none else ((fM_host K (xs (x3 + (1 : Int32)).toNatClampNeg) τ).bind fun q_57 => (if q_55.1 = q_57.1 then (gL xs L K n (x3 + 4) q_55.2 q_57.2) else some (0 : Int32)))))) else (if ((xs x3.toNatClampNeg) &&& (15 : Int32)) = 8 then (if (x3 + (1 : Int32)) < 0 ∨ L ≤ (x3 + (1 : Int32)).toNatClampNeg then none else (if (x3 + (2 : Int32)) < 0 ∨ L ≤ (x3 + (2 : Int32)).toNatClampNeg then none else ((fX_move K (xs (x3 + (1 : Int32)).toNatClampNeg) (xs (x3 + (2 : Int32)).toNatClampNeg) σ).bind fun q_62 => (if (x3 + (1 : Int32)) < 0 ∨ L ≤ (x3 + (1 : Int32)).toNatClampNeg then none else (if (x3 + (2 : Int32)) < 0 ∨ L ≤ (x3 + (2 : Int32)).toNatClampNeg then none else ((fM_move K (xs (x3 + (1 : Int32)).toNatClampNeg) (xs (x3 + (2 : Int32)).toNatClampNeg) τ).bind fun q_65 => (if q_62.1 = q_65.1 then (gL xs L K n (x3 + 4) q_62.2 q_65.2) else some (0 : Int32)))))))) else (if ((xs x3.toNatClampNeg) &&& (15 : Int32)) = 9 then (if (x3 + (1 : Int32)) < 0 ∨ L ≤ (x3 + (1 : Int32)).toNatClampNeg then none else ((fX_delete K (xs (x3 + (1 : Int32)).toNatClampNeg) σ).bind fun q_69 => (if (x3 + (1 : Int32)) < 0 ∨ L ≤ (x3 + (1 : Int32)).toNatClampNeg then none else ((fM_delete K (xs (x3 + (1 : Int32)).toNatClampNeg) τ).bind fun q_71 => (if q_69.1 = q_71.1 then (gL xs L K n (x3 + 4) q_69.2 q_71.2) else some (0 : Int32)))))) else (if ((xs x3.toNatClampNeg) &&& (15 : Int32)) = 10 then (if (x3 + (1 : Int32)) < 0 ∨ L ≤ (x3 + (1 : Int32)).toNatClampNeg then none else (if (x3 + (2 : Int32)) < 0 ∨ L ≤ (x3 + (2 : Int32)).toNatClampNeg then none else ((fX_times K (xs (x3 + (1 : Int32)).toNatClampNeg) (xs (x3 + (2 : Int32)).toNatClampNeg) σ).bind fun q_76 => (if (x3 + (1 : Int32)) < 0 ∨ L ≤ (x3 + (1 : Int32)).toNatClampNeg then none else (if (x3 + (2 : Int32)) < 0 ∨ L ≤ (x3 + (2 : Int32)).toNatClampNeg then none else ((fM_times K (xs (x3 + (1 : Int32)).toNatClampNeg) (xs (x3 + (2 : Int32)).toNatClampNeg) τ).bind fun q_79 => (if q_76.1 = q_79.1 then (gL xs L K n (x3 + 4) q_76.2 q_79.2) else some (0 : Int32)))))))) else (if ((xs x3.toNatClampNeg) &&& (15 : Int32)) = 11 then (if (x3 + (1 : Int32)) < 0 ∨ L ≤ (x3 + (1 : Int32)).toNatClampNeg then none else ((fX_orphan K (xs (x3 + (1 : Int32)).toNatClampNeg) σ).bind fun q_83 => (if (x3 + (1 : Int32)) < 0 ∨ L ≤ (x3 + (1 : Int32)).toNatClampNeg then none else ((fM_orphan K (xs (x3 + (1 : Int32)).toNatClampNeg) τ).bind fun q_85 => (if q_83.1 = q_85.1 then (gL xs L K n (x3 + 4) q_83.2 q_85.2) else some (0 : Int32)))))) else (if ((xs x3.toNatClampNeg) &&& (15 : Int32)) = 12 then (if (x3 + (1 : Int32)) < 0 ∨ L ≤ (x3 + (1 : Int32)).toNatClampNeg then none else ((fX_house K (xs (x3 + (1 : Int32)).toNatClampNeg) σ).bind fun q_89 => (if (x3 + (1 : Int32)) < 0 ∨ L ≤ (x3 + (1 : Int32)).toNatClampNeg then none else ((fM_house K (xs (x3 + (1 : Int32)).toNatClampNeg) τ).bind fun q_91 => (if q_89.1 = q_91.1 then (gL xs L K n (x3 + 4) q_89.2 q_91.2) else some (0 : Int32)))))) else (if ((xs x3.toNatClampNeg) &&& (15 : Int32)) = 13 then (if (x3 + (1 : Int32)) < 0 ∨ L ≤ (x3 + (1 : Int32)).toNatClampNeg then none else (if (x3 + (2 : Int32)) < 0 ∨ L ≤ (x3 + (2 : Int32)).toNatClampNeg then none else (if (x3 + (3 : Int32)) < 0 ∨ L ≤ (x3 + (3 : Int32)).toNatClampNeg then none else ((fX_goes K (xs (x3 + (1 : Int32)).toNatClampNeg) (xs (x3 + (2 : Int32)).toNatClampNeg) (xs (x3 + (3 : Int32)).toNatClampNeg) σ).bind fun q_97 => (if (x3 + (1 : Int32)) < 0 ∨ L ≤ (x3 + (1 : Int32)).toNatClampNeg then none else (if (x3 + (2 : Int32)) < 0 ∨ L ≤ (x3 + (2 : Int32)).toNatClampNeg then none else (if (x3 + (3 : Int32)) < 0 ∨ L ≤ (x3 + (3 : Int32)).toNatClampNeg then none else ((fM_goes K (xs (x3 + (1 : Int32)).toNatClampNeg) (xs (x3 + (2 : Int32)).toNatClampNeg) (xs (x3 + (3 : Int32)).toNatClampNeg) τ).bind fun q_101 => (if q_97.1 = q_101.1 then (gL xs L K n (x3 + 4) q_97.2 q_101.2) else some (0 : Int32)))))))))) else (gL xs L K n (x3 + 4) σ τ)))))))))))))))))
/-! THE CLAIM OUT OF ONE WALK OF THE LAW'S BODY. Your part is whole_start (and what it stands on); all else here is the same for every law, but numbers. -/
def R_law : String := "LinkKeeperLaw"
def lw_P (b : Addr) (xs : List Int32) (args : Array Value) (s : State) : Prop := args = #[.ref b] ∧ s.IntsAt b xs ∧ xs.length ≤ 2048 ∧ (Jvm.Cond.and given_1 narrow_1).before args s = true
def lw_Q (_ : Array Value) (s : State) (o : Outcome) (t : State) : Prop := o = .returned (some (.int 1)) ∧ Framed s o t [] 20 6716
def lw_Z (below : List Frame) (a : Array Value) (s : State) : State → Prop := fun t => ∃ o, t.status = .running ∧ Ended t below o ∧ lw_Q a s o t
/-- the law's own end, with 1 on the stack, nothing written that was there before, its room as the claim has it -/
theorem lw_ret {p : Program} {l : Launch} {e : Env} {s : State} {m : MethodId} {below : List Frame} {meth : Method} {c : Code} {b : Nat} (hx : p.tables.exec = Jvm.exec) (hb : c.code = code) (hr : meth.sig.returnType = ret) (hlocks : meth.locks = false) {pc : Nat} {H : Heap} {ls : Array Slot} (hdg : decode code pc = .ok (.ireturn, 1)) : W p l e room_1 s m #[Value.ref b] below meth c H [] 20 6716 (lw_Z below #[Value.ref b] s) (F0 m pc ls [.int 1]) := by
  intro T hT X
  obtain ⟨fs, hret, hrun, hended, hW, hframe⟩ := X.leave (v := some (.int 1)) (hlocks := hlocks) (fun h => by rw [hr] at h; cases h)
  have hmeth' : T.vm.method? m = some meth := X.method'
  refine ⟨T.setFrames fs, ?_, .returned (some (.int 1)), hrun, hended, rfl, ⟨_, rfl⟩, hW, hframe⟩
  jvm_step X.here [X.here.top, hx, hb, hdg, hmeth', hr, ret, narrow_b1]
  (try refine ⟨rfl, ?_⟩); (try refine ⟨rfl, ?_⟩)
  first | (intro acts; rw [hret _ acts rfl rfl rfl]) | rw [hret _ _ rfl rfl rfl]
  exact Steps.refl _
/-- what holds at the law's entry: the machine, the code, the tables' words (any of lw_tbl by 'hts w (by decide +kernel)'), the script of L ints xs at the cell b, what the Statement gives of the start (any of its parts by flat_of_before) -/
def lw_At (p : Program) (s : State) (m : MethodId) (meth : Method) (c : Code) (b L : Nat) (xs : Nat → Int32) : Prop :=
  p.tables.exec = Jvm.exec ∧ c.code = code ∧ meth.sig.returnType = ret ∧ c.maxLocals = 4 ∧ s.vm.findClass R_law = some m.cls ∧ (∀ w ∈ lw_tbl, w.before #[Value.ref b] s = true) ∧ va_X b L xs s s.heap ∧ b < s.heap.size ∧ meth.locks = false ∧ (Jvm.Cond.and given_1 narrow_1).before #[Value.ref b] s = true

set_option maxHeartbeats 8000000 in
set_option maxRecDepth 100000 in
theorem law_loop {p : Program} {l : Launch} {e : Env} {s : State} {m : MethodId} {below : List Frame} {meth : Method} {c : Code} {dC : Nat → ClassId} {dI : Nat → Nat → Nat} {a b2 : Nat → Nat} {cI cZ : ClassId} {tb b L K : Nat} {xs : Nat → Int32} (C0 : lw_At p s m meth c b L xs) (hK : va_K (dC, dI) vwCl [(cI, .int), (cZ, .boolean)] s) (hZ : zt_ok (zz tb) (fun q : Nat => s.heap.size ≤ q) s s.heap) :
    ∀ (n : Nat) (x3 : Int32) (σ : XSt) (τ : MSt), gL xs L K n x3 σ τ = some 1 → ∀ (H : Heap) (locs : List Loc), va_P (dC, dI) vwCl (w_X a cI cZ σ ++ w_M b2 cI cZ τ) H → va_D (fun q : Nat => s.heap.size ≤ q) (w_X a cI cZ σ ++ w_M b2 cI cZ τ) → va_S (fun q : Nat => s.heap.size ≤ q) s.heap H locs → ∀ (ls : Array Slot), lv_has ls 4 [(0, .ref b), (1, .ref (a 0)), (2, .ref (b2 0)), (3, .int x3)] → W p l e room_1 s m #[Value.ref b] below meth c H locs 20 6716 (lw_Z below #[Value.ref b] s) (F0 m 18 ls []) := by
  obtain ⟨hx, hb, hr, hml, hown0, hts0, hX, hbl, hlocks, hgv⟩ := C0
  have hown : s.vm.findClass RL = some m.cls := hown0
  have hts : ∀ w ∈ lw_g, w.before #[Value.ref b] s = true := fun w h => hts0 w (lw_g_in w h)
  have hA : ∀ q : Nat, s.heap.size ≤ q → (fun q : Nat => s.heap.size ≤ q) q := fun _ h => h
  have hbA : ¬ (fun q : Nat => s.heap.size ≤ q) b := Nat.not_le.mpr hbl
  intro n
  induction n with
  | zero =>
    intro x3 σ τ hf
    rw [gL] at hf
    cases hf
  | succ n ih =>
    intro x3 σ τ hf H locs hP hD hS ls hl
    rw [gL] at hf
    refine lv_iload_n hx hb dL_18 rfl (lv_at hl 3 rfl) ?_
    refine lv_aload_n hx hb dL_19 rfl (lv_at hl 0 rfl) ?_
    refine va_slen hx hb hX hbl hbA hS dL_20 ?_
    refine lv_iconst (v := (4 : Int32)) hx hb dL_21 (by decide) ?_
    refine lv_isub hx hb dL_22 ?_
    refine lv_icmp_gt (tgt := 512) hx hb dL_23 (by decide) (fun c_1 => ?_) (fun c_1 => ?_)
    · replace hf := it_t hf c_1
      refine lv_iconst (v := (1 : Int32)) hx hb dL_512 (by decide) ?_
      refine va_forget (fun q hq => hS.2.2 q hq) ?_
      exact lw_ret hx hb hr hlocks dL_513
    · replace hf := it_f hf c_1
      refine lv_aload_n hx hb dL_26 rfl (lv_at hl 0 rfl) ?_
      refine lv_iload_n hx hb dL_27 rfl (lv_at hl 3 rfl) ?_
      obtain ⟨g_2, hf⟩ := gd_f hf
      refine va_sld hx hb hX hbl hbA hS g_2 dL_28 ?_
      refine lv_bipush (v := (15 : Int32)) hx hb dL_29 (by decide) ?_
      refine lv_iand hx hb dL_31 ?_
      by_cases c_3 : ((xs x3.toNatClampNeg) &&& (15 : Int32)) = 0
      · replace hf := it_t hf c_3
        refine lv_tableIn (off := 72) (tgt := 104) hx hb dL_32 (by rw [c_3]; decide) (by rw [c_3]; decide) (by rw [c_3]; rfl) (by decide) ?_
        refine lv_aload_n hx hb dL_104 rfl (lv_at hl 1 rfl) ?_
        obtain ⟨q_4, hq_4, hf⟩ := bd_s hf
        refine xw_callL (kX_record l dC dI a cI cZ tb K σ q_4.2 q_4.1 hq_4) ⟨hx, hb, hml, hown, hts⟩ (cwV 0 hts (gw_V mt_79 mt_80 mt_81 mt_25 mt_82) rfl rfl rfl hdX_record ⟨Nat.le_of_ble_eq_true rfl, Nat.le_of_ble_eq_true rfl⟩) hK hP hD hS hA hZ (q0 := 0) (ci := 0) rfl rfl rfl hl.1 rfl (Nat.le_of_ble_eq_true rfl) dL_105 ⟨Nat.le_of_ble_eq_true rfl, Nat.le_of_ble_eq_true rfl⟩ (fun H locs hP hD hS => ?_)
        refine lv_aload_n hx hb dL_108 rfl (lv_at hl 2 rfl) ?_
        obtain ⟨q_5, hq_5, hf⟩ := bd_s hf
        refine xw_callR (kM_record l dC dI b2 cI cZ tb K τ q_5.2 q_5.1 hq_5) ⟨hx, hb, hml, hown, hts⟩ (cwV 0 hts (gw_V mt_255 mt_256 mt_257 mt_26 mt_258) rfl rfl rfl hdM_record ⟨Nat.le_of_ble_eq_true rfl, Nat.le_of_ble_eq_true rfl⟩) hK hP hD hS hA hZ (q0 := 0) (ci := 1) rfl rfl rfl hl.1 rfl (Nat.le_of_ble_eq_true rfl) dL_109 ⟨Nat.le_of_ble_eq_true rfl, Nat.le_of_ble_eq_true rfl⟩ (fun H locs hP hD hS => ?_)
        refine lv_icmp_eq (tgt := 506) hx hb dL_112 (by decide) (fun c_6 => ?_) (fun c_6 => ?_)
        · replace hf := it_t hf c_6
          refine lv_iinc (v := (x3 + 4)) (lv' := [(3, .int (x3 + 4)), (0, .ref b), (1, .ref (a 0)), (2, .ref (b2 0))]) hx hb dL_506 hl (k := 3) rfl (congrArg (HAdd.hAdd _) (by decide : Int32.ofInt (4) = (4 : Int32))) (by decide) rfl (fun ls hl => ?_)
          refine lv_goto (tgt := 18) hx hb dL_509 (by decide) ?_
          exact ih (x3 + 4) q_4.2 q_5.2 hf _ _ hP hD hS _ (lv_sub hl [1, 2, 3, 0] rfl)
        · replace hf := it_f hf c_6
          refine lv_iconst (v := (0 : Int32)) hx hb dL_115 (by decide) ?_
          exact absurd (Option.some.inj hf) (by decide)
      · replace hf := it_f hf c_3
        by_cases c_7 : ((xs x3.toNatClampNeg) &&& (15 : Int32)) = 1
        · replace hf := it_t hf c_7
          refine lv_tableIn (off := 85) (tgt := 117) hx hb dL_32 (by rw [c_7]; decide) (by rw [c_7]; decide) (by rw [c_7]; rfl) (by decide) ?_
          refine lv_aload_n hx hb dL_117 rfl (lv_at hl 1 rfl) ?_
          refine lv_aload_n hx hb dL_118 rfl (lv_at hl 0 rfl) ?_
          refine lv_iload_n hx hb dL_119 rfl (lv_at hl 3 rfl) ?_
          refine lv_iconst (v := (1 : Int32)) hx hb dL_120 (by decide) ?_
          refine lv_iadd hx hb dL_121 ?_
          obtain ⟨g_8, hf⟩ := gd_f hf
          refine va_sld hx hb hX hbl hbA hS g_8 dL_122 ?_
          refine lv_aload_n hx hb dL_123 rfl (lv_at hl 0 rfl) ?_
          refine lv_iload_n hx hb dL_124 rfl (lv_at hl 3 rfl) ?_
          refine lv_iconst (v := (2 : Int32)) hx hb dL_125 (by decide) ?_
          refine lv_iadd hx hb dL_126 ?_
          obtain ⟨g_9, hf⟩ := gd_f hf
          refine va_sld hx hb hX hbl hbA hS g_9 dL_127 ?_
          refine lv_aload_n hx hb dL_128 rfl (lv_at hl 0 rfl) ?_
          refine lv_iload_n hx hb dL_129 rfl (lv_at hl 3 rfl) ?_
          refine lv_iconst (v := (3 : Int32)) hx hb dL_130 (by decide) ?_
          refine lv_iadd hx hb dL_131 ?_
          obtain ⟨g_10, hf⟩ := gd_f hf
          refine va_sld hx hb hX hbl hbA hS g_10 dL_132 ?_
          obtain ⟨q_11, hq_11, hf⟩ := bd_s hf
          refine xw_callL (kX_link l dC dI a cI cZ tb K (xs (x3 + (1 : Int32)).toNatClampNeg) (xs (x3 + (2 : Int32)).toNatClampNeg) (xs (x3 + (3 : Int32)).toNatClampNeg) σ q_11.2 q_11.1 hq_11) ⟨hx, hb, hml, hown, hts⟩ (cwV 3 hts (gw_V mt_83 mt_84 mt_85 mt_25 mt_86) rfl rfl rfl hdX_link ⟨Nat.le_of_ble_eq_true rfl, Nat.le_of_ble_eq_true rfl⟩) hK hP hD hS hA hZ (q0 := 0) (ci := 0) rfl rfl rfl hl.1 rfl (Nat.le_of_ble_eq_true rfl) dL_133 ⟨Nat.le_of_ble_eq_true rfl, Nat.le_of_ble_eq_true rfl⟩ (fun H locs hP hD hS => ?_)
          refine lv_aload_n hx hb dL_136 rfl (lv_at hl 2 rfl) ?_
          refine lv_aload_n hx hb dL_137 rfl (lv_at hl 0 rfl) ?_
          refine lv_iload_n hx hb dL_138 rfl (lv_at hl 3 rfl) ?_
          refine lv_iconst (v := (1 : Int32)) hx hb dL_139 (by decide) ?_
          refine lv_iadd hx hb dL_140 ?_
          obtain ⟨g_12, hf⟩ := gd_f hf
          refine va_sld hx hb hX hbl hbA hS g_12 dL_141 ?_
          refine lv_aload_n hx hb dL_142 rfl (lv_at hl 0 rfl) ?_
          refine lv_iload_n hx hb dL_143 rfl (lv_at hl 3 rfl) ?_
          refine lv_iconst (v := (2 : Int32)) hx hb dL_144 (by decide) ?_
          refine lv_iadd hx hb dL_145 ?_
          obtain ⟨g_13, hf⟩ := gd_f hf
          refine va_sld hx hb hX hbl hbA hS g_13 dL_146 ?_
          refine lv_aload_n hx hb dL_147 rfl (lv_at hl 0 rfl) ?_
          refine lv_iload_n hx hb dL_148 rfl (lv_at hl 3 rfl) ?_
          refine lv_iconst (v := (3 : Int32)) hx hb dL_149 (by decide) ?_
          refine lv_iadd hx hb dL_150 ?_
          obtain ⟨g_14, hf⟩ := gd_f hf
          refine va_sld hx hb hX hbl hbA hS g_14 dL_151 ?_
          obtain ⟨q_15, hq_15, hf⟩ := bd_s hf
          refine xw_callR (kM_link l dC dI b2 cI cZ tb K (xs (x3 + (1 : Int32)).toNatClampNeg) (xs (x3 + (2 : Int32)).toNatClampNeg) (xs (x3 + (3 : Int32)).toNatClampNeg) τ q_15.2 q_15.1 hq_15) ⟨hx, hb, hml, hown, hts⟩ (cwV 3 hts (gw_V mt_259 mt_260 mt_261 mt_26 mt_262) rfl rfl rfl hdM_link ⟨Nat.le_of_ble_eq_true rfl, Nat.le_of_ble_eq_true rfl⟩) hK hP hD hS hA hZ (q0 := 0) (ci := 1) rfl rfl rfl hl.1 rfl (Nat.le_of_ble_eq_true rfl) dL_152 ⟨Nat.le_of_ble_eq_true rfl, Nat.le_of_ble_eq_true rfl⟩ (fun H locs hP hD hS => ?_)
          refine lv_icmp_eq (tgt := 506) hx hb dL_155 (by decide) (fun c_16 => ?_) (fun c_16 => ?_)
          · replace hf := it_t hf c_16
            refine lv_iinc (v := (x3 + 4)) (lv' := [(3, .int (x3 + 4)), (0, .ref b), (1, .ref (a 0)), (2, .ref (b2 0))]) hx hb dL_506 hl (k := 3) rfl (congrArg (HAdd.hAdd _) (by decide : Int32.ofInt (4) = (4 : Int32))) (by decide) rfl (fun ls hl => ?_)
            refine lv_goto (tgt := 18) hx hb dL_509 (by decide) ?_
            exact ih (x3 + 4) q_11.2 q_15.2 hf _ _ hP hD hS _ (lv_sub hl [1, 2, 3, 0] rfl)
          · replace hf := it_f hf c_16
            refine lv_iconst (v := (0 : Int32)) hx hb dL_158 (by decide) ?_
            exact absurd (Option.some.inj hf) (by decide)
        · replace hf := it_f hf c_7
          by_cases c_17 : ((xs x3.toNatClampNeg) &&& (15 : Int32)) = 2
          · replace hf := it_t hf c_17
            refine lv_tableIn (off := 128) (tgt := 160) hx hb dL_32 (by rw [c_17]; decide) (by rw [c_17]; decide) (by rw [c_17]; rfl) (by decide) ?_
            refine lv_aload_n hx hb dL_160 rfl (lv_at hl 1 rfl) ?_
            refine lv_aload_n hx hb dL_161 rfl (lv_at hl 0 rfl) ?_
            refine lv_iload_n hx hb dL_162 rfl (lv_at hl 3 rfl) ?_
            refine lv_iconst (v := (1 : Int32)) hx hb dL_163 (by decide) ?_
            refine lv_iadd hx hb dL_164 ?_
            obtain ⟨g_18, hf⟩ := gd_f hf
            refine va_sld hx hb hX hbl hbA hS g_18 dL_165 ?_
            refine lv_aload_n hx hb dL_166 rfl (lv_at hl 0 rfl) ?_
            refine lv_iload_n hx hb dL_167 rfl (lv_at hl 3 rfl) ?_
            refine lv_iconst (v := (2 : Int32)) hx hb dL_168 (by decide) ?_
            refine lv_iadd hx hb dL_169 ?_
            obtain ⟨g_19, hf⟩ := gd_f hf
            refine va_sld hx hb hX hbl hbA hS g_19 dL_170 ?_
            obtain ⟨q_20, hq_20, hf⟩ := bd_s hf
            refine xw_callL (kX_change l dC dI a cI cZ tb K (xs (x3 + (1 : Int32)).toNatClampNeg) (xs (x3 + (2 : Int32)).toNatClampNeg) σ q_20.2 q_20.1 hq_20) ⟨hx, hb, hml, hown, hts⟩ (cwV 2 hts (gw_V mt_124 mt_125 mt_126 mt_25 mt_127) rfl rfl rfl hdX_change ⟨Nat.le_of_ble_eq_true rfl, Nat.le_of_ble_eq_true rfl⟩) hK hP hD hS hA hZ (q0 := 0) (ci := 0) rfl rfl rfl hl.1 rfl (Nat.le_of_ble_eq_true rfl) dL_171 ⟨Nat.le_of_ble_eq_true rfl, Nat.le_of_ble_eq_true rfl⟩ (fun H locs hP hD hS => ?_)
            refine lv_aload_n hx hb dL_174 rfl (lv_at hl 2 rfl) ?_
            refine lv_aload_n hx hb dL_175 rfl (lv_at hl 0 rfl) ?_
            refine lv_iload_n hx hb dL_176 rfl (lv_at hl 3 rfl) ?_
            refine lv_iconst (v := (1 : Int32)) hx hb dL_177 (by decide) ?_
            refine lv_iadd hx hb dL_178 ?_
            obtain ⟨g_21, hf⟩ := gd_f hf
            refine va_sld hx hb hX hbl hbA hS g_21 dL_179 ?_
            refine lv_aload_n hx hb dL_180 rfl (lv_at hl 0 rfl) ?_
            refine lv_iload_n hx hb dL_181 rfl (lv_at hl 3 rfl) ?_
            refine lv_iconst (v := (2 : Int32)) hx hb dL_182 (by decide) ?_
            refine lv_iadd hx hb dL_183 ?_
            obtain ⟨g_22, hf⟩ := gd_f hf
            refine va_sld hx hb hX hbl hbA hS g_22 dL_184 ?_
            obtain ⟨q_23, hq_23, hf⟩ := bd_s hf
            refine xw_callR (kM_change l dC dI b2 cI cZ tb K (xs (x3 + (1 : Int32)).toNatClampNeg) (xs (x3 + (2 : Int32)).toNatClampNeg) τ q_23.2 q_23.1 hq_23) ⟨hx, hb, hml, hown, hts⟩ (cwV 2 hts (gw_V mt_293 mt_294 mt_295 mt_26 mt_296) rfl rfl rfl hdM_change ⟨Nat.le_of_ble_eq_true rfl, Nat.le_of_ble_eq_true rfl⟩) hK hP hD hS hA hZ (q0 := 0) (ci := 1) rfl rfl rfl hl.1 rfl (Nat.le_of_ble_eq_true rfl) dL_185 ⟨Nat.le_of_ble_eq_true rfl, Nat.le_of_ble_eq_true rfl⟩ (fun H locs hP hD hS => ?_)
            refine lv_icmp_eq (tgt := 506) hx hb dL_188 (by decide) (fun c_24 => ?_) (fun c_24 => ?_)
            · replace hf := it_t hf c_24
              refine lv_iinc (v := (x3 + 4)) (lv' := [(3, .int (x3 + 4)), (0, .ref b), (1, .ref (a 0)), (2, .ref (b2 0))]) hx hb dL_506 hl (k := 3) rfl (congrArg (HAdd.hAdd _) (by decide : Int32.ofInt (4) = (4 : Int32))) (by decide) rfl (fun ls hl => ?_)
              refine lv_goto (tgt := 18) hx hb dL_509 (by decide) ?_
              exact ih (x3 + 4) q_20.2 q_23.2 hf _ _ hP hD hS _ (lv_sub hl [1, 2, 3, 0] rfl)
            · replace hf := it_f hf c_24
              refine lv_iconst (v := (0 : Int32)) hx hb dL_191 (by decide) ?_
              exact absurd (Option.some.inj hf) (by decide)
          · replace hf := it_f hf c_17
            by_cases c_25 : ((xs x3.toNatClampNeg) &&& (15 : Int32)) = 3
            · replace hf := it_t hf c_25
              refine lv_tableIn (off := 161) (tgt := 193) hx hb dL_32 (by rw [c_25]; decide) (by rw [c_25]; decide) (by rw [c_25]; rfl) (by decide) ?_
              refine lv_aload_n hx hb dL_193 rfl (lv_at hl 1 rfl) ?_
              refine lv_aload_n hx hb dL_194 rfl (lv_at hl 0 rfl) ?_
              refine lv_iload_n hx hb dL_195 rfl (lv_at hl 3 rfl) ?_
              refine lv_iconst (v := (1 : Int32)) hx hb dL_196 (by decide) ?_
              refine lv_iadd hx hb dL_197 ?_
              obtain ⟨g_26, hf⟩ := gd_f hf
              refine va_sld hx hb hX hbl hbA hS g_26 dL_198 ?_
              refine lv_aload_n hx hb dL_199 rfl (lv_at hl 0 rfl) ?_
              refine lv_iload_n hx hb dL_200 rfl (lv_at hl 3 rfl) ?_
              refine lv_iconst (v := (2 : Int32)) hx hb dL_201 (by decide) ?_
              refine lv_iadd hx hb dL_202 ?_
              obtain ⟨g_27, hf⟩ := gd_f hf
              refine va_sld hx hb hX hbl hbA hS g_27 dL_203 ?_
              obtain ⟨q_28, hq_28, hf⟩ := bd_s hf
              refine xw_callL (kX_broken l dC dI a cI cZ tb K (xs (x3 + (1 : Int32)).toNatClampNeg) (xs (x3 + (2 : Int32)).toNatClampNeg) σ q_28.2 q_28.1 hq_28) ⟨hx, hb, hml, hown, hts⟩ (cwV 2 hts (gw_V mt_146 mt_147 mt_148 mt_25 mt_149) rfl rfl rfl hdX_broken ⟨Nat.le_of_ble_eq_true rfl, Nat.le_of_ble_eq_true rfl⟩) hK hP hD hS hA hZ (q0 := 0) (ci := 0) rfl rfl rfl hl.1 rfl (Nat.le_of_ble_eq_true rfl) dL_204 ⟨Nat.le_of_ble_eq_true rfl, Nat.le_of_ble_eq_true rfl⟩ (fun H locs hP hD hS => ?_)
              refine lv_aload_n hx hb dL_207 rfl (lv_at hl 2 rfl) ?_
              refine lv_aload_n hx hb dL_208 rfl (lv_at hl 0 rfl) ?_
              refine lv_iload_n hx hb dL_209 rfl (lv_at hl 3 rfl) ?_
              refine lv_iconst (v := (1 : Int32)) hx hb dL_210 (by decide) ?_
              refine lv_iadd hx hb dL_211 ?_
              obtain ⟨g_29, hf⟩ := gd_f hf
              refine va_sld hx hb hX hbl hbA hS g_29 dL_212 ?_
              refine lv_aload_n hx hb dL_213 rfl (lv_at hl 0 rfl) ?_
              refine lv_iload_n hx hb dL_214 rfl (lv_at hl 3 rfl) ?_
              refine lv_iconst (v := (2 : Int32)) hx hb dL_215 (by decide) ?_
              refine lv_iadd hx hb dL_216 ?_
              obtain ⟨g_30, hf⟩ := gd_f hf
              refine va_sld hx hb hX hbl hbA hS g_30 dL_217 ?_
              obtain ⟨q_31, hq_31, hf⟩ := bd_s hf
              refine xw_callR (kM_broken l dC dI b2 cI cZ tb K (xs (x3 + (1 : Int32)).toNatClampNeg) (xs (x3 + (2 : Int32)).toNatClampNeg) τ q_31.2 q_31.1 hq_31) ⟨hx, hb, hml, hown, hts⟩ (cwV 2 hts (gw_V mt_301 mt_302 mt_303 mt_26 mt_304) rfl rfl rfl hdM_broken ⟨Nat.le_of_ble_eq_true rfl, Nat.le_of_ble_eq_true rfl⟩) hK hP hD hS hA hZ (q0 := 0) (ci := 1) rfl rfl rfl hl.1 rfl (Nat.le_of_ble_eq_true rfl) dL_218 ⟨Nat.le_of_ble_eq_true rfl, Nat.le_of_ble_eq_true rfl⟩ (fun H locs hP hD hS => ?_)
              refine lv_icmp_eq (tgt := 506) hx hb dL_221 (by decide) (fun c_32 => ?_) (fun c_32 => ?_)
              · replace hf := it_t hf c_32
                refine lv_iinc (v := (x3 + 4)) (lv' := [(3, .int (x3 + 4)), (0, .ref b), (1, .ref (a 0)), (2, .ref (b2 0))]) hx hb dL_506 hl (k := 3) rfl (congrArg (HAdd.hAdd _) (by decide : Int32.ofInt (4) = (4 : Int32))) (by decide) rfl (fun ls hl => ?_)
                refine lv_goto (tgt := 18) hx hb dL_509 (by decide) ?_
                exact ih (x3 + 4) q_28.2 q_31.2 hf _ _ hP hD hS _ (lv_sub hl [1, 2, 3, 0] rfl)
              · replace hf := it_f hf c_32
                refine lv_iconst (v := (0 : Int32)) hx hb dL_224 (by decide) ?_
                exact absurd (Option.some.inj hf) (by decide)
            · replace hf := it_f hf c_25
              by_cases c_33 : ((xs x3.toNatClampNeg) &&& (15 : Int32)) = 4
              · replace hf := it_t hf c_33
                refine lv_tableIn (off := 194) (tgt := 226) hx hb dL_32 (by rw [c_33]; decide) (by rw [c_33]; decide) (by rw [c_33]; rfl) (by decide) ?_
                refine lv_aload_n hx hb dL_226 rfl (lv_at hl 1 rfl) ?_
                refine lv_aload_n hx hb dL_227 rfl (lv_at hl 0 rfl) ?_
                refine lv_iload_n hx hb dL_228 rfl (lv_at hl 3 rfl) ?_
                refine lv_iconst (v := (1 : Int32)) hx hb dL_229 (by decide) ?_
                refine lv_iadd hx hb dL_230 ?_
                obtain ⟨g_34, hf⟩ := gd_f hf
                refine va_sld hx hb hX hbl hbA hS g_34 dL_231 ?_
                obtain ⟨q_35, hq_35, hf⟩ := bd_s hf
                refine xw_callL (kX_repair l dC dI a cI cZ tb K (xs (x3 + (1 : Int32)).toNatClampNeg) σ q_35.2 q_35.1 hq_35) ⟨hx, hb, hml, hown, hts⟩ (cwV 1 hts (gw_V mt_154 mt_155 mt_156 mt_25 mt_157) rfl rfl rfl hdX_repair ⟨Nat.le_of_ble_eq_true rfl, Nat.le_of_ble_eq_true rfl⟩) hK hP hD hS hA hZ (q0 := 0) (ci := 0) rfl rfl rfl hl.1 rfl (Nat.le_of_ble_eq_true rfl) dL_232 ⟨Nat.le_of_ble_eq_true rfl, Nat.le_of_ble_eq_true rfl⟩ (fun H locs hP hD hS => ?_)
                refine lv_aload_n hx hb dL_235 rfl (lv_at hl 2 rfl) ?_
                refine lv_aload_n hx hb dL_236 rfl (lv_at hl 0 rfl) ?_
                refine lv_iload_n hx hb dL_237 rfl (lv_at hl 3 rfl) ?_
                refine lv_iconst (v := (1 : Int32)) hx hb dL_238 (by decide) ?_
                refine lv_iadd hx hb dL_239 ?_
                obtain ⟨g_36, hf⟩ := gd_f hf
                refine va_sld hx hb hX hbl hbA hS g_36 dL_240 ?_
                obtain ⟨q_37, hq_37, hf⟩ := bd_s hf
                refine xw_callR (kM_repair l dC dI b2 cI cZ tb K (xs (x3 + (1 : Int32)).toNatClampNeg) τ q_37.2 q_37.1 hq_37) ⟨hx, hb, hml, hown, hts⟩ (cwV 1 hts (gw_V mt_313 mt_314 mt_315 mt_26 mt_316) rfl rfl rfl hdM_repair ⟨Nat.le_of_ble_eq_true rfl, Nat.le_of_ble_eq_true rfl⟩) hK hP hD hS hA hZ (q0 := 0) (ci := 1) rfl rfl rfl hl.1 rfl (Nat.le_of_ble_eq_true rfl) dL_241 ⟨Nat.le_of_ble_eq_true rfl, Nat.le_of_ble_eq_true rfl⟩ (fun H locs hP hD hS => ?_)
                refine lv_icmp_eq (tgt := 506) hx hb dL_244 (by decide) (fun c_38 => ?_) (fun c_38 => ?_)
                · replace hf := it_t hf c_38
                  refine lv_iinc (v := (x3 + 4)) (lv' := [(3, .int (x3 + 4)), (0, .ref b), (1, .ref (a 0)), (2, .ref (b2 0))]) hx hb dL_506 hl (k := 3) rfl (congrArg (HAdd.hAdd _) (by decide : Int32.ofInt (4) = (4 : Int32))) (by decide) rfl (fun ls hl => ?_)
                  refine lv_goto (tgt := 18) hx hb dL_509 (by decide) ?_
                  exact ih (x3 + 4) q_35.2 q_37.2 hf _ _ hP hD hS _ (lv_sub hl [1, 2, 3, 0] rfl)
                · replace hf := it_f hf c_38
                  refine lv_iconst (v := (0 : Int32)) hx hb dL_247 (by decide) ?_
                  exact absurd (Option.some.inj hf) (by decide)
              · replace hf := it_f hf c_33
                by_cases c_39 : ((xs x3.toNatClampNeg) &&& (15 : Int32)) = 5
                · replace hf := it_t hf c_39
                  refine lv_tableIn (off := 217) (tgt := 249) hx hb dL_32 (by rw [c_39]; decide) (by rw [c_39]; decide) (by rw [c_39]; rfl) (by decide) ?_
                  refine lv_aload_n hx hb dL_249 rfl (lv_at hl 1 rfl) ?_
                  refine lv_aload_n hx hb dL_250 rfl (lv_at hl 0 rfl) ?_
                  refine lv_iload_n hx hb dL_251 rfl (lv_at hl 3 rfl) ?_
                  refine lv_iconst (v := (1 : Int32)) hx hb dL_252 (by decide) ?_
                  refine lv_iadd hx hb dL_253 ?_
                  obtain ⟨g_40, hf⟩ := gd_f hf
                  refine va_sld hx hb hX hbl hbA hS g_40 dL_254 ?_
                  refine lv_aload_n hx hb dL_255 rfl (lv_at hl 0 rfl) ?_
                  refine lv_iload_n hx hb dL_256 rfl (lv_at hl 3 rfl) ?_
                  refine lv_iconst (v := (2 : Int32)) hx hb dL_257 (by decide) ?_
                  refine lv_iadd hx hb dL_258 ?_
                  obtain ⟨g_41, hf⟩ := gd_f hf
                  refine va_sld hx hb hX hbl hbA hS g_41 dL_259 ?_
                  obtain ⟨q_42, hq_42, hf⟩ := bd_s hf
                  refine xw_callL (kX_chain l dC dI a cI cZ tb K (xs (x3 + (1 : Int32)).toNatClampNeg) (xs (x3 + (2 : Int32)).toNatClampNeg) σ q_42.2 q_42.1 hq_42) ⟨hx, hb, hml, hown, hts⟩ (cwV 2 hts (gw_V mt_158 mt_159 mt_160 mt_25 mt_161) rfl rfl rfl hdX_chain ⟨Nat.le_of_ble_eq_true rfl, Nat.le_of_ble_eq_true rfl⟩) hK hP hD hS hA hZ (q0 := 0) (ci := 0) rfl rfl rfl hl.1 rfl (Nat.le_of_ble_eq_true rfl) dL_260 ⟨Nat.le_of_ble_eq_true rfl, Nat.le_of_ble_eq_true rfl⟩ (fun H locs hP hD hS => ?_)
                  refine lv_aload_n hx hb dL_263 rfl (lv_at hl 2 rfl) ?_
                  refine lv_aload_n hx hb dL_264 rfl (lv_at hl 0 rfl) ?_
                  refine lv_iload_n hx hb dL_265 rfl (lv_at hl 3 rfl) ?_
                  refine lv_iconst (v := (1 : Int32)) hx hb dL_266 (by decide) ?_
                  refine lv_iadd hx hb dL_267 ?_
                  obtain ⟨g_43, hf⟩ := gd_f hf
                  refine va_sld hx hb hX hbl hbA hS g_43 dL_268 ?_
                  refine lv_aload_n hx hb dL_269 rfl (lv_at hl 0 rfl) ?_
                  refine lv_iload_n hx hb dL_270 rfl (lv_at hl 3 rfl) ?_
                  refine lv_iconst (v := (2 : Int32)) hx hb dL_271 (by decide) ?_
                  refine lv_iadd hx hb dL_272 ?_
                  obtain ⟨g_44, hf⟩ := gd_f hf
                  refine va_sld hx hb hX hbl hbA hS g_44 dL_273 ?_
                  obtain ⟨q_45, hq_45, hf⟩ := bd_s hf
                  refine xw_callR (kM_chain l dC dI b2 cI cZ tb K (xs (x3 + (1 : Int32)).toNatClampNeg) (xs (x3 + (2 : Int32)).toNatClampNeg) τ q_45.2 q_45.1 hq_45) ⟨hx, hb, hml, hown, hts⟩ (cwV 2 hts (gw_V mt_317 mt_318 mt_319 mt_26 mt_320) rfl rfl rfl hdM_chain ⟨Nat.le_of_ble_eq_true rfl, Nat.le_of_ble_eq_true rfl⟩) hK hP hD hS hA hZ (q0 := 0) (ci := 1) rfl rfl rfl hl.1 rfl (Nat.le_of_ble_eq_true rfl) dL_274 ⟨Nat.le_of_ble_eq_true rfl, Nat.le_of_ble_eq_true rfl⟩ (fun H locs hP hD hS => ?_)
                  refine lv_icmp_eq (tgt := 506) hx hb dL_277 (by decide) (fun c_46 => ?_) (fun c_46 => ?_)
                  · replace hf := it_t hf c_46
                    refine lv_iinc (v := (x3 + 4)) (lv' := [(3, .int (x3 + 4)), (0, .ref b), (1, .ref (a 0)), (2, .ref (b2 0))]) hx hb dL_506 hl (k := 3) rfl (congrArg (HAdd.hAdd _) (by decide : Int32.ofInt (4) = (4 : Int32))) (by decide) rfl (fun ls hl => ?_)
                    refine lv_goto (tgt := 18) hx hb dL_509 (by decide) ?_
                    exact ih (x3 + 4) q_42.2 q_45.2 hf _ _ hP hD hS _ (lv_sub hl [1, 2, 3, 0] rfl)
                  · replace hf := it_f hf c_46
                    refine lv_iconst (v := (0 : Int32)) hx hb dL_280 (by decide) ?_
                    exact absurd (Option.some.inj hf) (by decide)
                · replace hf := it_f hf c_39
                  by_cases c_47 : ((xs x3.toNatClampNeg) &&& (15 : Int32)) = 6
                  · replace hf := it_t hf c_47
                    refine lv_tableIn (off := 250) (tgt := 282) hx hb dL_32 (by rw [c_47]; decide) (by rw [c_47]; decide) (by rw [c_47]; rfl) (by decide) ?_
                    refine lv_aload_n hx hb dL_282 rfl (lv_at hl 1 rfl) ?_
                    refine lv_aload_n hx hb dL_283 rfl (lv_at hl 0 rfl) ?_
                    refine lv_iload_n hx hb dL_284 rfl (lv_at hl 3 rfl) ?_
                    refine lv_iconst (v := (1 : Int32)) hx hb dL_285 (by decide) ?_
                    refine lv_iadd hx hb dL_286 ?_
                    obtain ⟨g_48, hf⟩ := gd_f hf
                    refine va_sld hx hb hX hbl hbA hS g_48 dL_287 ?_
                    obtain ⟨q_49, hq_49, hf⟩ := bd_s hf
                    refine xw_callL (kX_ring l dC dI a cI cZ tb K (xs (x3 + (1 : Int32)).toNatClampNeg) σ q_49.2 q_49.1 hq_49) ⟨hx, hb, hml, hown, hts⟩ (cwV 1 hts (gw_V mt_162 mt_163 mt_164 mt_25 mt_165) rfl rfl rfl hdX_ring ⟨Nat.le_of_ble_eq_true rfl, Nat.le_of_ble_eq_true rfl⟩) hK hP hD hS hA hZ (q0 := 0) (ci := 0) rfl rfl rfl hl.1 rfl (Nat.le_of_ble_eq_true rfl) dL_288 ⟨Nat.le_of_ble_eq_true rfl, Nat.le_of_ble_eq_true rfl⟩ (fun H locs hP hD hS => ?_)
                    refine lv_aload_n hx hb dL_291 rfl (lv_at hl 2 rfl) ?_
                    refine lv_aload_n hx hb dL_292 rfl (lv_at hl 0 rfl) ?_
                    refine lv_iload_n hx hb dL_293 rfl (lv_at hl 3 rfl) ?_
                    refine lv_iconst (v := (1 : Int32)) hx hb dL_294 (by decide) ?_
                    refine lv_iadd hx hb dL_295 ?_
                    obtain ⟨g_50, hf⟩ := gd_f hf
                    refine va_sld hx hb hX hbl hbA hS g_50 dL_296 ?_
                    obtain ⟨q_51, hq_51, hf⟩ := bd_s hf
                    refine xw_callR (kM_ring l dC dI b2 cI cZ tb K (xs (x3 + (1 : Int32)).toNatClampNeg) τ q_51.2 q_51.1 hq_51) ⟨hx, hb, hml, hown, hts⟩ (cwV 1 hts (gw_V mt_321 mt_322 mt_323 mt_26 mt_324) rfl rfl rfl hdM_ring ⟨Nat.le_of_ble_eq_true rfl, Nat.le_of_ble_eq_true rfl⟩) hK hP hD hS hA hZ (q0 := 0) (ci := 1) rfl rfl rfl hl.1 rfl (Nat.le_of_ble_eq_true rfl) dL_297 ⟨Nat.le_of_ble_eq_true rfl, Nat.le_of_ble_eq_true rfl⟩ (fun H locs hP hD hS => ?_)
                    refine lv_icmp_eq (tgt := 506) hx hb dL_300 (by decide) (fun c_52 => ?_) (fun c_52 => ?_)
                    · replace hf := it_t hf c_52
                      refine lv_iinc (v := (x3 + 4)) (lv' := [(3, .int (x3 + 4)), (0, .ref b), (1, .ref (a 0)), (2, .ref (b2 0))]) hx hb dL_506 hl (k := 3) rfl (congrArg (HAdd.hAdd _) (by decide : Int32.ofInt (4) = (4 : Int32))) (by decide) rfl (fun ls hl => ?_)
                      refine lv_goto (tgt := 18) hx hb dL_509 (by decide) ?_
                      exact ih (x3 + 4) q_49.2 q_51.2 hf _ _ hP hD hS _ (lv_sub hl [1, 2, 3, 0] rfl)
                    · replace hf := it_f hf c_52
                      refine lv_iconst (v := (0 : Int32)) hx hb dL_303 (by decide) ?_
                      exact absurd (Option.some.inj hf) (by decide)
                  · replace hf := it_f hf c_47
                    by_cases c_53 : ((xs x3.toNatClampNeg) &&& (15 : Int32)) = 7
                    · replace hf := it_t hf c_53
                      refine lv_tableIn (off := 273) (tgt := 305) hx hb dL_32 (by rw [c_53]; decide) (by rw [c_53]; decide) (by rw [c_53]; rfl) (by decide) ?_
                      refine lv_aload_n hx hb dL_305 rfl (lv_at hl 1 rfl) ?_
                      refine lv_aload_n hx hb dL_306 rfl (lv_at hl 0 rfl) ?_
                      refine lv_iload_n hx hb dL_307 rfl (lv_at hl 3 rfl) ?_
                      refine lv_iconst (v := (1 : Int32)) hx hb dL_308 (by decide) ?_
                      refine lv_iadd hx hb dL_309 ?_
                      obtain ⟨g_54, hf⟩ := gd_f hf
                      refine va_sld hx hb hX hbl hbA hS g_54 dL_310 ?_
                      obtain ⟨q_55, hq_55, hf⟩ := bd_s hf
                      refine xw_callL (kX_host l dC dI a cI cZ tb K (xs (x3 + (1 : Int32)).toNatClampNeg) σ q_55.2 q_55.1 hq_55) ⟨hx, hb, hml, hown, hts⟩ (cwV 1 hts (gw_V mt_166 mt_167 mt_168 mt_25 mt_169) rfl rfl rfl hdX_host ⟨Nat.le_of_ble_eq_true rfl, Nat.le_of_ble_eq_true rfl⟩) hK hP hD hS hA hZ (q0 := 0) (ci := 0) rfl rfl rfl hl.1 rfl (Nat.le_of_ble_eq_true rfl) dL_311 ⟨Nat.le_of_ble_eq_true rfl, Nat.le_of_ble_eq_true rfl⟩ (fun H locs hP hD hS => ?_)
                      refine lv_aload_n hx hb dL_314 rfl (lv_at hl 2 rfl) ?_
                      refine lv_aload_n hx hb dL_315 rfl (lv_at hl 0 rfl) ?_
                      refine lv_iload_n hx hb dL_316 rfl (lv_at hl 3 rfl) ?_
                      refine lv_iconst (v := (1 : Int32)) hx hb dL_317 (by decide) ?_
                      refine lv_iadd hx hb dL_318 ?_
                      obtain ⟨g_56, hf⟩ := gd_f hf
                      refine va_sld hx hb hX hbl hbA hS g_56 dL_319 ?_
                      obtain ⟨q_57, hq_57, hf⟩ := bd_s hf
                      refine xw_callR (kM_host l dC dI b2 cI cZ tb K (xs (x3 + (1 : Int32)).toNatClampNeg) τ q_57.2 q_57.1 hq_57) ⟨hx, hb, hml, hown, hts⟩ (cwV 1 hts (gw_V mt_325 mt_326 mt_327 mt_26 mt_328) rfl rfl rfl hdM_host ⟨Nat.le_of_ble_eq_true rfl, Nat.le_of_ble_eq_true rfl⟩) hK hP hD hS hA hZ (q0 := 0) (ci := 1) rfl rfl rfl hl.1 rfl (Nat.le_of_ble_eq_true rfl) dL_320 ⟨Nat.le_of_ble_eq_true rfl, Nat.le_of_ble_eq_true rfl⟩ (fun H locs hP hD hS => ?_)
                      refine lv_icmp_eq (tgt := 506) hx hb dL_323 (by decide) (fun c_58 => ?_) (fun c_58 => ?_)
                      · replace hf := it_t hf c_58
                        refine lv_iinc (v := (x3 + 4)) (lv' := [(3, .int (x3 + 4)), (0, .ref b), (1, .ref (a 0)), (2, .ref (b2 0))]) hx hb dL_506 hl (k := 3) rfl (congrArg (HAdd.hAdd _) (by decide : Int32.ofInt (4) = (4 : Int32))) (by decide) rfl (fun ls hl => ?_)
                        refine lv_goto (tgt := 18) hx hb dL_509 (by decide) ?_
                        exact ih (x3 + 4) q_55.2 q_57.2 hf _ _ hP hD hS _ (lv_sub hl [1, 2, 3, 0] rfl)
                      · replace hf := it_f hf c_58
                        refine lv_iconst (v := (0 : Int32)) hx hb dL_326 (by decide) ?_
                        exact absurd (Option.some.inj hf) (by decide)
                    · replace hf := it_f hf c_53
                      by_cases c_59 : ((xs x3.toNatClampNeg) &&& (15 : Int32)) = 8
                      · replace hf := it_t hf c_59
                        refine lv_tableIn (off := 296) (tgt := 328) hx hb dL_32 (by rw [c_59]; decide) (by rw [c_59]; decide) (by rw [c_59]; rfl) (by decide) ?_
                        refine lv_aload_n hx hb dL_328 rfl (lv_at hl 1 rfl) ?_
                        refine lv_aload_n hx hb dL_329 rfl (lv_at hl 0 rfl) ?_
                        refine lv_iload_n hx hb dL_330 rfl (lv_at hl 3 rfl) ?_
                        refine lv_iconst (v := (1 : Int32)) hx hb dL_331 (by decide) ?_
                        refine lv_iadd hx hb dL_332 ?_
                        obtain ⟨g_60, hf⟩ := gd_f hf
                        refine va_sld hx hb hX hbl hbA hS g_60 dL_333 ?_
                        refine lv_aload_n hx hb dL_334 rfl (lv_at hl 0 rfl) ?_
                        refine lv_iload_n hx hb dL_335 rfl (lv_at hl 3 rfl) ?_
                        refine lv_iconst (v := (2 : Int32)) hx hb dL_336 (by decide) ?_
                        refine lv_iadd hx hb dL_337 ?_
                        obtain ⟨g_61, hf⟩ := gd_f hf
                        refine va_sld hx hb hX hbl hbA hS g_61 dL_338 ?_
                        obtain ⟨q_62, hq_62, hf⟩ := bd_s hf
                        refine xw_callL (kX_move l dC dI a cI cZ tb K (xs (x3 + (1 : Int32)).toNatClampNeg) (xs (x3 + (2 : Int32)).toNatClampNeg) σ q_62.2 q_62.1 hq_62) ⟨hx, hb, hml, hown, hts⟩ (cwV 2 hts (gw_V mt_170 mt_171 mt_172 mt_25 mt_173) rfl rfl rfl hdX_move ⟨Nat.le_of_ble_eq_true rfl, Nat.le_of_ble_eq_true rfl⟩) hK hP hD hS hA hZ (q0 := 0) (ci := 0) rfl rfl rfl hl.1 rfl (Nat.le_of_ble_eq_true rfl) dL_339 ⟨Nat.le_of_ble_eq_true rfl, Nat.le_of_ble_eq_true rfl⟩ (fun H locs hP hD hS => ?_)
                        refine lv_aload_n hx hb dL_342 rfl (lv_at hl 2 rfl) ?_
                        refine lv_aload_n hx hb dL_343 rfl (lv_at hl 0 rfl) ?_
                        refine lv_iload_n hx hb dL_344 rfl (lv_at hl 3 rfl) ?_
                        refine lv_iconst (v := (1 : Int32)) hx hb dL_345 (by decide) ?_
                        refine lv_iadd hx hb dL_346 ?_
                        obtain ⟨g_63, hf⟩ := gd_f hf
                        refine va_sld hx hb hX hbl hbA hS g_63 dL_347 ?_
                        refine lv_aload_n hx hb dL_348 rfl (lv_at hl 0 rfl) ?_
                        refine lv_iload_n hx hb dL_349 rfl (lv_at hl 3 rfl) ?_
                        refine lv_iconst (v := (2 : Int32)) hx hb dL_350 (by decide) ?_
                        refine lv_iadd hx hb dL_351 ?_
                        obtain ⟨g_64, hf⟩ := gd_f hf
                        refine va_sld hx hb hX hbl hbA hS g_64 dL_352 ?_
                        obtain ⟨q_65, hq_65, hf⟩ := bd_s hf
                        refine xw_callR (kM_move l dC dI b2 cI cZ tb K (xs (x3 + (1 : Int32)).toNatClampNeg) (xs (x3 + (2 : Int32)).toNatClampNeg) τ q_65.2 q_65.1 hq_65) ⟨hx, hb, hml, hown, hts⟩ (cwV 2 hts (gw_V mt_329 mt_330 mt_331 mt_26 mt_332) rfl rfl rfl hdM_move ⟨Nat.le_of_ble_eq_true rfl, Nat.le_of_ble_eq_true rfl⟩) hK hP hD hS hA hZ (q0 := 0) (ci := 1) rfl rfl rfl hl.1 rfl (Nat.le_of_ble_eq_true rfl) dL_353 ⟨Nat.le_of_ble_eq_true rfl, Nat.le_of_ble_eq_true rfl⟩ (fun H locs hP hD hS => ?_)
                        refine lv_icmp_eq (tgt := 506) hx hb dL_356 (by decide) (fun c_66 => ?_) (fun c_66 => ?_)
                        · replace hf := it_t hf c_66
                          refine lv_iinc (v := (x3 + 4)) (lv' := [(3, .int (x3 + 4)), (0, .ref b), (1, .ref (a 0)), (2, .ref (b2 0))]) hx hb dL_506 hl (k := 3) rfl (congrArg (HAdd.hAdd _) (by decide : Int32.ofInt (4) = (4 : Int32))) (by decide) rfl (fun ls hl => ?_)
                          refine lv_goto (tgt := 18) hx hb dL_509 (by decide) ?_
                          exact ih (x3 + 4) q_62.2 q_65.2 hf _ _ hP hD hS _ (lv_sub hl [1, 2, 3, 0] rfl)
                        · replace hf := it_f hf c_66
                          refine lv_iconst (v := (0 : Int32)) hx hb dL_359 (by decide) ?_
                          exact absurd (Option.some.inj hf) (by decide)
                      · replace hf := it_f hf c_59
                        by_cases c_67 : ((xs x3.toNatClampNeg) &&& (15 : Int32)) = 9
                        · replace hf := it_t hf c_67
                          refine lv_tableIn (off := 329) (tgt := 361) hx hb dL_32 (by rw [c_67]; decide) (by rw [c_67]; decide) (by rw [c_67]; rfl) (by decide) ?_
                          refine lv_aload_n hx hb dL_361 rfl (lv_at hl 1 rfl) ?_
                          refine lv_aload_n hx hb dL_362 rfl (lv_at hl 0 rfl) ?_
                          refine lv_iload_n hx hb dL_363 rfl (lv_at hl 3 rfl) ?_
                          refine lv_iconst (v := (1 : Int32)) hx hb dL_364 (by decide) ?_
                          refine lv_iadd hx hb dL_365 ?_
                          obtain ⟨g_68, hf⟩ := gd_f hf
                          refine va_sld hx hb hX hbl hbA hS g_68 dL_366 ?_
                          obtain ⟨q_69, hq_69, hf⟩ := bd_s hf
                          refine xw_callL (kX_delete l dC dI a cI cZ tb K (xs (x3 + (1 : Int32)).toNatClampNeg) σ q_69.2 q_69.1 hq_69) ⟨hx, hb, hml, hown, hts⟩ (cwV 1 hts (gw_V mt_174 mt_175 mt_176 mt_25 mt_177) rfl rfl rfl hdX_delete ⟨Nat.le_of_ble_eq_true rfl, Nat.le_of_ble_eq_true rfl⟩) hK hP hD hS hA hZ (q0 := 0) (ci := 0) rfl rfl rfl hl.1 rfl (Nat.le_of_ble_eq_true rfl) dL_367 ⟨Nat.le_of_ble_eq_true rfl, Nat.le_of_ble_eq_true rfl⟩ (fun H locs hP hD hS => ?_)
                          refine lv_aload_n hx hb dL_370 rfl (lv_at hl 2 rfl) ?_
                          refine lv_aload_n hx hb dL_371 rfl (lv_at hl 0 rfl) ?_
                          refine lv_iload_n hx hb dL_372 rfl (lv_at hl 3 rfl) ?_
                          refine lv_iconst (v := (1 : Int32)) hx hb dL_373 (by decide) ?_
                          refine lv_iadd hx hb dL_374 ?_
                          obtain ⟨g_70, hf⟩ := gd_f hf
                          refine va_sld hx hb hX hbl hbA hS g_70 dL_375 ?_
                          obtain ⟨q_71, hq_71, hf⟩ := bd_s hf
                          refine xw_callR (kM_delete l dC dI b2 cI cZ tb K (xs (x3 + (1 : Int32)).toNatClampNeg) τ q_71.2 q_71.1 hq_71) ⟨hx, hb, hml, hown, hts⟩ (cwV 1 hts (gw_V mt_333 mt_334 mt_335 mt_26 mt_336) rfl rfl rfl hdM_delete ⟨Nat.le_of_ble_eq_true rfl, Nat.le_of_ble_eq_true rfl⟩) hK hP hD hS hA hZ (q0 := 0) (ci := 1) rfl rfl rfl hl.1 rfl (Nat.le_of_ble_eq_true rfl) dL_376 ⟨Nat.le_of_ble_eq_true rfl, Nat.le_of_ble_eq_true rfl⟩ (fun H locs hP hD hS => ?_)
                          refine lv_icmp_eq (tgt := 506) hx hb dL_379 (by decide) (fun c_72 => ?_) (fun c_72 => ?_)
                          · replace hf := it_t hf c_72
                            refine lv_iinc (v := (x3 + 4)) (lv' := [(3, .int (x3 + 4)), (0, .ref b), (1, .ref (a 0)), (2, .ref (b2 0))]) hx hb dL_506 hl (k := 3) rfl (congrArg (HAdd.hAdd _) (by decide : Int32.ofInt (4) = (4 : Int32))) (by decide) rfl (fun ls hl => ?_)
                            refine lv_goto (tgt := 18) hx hb dL_509 (by decide) ?_
                            exact ih (x3 + 4) q_69.2 q_71.2 hf _ _ hP hD hS _ (lv_sub hl [1, 2, 3, 0] rfl)
                          · replace hf := it_f hf c_72
                            refine lv_iconst (v := (0 : Int32)) hx hb dL_382 (by decide) ?_
                            exact absurd (Option.some.inj hf) (by decide)
                        · replace hf := it_f hf c_67
                          by_cases c_73 : ((xs x3.toNatClampNeg) &&& (15 : Int32)) = 10
                          · replace hf := it_t hf c_73
                            refine lv_tableIn (off := 352) (tgt := 384) hx hb dL_32 (by rw [c_73]; decide) (by rw [c_73]; decide) (by rw [c_73]; rfl) (by decide) ?_
                            refine lv_aload_n hx hb dL_384 rfl (lv_at hl 1 rfl) ?_
                            refine lv_aload_n hx hb dL_385 rfl (lv_at hl 0 rfl) ?_
                            refine lv_iload_n hx hb dL_386 rfl (lv_at hl 3 rfl) ?_
                            refine lv_iconst (v := (1 : Int32)) hx hb dL_387 (by decide) ?_
                            refine lv_iadd hx hb dL_388 ?_
                            obtain ⟨g_74, hf⟩ := gd_f hf
                            refine va_sld hx hb hX hbl hbA hS g_74 dL_389 ?_
                            refine lv_aload_n hx hb dL_390 rfl (lv_at hl 0 rfl) ?_
                            refine lv_iload_n hx hb dL_391 rfl (lv_at hl 3 rfl) ?_
                            refine lv_iconst (v := (2 : Int32)) hx hb dL_392 (by decide) ?_
                            refine lv_iadd hx hb dL_393 ?_
                            obtain ⟨g_75, hf⟩ := gd_f hf
                            refine va_sld hx hb hX hbl hbA hS g_75 dL_394 ?_
                            obtain ⟨q_76, hq_76, hf⟩ := bd_s hf
                            refine xw_callL (kX_times l dC dI a cI cZ tb K (xs (x3 + (1 : Int32)).toNatClampNeg) (xs (x3 + (2 : Int32)).toNatClampNeg) σ q_76.2 q_76.1 hq_76) ⟨hx, hb, hml, hown, hts⟩ (cwV 2 hts (gw_V mt_186 mt_187 mt_188 mt_25 mt_189) rfl rfl rfl hdX_times ⟨Nat.le_of_ble_eq_true rfl, Nat.le_of_ble_eq_true rfl⟩) hK hP hD hS hA hZ (q0 := 0) (ci := 0) rfl rfl rfl hl.1 rfl (Nat.le_of_ble_eq_true rfl) dL_395 ⟨Nat.le_of_ble_eq_true rfl, Nat.le_of_ble_eq_true rfl⟩ (fun H locs hP hD hS => ?_)
                            refine lv_aload_n hx hb dL_398 rfl (lv_at hl 2 rfl) ?_
                            refine lv_aload_n hx hb dL_399 rfl (lv_at hl 0 rfl) ?_
                            refine lv_iload_n hx hb dL_400 rfl (lv_at hl 3 rfl) ?_
                            refine lv_iconst (v := (1 : Int32)) hx hb dL_401 (by decide) ?_
                            refine lv_iadd hx hb dL_402 ?_
                            obtain ⟨g_77, hf⟩ := gd_f hf
                            refine va_sld hx hb hX hbl hbA hS g_77 dL_403 ?_
                            refine lv_aload_n hx hb dL_404 rfl (lv_at hl 0 rfl) ?_
                            refine lv_iload_n hx hb dL_405 rfl (lv_at hl 3 rfl) ?_
                            refine lv_iconst (v := (2 : Int32)) hx hb dL_406 (by decide) ?_
                            refine lv_iadd hx hb dL_407 ?_
                            obtain ⟨g_78, hf⟩ := gd_f hf
                            refine va_sld hx hb hX hbl hbA hS g_78 dL_408 ?_
                            obtain ⟨q_79, hq_79, hf⟩ := bd_s hf
                            refine xw_callR (kM_times l dC dI b2 cI cZ tb K (xs (x3 + (1 : Int32)).toNatClampNeg) (xs (x3 + (2 : Int32)).toNatClampNeg) τ q_79.2 q_79.1 hq_79) ⟨hx, hb, hml, hown, hts⟩ (cwV 2 hts (gw_V mt_337 mt_338 mt_339 mt_26 mt_340) rfl rfl rfl hdM_times ⟨Nat.le_of_ble_eq_true rfl, Nat.le_of_ble_eq_true rfl⟩) hK hP hD hS hA hZ (q0 := 0) (ci := 1) rfl rfl rfl hl.1 rfl (Nat.le_of_ble_eq_true rfl) dL_409 ⟨Nat.le_of_ble_eq_true rfl, Nat.le_of_ble_eq_true rfl⟩ (fun H locs hP hD hS => ?_)
                            refine lv_icmp_eq (tgt := 506) hx hb dL_412 (by decide) (fun c_80 => ?_) (fun c_80 => ?_)
                            · replace hf := it_t hf c_80
                              refine lv_iinc (v := (x3 + 4)) (lv' := [(3, .int (x3 + 4)), (0, .ref b), (1, .ref (a 0)), (2, .ref (b2 0))]) hx hb dL_506 hl (k := 3) rfl (congrArg (HAdd.hAdd _) (by decide : Int32.ofInt (4) = (4 : Int32))) (by decide) rfl (fun ls hl => ?_)
                              refine lv_goto (tgt := 18) hx hb dL_509 (by decide) ?_
                              exact ih (x3 + 4) q_76.2 q_79.2 hf _ _ hP hD hS _ (lv_sub hl [1, 2, 3, 0] rfl)
                            · replace hf := it_f hf c_80
                              refine lv_iconst (v := (0 : Int32)) hx hb dL_415 (by decide) ?_
                              exact absurd (Option.some.inj hf) (by decide)
                          · replace hf := it_f hf c_73
                            by_cases c_81 : ((xs x3.toNatClampNeg) &&& (15 : Int32)) = 11
                            · replace hf := it_t hf c_81
                              refine lv_tableIn (off := 385) (tgt := 417) hx hb dL_32 (by rw [c_81]; decide) (by rw [c_81]; decide) (by rw [c_81]; rfl) (by decide) ?_
                              refine lv_aload_n hx hb dL_417 rfl (lv_at hl 1 rfl) ?_
                              refine lv_aload_n hx hb dL_418 rfl (lv_at hl 0 rfl) ?_
                              refine lv_iload_n hx hb dL_419 rfl (lv_at hl 3 rfl) ?_
                              refine lv_iconst (v := (1 : Int32)) hx hb dL_420 (by decide) ?_
                              refine lv_iadd hx hb dL_421 ?_
                              obtain ⟨g_82, hf⟩ := gd_f hf
                              refine va_sld hx hb hX hbl hbA hS g_82 dL_422 ?_
                              obtain ⟨q_83, hq_83, hf⟩ := bd_s hf
                              refine xw_callL (kX_orphan l dC dI a cI cZ tb K (xs (x3 + (1 : Int32)).toNatClampNeg) σ q_83.2 q_83.1 hq_83) ⟨hx, hb, hml, hown, hts⟩ (cwV 1 hts (gw_V mt_190 mt_191 mt_192 mt_25 mt_193) rfl rfl rfl hdX_orphan ⟨Nat.le_of_ble_eq_true rfl, Nat.le_of_ble_eq_true rfl⟩) hK hP hD hS hA hZ (q0 := 0) (ci := 0) rfl rfl rfl hl.1 rfl (Nat.le_of_ble_eq_true rfl) dL_423 ⟨Nat.le_of_ble_eq_true rfl, Nat.le_of_ble_eq_true rfl⟩ (fun H locs hP hD hS => ?_)
                              refine lv_aload_n hx hb dL_426 rfl (lv_at hl 2 rfl) ?_
                              refine lv_aload_n hx hb dL_427 rfl (lv_at hl 0 rfl) ?_
                              refine lv_iload_n hx hb dL_428 rfl (lv_at hl 3 rfl) ?_
                              refine lv_iconst (v := (1 : Int32)) hx hb dL_429 (by decide) ?_
                              refine lv_iadd hx hb dL_430 ?_
                              obtain ⟨g_84, hf⟩ := gd_f hf
                              refine va_sld hx hb hX hbl hbA hS g_84 dL_431 ?_
                              obtain ⟨q_85, hq_85, hf⟩ := bd_s hf
                              refine xw_callR (kM_orphan l dC dI b2 cI cZ tb K (xs (x3 + (1 : Int32)).toNatClampNeg) τ q_85.2 q_85.1 hq_85) ⟨hx, hb, hml, hown, hts⟩ (cwV 1 hts (gw_V mt_341 mt_342 mt_343 mt_26 mt_344) rfl rfl rfl hdM_orphan ⟨Nat.le_of_ble_eq_true rfl, Nat.le_of_ble_eq_true rfl⟩) hK hP hD hS hA hZ (q0 := 0) (ci := 1) rfl rfl rfl hl.1 rfl (Nat.le_of_ble_eq_true rfl) dL_432 ⟨Nat.le_of_ble_eq_true rfl, Nat.le_of_ble_eq_true rfl⟩ (fun H locs hP hD hS => ?_)
                              refine lv_icmp_eq (tgt := 506) hx hb dL_435 (by decide) (fun c_86 => ?_) (fun c_86 => ?_)
                              · replace hf := it_t hf c_86
                                refine lv_iinc (v := (x3 + 4)) (lv' := [(3, .int (x3 + 4)), (0, .ref b), (1, .ref (a 0)), (2, .ref (b2 0))]) hx hb dL_506 hl (k := 3) rfl (congrArg (HAdd.hAdd _) (by decide : Int32.ofInt (4) = (4 : Int32))) (by decide) rfl (fun ls hl => ?_)
                                refine lv_goto (tgt := 18) hx hb dL_509 (by decide) ?_
                                exact ih (x3 + 4) q_83.2 q_85.2 hf _ _ hP hD hS _ (lv_sub hl [1, 2, 3, 0] rfl)
                              · replace hf := it_f hf c_86
                                refine lv_iconst (v := (0 : Int32)) hx hb dL_438 (by decide) ?_
                                exact absurd (Option.some.inj hf) (by decide)
                            · replace hf := it_f hf c_81
                              by_cases c_87 : ((xs x3.toNatClampNeg) &&& (15 : Int32)) = 12
                              · replace hf := it_t hf c_87
                                refine lv_tableIn (off := 408) (tgt := 440) hx hb dL_32 (by rw [c_87]; decide) (by rw [c_87]; decide) (by rw [c_87]; rfl) (by decide) ?_
                                refine lv_aload_n hx hb dL_440 rfl (lv_at hl 1 rfl) ?_
                                refine lv_aload_n hx hb dL_441 rfl (lv_at hl 0 rfl) ?_
                                refine lv_iload_n hx hb dL_442 rfl (lv_at hl 3 rfl) ?_
                                refine lv_iconst (v := (1 : Int32)) hx hb dL_443 (by decide) ?_
                                refine lv_iadd hx hb dL_444 ?_
                                obtain ⟨g_88, hf⟩ := gd_f hf
                                refine va_sld hx hb hX hbl hbA hS g_88 dL_445 ?_
                                obtain ⟨q_89, hq_89, hf⟩ := bd_s hf
                                refine xw_callL (kX_house l dC dI a cI cZ tb K (xs (x3 + (1 : Int32)).toNatClampNeg) σ q_89.2 q_89.1 hq_89) ⟨hx, hb, hml, hown, hts⟩ (cwV 1 hts (gw_V mt_198 mt_199 mt_200 mt_25 mt_201) rfl rfl rfl hdX_house ⟨Nat.le_of_ble_eq_true rfl, Nat.le_of_ble_eq_true rfl⟩) hK hP hD hS hA hZ (q0 := 0) (ci := 0) rfl rfl rfl hl.1 rfl (Nat.le_of_ble_eq_true rfl) dL_446 ⟨Nat.le_of_ble_eq_true rfl, Nat.le_of_ble_eq_true rfl⟩ (fun H locs hP hD hS => ?_)
                                refine lv_aload_n hx hb dL_449 rfl (lv_at hl 2 rfl) ?_
                                refine lv_aload_n hx hb dL_450 rfl (lv_at hl 0 rfl) ?_
                                refine lv_iload_n hx hb dL_451 rfl (lv_at hl 3 rfl) ?_
                                refine lv_iconst (v := (1 : Int32)) hx hb dL_452 (by decide) ?_
                                refine lv_iadd hx hb dL_453 ?_
                                obtain ⟨g_90, hf⟩ := gd_f hf
                                refine va_sld hx hb hX hbl hbA hS g_90 dL_454 ?_
                                obtain ⟨q_91, hq_91, hf⟩ := bd_s hf
                                refine xw_callR (kM_house l dC dI b2 cI cZ tb K (xs (x3 + (1 : Int32)).toNatClampNeg) τ q_91.2 q_91.1 hq_91) ⟨hx, hb, hml, hown, hts⟩ (cwV 1 hts (gw_V mt_345 mt_346 mt_347 mt_26 mt_348) rfl rfl rfl hdM_house ⟨Nat.le_of_ble_eq_true rfl, Nat.le_of_ble_eq_true rfl⟩) hK hP hD hS hA hZ (q0 := 0) (ci := 1) rfl rfl rfl hl.1 rfl (Nat.le_of_ble_eq_true rfl) dL_455 ⟨Nat.le_of_ble_eq_true rfl, Nat.le_of_ble_eq_true rfl⟩ (fun H locs hP hD hS => ?_)
                                refine lv_icmp_eq (tgt := 506) hx hb dL_458 (by decide) (fun c_92 => ?_) (fun c_92 => ?_)
                                · replace hf := it_t hf c_92
                                  refine lv_iinc (v := (x3 + 4)) (lv' := [(3, .int (x3 + 4)), (0, .ref b), (1, .ref (a 0)), (2, .ref (b2 0))]) hx hb dL_506 hl (k := 3) rfl (congrArg (HAdd.hAdd _) (by decide : Int32.ofInt (4) = (4 : Int32))) (by decide) rfl (fun ls hl => ?_)
                                  refine lv_goto (tgt := 18) hx hb dL_509 (by decide) ?_
                                  exact ih (x3 + 4) q_89.2 q_91.2 hf _ _ hP hD hS _ (lv_sub hl [1, 2, 3, 0] rfl)
                                · replace hf := it_f hf c_92
                                  refine lv_iconst (v := (0 : Int32)) hx hb dL_461 (by decide) ?_
                                  exact absurd (Option.some.inj hf) (by decide)
                              · replace hf := it_f hf c_87
                                by_cases c_93 : ((xs x3.toNatClampNeg) &&& (15 : Int32)) = 13
                                · replace hf := it_t hf c_93
                                  refine lv_tableIn (off := 431) (tgt := 463) hx hb dL_32 (by rw [c_93]; decide) (by rw [c_93]; decide) (by rw [c_93]; rfl) (by decide) ?_
                                  refine lv_aload_n hx hb dL_463 rfl (lv_at hl 1 rfl) ?_
                                  refine lv_aload_n hx hb dL_464 rfl (lv_at hl 0 rfl) ?_
                                  refine lv_iload_n hx hb dL_465 rfl (lv_at hl 3 rfl) ?_
                                  refine lv_iconst (v := (1 : Int32)) hx hb dL_466 (by decide) ?_
                                  refine lv_iadd hx hb dL_467 ?_
                                  obtain ⟨g_94, hf⟩ := gd_f hf
                                  refine va_sld hx hb hX hbl hbA hS g_94 dL_468 ?_
                                  refine lv_aload_n hx hb dL_469 rfl (lv_at hl 0 rfl) ?_
                                  refine lv_iload_n hx hb dL_470 rfl (lv_at hl 3 rfl) ?_
                                  refine lv_iconst (v := (2 : Int32)) hx hb dL_471 (by decide) ?_
                                  refine lv_iadd hx hb dL_472 ?_
                                  obtain ⟨g_95, hf⟩ := gd_f hf
                                  refine va_sld hx hb hX hbl hbA hS g_95 dL_473 ?_
                                  refine lv_aload_n hx hb dL_474 rfl (lv_at hl 0 rfl) ?_
                                  refine lv_iload_n hx hb dL_475 rfl (lv_at hl 3 rfl) ?_
                                  refine lv_iconst (v := (3 : Int32)) hx hb dL_476 (by decide) ?_
                                  refine lv_iadd hx hb dL_477 ?_
                                  obtain ⟨g_96, hf⟩ := gd_f hf
                                  refine va_sld hx hb hX hbl hbA hS g_96 dL_478 ?_
                                  obtain ⟨q_97, hq_97, hf⟩ := bd_s hf
                                  refine xw_callL (kX_goes l dC dI a cI cZ tb K (xs (x3 + (1 : Int32)).toNatClampNeg) (xs (x3 + (2 : Int32)).toNatClampNeg) (xs (x3 + (3 : Int32)).toNatClampNeg) σ q_97.2 q_97.1 hq_97) ⟨hx, hb, hml, hown, hts⟩ (cwV 3 hts (gw_V mt_202 mt_203 mt_204 mt_25 mt_205) rfl rfl rfl hdX_goes ⟨Nat.le_of_ble_eq_true rfl, Nat.le_of_ble_eq_true rfl⟩) hK hP hD hS hA hZ (q0 := 0) (ci := 0) rfl rfl rfl hl.1 rfl (Nat.le_of_ble_eq_true rfl) dL_479 ⟨Nat.le_of_ble_eq_true rfl, Nat.le_of_ble_eq_true rfl⟩ (fun H locs hP hD hS => ?_)
                                  refine lv_aload_n hx hb dL_482 rfl (lv_at hl 2 rfl) ?_
                                  refine lv_aload_n hx hb dL_483 rfl (lv_at hl 0 rfl) ?_
                                  refine lv_iload_n hx hb dL_484 rfl (lv_at hl 3 rfl) ?_
                                  refine lv_iconst (v := (1 : Int32)) hx hb dL_485 (by decide) ?_
                                  refine lv_iadd hx hb dL_486 ?_
                                  obtain ⟨g_98, hf⟩ := gd_f hf
                                  refine va_sld hx hb hX hbl hbA hS g_98 dL_487 ?_
                                  refine lv_aload_n hx hb dL_488 rfl (lv_at hl 0 rfl) ?_
                                  refine lv_iload_n hx hb dL_489 rfl (lv_at hl 3 rfl) ?_
                                  refine lv_iconst (v := (2 : Int32)) hx hb dL_490 (by decide) ?_
                                  refine lv_iadd hx hb dL_491 ?_
                                  obtain ⟨g_99, hf⟩ := gd_f hf
                                  refine va_sld hx hb hX hbl hbA hS g_99 dL_492 ?_
                                  refine lv_aload_n hx hb dL_493 rfl (lv_at hl 0 rfl) ?_
                                  refine lv_iload_n hx hb dL_494 rfl (lv_at hl 3 rfl) ?_
                                  refine lv_iconst (v := (3 : Int32)) hx hb dL_495 (by decide) ?_
                                  refine lv_iadd hx hb dL_496 ?_
                                  obtain ⟨g_100, hf⟩ := gd_f hf
                                  refine va_sld hx hb hX hbl hbA hS g_100 dL_497 ?_
                                  obtain ⟨q_101, hq_101, hf⟩ := bd_s hf
                                  refine xw_callR (kM_goes l dC dI b2 cI cZ tb K (xs (x3 + (1 : Int32)).toNatClampNeg) (xs (x3 + (2 : Int32)).toNatClampNeg) (xs (x3 + (3 : Int32)).toNatClampNeg) τ q_101.2 q_101.1 hq_101) ⟨hx, hb, hml, hown, hts⟩ (cwV 3 hts (gw_V mt_349 mt_350 mt_351 mt_26 mt_352) rfl rfl rfl hdM_goes ⟨Nat.le_of_ble_eq_true rfl, Nat.le_of_ble_eq_true rfl⟩) hK hP hD hS hA hZ (q0 := 0) (ci := 1) rfl rfl rfl hl.1 rfl (Nat.le_of_ble_eq_true rfl) dL_498 ⟨Nat.le_of_ble_eq_true rfl, Nat.le_of_ble_eq_true rfl⟩ (fun H locs hP hD hS => ?_)
                                  refine lv_icmp_eq (tgt := 506) hx hb dL_501 (by decide) (fun c_102 => ?_) (fun c_102 => ?_)
                                  · replace hf := it_t hf c_102
                                    refine lv_iinc (v := (x3 + 4)) (lv' := [(3, .int (x3 + 4)), (0, .ref b), (1, .ref (a 0)), (2, .ref (b2 0))]) hx hb dL_506 hl (k := 3) rfl (congrArg (HAdd.hAdd _) (by decide : Int32.ofInt (4) = (4 : Int32))) (by decide) rfl (fun ls hl => ?_)
                                    refine lv_goto (tgt := 18) hx hb dL_509 (by decide) ?_
                                    exact ih (x3 + 4) q_97.2 q_101.2 hf _ _ hP hD hS _ (lv_sub hl [1, 2, 3, 0] rfl)
                                  · replace hf := it_f hf c_102
                                    refine lv_iconst (v := (0 : Int32)) hx hb dL_504 (by decide) ?_
                                    exact absurd (Option.some.inj hf) (by decide)
                                · replace hf := it_f hf c_93
                                  refine lv_tableOut (tgt := 506) hx hb dL_32 (by have n_0 := lv_neT c_3 (a := 0) (by decide); have n_1 := lv_neT c_7 (a := 1) (by decide); have n_2 := lv_neT c_17 (a := 2) (by decide); have n_3 := lv_neT c_25 (a := 3) (by decide); have n_4 := lv_neT c_33 (a := 4) (by decide); have n_5 := lv_neT c_39 (a := 5) (by decide); have n_6 := lv_neT c_47 (a := 6) (by decide); have n_7 := lv_neT c_53 (a := 7) (by decide); have n_8 := lv_neT c_59 (a := 8) (by decide); have n_9 := lv_neT c_67 (a := 9) (by decide); have n_10 := lv_neT c_73 (a := 10) (by decide); have n_11 := lv_neT c_81 (a := 11) (by decide); have n_12 := lv_neT c_87 (a := 12) (by decide); have n_13 := lv_neT c_93 (a := 13) (by decide); omega) (by decide) ?_
                                  refine lv_iinc (v := (x3 + 4)) (lv' := [(3, .int (x3 + 4)), (0, .ref b), (1, .ref (a 0)), (2, .ref (b2 0))]) hx hb dL_506 hl (k := 3) rfl (congrArg (HAdd.hAdd _) (by decide : Int32.ofInt (4) = (4 : Int32))) (by decide) rfl (fun ls hl => ?_)
                                  refine lv_goto (tgt := 18) hx hb dL_509 (by decide) ?_
                                  exact ih (x3 + 4) σ τ hf _ _ hP hD hS _ (lv_sub hl [1, 2, 3, 0] rfl)
