-- ===== PART A: goes FIRST, ahead of the names: the tables' words, and 'selects' of the private methods out of them =====
/-- a private method of a class that the tables say can be made, by its rows of tables_1 -/
def lw_okq (q : MethodName × Nat) : Prop := (q.1.cls ≠ "java/lang/invoke/MethodHandle" ∧ q.1.cls ≠ "java/lang/invoke/VarHandle") ∧ Cond.instantiable q.1.cls q.2 ∈ tables_1 ∧ Cond.privateMethod q.1 ∈ tables_1 ∧ Cond.instanceMethod q.1 ∈ tables_1
theorem lw_p0 : lw_okq (⟨"LinkKeeper", "hasRoomFor", "(IIII)Z"⟩, 13) := ⟨⟨by decide +kernel, by decide +kernel⟩, List.mem_of_getElem? (i := 6) (by decide +kernel), List.mem_of_getElem? (i := 64) (by decide +kernel), List.mem_of_getElem? (i := 65) (by decide +kernel)⟩
theorem lw_p1 : lw_okq (⟨"LinkKeeper", "isLive", "(I)Z"⟩, 13) := ⟨⟨by decide +kernel, by decide +kernel⟩, List.mem_of_getElem? (i := 6) (by decide +kernel), List.mem_of_getElem? (i := 68) (by decide +kernel), List.mem_of_getElem? (i := 69) (by decide +kernel)⟩
theorem lw_p2 : lw_okq (⟨"LinkKeeper", "isRecord", "(I)Z"⟩, 13) := ⟨⟨by decide +kernel, by decide +kernel⟩, List.mem_of_getElem? (i := 6) (by decide +kernel), List.mem_of_getElem? (i := 72) (by decide +kernel), List.mem_of_getElem? (i := 73) (by decide +kernel)⟩
theorem lw_p3 : lw_okq (⟨"LinkKeeper", "mayGoTo", "(III)Z"⟩, 13) := ⟨⟨by decide +kernel, by decide +kernel⟩, List.mem_of_getElem? (i := 6) (by decide +kernel), List.mem_of_getElem? (i := 76) (by decide +kernel), List.mem_of_getElem? (i := 77) (by decide +kernel)⟩
theorem lw_p4 : lw_okq (⟨"LinkKeeper", "liesIn", "(II)Z"⟩, 13) := ⟨⟨by decide +kernel, by decide +kernel⟩, List.mem_of_getElem? (i := 6) (by decide +kernel), List.mem_of_getElem? (i := 85) (by decide +kernel), List.mem_of_getElem? (i := 86) (by decide +kernel)⟩
theorem lw_p5 : lw_okq (⟨"LinkKeeper", "keepRefusedWay", "(II)V"⟩, 13) := ⟨⟨by decide +kernel, by decide +kernel⟩, List.mem_of_getElem? (i := 6) (by decide +kernel), List.mem_of_getElem? (i := 89) (by decide +kernel), List.mem_of_getElem? (i := 90) (by decide +kernel)⟩
theorem lw_p6 : lw_okq (⟨"LinkKeeper", "addLink", "(III)V"⟩, 13) := ⟨⟨by decide +kernel, by decide +kernel⟩, List.mem_of_getElem? (i := 6) (by decide +kernel), List.mem_of_getElem? (i := 93) (by decide +kernel), List.mem_of_getElem? (i := 94) (by decide +kernel)⟩
theorem lw_p7 : lw_okq (⟨"LinkKeeper", "noteChange", "(I)V"⟩, 13) := ⟨⟨by decide +kernel, by decide +kernel⟩, List.mem_of_getElem? (i := 6) (by decide +kernel), List.mem_of_getElem? (i := 97) (by decide +kernel), List.mem_of_getElem? (i := 98) (by decide +kernel)⟩
theorem lw_p8 : lw_okq (⟨"LinkKeeper", "sendToHeading", "(II)V"⟩, 13) := ⟨⟨by decide +kernel, by decide +kernel⟩, List.mem_of_getElem? (i := 6) (by decide +kernel), List.mem_of_getElem? (i := 105) (by decide +kernel), List.mem_of_getElem? (i := 106) (by decide +kernel)⟩
theorem lw_p9 : lw_okq (⟨"LinkKeeper", "findLink", "(III)I"⟩, 13) := ⟨⟨by decide +kernel, by decide +kernel⟩, List.mem_of_getElem? (i := 6) (by decide +kernel), List.mem_of_getElem? (i := 109) (by decide +kernel), List.mem_of_getElem? (i := 110) (by decide +kernel)⟩
theorem lw_p10 : lw_okq (⟨"LinkKeeper", "removeLink", "(I)V"⟩, 13) := ⟨⟨by decide +kernel, by decide +kernel⟩, List.mem_of_getElem? (i := 6) (by decide +kernel), List.mem_of_getElem? (i := 116) (by decide +kernel), List.mem_of_getElem? (i := 117) (by decide +kernel)⟩
theorem lw_p11 : lw_okq (⟨"LinkKeeper", "findBroken", "(I)I"⟩, 13) := ⟨⟨by decide +kernel, by decide +kernel⟩, List.mem_of_getElem? (i := 6) (by decide +kernel), List.mem_of_getElem? (i := 127) (by decide +kernel), List.mem_of_getElem? (i := 128) (by decide +kernel)⟩
theorem lw_p12 : lw_okq (⟨"LinkKeeper", "countHostedBy", "(I)I"⟩, 13) := ⟨⟨by decide +kernel, by decide +kernel⟩, List.mem_of_getElem? (i := 6) (by decide +kernel), List.mem_of_getElem? (i := 155) (by decide +kernel), List.mem_of_getElem? (i := 156) (by decide +kernel)⟩
theorem lw_p13 : lw_okq (⟨"LinkKeeper", "removeLinksOf", "(I)V"⟩, 13) := ⟨⟨by decide +kernel, by decide +kernel⟩, List.mem_of_getElem? (i := 6) (by decide +kernel), List.mem_of_getElem? (i := 159) (by decide +kernel), List.mem_of_getElem? (i := 160) (by decide +kernel)⟩
theorem lw_p14 : lw_okq (⟨"LinkKeeper", "isLinked", "(I)Z"⟩, 13) := ⟨⟨by decide +kernel, by decide +kernel⟩, List.mem_of_getElem? (i := 6) (by decide +kernel), List.mem_of_getElem? (i := 171) (by decide +kernel), List.mem_of_getElem? (i := 172) (by decide +kernel)⟩
theorem lw_p15 : lw_okq (⟨"LinkKeeperModel", "isLive", "(I)Z"⟩, 14) := ⟨⟨by decide +kernel, by decide +kernel⟩, List.mem_of_getElem? (i := 183) (by decide +kernel), List.mem_of_getElem? (i := 240) (by decide +kernel), List.mem_of_getElem? (i := 241) (by decide +kernel)⟩
def lw_privs_1 : List (MethodName × Nat) := [(⟨"LinkKeeper", "hasRoomFor", "(IIII)Z"⟩, 13), (⟨"LinkKeeper", "isLive", "(I)Z"⟩, 13), (⟨"LinkKeeper", "isRecord", "(I)Z"⟩, 13), (⟨"LinkKeeper", "mayGoTo", "(III)Z"⟩, 13), (⟨"LinkKeeper", "liesIn", "(II)Z"⟩, 13), (⟨"LinkKeeper", "keepRefusedWay", "(II)V"⟩, 13), (⟨"LinkKeeper", "addLink", "(III)V"⟩, 13), (⟨"LinkKeeper", "noteChange", "(I)V"⟩, 13), (⟨"LinkKeeper", "sendToHeading", "(II)V"⟩, 13), (⟨"LinkKeeper", "findLink", "(III)I"⟩, 13), (⟨"LinkKeeper", "removeLink", "(I)V"⟩, 13), (⟨"LinkKeeper", "findBroken", "(I)I"⟩, 13), (⟨"LinkKeeper", "countHostedBy", "(I)I"⟩, 13), (⟨"LinkKeeper", "removeLinksOf", "(I)V"⟩, 13), (⟨"LinkKeeper", "isLinked", "(I)Z"⟩, 13), (⟨"LinkKeeperModel", "isLive", "(I)Z"⟩, 14)]
theorem lw_r1 : ∀ q ∈ lw_privs_1, lw_okq q := List.forall_mem_cons.mpr ⟨lw_p0, List.forall_mem_cons.mpr ⟨lw_p1, List.forall_mem_cons.mpr ⟨lw_p2, List.forall_mem_cons.mpr ⟨lw_p3, List.forall_mem_cons.mpr ⟨lw_p4, List.forall_mem_cons.mpr ⟨lw_p5, List.forall_mem_cons.mpr ⟨lw_p6, List.forall_mem_cons.mpr ⟨lw_p7, List.forall_mem_cons.mpr ⟨lw_p8, List.forall_mem_cons.mpr ⟨lw_p9, List.forall_mem_cons.mpr ⟨lw_p10, List.forall_mem_cons.mpr ⟨lw_p11, List.forall_mem_cons.mpr ⟨lw_p12, List.forall_mem_cons.mpr ⟨lw_p13, List.forall_mem_cons.mpr ⟨lw_p14, List.forall_mem_cons.mpr ⟨lw_p15, fun _ h => absurd h List.not_mem_nil⟩⟩⟩⟩⟩⟩⟩⟩⟩⟩⟩⟩⟩⟩⟩⟩
theorem lw_p16 : lw_okq (⟨"LinkKeeperModel", "count", "(II)I"⟩, 14) := ⟨⟨by decide +kernel, by decide +kernel⟩, List.mem_of_getElem? (i := 183) (by decide +kernel), List.mem_of_getElem? (i := 247) (by decide +kernel), List.mem_of_getElem? (i := 248) (by decide +kernel)⟩
theorem lw_p17 : lw_okq (⟨"LinkKeeperModel", "find", "(III)I"⟩, 14) := ⟨⟨by decide +kernel, by decide +kernel⟩, List.mem_of_getElem? (i := 183) (by decide +kernel), List.mem_of_getElem? (i := 254) (by decide +kernel), List.mem_of_getElem? (i := 255) (by decide +kernel)⟩
theorem lw_p18 : lw_okq (⟨"LinkKeeperModel", "liesIn", "(II)Z"⟩, 14) := ⟨⟨by decide +kernel, by decide +kernel⟩, List.mem_of_getElem? (i := 183) (by decide +kernel), List.mem_of_getElem? (i := 258) (by decide +kernel), List.mem_of_getElem? (i := 259) (by decide +kernel)⟩
theorem lw_p19 : lw_okq (⟨"LinkKeeperModel", "hostOf", "(I)I"⟩, 14) := ⟨⟨by decide +kernel, by decide +kernel⟩, List.mem_of_getElem? (i := 183) (by decide +kernel), List.mem_of_getElem? (i := 262) (by decide +kernel), List.mem_of_getElem? (i := 263) (by decide +kernel)⟩
theorem lw_p20 : lw_okq (⟨"LinkKeeperModel", "changed", "(I)V"⟩, 14) := ⟨⟨by decide +kernel, by decide +kernel⟩, List.mem_of_getElem? (i := 183) (by decide +kernel), List.mem_of_getElem? (i := 266) (by decide +kernel), List.mem_of_getElem? (i := 267) (by decide +kernel)⟩
theorem lw_p21 : lw_okq (⟨"LinkKeeperModel", "drop", "(I)V"⟩, 14) := ⟨⟨by decide +kernel, by decide +kernel⟩, List.mem_of_getElem? (i := 183) (by decide +kernel), List.mem_of_getElem? (i := 274) (by decide +kernel), List.mem_of_getElem? (i := 275) (by decide +kernel)⟩
theorem lw_p22 : lw_okq (⟨"LinkKeeperModel", "brokenAt", "(I)I"⟩, 14) := ⟨⟨by decide +kernel, by decide +kernel⟩, List.mem_of_getElem? (i := 183) (by decide +kernel), List.mem_of_getElem? (i := 282) (by decide +kernel), List.mem_of_getElem? (i := 283) (by decide +kernel)⟩
theorem lw_p23 : lw_okq (⟨"LinkKeeperModel", "isBroken", "(I)Z"⟩, 14) := ⟨⟨by decide +kernel, by decide +kernel⟩, List.mem_of_getElem? (i := 183) (by decide +kernel), List.mem_of_getElem? (i := 286) (by decide +kernel), List.mem_of_getElem? (i := 287) (by decide +kernel)⟩
def lw_privs_2 : List (MethodName × Nat) := [(⟨"LinkKeeperModel", "count", "(II)I"⟩, 14), (⟨"LinkKeeperModel", "find", "(III)I"⟩, 14), (⟨"LinkKeeperModel", "liesIn", "(II)Z"⟩, 14), (⟨"LinkKeeperModel", "hostOf", "(I)I"⟩, 14), (⟨"LinkKeeperModel", "changed", "(I)V"⟩, 14), (⟨"LinkKeeperModel", "drop", "(I)V"⟩, 14), (⟨"LinkKeeperModel", "brokenAt", "(I)I"⟩, 14), (⟨"LinkKeeperModel", "isBroken", "(I)Z"⟩, 14)]
theorem lw_r2 : ∀ q ∈ lw_privs_2, lw_okq q := List.forall_mem_cons.mpr ⟨lw_p16, List.forall_mem_cons.mpr ⟨lw_p17, List.forall_mem_cons.mpr ⟨lw_p18, List.forall_mem_cons.mpr ⟨lw_p19, List.forall_mem_cons.mpr ⟨lw_p20, List.forall_mem_cons.mpr ⟨lw_p21, List.forall_mem_cons.mpr ⟨lw_p22, List.forall_mem_cons.mpr ⟨lw_p23, fun _ h => absurd h List.not_mem_nil⟩⟩⟩⟩⟩⟩⟩⟩
def lw_privs : List (MethodName × Nat) := lw_privs_1 ++ (lw_privs_2)
def lw_tbl : List Cond := k2_sels lw_privs ++ tables_1
theorem lw_privs_ok : ∀ q ∈ lw_privs, lw_okq q := by
  show ∀ q ∈ lw_privs_1 ++ (lw_privs_2), lw_okq q
  exact List.forall_mem_append.mpr ⟨lw_r1, lw_r2⟩

/-- the good words -/
def lw_g : List Cond := lw_tbl.filter goodWord
def RX : String := "LinkKeeper"
def TX : u_T := fun k => match k with
  | 0 => ("LinkKeeper", "live", "[Z", true)
  | 1 => ("LinkKeeper", "houses", "[I", true)
  | 2 => ("LinkKeeper", "hosts", "[I", true)
  | 3 => ("LinkKeeper", "changeCounts", "[I", true)
  | 4 => ("LinkKeeper", "changeMoments", "[I", true)
  | 5 => ("LinkKeeper", "records", "I", false)
  | 6 => ("LinkKeeper", "linkFrom", "[I", true)
  | 7 => ("LinkKeeper", "linkField", "[I", true)
  | 8 => ("LinkKeeper", "linkTo", "[I", true)
  | 9 => ("LinkKeeper", "links", "I", false)
  | 10 => ("LinkKeeper", "refusedWay", "[I", true)
  | 11 => ("LinkKeeper", "refusedWayLength", "I", false)
  | _ => ("LinkKeeper", "moment", "I", false)
def tyX : Nat → FieldType := fun k => match k with
  | 0 => .array .boolean
  | 1 => .array .int
  | 2 => .array .int
  | 3 => .array .int
  | 4 => .array .int
  | 5 => .int
  | 6 => .array .int
  | 7 => .array .int
  | 8 => .array .int
  | 9 => .int
  | 10 => .array .int
  | 11 => .int
  | _ => .int
theorem nmX : ∀ a, a < 13 → ∀ b, b < 13 → a ≠ b → (TX a).2.1 ≠ (TX b).2.1 := by decide +kernel
theorem tyX_ok : ∀ k, k < 13 → parseFieldDescriptor (TX k).2.2.1 = some (tyX k) := by decide +kernel
theorem inX : ∀ w ∈ u_ws RX TX 13, w ∈ lw_g := by decide +kernel
def RM : String := "LinkKeeperModel"
def TM : u_T := fun k => match k with
  | 0 => ("LinkKeeperModel", "thrown", "I", false)
  | 1 => ("LinkKeeperModel", "records", "I", false)
  | 2 => ("LinkKeeperModel", "live", "[Z", true)
  | 3 => ("LinkKeeperModel", "houses", "[I", true)
  | 4 => ("LinkKeeperModel", "hadHost", "[I", true)
  | 5 => ("LinkKeeperModel", "times", "[I", true)
  | 6 => ("LinkKeeperModel", "timeCount", "[I", true)
  | 7 => ("LinkKeeperModel", "moment", "I", false)
  | 8 => ("LinkKeeperModel", "links", "I", false)
  | 9 => ("LinkKeeperModel", "from", "[I", true)
  | 10 => ("LinkKeeperModel", "field", "[I", true)
  | 11 => ("LinkKeeperModel", "to", "[I", true)
  | 12 => ("LinkKeeperModel", "ring", "[I", true)
  | _ => ("LinkKeeperModel", "ringLength", "I", false)
def tyM : Nat → FieldType := fun k => match k with
  | 0 => .int
  | 1 => .int
  | 2 => .array .boolean
  | 3 => .array .int
  | 4 => .array .int
  | 5 => .array .int
  | 6 => .array .int
  | 7 => .int
  | 8 => .int
  | 9 => .array .int
  | 10 => .array .int
  | 11 => .array .int
  | 12 => .array .int
  | _ => .int
theorem nmM : ∀ a, a < 14 → ∀ b, b < 14 → a ≠ b → (TM a).2.1 ≠ (TM b).2.1 := by decide +kernel
theorem tyM_ok : ∀ k, k < 14 → parseFieldDescriptor (TM k).2.2.1 = some (tyM k) := by decide +kernel
theorem inM : ∀ w ∈ u_ws RM TM 14, w ∈ lw_g := by decide +kernel
def RL : String := "LinkKeeperLaw"
abbrev vwCl : List vw_C := [(RX, TX, 13), (RM, TM, 14)]
abbrev cX_init : ByteArray := prog_1_method_1_code
def yX_init : MethodName := ⟨RX, "<init>", "()V"⟩
abbrev wdX_init : List Cond := .code yX_init cX_init 1 none :: lw_g
abbrev cX_record : ByteArray := prog_1_method_2_code
def yX_record : MethodName := ⟨RX, "record", "()I"⟩
abbrev wdX_record : List Cond := .code yX_record cX_record 1 (some .int) :: lw_g
abbrev cX_link : ByteArray := prog_1_method_3_code
def yX_link : MethodName := ⟨RX, "link", "(III)I"⟩
abbrev wdX_link : List Cond := .code yX_link cX_link 4 (some .int) :: lw_g
abbrev cX_hasRoomFor : ByteArray := prog_1_method_19_code
def yX_hasRoomFor : MethodName := ⟨RX, "hasRoomFor", "(IIII)Z"⟩
abbrev wdX_hasRoomFor : List Cond := .code yX_hasRoomFor cX_hasRoomFor 8 (some .boolean) :: lw_g
abbrev cX_isLive : ByteArray := prog_1_method_17_code
def yX_isLive : MethodName := ⟨RX, "isLive", "(I)Z"⟩
abbrev wdX_isLive : List Cond := .code yX_isLive cX_isLive 2 (some .boolean) :: lw_g
abbrev cX_isRecord : ByteArray := prog_1_method_16_code
def yX_isRecord : MethodName := ⟨RX, "isRecord", "(I)Z"⟩
abbrev wdX_isRecord : List Cond := .code yX_isRecord cX_isRecord 2 (some .boolean) :: lw_g
abbrev cX_mayGoTo : ByteArray := prog_1_method_20_code
def yX_mayGoTo : MethodName := ⟨RX, "mayGoTo", "(III)Z"⟩
abbrev wdX_mayGoTo : List Cond := .code yX_mayGoTo cX_mayGoTo 4 (some .boolean) :: lw_g
abbrev cX_isHeading : ByteArray := prog_1_method_18_code
def yX_isHeading : MethodName := ⟨RX, "isHeading", "(I)Z"⟩
abbrev wdX_isHeading : List Cond := .code yX_isHeading cX_isHeading 1 (some .boolean) :: lw_g
abbrev cX_liesIn : ByteArray := prog_1_method_21_code
def yX_liesIn : MethodName := ⟨RX, "liesIn", "(II)Z"⟩
abbrev wdX_liesIn : List Cond := .code yX_liesIn cX_liesIn 5 (some .boolean) :: lw_g
abbrev cX_keepRefusedWay : ByteArray := prog_1_method_22_code
def yX_keepRefusedWay : MethodName := ⟨RX, "keepRefusedWay", "(II)V"⟩
abbrev wdX_keepRefusedWay : List Cond := .code yX_keepRefusedWay cX_keepRefusedWay 4 none :: lw_g
abbrev cX_addLink : ByteArray := prog_1_method_23_code
def yX_addLink : MethodName := ⟨RX, "addLink", "(III)V"⟩
abbrev wdX_addLink : List Cond := .code yX_addLink cX_addLink 4 none :: lw_g
abbrev cX_noteChange : ByteArray := prog_1_method_31_code
def yX_noteChange : MethodName := ⟨RX, "noteChange", "(I)V"⟩
abbrev wdX_noteChange : List Cond := .code yX_noteChange cX_noteChange 4 none :: lw_g
abbrev cX_change : ByteArray := prog_1_method_4_code
def yX_change : MethodName := ⟨RX, "change", "(II)I"⟩
abbrev wdX_change : List Cond := .code yX_change cX_change 5 (some .int) :: lw_g
abbrev cX_sendToHeading : ByteArray := prog_1_method_26_code
def yX_sendToHeading : MethodName := ⟨RX, "sendToHeading", "(II)V"⟩
abbrev wdX_sendToHeading : List Cond := .code yX_sendToHeading cX_sendToHeading 4 none :: lw_g
abbrev cX_findLink : ByteArray := prog_1_method_27_code
def yX_findLink : MethodName := ⟨RX, "findLink", "(III)I"⟩
abbrev wdX_findLink : List Cond := .code yX_findLink cX_findLink 5 (some .int) :: lw_g
abbrev cX_removeLink : ByteArray := prog_1_method_24_code
def yX_removeLink : MethodName := ⟨RX, "removeLink", "(I)V"⟩
abbrev wdX_removeLink : List Cond := .code yX_removeLink cX_removeLink 3 none :: lw_g
abbrev cX_broken : ByteArray := prog_1_method_5_code
def yX_broken : MethodName := ⟨RX, "broken", "(II)I"⟩
abbrev wdX_broken : List Cond := .code yX_broken cX_broken 4 (some .int) :: lw_g
abbrev cX_findBroken : ByteArray := prog_1_method_28_code
def yX_findBroken : MethodName := ⟨RX, "findBroken", "(I)I"⟩
abbrev wdX_findBroken : List Cond := .code yX_findBroken cX_findBroken 4 (some .int) :: lw_g
abbrev cX_repair : ByteArray := prog_1_method_6_code
def yX_repair : MethodName := ⟨RX, "repair", "(I)I"⟩
abbrev wdX_repair : List Cond := .code yX_repair cX_repair 4 (some .int) :: lw_g
abbrev cX_chain : ByteArray := prog_1_method_7_code
def yX_chain : MethodName := ⟨RX, "chain", "(II)I"⟩
abbrev wdX_chain : List Cond := .code yX_chain cX_chain 5 (some .int) :: lw_g
abbrev cX_ring : ByteArray := prog_1_method_8_code
def yX_ring : MethodName := ⟨RX, "ring", "(I)I"⟩
abbrev wdX_ring : List Cond := .code yX_ring cX_ring 2 (some .int) :: lw_g
abbrev cX_host : ByteArray := prog_1_method_9_code
def yX_host : MethodName := ⟨RX, "host", "(I)I"⟩
abbrev wdX_host : List Cond := .code yX_host cX_host 2 (some .int) :: lw_g
abbrev cX_move : ByteArray := prog_1_method_10_code
def yX_move : MethodName := ⟨RX, "move", "(II)I"⟩
abbrev wdX_move : List Cond := .code yX_move cX_move 6 (some .int) :: lw_g
abbrev cX_delete : ByteArray := prog_1_method_11_code
def yX_delete : MethodName := ⟨RX, "delete", "(I)I"⟩
abbrev wdX_delete : List Cond := .code yX_delete cX_delete 3 (some .int) :: lw_g
abbrev cX_countHostedBy : ByteArray := prog_1_method_29_code
def yX_countHostedBy : MethodName := ⟨RX, "countHostedBy", "(I)I"⟩
abbrev wdX_countHostedBy : List Cond := .code yX_countHostedBy cX_countHostedBy 4 (some .int) :: lw_g
abbrev cX_removeLinksOf : ByteArray := prog_1_method_25_code
def yX_removeLinksOf : MethodName := ⟨RX, "removeLinksOf", "(I)V"⟩
abbrev wdX_removeLinksOf : List Cond := .code yX_removeLinksOf cX_removeLinksOf 3 none :: lw_g
abbrev cX_times : ByteArray := prog_1_method_12_code
def yX_times : MethodName := ⟨RX, "times", "(II)I"⟩
abbrev wdX_times : List Cond := .code yX_times cX_times 3 (some .int) :: lw_g
abbrev cX_orphan : ByteArray := prog_1_method_13_code
def yX_orphan : MethodName := ⟨RX, "orphan", "(I)I"⟩
abbrev wdX_orphan : List Cond := .code yX_orphan cX_orphan 4 (some .int) :: lw_g
abbrev cX_isLinked : ByteArray := prog_1_method_30_code
def yX_isLinked : MethodName := ⟨RX, "isLinked", "(I)Z"⟩
abbrev wdX_isLinked : List Cond := .code yX_isLinked cX_isLinked 4 (some .boolean) :: lw_g
abbrev cX_house : ByteArray := prog_1_method_14_code
def yX_house : MethodName := ⟨RX, "house", "(I)I"⟩
abbrev wdX_house : List Cond := .code yX_house cX_house 2 (some .int) :: lw_g
abbrev cX_goes : ByteArray := prog_1_method_15_code
def yX_goes : MethodName := ⟨RX, "goes", "(III)I"⟩
abbrev wdX_goes : List Cond := .code yX_goes cX_goes 6 (some .int) :: lw_g
abbrev cM_init : ByteArray := prog_3_method_1_code
def yM_init : MethodName := ⟨RM, "<init>", "()V"⟩
abbrev wdM_init : List Cond := .code yM_init cM_init 1 none :: lw_g
abbrev cM_record : ByteArray := prog_3_method_6_code
def yM_record : MethodName := ⟨RM, "record", "()I"⟩
abbrev wdM_record : List Cond := .code yM_record cM_record 1 (some .int) :: lw_g
abbrev cM_link : ByteArray := prog_3_method_13_code
def yM_link : MethodName := ⟨RM, "link", "(III)I"⟩
abbrev wdM_link : List Cond := .code yM_link cM_link 5 (some .int) :: lw_g
abbrev cM_isLive : ByteArray := prog_3_method_3_code
def yM_isLive : MethodName := ⟨RM, "isLive", "(I)Z"⟩
abbrev wdM_isLive : List Cond := .code yM_isLive cM_isLive 2 (some .boolean) :: lw_g
abbrev cM_isHeading : ByteArray := prog_3_method_4_code
def yM_isHeading : MethodName := ⟨RM, "isHeading", "(I)Z"⟩
abbrev wdM_isHeading : List Cond := .code yM_isHeading cM_isHeading 1 (some .boolean) :: lw_g
abbrev cM_count : ByteArray := prog_3_method_11_code
def yM_count : MethodName := ⟨RM, "count", "(II)I"⟩
abbrev wdM_count : List Cond := .code yM_count cM_count 5 (some .int) :: lw_g
abbrev cM_most : ByteArray := prog_3_method_5_code
def yM_most : MethodName := ⟨RM, "most", "(I)I"⟩
abbrev wdM_most : List Cond := .code yM_most cM_most 1 (some .int) :: lw_g
abbrev cM_find : ByteArray := prog_3_method_8_code
def yM_find : MethodName := ⟨RM, "find", "(III)I"⟩
abbrev wdM_find : List Cond := .code yM_find cM_find 5 (some .int) :: lw_g
abbrev cM_liesIn : ByteArray := prog_3_method_10_code
def yM_liesIn : MethodName := ⟨RM, "liesIn", "(II)Z"⟩
abbrev wdM_liesIn : List Cond := .code yM_liesIn cM_liesIn 4 (some .boolean) :: lw_g
abbrev cM_hostOf : ByteArray := prog_3_method_9_code
def yM_hostOf : MethodName := ⟨RM, "hostOf", "(I)I"⟩
abbrev wdM_hostOf : List Cond := .code yM_hostOf cM_hostOf 3 (some .int) :: lw_g
abbrev cM_changed : ByteArray := prog_3_method_7_code
def yM_changed : MethodName := ⟨RM, "changed", "(I)V"⟩
abbrev wdM_changed : List Cond := .code yM_changed cM_changed 2 none :: lw_g
abbrev cM_change : ByteArray := prog_3_method_14_code
def yM_change : MethodName := ⟨RM, "change", "(II)I"⟩
abbrev wdM_change : List Cond := .code yM_change cM_change 7 (some .int) :: lw_g
abbrev cM_drop : ByteArray := prog_3_method_12_code
def yM_drop : MethodName := ⟨RM, "drop", "(I)V"⟩
abbrev wdM_drop : List Cond := .code yM_drop cM_drop 3 none :: lw_g
abbrev cM_broken : ByteArray := prog_3_method_17_code
def yM_broken : MethodName := ⟨RM, "broken", "(II)I"⟩
abbrev wdM_broken : List Cond := .code yM_broken cM_broken 4 (some .int) :: lw_g
abbrev cM_brokenAt : ByteArray := prog_3_method_16_code
def yM_brokenAt : MethodName := ⟨RM, "brokenAt", "(I)I"⟩
abbrev wdM_brokenAt : List Cond := .code yM_brokenAt cM_brokenAt 4 (some .int) :: lw_g
abbrev cM_isBroken : ByteArray := prog_3_method_15_code
def yM_isBroken : MethodName := ⟨RM, "isBroken", "(I)Z"⟩
abbrev wdM_isBroken : List Cond := .code yM_isBroken cM_isBroken 2 (some .boolean) :: lw_g
abbrev cM_repair : ByteArray := prog_3_method_18_code
def yM_repair : MethodName := ⟨RM, "repair", "(I)I"⟩
abbrev wdM_repair : List Cond := .code yM_repair cM_repair 4 (some .int) :: lw_g
abbrev cM_chain : ByteArray := prog_3_method_19_code
def yM_chain : MethodName := ⟨RM, "chain", "(II)I"⟩
abbrev wdM_chain : List Cond := .code yM_chain cM_chain 5 (some .int) :: lw_g
abbrev cM_ring : ByteArray := prog_3_method_20_code
def yM_ring : MethodName := ⟨RM, "ring", "(I)I"⟩
abbrev wdM_ring : List Cond := .code yM_ring cM_ring 2 (some .int) :: lw_g
abbrev cM_host : ByteArray := prog_3_method_21_code
def yM_host : MethodName := ⟨RM, "host", "(I)I"⟩
abbrev wdM_host : List Cond := .code yM_host cM_host 2 (some .int) :: lw_g
abbrev cM_move : ByteArray := prog_3_method_22_code
def yM_move : MethodName := ⟨RM, "move", "(II)I"⟩
abbrev wdM_move : List Cond := .code yM_move cM_move 5 (some .int) :: lw_g
abbrev cM_delete : ByteArray := prog_3_method_23_code
def yM_delete : MethodName := ⟨RM, "delete", "(I)I"⟩
abbrev wdM_delete : List Cond := .code yM_delete cM_delete 4 (some .int) :: lw_g
abbrev cM_times : ByteArray := prog_3_method_24_code
def yM_times : MethodName := ⟨RM, "times", "(II)I"⟩
abbrev wdM_times : List Cond := .code yM_times cM_times 3 (some .int) :: lw_g
abbrev cM_orphan : ByteArray := prog_3_method_25_code
def yM_orphan : MethodName := ⟨RM, "orphan", "(I)I"⟩
abbrev wdM_orphan : List Cond := .code yM_orphan cM_orphan 6 (some .int) :: lw_g
abbrev cM_house : ByteArray := prog_3_method_26_code
def yM_house : MethodName := ⟨RM, "house", "(I)I"⟩
abbrev wdM_house : List Cond := .code yM_house cM_house 2 (some .int) :: lw_g
abbrev cM_goes : ByteArray := prog_3_method_27_code
def yM_goes : MethodName := ⟨RM, "goes", "(III)I"⟩
abbrev wdM_goes : List Cond := .code yM_goes cM_goes 6 (some .int) :: lw_g
theorem mt_24 : (.initialized RL : Cond) ∈ lw_g := List.mem_filter.mpr ⟨List.mem_of_getElem? (i := 24) (by decide +kernel), by decide +kernel⟩
theorem mt_25 : (.initialized RX : Cond) ∈ lw_g := List.mem_filter.mpr ⟨List.mem_of_getElem? (i := 25) (by decide +kernel), by decide +kernel⟩
theorem mt_26 : (.initialized RM : Cond) ∈ lw_g := List.mem_filter.mpr ⟨List.mem_of_getElem? (i := 26) (by decide +kernel), by decide +kernel⟩
theorem mt_27 : (.initialized "java/lang/Math" : Cond) ∈ lw_g := List.mem_filter.mpr ⟨List.mem_of_getElem? (i := 27) (by decide +kernel), by decide +kernel⟩
theorem mt_28 : (.initialized "java/lang/System" : Cond) ∈ lw_g := List.mem_filter.mpr ⟨List.mem_of_getElem? (i := 28) (by decide +kernel), by decide +kernel⟩
theorem mt_29 : (.classLink RL 7 RX : Cond) ∈ lw_g := List.mem_filter.mpr ⟨List.mem_of_getElem? (i := 29) (by decide +kernel), by decide +kernel⟩
theorem mt_30 : (.instantiable RX 13 : Cond) ∈ lw_g := List.mem_filter.mpr ⟨List.mem_of_getElem? (i := 30) (by decide +kernel), by decide +kernel⟩
theorem mt_31 : (.methodLink RL 9 yX_init : Cond) ∈ lw_g := List.mem_filter.mpr ⟨List.mem_of_getElem? (i := 31) (by decide +kernel), by decide +kernel⟩
theorem mt_32 : (.instanceMethod yX_init : Cond) ∈ lw_g := List.mem_filter.mpr ⟨List.mem_of_getElem? (i := 32) (by decide +kernel), by decide +kernel⟩
theorem mt_33 : (.code yX_init cX_init 1 none : Cond) ∈ lw_g := List.mem_filter.mpr ⟨List.mem_of_getElem? (i := 33) (by decide +kernel), by decide +kernel⟩
theorem mt_34 : (.methodLink RX 1 objectInit : Cond) ∈ lw_g := List.mem_filter.mpr ⟨List.mem_of_getElem? (i := 34) (by decide +kernel), by decide +kernel⟩
theorem mt_35 : (.instanceMethod objectInit : Cond) ∈ lw_g := List.mem_filter.mpr ⟨List.mem_of_getElem? (i := 35) (by decide +kernel), by decide +kernel⟩
theorem mt_36 : (.code objectInit ⟨#[0xb1]⟩ 1 none : Cond) ∈ lw_g := List.mem_filter.mpr ⟨List.mem_of_getElem? (i := 36) (by decide +kernel), by decide +kernel⟩
theorem mt_37 : (.fieldLink RX 9 "LinkKeeper" "live" "[Z" : Cond) ∈ lw_g := List.mem_filter.mpr ⟨List.mem_of_getElem? (i := 37) (by decide +kernel), by decide +kernel⟩
theorem mt_38 : (.fieldLink RX 13 "LinkKeeper" "houses" "[I" : Cond) ∈ lw_g := List.mem_filter.mpr ⟨List.mem_of_getElem? (i := 38) (by decide +kernel), by decide +kernel⟩
theorem mt_39 : (.fieldLink RX 17 "LinkKeeper" "hosts" "[I" : Cond) ∈ lw_g := List.mem_filter.mpr ⟨List.mem_of_getElem? (i := 39) (by decide +kernel), by decide +kernel⟩
theorem mt_40 : (.fieldLink RX 20 "LinkKeeper" "changeCounts" "[I" : Cond) ∈ lw_g := List.mem_filter.mpr ⟨List.mem_of_getElem? (i := 40) (by decide +kernel), by decide +kernel⟩
theorem mt_41 : (.fieldLink RX 23 "LinkKeeper" "changeMoments" "[I" : Cond) ∈ lw_g := List.mem_filter.mpr ⟨List.mem_of_getElem? (i := 41) (by decide +kernel), by decide +kernel⟩
theorem mt_42 : (.fieldLink RX 26 "LinkKeeper" "records" "I" : Cond) ∈ lw_g := List.mem_filter.mpr ⟨List.mem_of_getElem? (i := 42) (by decide +kernel), by decide +kernel⟩
theorem mt_43 : (.fieldLink RX 30 "LinkKeeper" "linkFrom" "[I" : Cond) ∈ lw_g := List.mem_filter.mpr ⟨List.mem_of_getElem? (i := 43) (by decide +kernel), by decide +kernel⟩
theorem mt_44 : (.fieldLink RX 33 "LinkKeeper" "linkField" "[I" : Cond) ∈ lw_g := List.mem_filter.mpr ⟨List.mem_of_getElem? (i := 44) (by decide +kernel), by decide +kernel⟩
theorem mt_45 : (.fieldLink RX 36 "LinkKeeper" "linkTo" "[I" : Cond) ∈ lw_g := List.mem_filter.mpr ⟨List.mem_of_getElem? (i := 45) (by decide +kernel), by decide +kernel⟩
theorem mt_46 : (.fieldLink RX 39 "LinkKeeper" "links" "I" : Cond) ∈ lw_g := List.mem_filter.mpr ⟨List.mem_of_getElem? (i := 46) (by decide +kernel), by decide +kernel⟩
theorem mt_47 : (.fieldLink RX 42 "LinkKeeper" "refusedWay" "[I" : Cond) ∈ lw_g := List.mem_filter.mpr ⟨List.mem_of_getElem? (i := 47) (by decide +kernel), by decide +kernel⟩
theorem mt_48 : (.fieldLink RX 45 "LinkKeeper" "refusedWayLength" "I" : Cond) ∈ lw_g := List.mem_filter.mpr ⟨List.mem_of_getElem? (i := 48) (by decide +kernel), by decide +kernel⟩
theorem mt_49 : (.fieldLink RX 48 "LinkKeeper" "moment" "I" : Cond) ∈ lw_g := List.mem_filter.mpr ⟨List.mem_of_getElem? (i := 49) (by decide +kernel), by decide +kernel⟩
theorem mt_77 : (.arrayClass .boolean : Cond) ∈ lw_g := List.mem_filter.mpr ⟨List.mem_of_getElem? (i := 77) (by decide +kernel), by decide +kernel⟩
theorem mt_78 : (.arrayClass .int : Cond) ∈ lw_g := List.mem_filter.mpr ⟨List.mem_of_getElem? (i := 78) (by decide +kernel), by decide +kernel⟩
theorem mt_79 : (.methodLink RL 13 yX_record : Cond) ∈ lw_g := List.mem_filter.mpr ⟨List.mem_of_getElem? (i := 79) (by decide +kernel), by decide +kernel⟩
theorem mt_80 : (.instanceMethod yX_record : Cond) ∈ lw_g := List.mem_filter.mpr ⟨List.mem_of_getElem? (i := 80) (by decide +kernel), by decide +kernel⟩
theorem mt_81 : (.selects RX yX_record yX_record : Cond) ∈ lw_g := List.mem_filter.mpr ⟨List.mem_of_getElem? (i := 81) (by decide +kernel), by decide +kernel⟩
theorem mt_82 : (.code yX_record cX_record 1 (some .int) : Cond) ∈ lw_g := List.mem_filter.mpr ⟨List.mem_of_getElem? (i := 82) (by decide +kernel), by decide +kernel⟩
theorem mt_83 : (.methodLink RL 18 yX_link : Cond) ∈ lw_g := List.mem_filter.mpr ⟨List.mem_of_getElem? (i := 83) (by decide +kernel), by decide +kernel⟩
theorem mt_84 : (.instanceMethod yX_link : Cond) ∈ lw_g := List.mem_filter.mpr ⟨List.mem_of_getElem? (i := 84) (by decide +kernel), by decide +kernel⟩
theorem mt_85 : (.selects RX yX_link yX_link : Cond) ∈ lw_g := List.mem_filter.mpr ⟨List.mem_of_getElem? (i := 85) (by decide +kernel), by decide +kernel⟩
theorem mt_86 : (.code yX_link cX_link 4 (some .int) : Cond) ∈ lw_g := List.mem_filter.mpr ⟨List.mem_of_getElem? (i := 86) (by decide +kernel), by decide +kernel⟩
theorem mt_87 : (.methodLink RX 51 yX_hasRoomFor : Cond) ∈ lw_g := List.mem_filter.mpr ⟨List.mem_of_getElem? (i := 87) (by decide +kernel), by decide +kernel⟩
theorem mt_89 : (.instanceMethod yX_hasRoomFor : Cond) ∈ lw_g := List.mem_filter.mpr ⟨List.mem_of_getElem? (i := 89) (by decide +kernel), by decide +kernel⟩
theorem mt_90 : (.code yX_hasRoomFor cX_hasRoomFor 8 (some .boolean) : Cond) ∈ lw_g := List.mem_filter.mpr ⟨List.mem_of_getElem? (i := 90) (by decide +kernel), by decide +kernel⟩
theorem mt_91 : (.methodLink RX 85 yX_isLive : Cond) ∈ lw_g := List.mem_filter.mpr ⟨List.mem_of_getElem? (i := 91) (by decide +kernel), by decide +kernel⟩
theorem mt_93 : (.instanceMethod yX_isLive : Cond) ∈ lw_g := List.mem_filter.mpr ⟨List.mem_of_getElem? (i := 93) (by decide +kernel), by decide +kernel⟩
theorem mt_94 : (.code yX_isLive cX_isLive 2 (some .boolean) : Cond) ∈ lw_g := List.mem_filter.mpr ⟨List.mem_of_getElem? (i := 94) (by decide +kernel), by decide +kernel⟩
theorem mt_95 : (.methodLink RX 94 yX_isRecord : Cond) ∈ lw_g := List.mem_filter.mpr ⟨List.mem_of_getElem? (i := 95) (by decide +kernel), by decide +kernel⟩
theorem mt_97 : (.instanceMethod yX_isRecord : Cond) ∈ lw_g := List.mem_filter.mpr ⟨List.mem_of_getElem? (i := 97) (by decide +kernel), by decide +kernel⟩
theorem mt_98 : (.code yX_isRecord cX_isRecord 2 (some .boolean) : Cond) ∈ lw_g := List.mem_filter.mpr ⟨List.mem_of_getElem? (i := 98) (by decide +kernel), by decide +kernel⟩
theorem mt_99 : (.methodLink RX 100 yX_mayGoTo : Cond) ∈ lw_g := List.mem_filter.mpr ⟨List.mem_of_getElem? (i := 99) (by decide +kernel), by decide +kernel⟩
theorem mt_101 : (.instanceMethod yX_mayGoTo : Cond) ∈ lw_g := List.mem_filter.mpr ⟨List.mem_of_getElem? (i := 101) (by decide +kernel), by decide +kernel⟩
theorem mt_102 : (.code yX_mayGoTo cX_mayGoTo 4 (some .boolean) : Cond) ∈ lw_g := List.mem_filter.mpr ⟨List.mem_of_getElem? (i := 102) (by decide +kernel), by decide +kernel⟩
theorem mt_103 : (.methodLink RX 71 yX_isHeading : Cond) ∈ lw_g := List.mem_filter.mpr ⟨List.mem_of_getElem? (i := 103) (by decide +kernel), by decide +kernel⟩
theorem mt_104 : (.static yX_isHeading : Cond) ∈ lw_g := List.mem_filter.mpr ⟨List.mem_of_getElem? (i := 104) (by decide +kernel), by decide +kernel⟩
theorem mt_105 : (.code yX_isHeading cX_isHeading 1 (some .boolean) : Cond) ∈ lw_g := List.mem_filter.mpr ⟨List.mem_of_getElem? (i := 105) (by decide +kernel), by decide +kernel⟩
theorem mt_106 : (.fieldLink RX 104 "LinkKeeper" "MOST_OF_FIELD" "[I" : Cond) ∈ lw_g := List.mem_filter.mpr ⟨List.mem_of_getElem? (i := 106) (by decide +kernel), by decide +kernel⟩
theorem ml_MOST_OF_FIELD : (.laysStatic "LinkKeeper" "MOST_OF_FIELD" "[I" : Cond) ∈ lw_tbl := List.mem_of_getElem? (i := 107) (by decide +kernel)
theorem mt_108 : (.methodLink RX 55 yX_liesIn : Cond) ∈ lw_g := List.mem_filter.mpr ⟨List.mem_of_getElem? (i := 108) (by decide +kernel), by decide +kernel⟩
theorem mt_110 : (.instanceMethod yX_liesIn : Cond) ∈ lw_g := List.mem_filter.mpr ⟨List.mem_of_getElem? (i := 110) (by decide +kernel), by decide +kernel⟩
theorem mt_111 : (.code yX_liesIn cX_liesIn 5 (some .boolean) : Cond) ∈ lw_g := List.mem_filter.mpr ⟨List.mem_of_getElem? (i := 111) (by decide +kernel), by decide +kernel⟩
theorem mt_112 : (.methodLink RX 59 yX_keepRefusedWay : Cond) ∈ lw_g := List.mem_filter.mpr ⟨List.mem_of_getElem? (i := 112) (by decide +kernel), by decide +kernel⟩
theorem mt_114 : (.instanceMethod yX_keepRefusedWay : Cond) ∈ lw_g := List.mem_filter.mpr ⟨List.mem_of_getElem? (i := 114) (by decide +kernel), by decide +kernel⟩
theorem mt_115 : (.code yX_keepRefusedWay cX_keepRefusedWay 4 none : Cond) ∈ lw_g := List.mem_filter.mpr ⟨List.mem_of_getElem? (i := 115) (by decide +kernel), by decide +kernel⟩
theorem mt_116 : (.methodLink RX 63 yX_addLink : Cond) ∈ lw_g := List.mem_filter.mpr ⟨List.mem_of_getElem? (i := 116) (by decide +kernel), by decide +kernel⟩
theorem mt_118 : (.instanceMethod yX_addLink : Cond) ∈ lw_g := List.mem_filter.mpr ⟨List.mem_of_getElem? (i := 118) (by decide +kernel), by decide +kernel⟩
theorem mt_119 : (.code yX_addLink cX_addLink 4 none : Cond) ∈ lw_g := List.mem_filter.mpr ⟨List.mem_of_getElem? (i := 119) (by decide +kernel), by decide +kernel⟩
theorem mt_120 : (.methodLink RX 67 yX_noteChange : Cond) ∈ lw_g := List.mem_filter.mpr ⟨List.mem_of_getElem? (i := 120) (by decide +kernel), by decide +kernel⟩
theorem mt_122 : (.instanceMethod yX_noteChange : Cond) ∈ lw_g := List.mem_filter.mpr ⟨List.mem_of_getElem? (i := 122) (by decide +kernel), by decide +kernel⟩
theorem mt_123 : (.code yX_noteChange cX_noteChange 4 none : Cond) ∈ lw_g := List.mem_filter.mpr ⟨List.mem_of_getElem? (i := 123) (by decide +kernel), by decide +kernel⟩
theorem mt_124 : (.methodLink RL 23 yX_change : Cond) ∈ lw_g := List.mem_filter.mpr ⟨List.mem_of_getElem? (i := 124) (by decide +kernel), by decide +kernel⟩
theorem mt_125 : (.instanceMethod yX_change : Cond) ∈ lw_g := List.mem_filter.mpr ⟨List.mem_of_getElem? (i := 125) (by decide +kernel), by decide +kernel⟩
theorem mt_126 : (.selects RX yX_change yX_change : Cond) ∈ lw_g := List.mem_filter.mpr ⟨List.mem_of_getElem? (i := 126) (by decide +kernel), by decide +kernel⟩
theorem mt_127 : (.code yX_change cX_change 5 (some .int) : Cond) ∈ lw_g := List.mem_filter.mpr ⟨List.mem_of_getElem? (i := 127) (by decide +kernel), by decide +kernel⟩
theorem mt_128 : (.methodLink RX 75 yX_sendToHeading : Cond) ∈ lw_g := List.mem_filter.mpr ⟨List.mem_of_getElem? (i := 128) (by decide +kernel), by decide +kernel⟩
theorem mt_130 : (.instanceMethod yX_sendToHeading : Cond) ∈ lw_g := List.mem_filter.mpr ⟨List.mem_of_getElem? (i := 130) (by decide +kernel), by decide +kernel⟩
theorem mt_131 : (.code yX_sendToHeading cX_sendToHeading 4 none : Cond) ∈ lw_g := List.mem_filter.mpr ⟨List.mem_of_getElem? (i := 131) (by decide +kernel), by decide +kernel⟩
theorem mt_132 : (.methodLink RX 113 yX_findLink : Cond) ∈ lw_g := List.mem_filter.mpr ⟨List.mem_of_getElem? (i := 132) (by decide +kernel), by decide +kernel⟩
theorem mt_134 : (.instanceMethod yX_findLink : Cond) ∈ lw_g := List.mem_filter.mpr ⟨List.mem_of_getElem? (i := 134) (by decide +kernel), by decide +kernel⟩
theorem mt_135 : (.code yX_findLink cX_findLink 5 (some .int) : Cond) ∈ lw_g := List.mem_filter.mpr ⟨List.mem_of_getElem? (i := 135) (by decide +kernel), by decide +kernel⟩
theorem mt_136 : (.methodLink RX 117 Lib.Math.max.name : Cond) ∈ lw_g := List.mem_filter.mpr ⟨List.mem_of_getElem? (i := 136) (by decide +kernel), by decide +kernel⟩
theorem mt_137 : (.static Lib.Math.max.name : Cond) ∈ lw_g := List.mem_filter.mpr ⟨List.mem_of_getElem? (i := 137) (by decide +kernel), by decide +kernel⟩
theorem mt_138 : (.code Lib.Math.max.name Lib.Math.max.code 2 (some .int) : Cond) ∈ lw_g := List.mem_filter.mpr ⟨List.mem_of_getElem? (i := 138) (by decide +kernel), by decide +kernel⟩
theorem mt_139 : (.methodLink RX 82 yX_removeLink : Cond) ∈ lw_g := List.mem_filter.mpr ⟨List.mem_of_getElem? (i := 139) (by decide +kernel), by decide +kernel⟩
theorem mt_141 : (.instanceMethod yX_removeLink : Cond) ∈ lw_g := List.mem_filter.mpr ⟨List.mem_of_getElem? (i := 141) (by decide +kernel), by decide +kernel⟩
theorem mt_142 : (.code yX_removeLink cX_removeLink 3 none : Cond) ∈ lw_g := List.mem_filter.mpr ⟨List.mem_of_getElem? (i := 142) (by decide +kernel), by decide +kernel⟩
theorem mt_143 : (.methodLink RX 107 arraycopyName : Cond) ∈ lw_g := List.mem_filter.mpr ⟨List.mem_of_getElem? (i := 143) (by decide +kernel), by decide +kernel⟩
theorem mt_144 : (.static arraycopyName : Cond) ∈ lw_g := List.mem_filter.mpr ⟨List.mem_of_getElem? (i := 144) (by decide +kernel), by decide +kernel⟩
theorem mt_145 : (.native arraycopyName : Cond) ∈ lw_g := List.mem_filter.mpr ⟨List.mem_of_getElem? (i := 145) (by decide +kernel), by decide +kernel⟩
theorem mt_146 : (.methodLink RL 28 yX_broken : Cond) ∈ lw_g := List.mem_filter.mpr ⟨List.mem_of_getElem? (i := 146) (by decide +kernel), by decide +kernel⟩
theorem mt_147 : (.instanceMethod yX_broken : Cond) ∈ lw_g := List.mem_filter.mpr ⟨List.mem_of_getElem? (i := 147) (by decide +kernel), by decide +kernel⟩
theorem mt_148 : (.selects RX yX_broken yX_broken : Cond) ∈ lw_g := List.mem_filter.mpr ⟨List.mem_of_getElem? (i := 148) (by decide +kernel), by decide +kernel⟩
theorem mt_149 : (.code yX_broken cX_broken 4 (some .int) : Cond) ∈ lw_g := List.mem_filter.mpr ⟨List.mem_of_getElem? (i := 149) (by decide +kernel), by decide +kernel⟩
theorem mt_150 : (.methodLink RX 78 yX_findBroken : Cond) ∈ lw_g := List.mem_filter.mpr ⟨List.mem_of_getElem? (i := 150) (by decide +kernel), by decide +kernel⟩
theorem mt_152 : (.instanceMethod yX_findBroken : Cond) ∈ lw_g := List.mem_filter.mpr ⟨List.mem_of_getElem? (i := 152) (by decide +kernel), by decide +kernel⟩
theorem mt_153 : (.code yX_findBroken cX_findBroken 4 (some .int) : Cond) ∈ lw_g := List.mem_filter.mpr ⟨List.mem_of_getElem? (i := 153) (by decide +kernel), by decide +kernel⟩
theorem mt_154 : (.methodLink RL 32 yX_repair : Cond) ∈ lw_g := List.mem_filter.mpr ⟨List.mem_of_getElem? (i := 154) (by decide +kernel), by decide +kernel⟩
theorem mt_155 : (.instanceMethod yX_repair : Cond) ∈ lw_g := List.mem_filter.mpr ⟨List.mem_of_getElem? (i := 155) (by decide +kernel), by decide +kernel⟩
theorem mt_156 : (.selects RX yX_repair yX_repair : Cond) ∈ lw_g := List.mem_filter.mpr ⟨List.mem_of_getElem? (i := 156) (by decide +kernel), by decide +kernel⟩
theorem mt_157 : (.code yX_repair cX_repair 4 (some .int) : Cond) ∈ lw_g := List.mem_filter.mpr ⟨List.mem_of_getElem? (i := 157) (by decide +kernel), by decide +kernel⟩
theorem mt_158 : (.methodLink RL 37 yX_chain : Cond) ∈ lw_g := List.mem_filter.mpr ⟨List.mem_of_getElem? (i := 158) (by decide +kernel), by decide +kernel⟩
theorem mt_159 : (.instanceMethod yX_chain : Cond) ∈ lw_g := List.mem_filter.mpr ⟨List.mem_of_getElem? (i := 159) (by decide +kernel), by decide +kernel⟩
theorem mt_160 : (.selects RX yX_chain yX_chain : Cond) ∈ lw_g := List.mem_filter.mpr ⟨List.mem_of_getElem? (i := 160) (by decide +kernel), by decide +kernel⟩
theorem mt_161 : (.code yX_chain cX_chain 5 (some .int) : Cond) ∈ lw_g := List.mem_filter.mpr ⟨List.mem_of_getElem? (i := 161) (by decide +kernel), by decide +kernel⟩
theorem mt_162 : (.methodLink RL 41 yX_ring : Cond) ∈ lw_g := List.mem_filter.mpr ⟨List.mem_of_getElem? (i := 162) (by decide +kernel), by decide +kernel⟩
theorem mt_163 : (.instanceMethod yX_ring : Cond) ∈ lw_g := List.mem_filter.mpr ⟨List.mem_of_getElem? (i := 163) (by decide +kernel), by decide +kernel⟩
theorem mt_164 : (.selects RX yX_ring yX_ring : Cond) ∈ lw_g := List.mem_filter.mpr ⟨List.mem_of_getElem? (i := 164) (by decide +kernel), by decide +kernel⟩
theorem mt_165 : (.code yX_ring cX_ring 2 (some .int) : Cond) ∈ lw_g := List.mem_filter.mpr ⟨List.mem_of_getElem? (i := 165) (by decide +kernel), by decide +kernel⟩
theorem mt_166 : (.methodLink RL 45 yX_host : Cond) ∈ lw_g := List.mem_filter.mpr ⟨List.mem_of_getElem? (i := 166) (by decide +kernel), by decide +kernel⟩
theorem mt_167 : (.instanceMethod yX_host : Cond) ∈ lw_g := List.mem_filter.mpr ⟨List.mem_of_getElem? (i := 167) (by decide +kernel), by decide +kernel⟩
theorem mt_168 : (.selects RX yX_host yX_host : Cond) ∈ lw_g := List.mem_filter.mpr ⟨List.mem_of_getElem? (i := 168) (by decide +kernel), by decide +kernel⟩
theorem mt_169 : (.code yX_host cX_host 2 (some .int) : Cond) ∈ lw_g := List.mem_filter.mpr ⟨List.mem_of_getElem? (i := 169) (by decide +kernel), by decide +kernel⟩
theorem mt_170 : (.methodLink RL 49 yX_move : Cond) ∈ lw_g := List.mem_filter.mpr ⟨List.mem_of_getElem? (i := 170) (by decide +kernel), by decide +kernel⟩
theorem mt_171 : (.instanceMethod yX_move : Cond) ∈ lw_g := List.mem_filter.mpr ⟨List.mem_of_getElem? (i := 171) (by decide +kernel), by decide +kernel⟩
theorem mt_172 : (.selects RX yX_move yX_move : Cond) ∈ lw_g := List.mem_filter.mpr ⟨List.mem_of_getElem? (i := 172) (by decide +kernel), by decide +kernel⟩
theorem mt_173 : (.code yX_move cX_move 6 (some .int) : Cond) ∈ lw_g := List.mem_filter.mpr ⟨List.mem_of_getElem? (i := 173) (by decide +kernel), by decide +kernel⟩
theorem mt_174 : (.methodLink RL 53 yX_delete : Cond) ∈ lw_g := List.mem_filter.mpr ⟨List.mem_of_getElem? (i := 174) (by decide +kernel), by decide +kernel⟩
theorem mt_175 : (.instanceMethod yX_delete : Cond) ∈ lw_g := List.mem_filter.mpr ⟨List.mem_of_getElem? (i := 175) (by decide +kernel), by decide +kernel⟩
theorem mt_176 : (.selects RX yX_delete yX_delete : Cond) ∈ lw_g := List.mem_filter.mpr ⟨List.mem_of_getElem? (i := 176) (by decide +kernel), by decide +kernel⟩
theorem mt_177 : (.code yX_delete cX_delete 3 (some .int) : Cond) ∈ lw_g := List.mem_filter.mpr ⟨List.mem_of_getElem? (i := 177) (by decide +kernel), by decide +kernel⟩
theorem mt_178 : (.methodLink RX 88 yX_countHostedBy : Cond) ∈ lw_g := List.mem_filter.mpr ⟨List.mem_of_getElem? (i := 178) (by decide +kernel), by decide +kernel⟩
theorem mt_180 : (.instanceMethod yX_countHostedBy : Cond) ∈ lw_g := List.mem_filter.mpr ⟨List.mem_of_getElem? (i := 180) (by decide +kernel), by decide +kernel⟩
theorem mt_181 : (.code yX_countHostedBy cX_countHostedBy 4 (some .int) : Cond) ∈ lw_g := List.mem_filter.mpr ⟨List.mem_of_getElem? (i := 181) (by decide +kernel), by decide +kernel⟩
theorem mt_182 : (.methodLink RX 91 yX_removeLinksOf : Cond) ∈ lw_g := List.mem_filter.mpr ⟨List.mem_of_getElem? (i := 182) (by decide +kernel), by decide +kernel⟩
theorem mt_184 : (.instanceMethod yX_removeLinksOf : Cond) ∈ lw_g := List.mem_filter.mpr ⟨List.mem_of_getElem? (i := 184) (by decide +kernel), by decide +kernel⟩
theorem mt_185 : (.code yX_removeLinksOf cX_removeLinksOf 3 none : Cond) ∈ lw_g := List.mem_filter.mpr ⟨List.mem_of_getElem? (i := 185) (by decide +kernel), by decide +kernel⟩
theorem mt_186 : (.methodLink RL 57 yX_times : Cond) ∈ lw_g := List.mem_filter.mpr ⟨List.mem_of_getElem? (i := 186) (by decide +kernel), by decide +kernel⟩
theorem mt_187 : (.instanceMethod yX_times : Cond) ∈ lw_g := List.mem_filter.mpr ⟨List.mem_of_getElem? (i := 187) (by decide +kernel), by decide +kernel⟩
theorem mt_188 : (.selects RX yX_times yX_times : Cond) ∈ lw_g := List.mem_filter.mpr ⟨List.mem_of_getElem? (i := 188) (by decide +kernel), by decide +kernel⟩
theorem mt_189 : (.code yX_times cX_times 3 (some .int) : Cond) ∈ lw_g := List.mem_filter.mpr ⟨List.mem_of_getElem? (i := 189) (by decide +kernel), by decide +kernel⟩
theorem mt_190 : (.methodLink RL 61 yX_orphan : Cond) ∈ lw_g := List.mem_filter.mpr ⟨List.mem_of_getElem? (i := 190) (by decide +kernel), by decide +kernel⟩
theorem mt_191 : (.instanceMethod yX_orphan : Cond) ∈ lw_g := List.mem_filter.mpr ⟨List.mem_of_getElem? (i := 191) (by decide +kernel), by decide +kernel⟩
theorem mt_192 : (.selects RX yX_orphan yX_orphan : Cond) ∈ lw_g := List.mem_filter.mpr ⟨List.mem_of_getElem? (i := 192) (by decide +kernel), by decide +kernel⟩
theorem mt_193 : (.code yX_orphan cX_orphan 4 (some .int) : Cond) ∈ lw_g := List.mem_filter.mpr ⟨List.mem_of_getElem? (i := 193) (by decide +kernel), by decide +kernel⟩
theorem mt_194 : (.methodLink RX 97 yX_isLinked : Cond) ∈ lw_g := List.mem_filter.mpr ⟨List.mem_of_getElem? (i := 194) (by decide +kernel), by decide +kernel⟩
theorem mt_196 : (.instanceMethod yX_isLinked : Cond) ∈ lw_g := List.mem_filter.mpr ⟨List.mem_of_getElem? (i := 196) (by decide +kernel), by decide +kernel⟩
theorem mt_197 : (.code yX_isLinked cX_isLinked 4 (some .boolean) : Cond) ∈ lw_g := List.mem_filter.mpr ⟨List.mem_of_getElem? (i := 197) (by decide +kernel), by decide +kernel⟩
theorem mt_198 : (.methodLink RL 65 yX_house : Cond) ∈ lw_g := List.mem_filter.mpr ⟨List.mem_of_getElem? (i := 198) (by decide +kernel), by decide +kernel⟩
theorem mt_199 : (.instanceMethod yX_house : Cond) ∈ lw_g := List.mem_filter.mpr ⟨List.mem_of_getElem? (i := 199) (by decide +kernel), by decide +kernel⟩
theorem mt_200 : (.selects RX yX_house yX_house : Cond) ∈ lw_g := List.mem_filter.mpr ⟨List.mem_of_getElem? (i := 200) (by decide +kernel), by decide +kernel⟩
theorem mt_201 : (.code yX_house cX_house 2 (some .int) : Cond) ∈ lw_g := List.mem_filter.mpr ⟨List.mem_of_getElem? (i := 201) (by decide +kernel), by decide +kernel⟩
theorem mt_202 : (.methodLink RL 69 yX_goes : Cond) ∈ lw_g := List.mem_filter.mpr ⟨List.mem_of_getElem? (i := 202) (by decide +kernel), by decide +kernel⟩
theorem mt_203 : (.instanceMethod yX_goes : Cond) ∈ lw_g := List.mem_filter.mpr ⟨List.mem_of_getElem? (i := 203) (by decide +kernel), by decide +kernel⟩
theorem mt_204 : (.selects RX yX_goes yX_goes : Cond) ∈ lw_g := List.mem_filter.mpr ⟨List.mem_of_getElem? (i := 204) (by decide +kernel), by decide +kernel⟩
theorem mt_205 : (.code yX_goes cX_goes 6 (some .int) : Cond) ∈ lw_g := List.mem_filter.mpr ⟨List.mem_of_getElem? (i := 205) (by decide +kernel), by decide +kernel⟩
theorem mt_206 : (.classLink RL 10 RM : Cond) ∈ lw_g := List.mem_filter.mpr ⟨List.mem_of_getElem? (i := 206) (by decide +kernel), by decide +kernel⟩
theorem mt_207 : (.instantiable RM 14 : Cond) ∈ lw_g := List.mem_filter.mpr ⟨List.mem_of_getElem? (i := 207) (by decide +kernel), by decide +kernel⟩
theorem mt_208 : (.methodLink RL 12 yM_init : Cond) ∈ lw_g := List.mem_filter.mpr ⟨List.mem_of_getElem? (i := 208) (by decide +kernel), by decide +kernel⟩
theorem mt_209 : (.instanceMethod yM_init : Cond) ∈ lw_g := List.mem_filter.mpr ⟨List.mem_of_getElem? (i := 209) (by decide +kernel), by decide +kernel⟩
theorem mt_210 : (.code yM_init cM_init 1 none : Cond) ∈ lw_g := List.mem_filter.mpr ⟨List.mem_of_getElem? (i := 210) (by decide +kernel), by decide +kernel⟩
theorem mt_211 : (.methodLink RM 1 objectInit : Cond) ∈ lw_g := List.mem_filter.mpr ⟨List.mem_of_getElem? (i := 211) (by decide +kernel), by decide +kernel⟩
theorem mt_212 : (.fieldLink RM 38 "LinkKeeperModel" "thrown" "I" : Cond) ∈ lw_g := List.mem_filter.mpr ⟨List.mem_of_getElem? (i := 212) (by decide +kernel), by decide +kernel⟩
theorem mt_213 : (.fieldLink RM 42 "LinkKeeperModel" "records" "I" : Cond) ∈ lw_g := List.mem_filter.mpr ⟨List.mem_of_getElem? (i := 213) (by decide +kernel), by decide +kernel⟩
theorem mt_214 : (.fieldLink RM 7 "LinkKeeperModel" "live" "[Z" : Cond) ∈ lw_g := List.mem_filter.mpr ⟨List.mem_of_getElem? (i := 214) (by decide +kernel), by decide +kernel⟩
theorem mt_215 : (.fieldLink RM 13 "LinkKeeperModel" "houses" "[I" : Cond) ∈ lw_g := List.mem_filter.mpr ⟨List.mem_of_getElem? (i := 215) (by decide +kernel), by decide +kernel⟩
theorem mt_216 : (.fieldLink RM 17 "LinkKeeperModel" "hadHost" "[I" : Cond) ∈ lw_g := List.mem_filter.mpr ⟨List.mem_of_getElem? (i := 216) (by decide +kernel), by decide +kernel⟩
theorem mt_217 : (.fieldLink RM 20 "LinkKeeperModel" "times" "[I" : Cond) ∈ lw_g := List.mem_filter.mpr ⟨List.mem_of_getElem? (i := 217) (by decide +kernel), by decide +kernel⟩
theorem mt_218 : (.fieldLink RM 23 "LinkKeeperModel" "timeCount" "[I" : Cond) ∈ lw_g := List.mem_filter.mpr ⟨List.mem_of_getElem? (i := 218) (by decide +kernel), by decide +kernel⟩
theorem mt_219 : (.fieldLink RM 45 "LinkKeeperModel" "moment" "I" : Cond) ∈ lw_g := List.mem_filter.mpr ⟨List.mem_of_getElem? (i := 219) (by decide +kernel), by decide +kernel⟩
theorem mt_220 : (.fieldLink RM 48 "LinkKeeperModel" "links" "I" : Cond) ∈ lw_g := List.mem_filter.mpr ⟨List.mem_of_getElem? (i := 220) (by decide +kernel), by decide +kernel⟩
theorem mt_221 : (.fieldLink RM 26 "LinkKeeperModel" "from" "[I" : Cond) ∈ lw_g := List.mem_filter.mpr ⟨List.mem_of_getElem? (i := 221) (by decide +kernel), by decide +kernel⟩
theorem mt_222 : (.fieldLink RM 29 "LinkKeeperModel" "field" "[I" : Cond) ∈ lw_g := List.mem_filter.mpr ⟨List.mem_of_getElem? (i := 222) (by decide +kernel), by decide +kernel⟩
theorem mt_223 : (.fieldLink RM 32 "LinkKeeperModel" "to" "[I" : Cond) ∈ lw_g := List.mem_filter.mpr ⟨List.mem_of_getElem? (i := 223) (by decide +kernel), by decide +kernel⟩
theorem mt_224 : (.fieldLink RM 35 "LinkKeeperModel" "ring" "[I" : Cond) ∈ lw_g := List.mem_filter.mpr ⟨List.mem_of_getElem? (i := 224) (by decide +kernel), by decide +kernel⟩
theorem mt_225 : (.fieldLink RM 77 "LinkKeeperModel" "ringLength" "I" : Cond) ∈ lw_g := List.mem_filter.mpr ⟨List.mem_of_getElem? (i := 225) (by decide +kernel), by decide +kernel⟩
theorem mt_255 : (.methodLink RL 17 yM_record : Cond) ∈ lw_g := List.mem_filter.mpr ⟨List.mem_of_getElem? (i := 255) (by decide +kernel), by decide +kernel⟩
theorem mt_256 : (.instanceMethod yM_record : Cond) ∈ lw_g := List.mem_filter.mpr ⟨List.mem_of_getElem? (i := 256) (by decide +kernel), by decide +kernel⟩
theorem mt_257 : (.selects RM yM_record yM_record : Cond) ∈ lw_g := List.mem_filter.mpr ⟨List.mem_of_getElem? (i := 257) (by decide +kernel), by decide +kernel⟩
theorem mt_258 : (.code yM_record cM_record 1 (some .int) : Cond) ∈ lw_g := List.mem_filter.mpr ⟨List.mem_of_getElem? (i := 258) (by decide +kernel), by decide +kernel⟩
theorem mt_259 : (.methodLink RL 22 yM_link : Cond) ∈ lw_g := List.mem_filter.mpr ⟨List.mem_of_getElem? (i := 259) (by decide +kernel), by decide +kernel⟩
theorem mt_260 : (.instanceMethod yM_link : Cond) ∈ lw_g := List.mem_filter.mpr ⟨List.mem_of_getElem? (i := 260) (by decide +kernel), by decide +kernel⟩
theorem mt_261 : (.selects RM yM_link yM_link : Cond) ∈ lw_g := List.mem_filter.mpr ⟨List.mem_of_getElem? (i := 261) (by decide +kernel), by decide +kernel⟩
theorem mt_262 : (.code yM_link cM_link 5 (some .int) : Cond) ∈ lw_g := List.mem_filter.mpr ⟨List.mem_of_getElem? (i := 262) (by decide +kernel), by decide +kernel⟩
theorem mt_263 : (.methodLink RM 55 yM_isLive : Cond) ∈ lw_g := List.mem_filter.mpr ⟨List.mem_of_getElem? (i := 263) (by decide +kernel), by decide +kernel⟩
theorem mt_265 : (.instanceMethod yM_isLive : Cond) ∈ lw_g := List.mem_filter.mpr ⟨List.mem_of_getElem? (i := 265) (by decide +kernel), by decide +kernel⟩
theorem mt_266 : (.code yM_isLive cM_isLive 2 (some .boolean) : Cond) ∈ lw_g := List.mem_filter.mpr ⟨List.mem_of_getElem? (i := 266) (by decide +kernel), by decide +kernel⟩
theorem mt_267 : (.methodLink RM 59 yM_isHeading : Cond) ∈ lw_g := List.mem_filter.mpr ⟨List.mem_of_getElem? (i := 267) (by decide +kernel), by decide +kernel⟩
theorem mt_268 : (.static yM_isHeading : Cond) ∈ lw_g := List.mem_filter.mpr ⟨List.mem_of_getElem? (i := 268) (by decide +kernel), by decide +kernel⟩
theorem mt_269 : (.code yM_isHeading cM_isHeading 1 (some .boolean) : Cond) ∈ lw_g := List.mem_filter.mpr ⟨List.mem_of_getElem? (i := 269) (by decide +kernel), by decide +kernel⟩
theorem mt_270 : (.methodLink RM 62 yM_count : Cond) ∈ lw_g := List.mem_filter.mpr ⟨List.mem_of_getElem? (i := 270) (by decide +kernel), by decide +kernel⟩
theorem mt_272 : (.instanceMethod yM_count : Cond) ∈ lw_g := List.mem_filter.mpr ⟨List.mem_of_getElem? (i := 272) (by decide +kernel), by decide +kernel⟩
theorem mt_273 : (.code yM_count cM_count 5 (some .int) : Cond) ∈ lw_g := List.mem_filter.mpr ⟨List.mem_of_getElem? (i := 273) (by decide +kernel), by decide +kernel⟩
theorem mt_274 : (.methodLink RM 66 yM_most : Cond) ∈ lw_g := List.mem_filter.mpr ⟨List.mem_of_getElem? (i := 274) (by decide +kernel), by decide +kernel⟩
theorem mt_275 : (.static yM_most : Cond) ∈ lw_g := List.mem_filter.mpr ⟨List.mem_of_getElem? (i := 275) (by decide +kernel), by decide +kernel⟩
theorem mt_276 : (.code yM_most cM_most 1 (some .int) : Cond) ∈ lw_g := List.mem_filter.mpr ⟨List.mem_of_getElem? (i := 276) (by decide +kernel), by decide +kernel⟩
theorem mt_277 : (.methodLink RM 69 yM_find : Cond) ∈ lw_g := List.mem_filter.mpr ⟨List.mem_of_getElem? (i := 277) (by decide +kernel), by decide +kernel⟩
theorem mt_279 : (.instanceMethod yM_find : Cond) ∈ lw_g := List.mem_filter.mpr ⟨List.mem_of_getElem? (i := 279) (by decide +kernel), by decide +kernel⟩
theorem mt_280 : (.code yM_find cM_find 5 (some .int) : Cond) ∈ lw_g := List.mem_filter.mpr ⟨List.mem_of_getElem? (i := 280) (by decide +kernel), by decide +kernel⟩
theorem mt_281 : (.methodLink RM 73 yM_liesIn : Cond) ∈ lw_g := List.mem_filter.mpr ⟨List.mem_of_getElem? (i := 281) (by decide +kernel), by decide +kernel⟩
theorem mt_283 : (.instanceMethod yM_liesIn : Cond) ∈ lw_g := List.mem_filter.mpr ⟨List.mem_of_getElem? (i := 283) (by decide +kernel), by decide +kernel⟩
theorem mt_284 : (.code yM_liesIn cM_liesIn 4 (some .boolean) : Cond) ∈ lw_g := List.mem_filter.mpr ⟨List.mem_of_getElem? (i := 284) (by decide +kernel), by decide +kernel⟩
theorem mt_285 : (.methodLink RM 51 yM_hostOf : Cond) ∈ lw_g := List.mem_filter.mpr ⟨List.mem_of_getElem? (i := 285) (by decide +kernel), by decide +kernel⟩
theorem mt_287 : (.instanceMethod yM_hostOf : Cond) ∈ lw_g := List.mem_filter.mpr ⟨List.mem_of_getElem? (i := 287) (by decide +kernel), by decide +kernel⟩
theorem mt_288 : (.code yM_hostOf cM_hostOf 3 (some .int) : Cond) ∈ lw_g := List.mem_filter.mpr ⟨List.mem_of_getElem? (i := 288) (by decide +kernel), by decide +kernel⟩
theorem mt_289 : (.methodLink RM 80 yM_changed : Cond) ∈ lw_g := List.mem_filter.mpr ⟨List.mem_of_getElem? (i := 289) (by decide +kernel), by decide +kernel⟩
theorem mt_291 : (.instanceMethod yM_changed : Cond) ∈ lw_g := List.mem_filter.mpr ⟨List.mem_of_getElem? (i := 291) (by decide +kernel), by decide +kernel⟩
theorem mt_292 : (.code yM_changed cM_changed 2 none : Cond) ∈ lw_g := List.mem_filter.mpr ⟨List.mem_of_getElem? (i := 292) (by decide +kernel), by decide +kernel⟩
theorem mt_293 : (.methodLink RL 27 yM_change : Cond) ∈ lw_g := List.mem_filter.mpr ⟨List.mem_of_getElem? (i := 293) (by decide +kernel), by decide +kernel⟩
theorem mt_294 : (.instanceMethod yM_change : Cond) ∈ lw_g := List.mem_filter.mpr ⟨List.mem_of_getElem? (i := 294) (by decide +kernel), by decide +kernel⟩
theorem mt_295 : (.selects RM yM_change yM_change : Cond) ∈ lw_g := List.mem_filter.mpr ⟨List.mem_of_getElem? (i := 295) (by decide +kernel), by decide +kernel⟩
theorem mt_296 : (.code yM_change cM_change 7 (some .int) : Cond) ∈ lw_g := List.mem_filter.mpr ⟨List.mem_of_getElem? (i := 296) (by decide +kernel), by decide +kernel⟩
theorem mt_297 : (.methodLink RM 84 yM_drop : Cond) ∈ lw_g := List.mem_filter.mpr ⟨List.mem_of_getElem? (i := 297) (by decide +kernel), by decide +kernel⟩
theorem mt_299 : (.instanceMethod yM_drop : Cond) ∈ lw_g := List.mem_filter.mpr ⟨List.mem_of_getElem? (i := 299) (by decide +kernel), by decide +kernel⟩
theorem mt_300 : (.code yM_drop cM_drop 3 none : Cond) ∈ lw_g := List.mem_filter.mpr ⟨List.mem_of_getElem? (i := 300) (by decide +kernel), by decide +kernel⟩
theorem mt_301 : (.methodLink RL 31 yM_broken : Cond) ∈ lw_g := List.mem_filter.mpr ⟨List.mem_of_getElem? (i := 301) (by decide +kernel), by decide +kernel⟩
theorem mt_302 : (.instanceMethod yM_broken : Cond) ∈ lw_g := List.mem_filter.mpr ⟨List.mem_of_getElem? (i := 302) (by decide +kernel), by decide +kernel⟩
theorem mt_303 : (.selects RM yM_broken yM_broken : Cond) ∈ lw_g := List.mem_filter.mpr ⟨List.mem_of_getElem? (i := 303) (by decide +kernel), by decide +kernel⟩
theorem mt_304 : (.code yM_broken cM_broken 4 (some .int) : Cond) ∈ lw_g := List.mem_filter.mpr ⟨List.mem_of_getElem? (i := 304) (by decide +kernel), by decide +kernel⟩
theorem mt_305 : (.methodLink RM 90 yM_brokenAt : Cond) ∈ lw_g := List.mem_filter.mpr ⟨List.mem_of_getElem? (i := 305) (by decide +kernel), by decide +kernel⟩
theorem mt_307 : (.instanceMethod yM_brokenAt : Cond) ∈ lw_g := List.mem_filter.mpr ⟨List.mem_of_getElem? (i := 307) (by decide +kernel), by decide +kernel⟩
theorem mt_308 : (.code yM_brokenAt cM_brokenAt 4 (some .int) : Cond) ∈ lw_g := List.mem_filter.mpr ⟨List.mem_of_getElem? (i := 308) (by decide +kernel), by decide +kernel⟩
theorem mt_309 : (.methodLink RM 87 yM_isBroken : Cond) ∈ lw_g := List.mem_filter.mpr ⟨List.mem_of_getElem? (i := 309) (by decide +kernel), by decide +kernel⟩
theorem mt_311 : (.instanceMethod yM_isBroken : Cond) ∈ lw_g := List.mem_filter.mpr ⟨List.mem_of_getElem? (i := 311) (by decide +kernel), by decide +kernel⟩
theorem mt_312 : (.code yM_isBroken cM_isBroken 2 (some .boolean) : Cond) ∈ lw_g := List.mem_filter.mpr ⟨List.mem_of_getElem? (i := 312) (by decide +kernel), by decide +kernel⟩
theorem mt_313 : (.methodLink RL 36 yM_repair : Cond) ∈ lw_g := List.mem_filter.mpr ⟨List.mem_of_getElem? (i := 313) (by decide +kernel), by decide +kernel⟩
theorem mt_314 : (.instanceMethod yM_repair : Cond) ∈ lw_g := List.mem_filter.mpr ⟨List.mem_of_getElem? (i := 314) (by decide +kernel), by decide +kernel⟩
theorem mt_315 : (.selects RM yM_repair yM_repair : Cond) ∈ lw_g := List.mem_filter.mpr ⟨List.mem_of_getElem? (i := 315) (by decide +kernel), by decide +kernel⟩
theorem mt_316 : (.code yM_repair cM_repair 4 (some .int) : Cond) ∈ lw_g := List.mem_filter.mpr ⟨List.mem_of_getElem? (i := 316) (by decide +kernel), by decide +kernel⟩
theorem mt_317 : (.methodLink RL 40 yM_chain : Cond) ∈ lw_g := List.mem_filter.mpr ⟨List.mem_of_getElem? (i := 317) (by decide +kernel), by decide +kernel⟩
theorem mt_318 : (.instanceMethod yM_chain : Cond) ∈ lw_g := List.mem_filter.mpr ⟨List.mem_of_getElem? (i := 318) (by decide +kernel), by decide +kernel⟩
theorem mt_319 : (.selects RM yM_chain yM_chain : Cond) ∈ lw_g := List.mem_filter.mpr ⟨List.mem_of_getElem? (i := 319) (by decide +kernel), by decide +kernel⟩
theorem mt_320 : (.code yM_chain cM_chain 5 (some .int) : Cond) ∈ lw_g := List.mem_filter.mpr ⟨List.mem_of_getElem? (i := 320) (by decide +kernel), by decide +kernel⟩
theorem mt_321 : (.methodLink RL 44 yM_ring : Cond) ∈ lw_g := List.mem_filter.mpr ⟨List.mem_of_getElem? (i := 321) (by decide +kernel), by decide +kernel⟩
theorem mt_322 : (.instanceMethod yM_ring : Cond) ∈ lw_g := List.mem_filter.mpr ⟨List.mem_of_getElem? (i := 322) (by decide +kernel), by decide +kernel⟩
theorem mt_323 : (.selects RM yM_ring yM_ring : Cond) ∈ lw_g := List.mem_filter.mpr ⟨List.mem_of_getElem? (i := 323) (by decide +kernel), by decide +kernel⟩
theorem mt_324 : (.code yM_ring cM_ring 2 (some .int) : Cond) ∈ lw_g := List.mem_filter.mpr ⟨List.mem_of_getElem? (i := 324) (by decide +kernel), by decide +kernel⟩
theorem mt_325 : (.methodLink RL 48 yM_host : Cond) ∈ lw_g := List.mem_filter.mpr ⟨List.mem_of_getElem? (i := 325) (by decide +kernel), by decide +kernel⟩
theorem mt_326 : (.instanceMethod yM_host : Cond) ∈ lw_g := List.mem_filter.mpr ⟨List.mem_of_getElem? (i := 326) (by decide +kernel), by decide +kernel⟩
theorem mt_327 : (.selects RM yM_host yM_host : Cond) ∈ lw_g := List.mem_filter.mpr ⟨List.mem_of_getElem? (i := 327) (by decide +kernel), by decide +kernel⟩
theorem mt_328 : (.code yM_host cM_host 2 (some .int) : Cond) ∈ lw_g := List.mem_filter.mpr ⟨List.mem_of_getElem? (i := 328) (by decide +kernel), by decide +kernel⟩
theorem mt_329 : (.methodLink RL 52 yM_move : Cond) ∈ lw_g := List.mem_filter.mpr ⟨List.mem_of_getElem? (i := 329) (by decide +kernel), by decide +kernel⟩
theorem mt_330 : (.instanceMethod yM_move : Cond) ∈ lw_g := List.mem_filter.mpr ⟨List.mem_of_getElem? (i := 330) (by decide +kernel), by decide +kernel⟩
theorem mt_331 : (.selects RM yM_move yM_move : Cond) ∈ lw_g := List.mem_filter.mpr ⟨List.mem_of_getElem? (i := 331) (by decide +kernel), by decide +kernel⟩
theorem mt_332 : (.code yM_move cM_move 5 (some .int) : Cond) ∈ lw_g := List.mem_filter.mpr ⟨List.mem_of_getElem? (i := 332) (by decide +kernel), by decide +kernel⟩
theorem mt_333 : (.methodLink RL 56 yM_delete : Cond) ∈ lw_g := List.mem_filter.mpr ⟨List.mem_of_getElem? (i := 333) (by decide +kernel), by decide +kernel⟩
theorem mt_334 : (.instanceMethod yM_delete : Cond) ∈ lw_g := List.mem_filter.mpr ⟨List.mem_of_getElem? (i := 334) (by decide +kernel), by decide +kernel⟩
theorem mt_335 : (.selects RM yM_delete yM_delete : Cond) ∈ lw_g := List.mem_filter.mpr ⟨List.mem_of_getElem? (i := 335) (by decide +kernel), by decide +kernel⟩
theorem mt_336 : (.code yM_delete cM_delete 4 (some .int) : Cond) ∈ lw_g := List.mem_filter.mpr ⟨List.mem_of_getElem? (i := 336) (by decide +kernel), by decide +kernel⟩
theorem mt_337 : (.methodLink RL 60 yM_times : Cond) ∈ lw_g := List.mem_filter.mpr ⟨List.mem_of_getElem? (i := 337) (by decide +kernel), by decide +kernel⟩
theorem mt_338 : (.instanceMethod yM_times : Cond) ∈ lw_g := List.mem_filter.mpr ⟨List.mem_of_getElem? (i := 338) (by decide +kernel), by decide +kernel⟩
theorem mt_339 : (.selects RM yM_times yM_times : Cond) ∈ lw_g := List.mem_filter.mpr ⟨List.mem_of_getElem? (i := 339) (by decide +kernel), by decide +kernel⟩
theorem mt_340 : (.code yM_times cM_times 3 (some .int) : Cond) ∈ lw_g := List.mem_filter.mpr ⟨List.mem_of_getElem? (i := 340) (by decide +kernel), by decide +kernel⟩
theorem mt_341 : (.methodLink RL 64 yM_orphan : Cond) ∈ lw_g := List.mem_filter.mpr ⟨List.mem_of_getElem? (i := 341) (by decide +kernel), by decide +kernel⟩
theorem mt_342 : (.instanceMethod yM_orphan : Cond) ∈ lw_g := List.mem_filter.mpr ⟨List.mem_of_getElem? (i := 342) (by decide +kernel), by decide +kernel⟩
theorem mt_343 : (.selects RM yM_orphan yM_orphan : Cond) ∈ lw_g := List.mem_filter.mpr ⟨List.mem_of_getElem? (i := 343) (by decide +kernel), by decide +kernel⟩
theorem mt_344 : (.code yM_orphan cM_orphan 6 (some .int) : Cond) ∈ lw_g := List.mem_filter.mpr ⟨List.mem_of_getElem? (i := 344) (by decide +kernel), by decide +kernel⟩
theorem mt_345 : (.methodLink RL 68 yM_house : Cond) ∈ lw_g := List.mem_filter.mpr ⟨List.mem_of_getElem? (i := 345) (by decide +kernel), by decide +kernel⟩
theorem mt_346 : (.instanceMethod yM_house : Cond) ∈ lw_g := List.mem_filter.mpr ⟨List.mem_of_getElem? (i := 346) (by decide +kernel), by decide +kernel⟩
theorem mt_347 : (.selects RM yM_house yM_house : Cond) ∈ lw_g := List.mem_filter.mpr ⟨List.mem_of_getElem? (i := 347) (by decide +kernel), by decide +kernel⟩
theorem mt_348 : (.code yM_house cM_house 2 (some .int) : Cond) ∈ lw_g := List.mem_filter.mpr ⟨List.mem_of_getElem? (i := 348) (by decide +kernel), by decide +kernel⟩
theorem mt_349 : (.methodLink RL 72 yM_goes : Cond) ∈ lw_g := List.mem_filter.mpr ⟨List.mem_of_getElem? (i := 349) (by decide +kernel), by decide +kernel⟩
theorem mt_350 : (.instanceMethod yM_goes : Cond) ∈ lw_g := List.mem_filter.mpr ⟨List.mem_of_getElem? (i := 350) (by decide +kernel), by decide +kernel⟩
theorem mt_351 : (.selects RM yM_goes yM_goes : Cond) ∈ lw_g := List.mem_filter.mpr ⟨List.mem_of_getElem? (i := 351) (by decide +kernel), by decide +kernel⟩
theorem mt_352 : (.code yM_goes cM_goes 6 (some .int) : Cond) ∈ lw_g := List.mem_filter.mpr ⟨List.mem_of_getElem? (i := 352) (by decide +kernel), by decide +kernel⟩
theorem mt_0 : (.selects RX yX_hasRoomFor yX_hasRoomFor : Cond) ∈ lw_g := List.mem_filter.mpr ⟨List.mem_of_getElem? (i := 0) (by decide +kernel), by decide +kernel⟩
theorem mt_1 : (.selects RX yX_isLive yX_isLive : Cond) ∈ lw_g := List.mem_filter.mpr ⟨List.mem_of_getElem? (i := 1) (by decide +kernel), by decide +kernel⟩
theorem mt_2 : (.selects RX yX_isRecord yX_isRecord : Cond) ∈ lw_g := List.mem_filter.mpr ⟨List.mem_of_getElem? (i := 2) (by decide +kernel), by decide +kernel⟩
theorem mt_3 : (.selects RX yX_mayGoTo yX_mayGoTo : Cond) ∈ lw_g := List.mem_filter.mpr ⟨List.mem_of_getElem? (i := 3) (by decide +kernel), by decide +kernel⟩
theorem mt_4 : (.selects RX yX_liesIn yX_liesIn : Cond) ∈ lw_g := List.mem_filter.mpr ⟨List.mem_of_getElem? (i := 4) (by decide +kernel), by decide +kernel⟩
theorem mt_5 : (.selects RX yX_keepRefusedWay yX_keepRefusedWay : Cond) ∈ lw_g := List.mem_filter.mpr ⟨List.mem_of_getElem? (i := 5) (by decide +kernel), by decide +kernel⟩
theorem mt_6 : (.selects RX yX_addLink yX_addLink : Cond) ∈ lw_g := List.mem_filter.mpr ⟨List.mem_of_getElem? (i := 6) (by decide +kernel), by decide +kernel⟩
theorem mt_7 : (.selects RX yX_noteChange yX_noteChange : Cond) ∈ lw_g := List.mem_filter.mpr ⟨List.mem_of_getElem? (i := 7) (by decide +kernel), by decide +kernel⟩
theorem mt_8 : (.selects RX yX_sendToHeading yX_sendToHeading : Cond) ∈ lw_g := List.mem_filter.mpr ⟨List.mem_of_getElem? (i := 8) (by decide +kernel), by decide +kernel⟩
theorem mt_9 : (.selects RX yX_findLink yX_findLink : Cond) ∈ lw_g := List.mem_filter.mpr ⟨List.mem_of_getElem? (i := 9) (by decide +kernel), by decide +kernel⟩
theorem mt_10 : (.selects RX yX_removeLink yX_removeLink : Cond) ∈ lw_g := List.mem_filter.mpr ⟨List.mem_of_getElem? (i := 10) (by decide +kernel), by decide +kernel⟩
theorem mt_11 : (.selects RX yX_findBroken yX_findBroken : Cond) ∈ lw_g := List.mem_filter.mpr ⟨List.mem_of_getElem? (i := 11) (by decide +kernel), by decide +kernel⟩
theorem mt_12 : (.selects RX yX_countHostedBy yX_countHostedBy : Cond) ∈ lw_g := List.mem_filter.mpr ⟨List.mem_of_getElem? (i := 12) (by decide +kernel), by decide +kernel⟩
theorem mt_13 : (.selects RX yX_removeLinksOf yX_removeLinksOf : Cond) ∈ lw_g := List.mem_filter.mpr ⟨List.mem_of_getElem? (i := 13) (by decide +kernel), by decide +kernel⟩
theorem mt_14 : (.selects RX yX_isLinked yX_isLinked : Cond) ∈ lw_g := List.mem_filter.mpr ⟨List.mem_of_getElem? (i := 14) (by decide +kernel), by decide +kernel⟩
theorem mt_15 : (.selects RM yM_isLive yM_isLive : Cond) ∈ lw_g := List.mem_filter.mpr ⟨List.mem_of_getElem? (i := 15) (by decide +kernel), by decide +kernel⟩
theorem mt_16 : (.selects RM yM_count yM_count : Cond) ∈ lw_g := List.mem_filter.mpr ⟨List.mem_of_getElem? (i := 16) (by decide +kernel), by decide +kernel⟩
theorem mt_17 : (.selects RM yM_find yM_find : Cond) ∈ lw_g := List.mem_filter.mpr ⟨List.mem_of_getElem? (i := 17) (by decide +kernel), by decide +kernel⟩
theorem mt_18 : (.selects RM yM_liesIn yM_liesIn : Cond) ∈ lw_g := List.mem_filter.mpr ⟨List.mem_of_getElem? (i := 18) (by decide +kernel), by decide +kernel⟩
theorem mt_19 : (.selects RM yM_hostOf yM_hostOf : Cond) ∈ lw_g := List.mem_filter.mpr ⟨List.mem_of_getElem? (i := 19) (by decide +kernel), by decide +kernel⟩
theorem mt_20 : (.selects RM yM_changed yM_changed : Cond) ∈ lw_g := List.mem_filter.mpr ⟨List.mem_of_getElem? (i := 20) (by decide +kernel), by decide +kernel⟩
theorem mt_21 : (.selects RM yM_drop yM_drop : Cond) ∈ lw_g := List.mem_filter.mpr ⟨List.mem_of_getElem? (i := 21) (by decide +kernel), by decide +kernel⟩
theorem mt_22 : (.selects RM yM_brokenAt yM_brokenAt : Cond) ∈ lw_g := List.mem_filter.mpr ⟨List.mem_of_getElem? (i := 22) (by decide +kernel), by decide +kernel⟩
theorem mt_23 : (.selects RM yM_isBroken yM_isBroken : Cond) ∈ lw_g := List.mem_filter.mpr ⟨List.mem_of_getElem? (i := 23) (by decide +kernel), by decide +kernel⟩
theorem lw_g_in : ∀ w ∈ lw_g, w ∈ lw_tbl := fun w h => (List.mem_filter.mp h).1
theorem lw_good : ∀ w ∈ lw_g, ((w.onTables && w.keeps) = true ∨ ∃ ty, w = .arrayClass ty) := fun w h => good_of_word (List.mem_filter.mp h).2
theorem gw_V {own : String} {idx : Nat} {C : String} {y : MethodName} {cd : ByteArray} {n : Nat} {rt : Option FieldType} (h1 : Cond.methodLink own idx y ∈ lw_g) (h2 : Cond.instanceMethod y ∈ lw_g) (h3 : Cond.selects C y y ∈ lw_g) (h4 : Cond.initialized C ∈ lw_g) (h5 : Cond.code y cd n rt ∈ lw_g) : GoodIn lw_g (wsV own idx C y (Cond.code y cd n rt :: lw_g)) := by
  intro w hw
  have hm : w ∈ lw_g := by
    unfold wsV at hw
    rcases List.mem_append.mp hw with h | h
    · simp only [List.mem_cons, List.not_mem_nil, or_false] at h
      rcases h with rfl | rfl | rfl | rfl <;> assumption
    · rcases List.mem_cons.mp h with rfl | h
      · exact h5
      · exact h
  exact ⟨hm, lw_good w hm⟩
theorem gw_S {own : String} {idx : Nat} {y : MethodName} {cd : ByteArray} {n : Nat} {rt : Option FieldType} (h1 : Cond.methodLink own idx y ∈ lw_g) (h2 : Cond.static y ∈ lw_g) (h4 : Cond.initialized y.cls ∈ lw_g) (h5 : Cond.code y cd n rt ∈ lw_g) : GoodIn lw_g (va_wsS own idx y (Cond.code y cd n rt :: lw_g)) := by
  intro w hw
  have hm : w ∈ lw_g := by
    unfold va_wsS at hw
    rcases List.mem_append.mp hw with h | h
    · simp only [List.mem_cons, List.not_mem_nil, or_false] at h
      rcases h with rfl | rfl | rfl <;> assumption
    · rcases List.mem_cons.mp h with rfl | h
      · exact h5
      · exact h
  exact ⟨hm, lw_good w hm⟩
theorem gw_I {y : MethodName} {cd : ByteArray} {n : Nat} {rt : Option FieldType} (h5 : Cond.code y cd n rt ∈ lw_g) : GoodIn lw_g (Cond.code y cd n rt :: lw_g) := by
  intro w hw
  have hm : w ∈ lw_g := by
    rcases List.mem_cons.mp hw with rfl | h
    · exact h5
    · exact h
  exact ⟨hm, lw_good w hm⟩
