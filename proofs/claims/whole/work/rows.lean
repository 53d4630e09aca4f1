section
-- ===== PART A: goes FIRST, ahead of the names: the tables' words, and 'selects' of the private methods out of them =====
/-- a private method of a class that the tables say can be made, by its rows of tables_1 -/
def lw_okq (q : MethodName × Nat) : Prop := (q.1.cls ≠ "java/lang/invoke/MethodHandle" ∧ q.1.cls ≠ "java/lang/invoke/VarHandle") ∧ Cond.instantiable q.1.cls q.2 ∈ tables_1 ∧ Cond.privateMethod q.1 ∈ tables_1 ∧ Cond.instanceMethod q.1 ∈ tables_1
theorem lw_p0 : lw_okq (⟨"LinkKeeper", "hasRoomFor", "(IIII)Z"⟩, 13) := ⟨⟨by decide +kernel, by decide +kernel⟩, List.mem_of_getElem? (i := 6) (by decide +kernel), List.mem_of_getElem? (i := 64) (by decide +kernel), List.mem_of_getElem? (i := 65) (by decide +kernel)⟩
theorem lw_p1 : lw_okq (⟨"LinkKeeper", "isLive", "(I)Z"⟩, 13) := ⟨⟨by decide +kernel, by decide +kernel⟩, List.mem_of_getElem? (i := 6) (by decide +kernel), List.mem_of_getElem? (i := 68) (by decide +kernel), List.mem_of_getElem? (i := 69) (by decide +kernel)⟩
theorem lw_p2 : lw_okq (⟨"LinkKeeper", "isRecord", "(I)Z"⟩, 13) := ⟨⟨by decide +kernel, by decide +kernel⟩, List.mem_of_getElem? (i := 6) (by decide +kernel), List.mem_of_getElem? (i := 72) (by decide +kernel), List.mem_of_getElem? (i := 73) (by decide +kernel)⟩
theorem lw_p3 : lw_okq (⟨"LinkKeeper", "mayGoTo", "(III)Z"⟩, 13) := ⟨⟨by decide +kernel, by decide +kernel⟩, List.mem_of_getElem? (i := 6) (by decide +kernel), List.mem_of_getElem? (i := 76) (by decide +kernel), List.mem_of_getElem? (i := 77) (by decide +kernel)⟩
theorem lw_p4 : lw_okq (⟨"LinkKeeper", "liesIn", "(II)Z"⟩, 13) := ⟨⟨by decide +kernel, by decide +kernel⟩, List.mem_of_getElem? (i := 6) (by decide +kernel), List.mem_of_getElem? (i := 85) (by decide +kernel), List.mem_of_getElem? (i := 86) (by decide +kernel)⟩
theorem lw_p5 : lw_okq (⟨"LinkKeeper", "keepRefusedWay", "(II)V"⟩, 13) := ⟨⟨by decide +kernel, by decide +kernel⟩, List.mem_of_getElem? (i := 6) (by decide +kernel), List.mem_of_getElem? (i := 89) (by decide +kernel), List.mem_of_getElem? (i := 90) (by decide +kernel)⟩
theorem lw_p6 : lw_okq (⟨"LinkKeeper", "addLink", "(III)V"⟩, 13) := ⟨⟨by decide +kernel, by decide +kernel⟩, List.mem_of_getElem? (i := 6) (by decide +kernel), List.mem_of_getElem? (i := 93) (by decide +kernel), List.mem_of_getElem? (i := 94) (by decide +kernel)⟩
theorem lw_p7 : lw_okq (⟨"LinkKeeper", "noteChange", "(I)V"⟩, 13) := ⟨⟨by decide +kernel, by decide +kernel⟩, List.mem_of_getElem? (i := 6) (by decide +kernel), List.mem_of_getElem? (i := 97) (by decide +kernel), List.mem_of_getElem? (i := 98) (by decide +kernel)⟩
theorem lw_p8 : lw_okq (⟨"LinkKeeper", "sendToHeading", "(II)V"⟩, 13) := ⟨⟨by decide +kernel, by decide +kernel⟩, List.mem_of_getElem? (i := 6) (by decide +kernel), List.mem_of_getElem? (i := 105) (by decide +kernel), List.mem_of_getElem? (i := 106) (by decide +kernel)⟩
theorem lw_p9 : lw_okq (⟨"LinkKeeper", "findLink", "(III)I"⟩, 13) := ⟨⟨by decide +kernel, by decide +kernel⟩, List.mem_of_getElem? (i := 6) (by decide +kernel), List.mem_of_getElem? (i := 109) (by decide +kernel), List.mem_of_getElem? (i := 110) (by decide +kernel)⟩
theorem lw_p10 : lw_okq (⟨"LinkKeeper", "removeLink", "(I)V"⟩, 13) := ⟨⟨by decide +kernel, by decide +kernel⟩, List.mem_of_getElem? (i := 6) (by decide +kernel), List.mem_of_getElem? (i := 116) (by decide +kernel), List.mem_of_getElem? (i := 117) (by decide +kernel)⟩
theorem lw_p11 : lw_okq (⟨"LinkKeeper", "findBroken", "(I)I"⟩, 13) := ⟨⟨by decide +kernel, by decide +kernel⟩, List.mem_of_getElem? (i := 6) (by decide +kernel), List.mem_of_getElem? (i := 127) (by decide +kernel), List.mem_of_getElem? (i := 128) (by decide +kernel)⟩
theorem lw_p12 : lw_okq (⟨"LinkKeeper", "countHostedBy", "(I)I"⟩, 13) := ⟨⟨by decide +kernel, by decide +kernel⟩, List.mem_of_getElem? (i := 6) (by decide +kernel), List.mem_of_getElem? (i := 155) (by decide +kernel), List.mem_of_getElem? (i := 156) (by decide +kernel)⟩
theorem lw_p13 : lw_okq (⟨"LinkKeeper", "removeLinksOf", "(I)V"⟩, 13) := ⟨⟨by decide +kernel, by decide +kernel⟩, List.mem_of_getElem? (i := 6) (by decide +kernel), List.mem_of_getElem? (i := 159) (by decide +kernel), List.mem_of_getElem? (i := 160) (by decide +kernel)⟩
theorem lw_p14 : lw_okq (⟨"LinkKeeper", "isLinked", "(I)Z"⟩, 13) := ⟨⟨by decide +kernel, by decide +kernel⟩, List.mem_of_getElem? (i := 6) (by decide +kernel), List.mem_of_getElem? (i := 171) (by decide +kernel), List.mem_of_getElem? (i := 172) (by decide +kernel)⟩
theorem lw_p15 : lw_okq (⟨"LinkKeeperModel", "isLive", "(I)Z"⟩, 14) := ⟨⟨by decide +kernel, by decide +kernel⟩, List.mem_of_getElem? (i := 183) (by decide +kernel), List.mem_of_getElem? (i := 240) (by decide +kernel), List.mem_of_getElem? (i := 241) (by decide +kernel)⟩
def lw_privs_1 : List (MethodName × Nat) := [(⟨"LinkKeeper", "hasRoomFor", "(IIII)Z"⟩, 13), (⟨"LinkKeeper", "isLive", "(I)Z"⟩, 13), (⟨"LinkKeeper", "isRecord", "(I)Z"⟩, 13), (⟨"LinkKeeper", "mayGoTo", "(III)Z"⟩, 13), (⟨"LinkKeeper", "liesIn", "(II)Z"⟩, 13), (⟨"LinkKeeper", "keepRefusedWay", "(II)V"⟩, 13), (⟨"LinkKeeper", "addLink", "(III)V"⟩, 13), (⟨"LinkKeeper", "noteChange", "(I)V"⟩, 13), (⟨"LinkKeeper", "sendToHeading", "(II)V"⟩, 13), (⟨"LinkKeeper", "findLink", "(III)I"⟩, 13), (⟨"LinkKeeper", "removeLink", "(I)V"⟩, 13), (⟨"LinkKeeper", "findBroken", "(I)I"⟩, 13), (⟨"LinkKeeper", "countHostedBy", "(I)I"⟩, 13), (⟨"LinkKeeper", "removeLinksOf", "(I)V"⟩, 13), (⟨"LinkKeeper", "isLinked", "(I)Z"⟩, 13), (⟨"LinkKeeperModel", "isLive", "(I)Z"⟩, 14)]
theorem lw_r1 : ∀ q ∈ lw_privs_1, lw_okq q := List.forall_mem_cons.mpr ⟨lw_p0, List.forall_mem_cons.mpr ⟨lw_p1, List.forall_mem_cons.mpr ⟨lw_p2, List.forall_mem_cons.mpr ⟨lw_p3, List.forall_mem_cons.mpr ⟨lw_p4, List.forall_mem_cons.mpr ⟨lw_p5, List.forall_mem_cons.mpr ⟨lw_p6, List.forall_mem_cons.mpr ⟨lw_p7, List.forall_mem_cons.mpr ⟨lw_p8, List.forall_mem_cons.mpr ⟨lw_p9, List.forall_mem_cons.mpr ⟨lw_p10, List.forall_mem_cons.mpr ⟨lw_p11, List.forall_mem_cons.mpr ⟨lw_p12, List.forall_mem_cons.mpr ⟨lw_p13, List.forall_mem_cons.mpr ⟨lw_p14, List.forall_mem_cons.mpr ⟨lw_p15, fun _ h => absurd h List.not_mem_nil⟩⟩⟩⟩⟩⟩⟩⟩⟩⟩⟩⟩⟩⟩⟩⟩
theorem lw_p16 : lw_okq (⟨"LinkKeeperModel", "count", "(II)I"⟩, 14) := ⟨⟨by decide +kernel, by decide +kernel⟩, List.mem_of_getElem? (i := 183) (by decide +kernel), List.mem_of_getElem? (i := 247) (by decide +kernel), List.mem_of_getElem? (i := 248) (by decide +kernel)⟩
theorem lw_p17 : lw_okq (⟨"LinkKeeperModel", "find", "(III)I"⟩, 14) := ⟨⟨by decide +kernel, by decide +kernel⟩, List.mem_of_getElem? (i := 183) (by decide +kernel), List.mem_of_getElem? (i := 254) (by decide +kernel), List.mem_of_getElem? (i := 255) (by decide +kernel)⟩
theorem lw_p18 : lw_okq (⟨"LinkKeeperModel", "liesIn", "(II)Z"⟩, 14) := ⟨⟨by decide +kernel, by decide +kernel⟩, List.mem_of_getElem? (i := 183) (by decide +kernel), List.mem_of_getElem? (i := 258) (by decide +kernel), List.mem_of_getElem? (i := 259) (by decide +kernel)⟩
theorem lw_p19 : lw_okq (⟨"LinkKeeperModel", "hostOf", "(I)I"⟩, 14) := ⟨⟨by decide +kernel, by decide +kernel⟩, List.mem_of_getElem? (i := 183) (by decide +kernel), List.mem_of_getElem? (i := 262) (by decide +kernel), List.mem_of_getElem? (i := 263) (by decide +kernel)⟩
theorem lw_p20 : lw_okq (⟨"LinkKeeperModel", "changed", "(I)V"⟩, 14) := ⟨⟨by decide +kernel, by decide +kernel⟩, List.mem_of_getElem? (i := 183) (by decide +kernel), List.mem_of_getElem? (i := 266) (by decide +kernel), List.mem_of_getElem? (i := 267) (by decide +kernel)⟩
theorem lw_p21 : lw_okq (⟨"LinkKeeperModel", "drop", "(I)V"⟩, 14) := ⟨⟨by decide +kernel, by decide +kernel⟩, List.mem_of_getElem? (i := 183) (by decide +kernel), List.mem_of_getElem? (i := 274) (by decide +kernel), List.mem_of_getElem? (i := 275) (by decide +kernel)⟩
theorem lw_p22 : lw_okq (⟨"LinkKeeperModel", "brokenAt", "(I)I"⟩, 14) := ⟨⟨by decide +kernel, by decide +kernel⟩, List.mem_of_getElem? (i := 183) (by decide +kernel), List.mem_of_getElem? (i := 282) (by decide +kernel), List.mem_of_getElem? (i := 283) (by decide +kernel)⟩
theorem lw_p23 : lw_okq (⟨"LinkKeeperModel", "isBroken", "(I)Z"⟩, 14) := ⟨⟨by decide +kernel, by decide +kernel⟩, List.mem_of_getElem? (i := 183) (by decide +kernel), List.mem_of_getElem? (i := 286) (by decide +kernel), List.mem_of_getElem? (i := 287) (by decide +kernel)⟩
def lw_privs_2 : List (MethodName × Nat) := [(⟨"LinkKeeperModel", "count", "(II)I"⟩, 14), (⟨"LinkKeeperModel", "find", "(III)I"⟩, 14), (⟨"LinkKeeperModel", "liesIn", "(II)Z"⟩, 14), (⟨"LinkKeeperModel", "hostOf", "(I)I"⟩, 14), (⟨"LinkKeeperModel", "changed", "(I)V"⟩, 14), (⟨"LinkKeeperModel", "drop", "(I)V"⟩, 14), (⟨"LinkKeeperModel", "brokenAt", "(I)I"⟩, 14), (⟨"LinkKeeperModel", "isBroken", "(I)Z"⟩, 14)]
theorem lw_r2 : ∀ q ∈ lw_privs_2, lw_okq q := List.forall_mem_cons.mpr ⟨lw_p16, List.forall_mem_cons.mpr ⟨lw_p17, List.forall_mem_cons.mpr ⟨lw_p18, List.forall_mem_cons.mpr ⟨lw_p19, List.forall_mem_cons.mpr ⟨lw_p20, List.forall_mem_cons.mpr ⟨lw_p21, List.forall_mem_cons.mpr ⟨lw_p22, List.forall_mem_cons.mpr ⟨lw_p23, fun _ h => absurd h List.not_mem_nil⟩⟩⟩⟩⟩⟩⟩⟩
def lw_privs : List (MethodName × Nat) := lw_privs_1 ++ (lw_privs_2)
def lw_tbl : List Cond := k2_sels lw_privs ++ tables_1
theorem lw_privs_ok : ∀ q ∈ lw_privs, lw_okq q := by
  show ∀ q ∈ lw_privs_1 ++ (lw_privs_2), lw_okq q
  exact List.forall_mem_append.mpr ⟨lw_r1, lw_r2⟩

/-- the good words -/
def lw_g : List Cond := lw_tbl.filter goodWord
def RX : String := "LinkKeeper"
def TX : u_T := fun k => match k with
  | 0 => ("LinkKeeper", "live", "[Z", true)
  | 1 => ("LinkKeeper", "houses", "[I", true)
  | 2 => ("LinkKeeper", "hosts", "[I", true)
  | 3 => ("LinkKeeper", "changeCounts", "[I", true)
  | 4 => ("LinkKeeper", "changeMoments", "[I", true)
  | 5 => ("LinkKeeper", "records", "I", false)
  | 6 => ("LinkKeeper", "linkFrom", "[I", true)
  | 7 => ("LinkKeeper", "linkField", "[I", true)
  | 8 => ("LinkKeeper", "linkTo", "[I", true)
  | 9 => ("LinkKeeper", "links", "I", false)
  | 10 => ("LinkKeeper", "refusedWay", "[I", true)
  | 11 => ("LinkKeeper", "refusedWayLength", "I", false)
  | _ => ("LinkKeeper", "moment", "I", false)
def tyX : Nat → FieldType := fun k => match k with
  | 0 => .array .boolean
  | 1 => .array .int
  | 2 => .array .int
  | 3 => .array .int
  | 4 => .array .int
  | 5 => .int
  | 6 => .array .int
  | 7 => .array .int
  | 8 => .array .int
  | 9 => .int
  | 10 => .array .int
  | 11 => .int
  | _ => .int
theorem nmX : ∀ a, a < 13 → ∀ b, b < 13 → a ≠ b → (TX a).2.1 ≠ (TX b).2.1 := by decide +kernel
theorem tyX_ok : ∀ k, k < 13 → parseFieldDescriptor (TX k).2.2.1 = some (tyX k) := by decide +kernel
theorem inX : ∀ w ∈ u_ws RX TX 13, w ∈ lw_g := by decide +kernel
def RM : String := "LinkKeeperModel"
def TM : u_T := fun k => match k with
  | 0 => ("LinkKeeperModel", "thrown", "I", false)
  | 1 => ("LinkKeeperModel", "records", "I", false)
  | 2 => ("LinkKeeperModel", "live", "[Z", true)
  | 3 => ("LinkKeeperModel", "houses", "[I", true)
  | 4 => ("LinkKeeperModel", "hadHost", "[I", true)
  | 5 => ("LinkKeeperModel", "times", "[I", true)
  | 6 => ("LinkKeeperModel", "timeCount", "[I", true)
  | 7 => ("LinkKeeperModel", "moment", "I", false)
  | 8 => ("LinkKeeperModel", "links", "I", false)
  | 9 => ("LinkKeeperModel", "from", "[I", true)
  | 10 => ("LinkKeeperModel", "field", "[I", true)
  | 11 => ("LinkKeeperModel", "to", "[I", true)
  | 12 => ("LinkKeeperModel", "ring", "[I", true)
  | _ => ("LinkKeeperModel", "ringLength", "I", false)
def tyM : Nat → FieldType := fun k => match k with
  | 0 => .int
  | 1 => .int
  | 2 => .array .boolean
  | 3 => .array .int
  | 4 => .array .int
  | 5 => .array .int
  | 6 => .array .int
  | 7 => .int
  | 8 => .int
  | 9 => .array .int
  | 10 => .array .int
  | 11 => .array .int
  | 12 => .array .int
  | _ => .int
theorem nmM : ∀ a, a < 14 → ∀ b, b < 14 → a ≠ b → (TM a).2.1 ≠ (TM b).2.1 := by decide +kernel
theorem tyM_ok : ∀ k, k < 14 → parseFieldDescriptor (TM k).2.2.1 = some (tyM k) := by decide +kernel
theorem inM : ∀ w ∈ u_ws RM TM 14, w ∈ lw_g := by decide +kernel
def RL : String := "LinkKeeperLaw"
abbrev vwCl : List vw_C := [(RX, TX, 13), (RM, TM, 14)]
abbrev cX_init : ByteArray := prog_1_method_1_code
def yX_init : MethodName := ⟨RX, "<init>", "()V"⟩
abbrev wdX_init : List Cond := .code yX_init cX_init 1 none :: lw_g
abbrev cX_record : ByteArray := prog_1_method_2_code
def yX_record : MethodName := ⟨RX, "record", "()I"⟩
abbrev wdX_record : List Cond := .code yX_record cX_record 1 (some .int) :: lw_g
abbrev cX_link : ByteArray := prog_1_method_3_code
def yX_link : MethodName := ⟨RX, "link", "(III)I"⟩
abbrev wdX_link : List Cond := .code yX_link cX_link 4 (some .int) :: lw_g
abbrev cX_hasRoomFor : ByteArray := prog_1_method_19_code
def yX_hasRoomFor : MethodName := ⟨RX, "hasRoomFor", "(IIII)Z"⟩
abbrev wdX_hasRoomFor : List Cond := .code yX_hasRoomFor cX_hasRoomFor 8 (some .boolean) :: lw_g
abbrev cX_isLive : ByteArray := prog_1_method_17_code
def yX_isLive : MethodName := ⟨RX, "isLive", "(I)Z"⟩
abbrev wdX_isLive : List Cond := .code yX_isLive cX_isLive 2 (some .boolean) :: lw_g
abbrev cX_isRecord : ByteArray := prog_1_method_16_code
def yX_isRecord : MethodName := ⟨RX, "isRecord", "(I)Z"⟩
abbrev wdX_isRecord : List Cond := .code yX_isRecord cX_isRecord 2 (some .boolean) :: lw_g
abbrev cX_mayGoTo : ByteArray := prog_1_method_20_code
def yX_mayGoTo : MethodName := ⟨RX, "mayGoTo", "(III)Z"⟩
abbrev wdX_mayGoTo : List Cond := .code yX_mayGoTo cX_mayGoTo 4 (some .boolean) :: lw_g
abbrev cX_isHeading : ByteArray := prog_1_method_18_code
def yX_isHeading : MethodName := ⟨RX, "isHeading", "(I)Z"⟩
abbrev wdX_isHeading : List Cond := .code yX_isHeading cX_isHeading 1 (some .boolean) :: lw_g
abbrev cX_liesIn : ByteArray := prog_1_method_21_code
def yX_liesIn : MethodName := ⟨RX, "liesIn", "(II)Z"⟩
abbrev wdX_liesIn : List Cond := .code yX_liesIn cX_liesIn 5 (some .boolean) :: lw_g
abbrev cX_keepRefusedWay : ByteArray := prog_1_method_22_code
def yX_keepRefusedWay : MethodName := ⟨RX, "keepRefusedWay", "(II)V"⟩
abbrev wdX_keepRefusedWay : List Cond := .code yX_keepRefusedWay cX_keepRefusedWay 4 none :: lw_g
abbrev cX_addLink : ByteArray := prog_1_method_23_code
def yX_addLink : MethodName := ⟨RX, "addLink", "(III)V"⟩
abbrev wdX_addLink : List Cond := .code yX_addLink cX_addLink 4 none :: lw_g
abbrev cX_noteChange : ByteArray := prog_1_method_31_code
def yX_noteChange : MethodName := ⟨RX, "noteChange", "(I)V"⟩
abbrev wdX_noteChange : List Cond := .code yX_noteChange cX_noteChange 4 none :: lw_g
abbrev cX_change : ByteArray := prog_1_method_4_code
def yX_change : MethodName := ⟨RX, "change", "(II)I"⟩
abbrev wdX_change : List Cond := .code yX_change cX_change 5 (some .int) :: lw_g
abbrev cX_sendToHeading : ByteArray := prog_1_method_26_code
def yX_sendToHeading : MethodName := ⟨RX, "sendToHeading", "(II)V"⟩
abbrev wdX_sendToHeading : List Cond := .code yX_sendToHeading cX_sendToHeading 4 none :: lw_g
abbrev cX_findLink : ByteArray := prog_1_method_27_code
def yX_findLink : MethodName := ⟨RX, "findLink", "(III)I"⟩
abbrev wdX_findLink : List Cond := .code yX_findLink cX_findLink 5 (some .int) :: lw_g
abbrev cX_removeLink : ByteArray := prog_1_method_24_code
def yX_removeLink : MethodName := ⟨RX, "removeLink", "(I)V"⟩
abbrev wdX_removeLink : List Cond := .code yX_removeLink cX_removeLink 3 none :: lw_g
abbrev cX_broken : ByteArray := prog_1_method_5_code
def yX_broken : MethodName := ⟨RX, "broken", "(II)I"⟩
abbrev wdX_broken : List Cond := .code yX_broken cX_broken 4 (some .int) :: lw_g
abbrev cX_findBroken : ByteArray := prog_1_method_28_code
def yX_findBroken : MethodName := ⟨RX, "findBroken", "(I)I"⟩
abbrev wdX_findBroken : List Cond := .code yX_findBroken cX_findBroken 4 (some .int) :: lw_g
abbrev cX_repair : ByteArray := prog_1_method_6_code
def yX_repair : MethodName := ⟨RX, "repair", "(I)I"⟩
abbrev wdX_repair : List Cond := .code yX_repair cX_repair 4 (some .int) :: lw_g
abbrev cX_chain : ByteArray := prog_1_method_7_code
def yX_chain : MethodName := ⟨RX, "chain", "(II)I"⟩
abbrev wdX_chain : List Cond := .code yX_chain cX_chain 5 (some .int) :: lw_g
abbrev cX_ring : ByteArray := prog_1_method_8_code
def yX_ring : MethodName := ⟨RX, "ring", "(I)I"⟩
abbrev wdX_ring : List Cond := .code yX_ring cX_ring 2 (some .int) :: lw_g
abbrev cX_host : ByteArray := prog_1_method_9_code
def yX_host : MethodName := ⟨RX, "host", "(I)I"⟩
abbrev wdX_host : List Cond := .code yX_host cX_host 2 (some .int) :: lw_g
abbrev cX_move : ByteArray := prog_1_method_10_code
def yX_move : MethodName := ⟨RX, "move", "(II)I"⟩
abbrev wdX_move : List Cond := .code yX_move cX_move 6 (some .int) :: lw_g
abbrev cX_delete : ByteArray := prog_1_method_11_code
def yX_delete : MethodName := ⟨RX, "delete", "(I)I"⟩
abbrev wdX_delete : List Cond := .code yX_delete cX_delete 3 (some .int) :: lw_g
abbrev cX_countHostedBy : ByteArray := prog_1_method_29_code
def yX_countHostedBy : MethodName := ⟨RX, "countHostedBy", "(I)I"⟩
abbrev wdX_countHostedBy : List Cond := .code yX_countHostedBy cX_countHostedBy 4 (some .int) :: lw_g
abbrev cX_removeLinksOf : ByteArray := prog_1_method_25_code
def yX_removeLinksOf : MethodName := ⟨RX, "removeLinksOf", "(I)V"⟩
abbrev wdX_removeLinksOf : List Cond := .code yX_removeLinksOf cX_removeLinksOf 3 none :: lw_g
abbrev cX_times : ByteArray := prog_1_method_12_code
def yX_times : MethodName := ⟨RX, "times", "(II)I"⟩
abbrev wdX_times : List Cond := .code yX_times cX_times 3 (some .int) :: lw_g
abbrev cX_orphan : ByteArray := prog_1_method_13_code
def yX_orphan : MethodName := ⟨RX, "orphan", "(I)I"⟩
abbrev wdX_orphan : List Cond := .code yX_orphan cX_orphan 4 (some .int) :: lw_g
abbrev cX_isLinked : ByteArray := prog_1_method_30_code
def yX_isLinked : MethodName := ⟨RX, "isLinked", "(I)Z"⟩
abbrev wdX_isLinked : List Cond := .code yX_isLinked cX_isLinked 4 (some .boolean) :: lw_g
abbrev cX_house : ByteArray := prog_1_method_14_code
def yX_house : MethodName := ⟨RX, "house", "(I)I"⟩
abbrev wdX_house : List Cond := .code yX_house cX_house 2 (some .int) :: lw_g
abbrev cX_goes : ByteArray := prog_1_method_15_code
def yX_goes : MethodName := ⟨RX, "goes", "(III)I"⟩
abbrev wdX_goes : List Cond := .code yX_goes cX_goes 6 (some .int) :: lw_g
abbrev cM_init : ByteArray := prog_3_method_1_code
def yM_init : MethodName := ⟨RM, "<init>", "()V"⟩
abbrev wdM_init : List Cond := .code yM_init cM_init 1 none :: lw_g
abbrev cM_record : ByteArray := prog_3_method_6_code
def yM_record : MethodName := ⟨RM, "record", "()I"⟩
abbrev wdM_record : List Cond := .code yM_record cM_record 1 (some .int) :: lw_g
abbrev cM_link : ByteArray := prog_3_method_13_code
def yM_link : MethodName := ⟨RM, "link", "(III)I"⟩
abbrev wdM_link : List Cond := .code yM_link cM_link 5 (some .int) :: lw_g
abbrev cM_isLive : ByteArray := prog_3_method_3_code
def yM_isLive : MethodName := ⟨RM, "isLive", "(I)Z"⟩
abbrev wdM_isLive : List Cond := .code yM_isLive cM_isLive 2 (some .boolean) :: lw_g
abbrev cM_isHeading : ByteArray := prog_3_method_4_code
def yM_isHeading : MethodName := ⟨RM, "isHeading", "(I)Z"⟩
abbrev wdM_isHeading : List Cond := .code yM_isHeading cM_isHeading 1 (some .boolean) :: lw_g
abbrev cM_count : ByteArray := prog_3_method_11_code
def yM_count : MethodName := ⟨RM, "count", "(II)I"⟩
abbrev wdM_count : List Cond := .code yM_count cM_count 5 (some .int) :: lw_g
abbrev cM_most : ByteArray := prog_3_method_5_code
def yM_most : MethodName := ⟨RM, "most", "(I)I"⟩
abbrev wdM_most : List Cond := .code yM_most cM_most 1 (some .int) :: lw_g
abbrev cM_find : ByteArray := prog_3_method_8_code
def yM_find : MethodName := ⟨RM, "find", "(III)I"⟩
abbrev wdM_find : List Cond := .code yM_find cM_find 5 (some .int) :: lw_g
abbrev cM_liesIn : ByteArray := prog_3_method_10_code
def yM_liesIn : MethodName := ⟨RM, "liesIn", "(II)Z"⟩
abbrev wdM_liesIn : List Cond := .code yM_liesIn cM_liesIn 4 (some .boolean) :: lw_g
abbrev cM_hostOf : ByteArray := prog_3_method_9_code
def yM_hostOf : MethodName := ⟨RM, "hostOf", "(I)I"⟩
abbrev wdM_hostOf : List Cond := .code yM_hostOf cM_hostOf 3 (some .int) :: lw_g
abbrev cM_changed : ByteArray := prog_3_method_7_code
def yM_changed : MethodName := ⟨RM, "changed", "(I)V"⟩
abbrev wdM_changed : List Cond := .code yM_changed cM_changed 2 none :: lw_g
abbrev cM_change : ByteArray := prog_3_method_14_code
def yM_change : MethodName := ⟨RM, "change", "(II)I"⟩
abbrev wdM_change : List Cond := .code yM_change cM_change 7 (some .int) :: lw_g
abbrev cM_drop : ByteArray := prog_3_method_12_code
def yM_drop : MethodName := ⟨RM, "drop", "(I)V"⟩
abbrev wdM_drop : List Cond := .code yM_drop cM_drop 3 none :: lw_g
abbrev cM_broken : ByteArray := prog_3_method_17_code
def yM_broken : MethodName := ⟨RM, "broken", "(II)I"⟩
abbrev wdM_broken : List Cond := .code yM_broken cM_broken 4 (some .int) :: lw_g
abbrev cM_brokenAt : ByteArray := prog_3_method_16_code
def yM_brokenAt : MethodName := ⟨RM, "brokenAt", "(I)I"⟩
abbrev wdM_brokenAt : List Cond := .code yM_brokenAt cM_brokenAt 4 (some .int) :: lw_g
abbrev cM_isBroken : ByteArray := prog_3_method_15_code
def yM_isBroken : MethodName := ⟨RM, "isBroken", "(I)Z"⟩
abbrev wdM_isBroken : List Cond := .code yM_isBroken cM_isBroken 2 (some .boolean) :: lw_g
abbrev cM_repair : ByteArray := prog_3_method_18_code
def yM_repair : MethodName := ⟨RM, "repair", "(I)I"⟩
abbrev wdM_repair : List Cond := .code yM_repair cM_repair 4 (some .int) :: lw_g
abbrev cM_chain : ByteArray := prog_3_method_19_code
def yM_chain : MethodName := ⟨RM, "chain", "(II)I"⟩
abbrev wdM_chain : List Cond := .code yM_chain cM_chain 5 (some .int) :: lw_g
abbrev cM_ring : ByteArray := prog_3_method_20_code
def yM_ring : MethodName := ⟨RM, "ring", "(I)I"⟩
abbrev wdM_ring : List Cond := .code yM_ring cM_ring 2 (some .int) :: lw_g
abbrev cM_host : ByteArray := prog_3_method_21_code
def yM_host : MethodName := ⟨RM, "host", "(I)I"⟩
abbrev wdM_host : List Cond := .code yM_host cM_host 2 (some .int) :: lw_g
abbrev cM_move : ByteArray := prog_3_method_22_code
def yM_move : MethodName := ⟨RM, "move", "(II)I"⟩
abbrev wdM_move : List Cond := .code yM_move cM_move 5 (some .int) :: lw_g
abbrev cM_delete : ByteArray := prog_3_method_23_code
def yM_delete : MethodName := ⟨RM, "delete", "(I)I"⟩
abbrev wdM_delete : List Cond := .code yM_delete cM_delete 4 (some .int) :: lw_g
abbrev cM_times : ByteArray := prog_3_method_24_code
def yM_times : MethodName := ⟨RM, "times", "(II)I"⟩
abbrev wdM_times : List Cond := .code yM_times cM_times 3 (some .int) :: lw_g
abbrev cM_orphan : ByteArray := prog_3_method_25_code
def yM_orphan : MethodName := ⟨RM, "orphan", "(I)I"⟩
abbrev wdM_orphan : List Cond := .code yM_orphan cM_orphan 6 (some .int) :: lw_g
abbrev cM_house : ByteArray := prog_3_method_26_code
def yM_house : MethodName := ⟨RM, "house", "(I)I"⟩
abbrev wdM_house : List Cond := .code yM_house cM_house 2 (some .int) :: lw_g
abbrev cM_goes : ByteArray := prog_3_method_27_code
def yM_goes : MethodName := ⟨RM, "goes", "(III)I"⟩
abbrev wdM_goes : List Cond := .code yM_goes cM_goes 6 (some .int) :: lw_g
theorem mt_24 : (.initialized RL : Cond) ∈ lw_g := List.mem_filter.mpr ⟨List.mem_of_getElem? (i := 24) (by decide +kernel), by decide +kernel⟩
theorem mt_25 : (.initialized RX : Cond) ∈ lw_g := List.mem_filter.mpr ⟨List.mem_of_getElem? (i := 25) (by decide +kernel), by decide +kernel⟩
theorem mt_26 : (.initialized RM : Cond) ∈ lw_g := List.mem_filter.mpr ⟨List.mem_of_getElem? (i := 26) (by decide +kernel), by decide +kernel⟩
theorem mt_27 : (.initialized "java/lang/Math" : Cond) ∈ lw_g := List.mem_filter.mpr ⟨List.mem_of_getElem? (i := 27) (by decide +kernel), by decide +kernel⟩
theorem mt_28 : (.initialized "java/lang/System" : Cond) ∈ lw_g := List.mem_filter.mpr ⟨List.mem_of_getElem? (i := 28) (by decide +kernel), by decide +kernel⟩
theorem mt_29 : (.classLink RL 7 RX : Cond) ∈ lw_g := List.mem_filter.mpr ⟨List.mem_of_getElem? (i := 29) (by decide +kernel), by decide +kernel⟩
theorem mt_30 : (.instantiable RX 13 : Cond) ∈ lw_g := List.mem_filter.mpr ⟨List.mem_of_getElem? (i := 30) (by decide +kernel), by decide +kernel⟩
theorem mt_31 : (.methodLink RL 9 yX_init : Cond) ∈ lw_g := List.mem_filter.mpr ⟨List.mem_of_getElem? (i := 31) (by decide +kernel), by decide +kernel⟩
theorem mt_32 : (.instanceMethod yX_init : Cond) ∈ lw_g := List.mem_filter.mpr ⟨List.mem_of_getElem? (i := 32) (by decide +kernel), by decide +kernel⟩
theorem mt_33 : (.code yX_init cX_init 1 none : Cond) ∈ lw_g := List.mem_filter.mpr ⟨List.mem_of_getElem? (i := 33) (by decide +kernel), by decide +kernel⟩
theorem mt_34 : (.methodLink RX 1 objectInit : Cond) ∈ lw_g := List.mem_filter.mpr ⟨List.mem_of_getElem? (i := 34) (by decide +kernel), by decide +kernel⟩
theorem mt_35 : (.instanceMethod objectInit : Cond) ∈ lw_g := List.mem_filter.mpr ⟨List.mem_of_getElem? (i := 35) (by decide +kernel), by decide +kernel⟩
theorem mt_36 : (.code objectInit ⟨#[0xb1]⟩ 1 none : Cond) ∈ lw_g := List.mem_filter.mpr ⟨List.mem_of_getElem? (i := 36) (by decide +kernel), by decide +kernel⟩
theorem mt_37 : (.fieldLink RX 9 "LinkKeeper" "live" "[Z" : Cond) ∈ lw_g := List.mem_filter.mpr ⟨List.mem_of_getElem? (i := 37) (by decide +kernel), by decide +kernel⟩
theorem mt_38 : (.fieldLink RX 13 "LinkKeeper" "houses" "[I" : Cond) ∈ lw_g := List.mem_filter.mpr ⟨List.mem_of_getElem? (i := 38) (by decide +kernel), by decide +kernel⟩
theorem mt_39 : (.fieldLink RX 17 "LinkKeeper" "hosts" "[I" : Cond) ∈ lw_g := List.mem_filter.mpr ⟨List.mem_of_getElem? (i := 39) (by decide +kernel), by decide +kernel⟩
theorem mt_40 : (.fieldLink RX 20 "LinkKeeper" "changeCounts" "[I" : Cond) ∈ lw_g := List.mem_filter.mpr ⟨List.mem_of_getElem? (i := 40) (by decide +kernel), by decide +kernel⟩
theorem mt_41 : (.fieldLink RX 23 "LinkKeeper" "changeMoments" "[I" : Cond) ∈ lw_g := List.mem_filter.mpr ⟨List.mem_of_getElem? (i := 41) (by decide +kernel), by decide +kernel⟩
theorem mt_42 : (.fieldLink RX 26 "LinkKeeper" "records" "I" : Cond) ∈ lw_g := List.mem_filter.mpr ⟨List.mem_of_getElem? (i := 42) (by decide +kernel), by decide +kernel⟩
theorem mt_43 : (.fieldLink RX 30 "LinkKeeper" "linkFrom" "[I" : Cond) ∈ lw_g := List.mem_filter.mpr ⟨List.mem_of_getElem? (i := 43) (by decide +kernel), by decide +kernel⟩
theorem mt_44 : (.fieldLink RX 33 "LinkKeeper" "linkField" "[I" : Cond) ∈ lw_g := List.mem_filter.mpr ⟨List.mem_of_getElem? (i := 44) (by decide +kernel), by decide +kernel⟩
theorem mt_45 : (.fieldLink RX 36 "LinkKeeper" "linkTo" "[I" : Cond) ∈ lw_g := List.mem_filter.mpr ⟨List.mem_of_getElem? (i := 45) (by decide +kernel), by decide +kernel⟩
theorem mt_46 : (.fieldLink RX 39 "LinkKeeper" "links" "I" : Cond) ∈ lw_g := List.mem_filter.mpr ⟨List.mem_of_getElem? (i := 46) (by decide +kernel), by decide +kernel⟩
theorem mt_47 : (.fieldLink RX 42 "LinkKeeper" "refusedWay" "[I" : Cond) ∈ lw_g := List.mem_filter.mpr ⟨List.mem_of_getElem? (i := 47) (by decide +kernel), by decide +kernel⟩
theorem mt_48 : (.fieldLink RX 45 "LinkKeeper" "refusedWayLength" "I" : Cond) ∈ lw_g := List.mem_filter.mpr ⟨List.mem_of_getElem? (i := 48) (by decide +kernel), by decide +kernel⟩
theorem mt_49 : (.fieldLink RX 48 "LinkKeeper" "moment" "I" : Cond) ∈ lw_g := List.mem_filter.mpr ⟨List.mem_of_getElem? (i := 49) (by decide +kernel), by decide +kernel⟩
theorem mt_77 : (.arrayClass .boolean : Cond) ∈ lw_g := List.mem_filter.mpr ⟨List.mem_of_getElem? (i := 77) (by decide +kernel), by decide +kernel⟩
theorem mt_78 : (.arrayClass .int : Cond) ∈ lw_g := List.mem_filter.mpr ⟨List.mem_of_getElem? (i := 78) (by decide +kernel), by decide +kernel⟩
theorem mt_79 : (.methodLink RL 13 yX_record : Cond) ∈ lw_g := List.mem_filter.mpr ⟨List.mem_of_getElem? (i := 79) (by decide +kernel), by decide +kernel⟩
theorem mt_80 : (.instanceMethod yX_record : Cond) ∈ lw_g := List.mem_filter.mpr ⟨List.mem_of_getElem? (i := 80) (by decide +kernel), by decide +kernel⟩
theorem mt_81 : (.selects RX yX_record yX_record : Cond) ∈ lw_g := List.mem_filter.mpr ⟨List.mem_of_getElem? (i := 81) (by decide +kernel), by decide +kernel⟩
theorem mt_82 : (.code yX_record cX_record 1 (some .int) : Cond) ∈ lw_g := List.mem_filter.mpr ⟨List.mem_of_getElem? (i := 82) (by decide +kernel), by decide +kernel⟩
theorem mt_83 : (.methodLink RL 18 yX_link : Cond) ∈ lw_g := List.mem_filter.mpr ⟨List.mem_of_getElem? (i := 83) (by decide +kernel), by decide +kernel⟩
theorem mt_84 : (.instanceMethod yX_link : Cond) ∈ lw_g := List.mem_filter.mpr ⟨List.mem_of_getElem? (i := 84) (by decide +kernel), by decide +kernel⟩
theorem mt_85 : (.selects RX yX_link yX_link : Cond) ∈ lw_g := List.mem_filter.mpr ⟨List.mem_of_getElem? (i := 85) (by decide +kernel), by decide +kernel⟩
theorem mt_86 : (.code yX_link cX_link 4 (some .int) : Cond) ∈ lw_g := List.mem_filter.mpr ⟨List.mem_of_getElem? (i := 86) (by decide +kernel), by decide +kernel⟩
theorem mt_87 : (.methodLink RX 51 yX_hasRoomFor : Cond) ∈ lw_g := List.mem_filter.mpr ⟨List.mem_of_getElem? (i := 87) (by decide +kernel), by decide +kernel⟩
theorem mt_89 : (.instanceMethod yX_hasRoomFor : Cond) ∈ lw_g := List.mem_filter.mpr ⟨List.mem_of_getElem? (i := 89) (by decide +kernel), by decide +kernel⟩
theorem mt_90 : (.code yX_hasRoomFor cX_hasRoomFor 8 (some .boolean) : Cond) ∈ lw_g := List.mem_filter.mpr ⟨List.mem_of_getElem? (i := 90) (by decide +kernel), by decide +kernel⟩
theorem mt_91 : (.methodLink RX 85 yX_isLive : Cond) ∈ lw_g := List.mem_filter.mpr ⟨List.mem_of_getElem? (i := 91) (by decide +kernel), by decide +kernel⟩
theorem mt_93 : (.instanceMethod yX_isLive : Cond) ∈ lw_g := List.mem_filter.mpr ⟨List.mem_of_getElem? (i := 93) (by decide +kernel), by decide +kernel⟩
theorem mt_94 : (.code yX_isLive cX_isLive 2 (some .boolean) : Cond) ∈ lw_g := List.mem_filter.mpr ⟨List.mem_of_getElem? (i := 94) (by decide +kernel), by decide +kernel⟩
theorem mt_95 : (.methodLink RX 94 yX_isRecord : Cond) ∈ lw_g := List.mem_filter.mpr ⟨List.mem_of_getElem? (i := 95) (by decide +kernel), by decide +kernel⟩
theorem mt_97 : (.instanceMethod yX_isRecord : Cond) ∈ lw_g := List.mem_filter.mpr ⟨List.mem_of_getElem? (i := 97) (by decide +kernel), by decide +kernel⟩
theorem mt_98 : (.code yX_isRecord cX_isRecord 2 (some .boolean) : Cond) ∈ lw_g := List.mem_filter.mpr ⟨List.mem_of_getElem? (i := 98) (by decide +kernel), by decide +kernel⟩
theorem mt_99 : (.methodLink RX 100 yX_mayGoTo : Cond) ∈ lw_g := List.mem_filter.mpr ⟨List.mem_of_getElem? (i := 99) (by decide +kernel), by decide +kernel⟩
theorem mt_101 : (.instanceMethod yX_mayGoTo : Cond) ∈ lw_g := List.mem_filter.mpr ⟨List.mem_of_getElem? (i := 101) (by decide +kernel), by decide +kernel⟩
theorem mt_102 : (.code yX_mayGoTo cX_mayGoTo 4 (some .boolean) : Cond) ∈ lw_g := List.mem_filter.mpr ⟨List.mem_of_getElem? (i := 102) (by decide +kernel), by decide +kernel⟩
theorem mt_103 : (.methodLink RX 71 yX_isHeading : Cond) ∈ lw_g := List.mem_filter.mpr ⟨List.mem_of_getElem? (i := 103) (by decide +kernel), by decide +kernel⟩
theorem mt_104 : (.static yX_isHeading : Cond) ∈ lw_g := List.mem_filter.mpr ⟨List.mem_of_getElem? (i := 104) (by decide +kernel), by decide +kernel⟩
theorem mt_105 : (.code yX_isHeading cX_isHeading 1 (some .boolean) : Cond) ∈ lw_g := List.mem_filter.mpr ⟨List.mem_of_getElem? (i := 105) (by decide +kernel), by decide +kernel⟩
theorem mt_106 : (.fieldLink RX 104 "LinkKeeper" "MOST_OF_FIELD" "[I" : Cond) ∈ lw_g := List.mem_filter.mpr ⟨List.mem_of_getElem? (i := 106) (by decide +kernel), by decide +kernel⟩
theorem ml_MOST_OF_FIELD : (.laysStatic "LinkKeeper" "MOST_OF_FIELD" "[I" : Cond) ∈ lw_tbl := List.mem_of_getElem? (i := 107) (by decide +kernel)
theorem mt_108 : (.methodLink RX 55 yX_liesIn : Cond) ∈ lw_g := List.mem_filter.mpr ⟨List.mem_of_getElem? (i := 108) (by decide +kernel), by decide +kernel⟩
theorem mt_110 : (.instanceMethod yX_liesIn : Cond) ∈ lw_g := List.mem_filter.mpr ⟨List.mem_of_getElem? (i := 110) (by decide +kernel), by decide +kernel⟩
theorem mt_111 : (.code yX_liesIn cX_liesIn 5 (some .boolean) : Cond) ∈ lw_g := List.mem_filter.mpr ⟨List.mem_of_getElem? (i := 111) (by decide +kernel), by decide +kernel⟩
theorem mt_112 : (.methodLink RX 59 yX_keepRefusedWay : Cond) ∈ lw_g := List.mem_filter.mpr ⟨List.mem_of_getElem? (i := 112) (by decide +kernel), by decide +kernel⟩
theorem mt_114 : (.instanceMethod yX_keepRefusedWay : Cond) ∈ lw_g := List.mem_filter.mpr ⟨List.mem_of_getElem? (i := 114) (by decide +kernel), by decide +kernel⟩
theorem mt_115 : (.code yX_keepRefusedWay cX_keepRefusedWay 4 none : Cond) ∈ lw_g := List.mem_filter.mpr ⟨List.mem_of_getElem? (i := 115) (by decide +kernel), by decide +kernel⟩
theorem mt_116 : (.methodLink RX 63 yX_addLink : Cond) ∈ lw_g := List.mem_filter.mpr ⟨List.mem_of_getElem? (i := 116) (by decide +kernel), by decide +kernel⟩
theorem mt_118 : (.instanceMethod yX_addLink : Cond) ∈ lw_g := List.mem_filter.mpr ⟨List.mem_of_getElem? (i := 118) (by decide +kernel), by decide +kernel⟩
theorem mt_119 : (.code yX_addLink cX_addLink 4 none : Cond) ∈ lw_g := List.mem_filter.mpr ⟨List.mem_of_getElem? (i := 119) (by decide +kernel), by decide +kernel⟩
theorem mt_120 : (.methodLink RX 67 yX_noteChange : Cond) ∈ lw_g := List.mem_filter.mpr ⟨List.mem_of_getElem? (i := 120) (by decide +kernel), by decide +kernel⟩
theorem mt_122 : (.instanceMethod yX_noteChange : Cond) ∈ lw_g := List.mem_filter.mpr ⟨List.mem_of_getElem? (i := 122) (by decide +kernel), by decide +kernel⟩
theorem mt_123 : (.code yX_noteChange cX_noteChange 4 none : Cond) ∈ lw_g := List.mem_filter.mpr ⟨List.mem_of_getElem? (i := 123) (by decide +kernel), by decide +kernel⟩
theorem mt_124 : (.methodLink RL 23 yX_change : Cond) ∈ lw_g := List.mem_filter.mpr ⟨List.mem_of_getElem? (i := 124) (by decide +kernel), by decide +kernel⟩
theorem mt_125 : (.instanceMethod yX_change : Cond) ∈ lw_g := List.mem_filter.mpr ⟨List.mem_of_getElem? (i := 125) (by decide +kernel), by decide +kernel⟩
theorem mt_126 : (.selects RX yX_change yX_change : Cond) ∈ lw_g := List.mem_filter.mpr ⟨List.mem_of_getElem? (i := 126) (by decide +kernel), by decide +kernel⟩
theorem mt_127 : (.code yX_change cX_change 5 (some .int) : Cond) ∈ lw_g := List.mem_filter.mpr ⟨List.mem_of_getElem? (i := 127) (by decide +kernel), by decide +kernel⟩
theorem mt_128 : (.methodLink RX 75 yX_sendToHeading : Cond) ∈ lw_g := List.mem_filter.mpr ⟨List.mem_of_getElem? (i := 128) (by decide +kernel), by decide +kernel⟩
theorem mt_130 : (.instanceMethod yX_sendToHeading : Cond) ∈ lw_g := List.mem_filter.mpr ⟨List.mem_of_getElem? (i := 130) (by decide +kernel), by decide +kernel⟩
theorem mt_131 : (.code yX_sendToHeading cX_sendToHeading 4 none : Cond) ∈ lw_g := List.mem_filter.mpr ⟨List.mem_of_getElem? (i := 131) (by decide +kernel), by decide +kernel⟩
theorem mt_132 : (.methodLink RX 113 yX_findLink : Cond) ∈ lw_g := List.mem_filter.mpr ⟨List.mem_of_getElem? (i := 132) (by decide +kernel), by decide +kernel⟩
theorem mt_134 : (.instanceMethod yX_findLink : Cond) ∈ lw_g := List.mem_filter.mpr ⟨List.mem_of_getElem? (i := 134) (by decide +kernel), by decide +kernel⟩
theorem mt_135 : (.code yX_findLink cX_findLink 5 (some .int) : Cond) ∈ lw_g := List.mem_filter.mpr ⟨List.mem_of_getElem? (i := 135) (by decide +kernel), by decide +kernel⟩
theorem mt_136 : (.methodLink RX 117 Lib.Math.max.name : Cond) ∈ lw_g := List.mem_filter.mpr ⟨List.mem_of_getElem? (i := 136) (by decide +kernel), by decide +kernel⟩
theorem mt_137 : (.static Lib.Math.max.name : Cond) ∈ lw_g := List.mem_filter.mpr ⟨List.mem_of_getElem? (i := 137) (by decide +kernel), by decide +kernel⟩
theorem mt_138 : (.code Lib.Math.max.name Lib.Math.max.code 2 (some .int) : Cond) ∈ lw_g := List.mem_filter.mpr ⟨List.mem_of_getElem? (i := 138) (by decide +kernel), by decide +kernel⟩
theorem mt_139 : (.methodLink RX 82 yX_removeLink : Cond) ∈ lw_g := List.mem_filter.mpr ⟨List.mem_of_getElem? (i := 139) (by decide +kernel), by decide +kernel⟩
theorem mt_141 : (.instanceMethod yX_removeLink : Cond) ∈ lw_g := List.mem_filter.mpr ⟨List.mem_of_getElem? (i := 141) (by decide +kernel), by decide +kernel⟩
theorem mt_142 : (.code yX_removeLink cX_removeLink 3 none : Cond) ∈ lw_g := List.mem_filter.mpr ⟨List.mem_of_getElem? (i := 142) (by decide +kernel), by decide +kernel⟩
theorem mt_143 : (.methodLink RX 107 arraycopyName : Cond) ∈ lw_g := List.mem_filter.mpr ⟨List.mem_of_getElem? (i := 143) (by decide +kernel), by decide +kernel⟩
theorem mt_144 : (.static arraycopyName : Cond) ∈ lw_g := List.mem_filter.mpr ⟨List.mem_of_getElem? (i := 144) (by decide +kernel), by decide +kernel⟩
theorem mt_145 : (.native arraycopyName : Cond) ∈ lw_g := List.mem_filter.mpr ⟨List.mem_of_getElem? (i := 145) (by decide +kernel), by decide +kernel⟩
theorem mt_146 : (.methodLink RL 28 yX_broken : Cond) ∈ lw_g := List.mem_filter.mpr ⟨List.mem_of_getElem? (i := 146) (by decide +kernel), by decide +kernel⟩
theorem mt_147 : (.instanceMethod yX_broken : Cond) ∈ lw_g := List.mem_filter.mpr ⟨List.mem_of_getElem? (i := 147) (by decide +kernel), by decide +kernel⟩
theorem mt_148 : (.selects RX yX_broken yX_broken : Cond) ∈ lw_g := List.mem_filter.mpr ⟨List.mem_of_getElem? (i := 148) (by decide +kernel), by decide +kernel⟩
theorem mt_149 : (.code yX_broken cX_broken 4 (some .int) : Cond) ∈ lw_g := List.mem_filter.mpr ⟨List.mem_of_getElem? (i := 149) (by decide +kernel), by decide +kernel⟩
theorem mt_150 : (.methodLink RX 78 yX_findBroken : Cond) ∈ lw_g := List.mem_filter.mpr ⟨List.mem_of_getElem? (i := 150) (by decide +kernel), by decide +kernel⟩
theorem mt_152 : (.instanceMethod yX_findBroken : Cond) ∈ lw_g := List.mem_filter.mpr ⟨List.mem_of_getElem? (i := 152) (by decide +kernel), by decide +kernel⟩
theorem mt_153 : (.code yX_findBroken cX_findBroken 4 (some .int) : Cond) ∈ lw_g := List.mem_filter.mpr ⟨List.mem_of_getElem? (i := 153) (by decide +kernel), by decide +kernel⟩
theorem mt_154 : (.methodLink RL 32 yX_repair : Cond) ∈ lw_g := List.mem_filter.mpr ⟨List.mem_of_getElem? (i := 154) (by decide +kernel), by decide +kernel⟩
theorem mt_155 : (.instanceMethod yX_repair : Cond) ∈ lw_g := List.mem_filter.mpr ⟨List.mem_of_getElem? (i := 155) (by decide +kernel), by decide +kernel⟩
theorem mt_156 : (.selects RX yX_repair yX_repair : Cond) ∈ lw_g := List.mem_filter.mpr ⟨List.mem_of_getElem? (i := 156) (by decide +kernel), by decide +kernel⟩
theorem mt_157 : (.code yX_repair cX_repair 4 (some .int) : Cond) ∈ lw_g := List.mem_filter.mpr ⟨List.mem_of_getElem? (i := 157) (by decide +kernel), by decide +kernel⟩
theorem mt_158 : (.methodLink RL 37 yX_chain : Cond) ∈ lw_g := List.mem_filter.mpr ⟨List.mem_of_getElem? (i := 158) (by decide +kernel), by decide +kernel⟩
theorem mt_159 : (.instanceMethod yX_chain : Cond) ∈ lw_g := List.mem_filter.mpr ⟨List.mem_of_getElem? (i := 159) (by decide +kernel), by decide +kernel⟩
theorem mt_160 : (.selects RX yX_chain yX_chain : Cond) ∈ lw_g := List.mem_filter.mpr ⟨List.mem_of_getElem? (i := 160) (by decide +kernel), by decide +kernel⟩
theorem mt_161 : (.code yX_chain cX_chain 5 (some .int) : Cond) ∈ lw_g := List.mem_filter.mpr ⟨List.mem_of_getElem? (i := 161) (by decide +kernel), by decide +kernel⟩
theorem mt_162 : (.methodLink RL 41 yX_ring : Cond) ∈ lw_g := List.mem_filter.mpr ⟨List.mem_of_getElem? (i := 162) (by decide +kernel), by decide +kernel⟩
theorem mt_163 : (.instanceMethod yX_ring : Cond) ∈ lw_g := List.mem_filter.mpr ⟨List.mem_of_getElem? (i := 163) (by decide +kernel), by decide +kernel⟩
theorem mt_164 : (.selects RX yX_ring yX_ring : Cond) ∈ lw_g := List.mem_filter.mpr ⟨List.mem_of_getElem? (i := 164) (by decide +kernel), by decide +kernel⟩
theorem mt_165 : (.code yX_ring cX_ring 2 (some .int) : Cond) ∈ lw_g := List.mem_filter.mpr ⟨List.mem_of_getElem? (i := 165) (by decide +kernel), by decide +kernel⟩
theorem mt_166 : (.methodLink RL 45 yX_host : Cond) ∈ lw_g := List.mem_filter.mpr ⟨List.mem_of_getElem? (i := 166) (by decide +kernel), by decide +kernel⟩
theorem mt_167 : (.instanceMethod yX_host : Cond) ∈ lw_g := List.mem_filter.mpr ⟨List.mem_of_getElem? (i := 167) (by decide +kernel), by decide +kernel⟩
theorem mt_168 : (.selects RX yX_host yX_host : Cond) ∈ lw_g := List.mem_filter.mpr ⟨List.mem_of_getElem? (i := 168) (by decide +kernel), by decide +kernel⟩
theorem mt_169 : (.code yX_host cX_host 2 (some .int) : Cond) ∈ lw_g := List.mem_filter.mpr ⟨List.mem_of_getElem? (i := 169) (by decide +kernel), by decide +kernel⟩
theorem mt_170 : (.methodLink RL 49 yX_move : Cond) ∈ lw_g := List.mem_filter.mpr ⟨List.mem_of_getElem? (i := 170) (by decide +kernel), by decide +kernel⟩
theorem mt_171 : (.instanceMethod yX_move : Cond) ∈ lw_g := List.mem_filter.mpr ⟨List.mem_of_getElem? (i := 171) (by decide +kernel), by decide +kernel⟩
theorem mt_172 : (.selects RX yX_move yX_move : Cond) ∈ lw_g := List.mem_filter.mpr ⟨List.mem_of_getElem? (i := 172) (by decide +kernel), by decide +kernel⟩
theorem mt_173 : (.code yX_move cX_move 6 (some .int) : Cond) ∈ lw_g := List.mem_filter.mpr ⟨List.mem_of_getElem? (i := 173) (by decide +kernel), by decide +kernel⟩
theorem mt_174 : (.methodLink RL 53 yX_delete : Cond) ∈ lw_g := List.mem_filter.mpr ⟨List.mem_of_getElem? (i := 174) (by decide +kernel), by decide +kernel⟩
theorem mt_175 : (.instanceMethod yX_delete : Cond) ∈ lw_g := List.mem_filter.mpr ⟨List.mem_of_getElem? (i := 175) (by decide +kernel), by decide +kernel⟩
theorem mt_176 : (.selects RX yX_delete yX_delete : Cond) ∈ lw_g := List.mem_filter.mpr ⟨List.mem_of_getElem? (i := 176) (by decide +kernel), by decide +kernel⟩
theorem mt_177 : (.code yX_delete cX_delete 3 (some .int) : Cond) ∈ lw_g := List.mem_filter.mpr ⟨List.mem_of_getElem? (i := 177) (by decide +kernel), by decide +kernel⟩
theorem mt_178 : (.methodLink RX 88 yX_countHostedBy : Cond) ∈ lw_g := List.mem_filter.mpr ⟨List.mem_of_getElem? (i := 178) (by decide +kernel), by decide +kernel⟩
theorem mt_180 : (.instanceMethod yX_countHostedBy : Cond) ∈ lw_g := List.mem_filter.mpr ⟨List.mem_of_getElem? (i := 180) (by decide +kernel), by decide +kernel⟩
theorem mt_181 : (.code yX_countHostedBy cX_countHostedBy 4 (some .int) : Cond) ∈ lw_g := List.mem_filter.mpr ⟨List.mem_of_getElem? (i := 181) (by decide +kernel), by decide +kernel⟩
theorem mt_182 : (.methodLink RX 91 yX_removeLinksOf : Cond) ∈ lw_g := List.mem_filter.mpr ⟨List.mem_of_getElem? (i := 182) (by decide +kernel), by decide +kernel⟩
theorem mt_184 : (.instanceMethod yX_removeLinksOf : Cond) ∈ lw_g := List.mem_filter.mpr ⟨List.mem_of_getElem? (i := 184) (by decide +kernel), by decide +kernel⟩
theorem mt_185 : (.code yX_removeLinksOf cX_removeLinksOf 3 none : Cond) ∈ lw_g := List.mem_filter.mpr ⟨List.mem_of_getElem? (i := 185) (by decide +kernel), by decide +kernel⟩
theorem mt_186 : (.methodLink RL 57 yX_times : Cond) ∈ lw_g := List.mem_filter.mpr ⟨List.mem_of_getElem? (i := 186) (by decide +kernel), by decide +kernel⟩
theorem mt_187 : (.instanceMethod yX_times : Cond) ∈ lw_g := List.mem_filter.mpr ⟨List.mem_of_getElem? (i := 187) (by decide +kernel), by decide +kernel⟩
theorem mt_188 : (.selects RX yX_times yX_times : Cond) ∈ lw_g := List.mem_filter.mpr ⟨List.mem_of_getElem? (i := 188) (by decide +kernel), by decide +kernel⟩
theorem mt_189 : (.code yX_times cX_times 3 (some .int) : Cond) ∈ lw_g := List.mem_filter.mpr ⟨List.mem_of_getElem? (i := 189) (by decide +kernel), by decide +kernel⟩
theorem mt_190 : (.methodLink RL 61 yX_orphan : Cond) ∈ lw_g := List.mem_filter.mpr ⟨List.mem_of_getElem? (i := 190) (by decide +kernel), by decide +kernel⟩
theorem mt_191 : (.instanceMethod yX_orphan : Cond) ∈ lw_g := List.mem_filter.mpr ⟨List.mem_of_getElem? (i := 191) (by decide +kernel), by decide +kernel⟩
theorem mt_192 : (.selects RX yX_orphan yX_orphan : Cond) ∈ lw_g := List.mem_filter.mpr ⟨List.mem_of_getElem? (i := 192) (by decide +kernel), by decide +kernel⟩
theorem mt_193 : (.code yX_orphan cX_orphan 4 (some .int) : Cond) ∈ lw_g := List.mem_filter.mpr ⟨List.mem_of_getElem? (i := 193) (by decide +kernel), by decide +kernel⟩
theorem mt_194 : (.methodLink RX 97 yX_isLinked : Cond) ∈ lw_g := List.mem_filter.mpr ⟨List.mem_of_getElem? (i := 194) (by decide +kernel), by decide +kernel⟩
theorem mt_196 : (.instanceMethod yX_isLinked : Cond) ∈ lw_g := List.mem_filter.mpr ⟨List.mem_of_getElem? (i := 196) (by decide +kernel), by decide +kernel⟩
theorem mt_197 : (.code yX_isLinked cX_isLinked 4 (some .boolean) : Cond) ∈ lw_g := List.mem_filter.mpr ⟨List.mem_of_getElem? (i := 197) (by decide +kernel), by decide +kernel⟩
theorem mt_198 : (.methodLink RL 65 yX_house : Cond) ∈ lw_g := List.mem_filter.mpr ⟨List.mem_of_getElem? (i := 198) (by decide +kernel), by decide +kernel⟩
theorem mt_199 : (.instanceMethod yX_house : Cond) ∈ lw_g := List.mem_filter.mpr ⟨List.mem_of_getElem? (i := 199) (by decide +kernel), by decide +kernel⟩
theorem mt_200 : (.selects RX yX_house yX_house : Cond) ∈ lw_g := List.mem_filter.mpr ⟨List.mem_of_getElem? (i := 200) (by decide +kernel), by decide +kernel⟩
theorem mt_201 : (.code yX_house cX_house 2 (some .int) : Cond) ∈ lw_g := List.mem_filter.mpr ⟨List.mem_of_getElem? (i := 201) (by decide +kernel), by decide +kernel⟩
theorem mt_202 : (.methodLink RL 69 yX_goes : Cond) ∈ lw_g := List.mem_filter.mpr ⟨List.mem_of_getElem? (i := 202) (by decide +kernel), by decide +kernel⟩
theorem mt_203 : (.instanceMethod yX_goes : Cond) ∈ lw_g := List.mem_filter.mpr ⟨List.mem_of_getElem? (i := 203) (by decide +kernel), by decide +kernel⟩
theorem mt_204 : (.selects RX yX_goes yX_goes : Cond) ∈ lw_g := List.mem_filter.mpr ⟨List.mem_of_getElem? (i := 204) (by decide +kernel), by decide +kernel⟩
theorem mt_205 : (.code yX_goes cX_goes 6 (some .int) : Cond) ∈ lw_g := List.mem_filter.mpr ⟨List.mem_of_getElem? (i := 205) (by decide +kernel), by decide +kernel⟩
theorem mt_206 : (.classLink RL 10 RM : Cond) ∈ lw_g := List.mem_filter.mpr ⟨List.mem_of_getElem? (i := 206) (by decide +kernel), by decide +kernel⟩
theorem mt_207 : (.instantiable RM 14 : Cond) ∈ lw_g := List.mem_filter.mpr ⟨List.mem_of_getElem? (i := 207) (by decide +kernel), by decide +kernel⟩
theorem mt_208 : (.methodLink RL 12 yM_init : Cond) ∈ lw_g := List.mem_filter.mpr ⟨List.mem_of_getElem? (i := 208) (by decide +kernel), by decide +kernel⟩
theorem mt_209 : (.instanceMethod yM_init : Cond) ∈ lw_g := List.mem_filter.mpr ⟨List.mem_of_getElem? (i := 209) (by decide +kernel), by decide +kernel⟩
theorem mt_210 : (.code yM_init cM_init 1 none : Cond) ∈ lw_g := List.mem_filter.mpr ⟨List.mem_of_getElem? (i := 210) (by decide +kernel), by decide +kernel⟩
theorem mt_211 : (.methodLink RM 1 objectInit : Cond) ∈ lw_g := List.mem_filter.mpr ⟨List.mem_of_getElem? (i := 211) (by decide +kernel), by decide +kernel⟩
theorem mt_212 : (.fieldLink RM 38 "LinkKeeperModel" "thrown" "I" : Cond) ∈ lw_g := List.mem_filter.mpr ⟨List.mem_of_getElem? (i := 212) (by decide +kernel), by decide +kernel⟩
theorem mt_213 : (.fieldLink RM 42 "LinkKeeperModel" "records" "I" : Cond) ∈ lw_g := List.mem_filter.mpr ⟨List.mem_of_getElem? (i := 213) (by decide +kernel), by decide +kernel⟩
theorem mt_214 : (.fieldLink RM 7 "LinkKeeperModel" "live" "[Z" : Cond) ∈ lw_g := List.mem_filter.mpr ⟨List.mem_of_getElem? (i := 214) (by decide +kernel), by decide +kernel⟩
theorem mt_215 : (.fieldLink RM 13 "LinkKeeperModel" "houses" "[I" : Cond) ∈ lw_g := List.mem_filter.mpr ⟨List.mem_of_getElem? (i := 215) (by decide +kernel), by decide +kernel⟩
theorem mt_216 : (.fieldLink RM 17 "LinkKeeperModel" "hadHost" "[I" : Cond) ∈ lw_g := List.mem_filter.mpr ⟨List.mem_of_getElem? (i := 216) (by decide +kernel), by decide +kernel⟩
theorem mt_217 : (.fieldLink RM 20 "LinkKeeperModel" "times" "[I" : Cond) ∈ lw_g := List.mem_filter.mpr ⟨List.mem_of_getElem? (i := 217) (by decide +kernel), by decide +kernel⟩
theorem mt_218 : (.fieldLink RM 23 "LinkKeeperModel" "timeCount" "[I" : Cond) ∈ lw_g := List.mem_filter.mpr ⟨List.mem_of_getElem? (i := 218) (by decide +kernel), by decide +kernel⟩
theorem mt_219 : (.fieldLink RM 45 "LinkKeeperModel" "moment" "I" : Cond) ∈ lw_g := List.mem_filter.mpr ⟨List.mem_of_getElem? (i := 219) (by decide +kernel), by decide +kernel⟩
theorem mt_220 : (.fieldLink RM 48 "LinkKeeperModel" "links" "I" : Cond) ∈ lw_g := List.mem_filter.mpr ⟨List.mem_of_getElem? (i := 220) (by decide +kernel), by decide +kernel⟩
theorem mt_221 : (.fieldLink RM 26 "LinkKeeperModel" "from" "[I" : Cond) ∈ lw_g := List.mem_filter.mpr ⟨List.mem_of_getElem? (i := 221) (by decide +kernel), by decide +kernel⟩
theorem mt_222 : (.fieldLink RM 29 "LinkKeeperModel" "field" "[I" : Cond) ∈ lw_g := List.mem_filter.mpr ⟨List.mem_of_getElem? (i := 222) (by decide +kernel), by decide +kernel⟩
theorem mt_223 : (.fieldLink RM 32 "LinkKeeperModel" "to" "[I" : Cond) ∈ lw_g := List.mem_filter.mpr ⟨List.mem_of_getElem? (i := 223) (by decide +kernel), by decide +kernel⟩
theorem mt_224 : (.fieldLink RM 35 "LinkKeeperModel" "ring" "[I" : Cond) ∈ lw_g := List.mem_filter.mpr ⟨List.mem_of_getElem? (i := 224) (by decide +kernel), by decide +kernel⟩
theorem mt_225 : (.fieldLink RM 77 "LinkKeeperModel" "ringLength" "I" : Cond) ∈ lw_g := List.mem_filter.mpr ⟨List.mem_of_getElem? (i := 225) (by decide +kernel), by decide +kernel⟩
theorem mt_255 : (.methodLink RL 17 yM_record : Cond) ∈ lw_g := List.mem_filter.mpr ⟨List.mem_of_getElem? (i := 255) (by decide +kernel), by decide +kernel⟩
theorem mt_256 : (.instanceMethod yM_record : Cond) ∈ lw_g := List.mem_filter.mpr ⟨List.mem_of_getElem? (i := 256) (by decide +kernel), by decide +kernel⟩
theorem mt_257 : (.selects RM yM_record yM_record : Cond) ∈ lw_g := List.mem_filter.mpr ⟨List.mem_of_getElem? (i := 257) (by decide +kernel), by decide +kernel⟩
theorem mt_258 : (.code yM_record cM_record 1 (some .int) : Cond) ∈ lw_g := List.mem_filter.mpr ⟨List.mem_of_getElem? (i := 258) (by decide +kernel), by decide +kernel⟩
theorem mt_259 : (.methodLink RL 22 yM_link : Cond) ∈ lw_g := List.mem_filter.mpr ⟨List.mem_of_getElem? (i := 259) (by decide +kernel), by decide +kernel⟩
theorem mt_260 : (.instanceMethod yM_link : Cond) ∈ lw_g := List.mem_filter.mpr ⟨List.mem_of_getElem? (i := 260) (by decide +kernel), by decide +kernel⟩
theorem mt_261 : (.selects RM yM_link yM_link : Cond) ∈ lw_g := List.mem_filter.mpr ⟨List.mem_of_getElem? (i := 261) (by decide +kernel), by decide +kernel⟩
theorem mt_262 : (.code yM_link cM_link 5 (some .int) : Cond) ∈ lw_g := List.mem_filter.mpr ⟨List.mem_of_getElem? (i := 262) (by decide +kernel), by decide +kernel⟩
theorem mt_263 : (.methodLink RM 55 yM_isLive : Cond) ∈ lw_g := List.mem_filter.mpr ⟨List.mem_of_getElem? (i := 263) (by decide +kernel), by decide +kernel⟩
theorem mt_265 : (.instanceMethod yM_isLive : Cond) ∈ lw_g := List.mem_filter.mpr ⟨List.mem_of_getElem? (i := 265) (by decide +kernel), by decide +kernel⟩
theorem mt_266 : (.code yM_isLive cM_isLive 2 (some .boolean) : Cond) ∈ lw_g := List.mem_filter.mpr ⟨List.mem_of_getElem? (i := 266) (by decide +kernel), by decide +kernel⟩
theorem mt_267 : (.methodLink RM 59 yM_isHeading : Cond) ∈ lw_g := List.mem_filter.mpr ⟨List.mem_of_getElem? (i := 267) (by decide +kernel), by decide +kernel⟩
theorem mt_268 : (.static yM_isHeading : Cond) ∈ lw_g := List.mem_filter.mpr ⟨List.mem_of_getElem? (i := 268) (by decide +kernel), by decide +kernel⟩
theorem mt_269 : (.code yM_isHeading cM_isHeading 1 (some .boolean) : Cond) ∈ lw_g := List.mem_filter.mpr ⟨List.mem_of_getElem? (i := 269) (by decide +kernel), by decide +kernel⟩
theorem mt_270 : (.methodLink RM 62 yM_count : Cond) ∈ lw_g := List.mem_filter.mpr ⟨List.mem_of_getElem? (i := 270) (by decide +kernel), by decide +kernel⟩
theorem mt_272 : (.instanceMethod yM_count : Cond) ∈ lw_g := List.mem_filter.mpr ⟨List.mem_of_getElem? (i := 272) (by decide +kernel), by decide +kernel⟩
theorem mt_273 : (.code yM_count cM_count 5 (some .int) : Cond) ∈ lw_g := List.mem_filter.mpr ⟨List.mem_of_getElem? (i := 273) (by decide +kernel), by decide +kernel⟩
theorem mt_274 : (.methodLink RM 66 yM_most : Cond) ∈ lw_g := List.mem_filter.mpr ⟨List.mem_of_getElem? (i := 274) (by decide +kernel), by decide +kernel⟩
theorem mt_275 : (.static yM_most : Cond) ∈ lw_g := List.mem_filter.mpr ⟨List.mem_of_getElem? (i := 275) (by decide +kernel), by decide +kernel⟩
theorem mt_276 : (.code yM_most cM_most 1 (some .int) : Cond) ∈ lw_g := List.mem_filter.mpr ⟨List.mem_of_getElem? (i := 276) (by decide +kernel), by decide +kernel⟩
theorem mt_277 : (.methodLink RM 69 yM_find : Cond) ∈ lw_g := List.mem_filter.mpr ⟨List.mem_of_getElem? (i := 277) (by decide +kernel), by decide +kernel⟩
theorem mt_279 : (.instanceMethod yM_find : Cond) ∈ lw_g := List.mem_filter.mpr ⟨List.mem_of_getElem? (i := 279) (by decide +kernel), by decide +kernel⟩
theorem mt_280 : (.code yM_find cM_find 5 (some .int) : Cond) ∈ lw_g := List.mem_filter.mpr ⟨List.mem_of_getElem? (i := 280) (by decide +kernel), by decide +kernel⟩
theorem mt_281 : (.methodLink RM 73 yM_liesIn : Cond) ∈ lw_g := List.mem_filter.mpr ⟨List.mem_of_getElem? (i := 281) (by decide +kernel), by decide +kernel⟩
theorem mt_283 : (.instanceMethod yM_liesIn : Cond) ∈ lw_g := List.mem_filter.mpr ⟨List.mem_of_getElem? (i := 283) (by decide +kernel), by decide +kernel⟩
theorem mt_284 : (.code yM_liesIn cM_liesIn 4 (some .boolean) : Cond) ∈ lw_g := List.mem_filter.mpr ⟨List.mem_of_getElem? (i := 284) (by decide +kernel), by decide +kernel⟩
theorem mt_285 : (.methodLink RM 51 yM_hostOf : Cond) ∈ lw_g := List.mem_filter.mpr ⟨List.mem_of_getElem? (i := 285) (by decide +kernel), by decide +kernel⟩
theorem mt_287 : (.instanceMethod yM_hostOf : Cond) ∈ lw_g := List.mem_filter.mpr ⟨List.mem_of_getElem? (i := 287) (by decide +kernel), by decide +kernel⟩
theorem mt_288 : (.code yM_hostOf cM_hostOf 3 (some .int) : Cond) ∈ lw_g := List.mem_filter.mpr ⟨List.mem_of_getElem? (i := 288) (by decide +kernel), by decide +kernel⟩
theorem mt_289 : (.methodLink RM 80 yM_changed : Cond) ∈ lw_g := List.mem_filter.mpr ⟨List.mem_of_getElem? (i := 289) (by decide +kernel), by decide +kernel⟩
theorem mt_291 : (.instanceMethod yM_changed : Cond) ∈ lw_g := List.mem_filter.mpr ⟨List.mem_of_getElem? (i := 291) (by decide +kernel), by decide +kernel⟩
theorem mt_292 : (.code yM_changed cM_changed 2 none : Cond) ∈ lw_g := List.mem_filter.mpr ⟨List.mem_of_getElem? (i := 292) (by decide +kernel), by decide +kernel⟩
theorem mt_293 : (.methodLink RL 27 yM_change : Cond) ∈ lw_g := List.mem_filter.mpr ⟨List.mem_of_getElem? (i := 293) (by decide +kernel), by decide +kernel⟩
theorem mt_294 : (.instanceMethod yM_change : Cond) ∈ lw_g := List.mem_filter.mpr ⟨List.mem_of_getElem? (i := 294) (by decide +kernel), by decide +kernel⟩
theorem mt_295 : (.selects RM yM_change yM_change : Cond) ∈ lw_g := List.mem_filter.mpr ⟨List.mem_of_getElem? (i := 295) (by decide +kernel), by decide +kernel⟩
theorem mt_296 : (.code yM_change cM_change 7 (some .int) : Cond) ∈ lw_g := List.mem_filter.mpr ⟨List.mem_of_getElem? (i := 296) (by decide +kernel), by decide +kernel⟩
theorem mt_297 : (.methodLink RM 84 yM_drop : Cond) ∈ lw_g := List.mem_filter.mpr ⟨List.mem_of_getElem? (i := 297) (by decide +kernel), by decide +kernel⟩
theorem mt_299 : (.instanceMethod yM_drop : Cond) ∈ lw_g := List.mem_filter.mpr ⟨List.mem_of_getElem? (i := 299) (by decide +kernel), by decide +kernel⟩
theorem mt_300 : (.code yM_drop cM_drop 3 none : Cond) ∈ lw_g := List.mem_filter.mpr ⟨List.mem_of_getElem? (i := 300) (by decide +kernel), by decide +kernel⟩
theorem mt_301 : (.methodLink RL 31 yM_broken : Cond) ∈ lw_g := List.mem_filter.mpr ⟨List.mem_of_getElem? (i := 301) (by decide +kernel), by decide +kernel⟩
theorem mt_302 : (.instanceMethod yM_broken : Cond) ∈ lw_g := List.mem_filter.mpr ⟨List.mem_of_getElem? (i := 302) (by decide +kernel), by decide +kernel⟩
theorem mt_303 : (.selects RM yM_broken yM_broken : Cond) ∈ lw_g := List.mem_filter.mpr ⟨List.mem_of_getElem? (i := 303) (by decide +kernel), by decide +kernel⟩
theorem mt_304 : (.code yM_broken cM_broken 4 (some .int) : Cond) ∈ lw_g := List.mem_filter.mpr ⟨List.mem_of_getElem? (i := 304) (by decide +kernel), by decide +kernel⟩
theorem mt_305 : (.methodLink RM 90 yM_brokenAt : Cond) ∈ lw_g := List.mem_filter.mpr ⟨List.mem_of_getElem? (i := 305) (by decide +kernel), by decide +kernel⟩
theorem mt_307 : (.instanceMethod yM_brokenAt : Cond) ∈ lw_g := List.mem_filter.mpr ⟨List.mem_of_getElem? (i := 307) (by decide +kernel), by decide +kernel⟩
theorem mt_308 : (.code yM_brokenAt cM_brokenAt 4 (some .int) : Cond) ∈ lw_g := List.mem_filter.mpr ⟨List.mem_of_getElem? (i := 308) (by decide +kernel), by decide +kernel⟩
theorem mt_309 : (.methodLink RM 87 yM_isBroken : Cond) ∈ lw_g := List.mem_filter.mpr ⟨List.mem_of_getElem? (i := 309) (by decide +kernel), by decide +kernel⟩
theorem mt_311 : (.instanceMethod yM_isBroken : Cond) ∈ lw_g := List.mem_filter.mpr ⟨List.mem_of_getElem? (i := 311) (by decide +kernel), by decide +kernel⟩
theorem mt_312 : (.code yM_isBroken cM_isBroken 2 (some .boolean) : Cond) ∈ lw_g := List.mem_filter.mpr ⟨List.mem_of_getElem? (i := 312) (by decide +kernel), by decide +kernel⟩
theorem mt_313 : (.methodLink RL 36 yM_repair : Cond) ∈ lw_g := List.mem_filter.mpr ⟨List.mem_of_getElem? (i := 313) (by decide +kernel), by decide +kernel⟩
theorem mt_314 : (.instanceMethod yM_repair : Cond) ∈ lw_g := List.mem_filter.mpr ⟨List.mem_of_getElem? (i := 314) (by decide +kernel), by decide +kernel⟩
theorem mt_315 : (.selects RM yM_repair yM_repair : Cond) ∈ lw_g := List.mem_filter.mpr ⟨List.mem_of_getElem? (i := 315) (by decide +kernel), by decide +kernel⟩
theorem mt_316 : (.code yM_repair cM_repair 4 (some .int) : Cond) ∈ lw_g := List.mem_filter.mpr ⟨List.mem_of_getElem? (i := 316) (by decide +kernel), by decide +kernel⟩
theorem mt_317 : (.methodLink RL 40 yM_chain : Cond) ∈ lw_g := List.mem_filter.mpr ⟨List.mem_of_getElem? (i := 317) (by decide +kernel), by decide +kernel⟩
theorem mt_318 : (.instanceMethod yM_chain : Cond) ∈ lw_g := List.mem_filter.mpr ⟨List.mem_of_getElem? (i := 318) (by decide +kernel), by decide +kernel⟩
theorem mt_319 : (.selects RM yM_chain yM_chain : Cond) ∈ lw_g := List.mem_filter.mpr ⟨List.mem_of_getElem? (i := 319) (by decide +kernel), by decide +kernel⟩
theorem mt_320 : (.code yM_chain cM_chain 5 (some .int) : Cond) ∈ lw_g := List.mem_filter.mpr ⟨List.mem_of_getElem? (i := 320) (by decide +kernel), by decide +kernel⟩
theorem mt_321 : (.methodLink RL 44 yM_ring : Cond) ∈ lw_g := List.mem_filter.mpr ⟨List.mem_of_getElem? (i := 321) (by decide +kernel), by decide +kernel⟩
theorem mt_322 : (.instanceMethod yM_ring : Cond) ∈ lw_g := List.mem_filter.mpr ⟨List.mem_of_getElem? (i := 322) (by decide +kernel), by decide +kernel⟩
theorem mt_323 : (.selects RM yM_ring yM_ring : Cond) ∈ lw_g := List.mem_filter.mpr ⟨List.mem_of_getElem? (i := 323) (by decide +kernel), by decide +kernel⟩
theorem mt_324 : (.code yM_ring cM_ring 2 (some .int) : Cond) ∈ lw_g := List.mem_filter.mpr ⟨List.mem_of_getElem? (i := 324) (by decide +kernel), by decide +kernel⟩
theorem mt_325 : (.methodLink RL 48 yM_host : Cond) ∈ lw_g := List.mem_filter.mpr ⟨List.mem_of_getElem? (i := 325) (by decide +kernel), by decide +kernel⟩
theorem mt_326 : (.instanceMethod yM_host : Cond) ∈ lw_g := List.mem_filter.mpr ⟨List.mem_of_getElem? (i := 326) (by decide +kernel), by decide +kernel⟩
theorem mt_327 : (.selects RM yM_host yM_host : Cond) ∈ lw_g := List.mem_filter.mpr ⟨List.mem_of_getElem? (i := 327) (by decide +kernel), by decide +kernel⟩
theorem mt_328 : (.code yM_host cM_host 2 (some .int) : Cond) ∈ lw_g := List.mem_filter.mpr ⟨List.mem_of_getElem? (i := 328) (by decide +kernel), by decide +kernel⟩
theorem mt_329 : (.methodLink RL 52 yM_move : Cond) ∈ lw_g := List.mem_filter.mpr ⟨List.mem_of_getElem? (i := 329) (by decide +kernel), by decide +kernel⟩
theorem mt_330 : (.instanceMethod yM_move : Cond) ∈ lw_g := List.mem_filter.mpr ⟨List.mem_of_getElem? (i := 330) (by decide +kernel), by decide +kernel⟩
theorem mt_331 : (.selects RM yM_move yM_move : Cond) ∈ lw_g := List.mem_filter.mpr ⟨List.mem_of_getElem? (i := 331) (by decide +kernel), by decide +kernel⟩
theorem mt_332 : (.code yM_move cM_move 5 (some .int) : Cond) ∈ lw_g := List.mem_filter.mpr ⟨List.mem_of_getElem? (i := 332) (by decide +kernel), by decide +kernel⟩
theorem mt_333 : (.methodLink RL 56 yM_delete : Cond) ∈ lw_g := List.mem_filter.mpr ⟨List.mem_of_getElem? (i := 333) (by decide +kernel), by decide +kernel⟩
theorem mt_334 : (.instanceMethod yM_delete : Cond) ∈ lw_g := List.mem_filter.mpr ⟨List.mem_of_getElem? (i := 334) (by decide +kernel), by decide +kernel⟩
theorem mt_335 : (.selects RM yM_delete yM_delete : Cond) ∈ lw_g := List.mem_filter.mpr ⟨List.mem_of_getElem? (i := 335) (by decide +kernel), by decide +kernel⟩
theorem mt_336 : (.code yM_delete cM_delete 4 (some .int) : Cond) ∈ lw_g := List.mem_filter.mpr ⟨List.mem_of_getElem? (i := 336) (by decide +kernel), by decide +kernel⟩
theorem mt_337 : (.methodLink RL 60 yM_times : Cond) ∈ lw_g := List.mem_filter.mpr ⟨List.mem_of_getElem? (i := 337) (by decide +kernel), by decide +kernel⟩
theorem mt_338 : (.instanceMethod yM_times : Cond) ∈ lw_g := List.mem_filter.mpr ⟨List.mem_of_getElem? (i := 338) (by decide +kernel), by decide +kernel⟩
theorem mt_339 : (.selects RM yM_times yM_times : Cond) ∈ lw_g := List.mem_filter.mpr ⟨List.mem_of_getElem? (i := 339) (by decide +kernel), by decide +kernel⟩
theorem mt_340 : (.code yM_times cM_times 3 (some .int) : Cond) ∈ lw_g := List.mem_filter.mpr ⟨List.mem_of_getElem? (i := 340) (by decide +kernel), by decide +kernel⟩
theorem mt_341 : (.methodLink RL 64 yM_orphan : Cond) ∈ lw_g := List.mem_filter.mpr ⟨List.mem_of_getElem? (i := 341) (by decide +kernel), by decide +kernel⟩
theorem mt_342 : (.instanceMethod yM_orphan : Cond) ∈ lw_g := List.mem_filter.mpr ⟨List.mem_of_getElem? (i := 342) (by decide +kernel), by decide +kernel⟩
theorem mt_343 : (.selects RM yM_orphan yM_orphan : Cond) ∈ lw_g := List.mem_filter.mpr ⟨List.mem_of_getElem? (i := 343) (by decide +kernel), by decide +kernel⟩
theorem mt_344 : (.code yM_orphan cM_orphan 6 (some .int) : Cond) ∈ lw_g := List.mem_filter.mpr ⟨List.mem_of_getElem? (i := 344) (by decide +kernel), by decide +kernel⟩
theorem mt_345 : (.methodLink RL 68 yM_house : Cond) ∈ lw_g := List.mem_filter.mpr ⟨List.mem_of_getElem? (i := 345) (by decide +kernel), by decide +kernel⟩
theorem mt_346 : (.instanceMethod yM_house : Cond) ∈ lw_g := List.mem_filter.mpr ⟨List.mem_of_getElem? (i := 346) (by decide +kernel), by decide +kernel⟩
theorem mt_347 : (.selects RM yM_house yM_house : Cond) ∈ lw_g := List.mem_filter.mpr ⟨List.mem_of_getElem? (i := 347) (by decide +kernel), by decide +kernel⟩
theorem mt_348 : (.code yM_house cM_house 2 (some .int) : Cond) ∈ lw_g := List.mem_filter.mpr ⟨List.mem_of_getElem? (i := 348) (by decide +kernel), by decide +kernel⟩
theorem mt_349 : (.methodLink RL 72 yM_goes : Cond) ∈ lw_g := List.mem_filter.mpr ⟨List.mem_of_getElem? (i := 349) (by decide +kernel), by decide +kernel⟩
theorem mt_350 : (.instanceMethod yM_goes : Cond) ∈ lw_g := List.mem_filter.mpr ⟨List.mem_of_getElem? (i := 350) (by decide +kernel), by decide +kernel⟩
theorem mt_351 : (.selects RM yM_goes yM_goes : Cond) ∈ lw_g := List.mem_filter.mpr ⟨List.mem_of_getElem? (i := 351) (by decide +kernel), by decide +kernel⟩
theorem mt_352 : (.code yM_goes cM_goes 6 (some .int) : Cond) ∈ lw_g := List.mem_filter.mpr ⟨List.mem_of_getElem? (i := 352) (by decide +kernel), by decide +kernel⟩
theorem mt_0 : (.selects RX yX_hasRoomFor yX_hasRoomFor : Cond) ∈ lw_g := List.mem_filter.mpr ⟨List.mem_of_getElem? (i := 0) (by decide +kernel), by decide +kernel⟩
theorem mt_1 : (.selects RX yX_isLive yX_isLive : Cond) ∈ lw_g := List.mem_filter.mpr ⟨List.mem_of_getElem? (i := 1) (by decide +kernel), by decide +kernel⟩
theorem mt_2 : (.selects RX yX_isRecord yX_isRecord : Cond) ∈ lw_g := List.mem_filter.mpr ⟨List.mem_of_getElem? (i := 2) (by decide +kernel), by decide +kernel⟩
theorem mt_3 : (.selects RX yX_mayGoTo yX_mayGoTo : Cond) ∈ lw_g := List.mem_filter.mpr ⟨List.mem_of_getElem? (i := 3) (by decide +kernel), by decide +kernel⟩
theorem mt_4 : (.selects RX yX_liesIn yX_liesIn : Cond) ∈ lw_g := List.mem_filter.mpr ⟨List.mem_of_getElem? (i := 4) (by decide +kernel), by decide +kernel⟩
theorem mt_5 : (.selects RX yX_keepRefusedWay yX_keepRefusedWay : Cond) ∈ lw_g := List.mem_filter.mpr ⟨List.mem_of_getElem? (i := 5) (by decide +kernel), by decide +kernel⟩
theorem mt_6 : (.selects RX yX_addLink yX_addLink : Cond) ∈ lw_g := List.mem_filter.mpr ⟨List.mem_of_getElem? (i := 6) (by decide +kernel), by decide +kernel⟩
theorem mt_7 : (.selects RX yX_noteChange yX_noteChange : Cond) ∈ lw_g := List.mem_filter.mpr ⟨List.mem_of_getElem? (i := 7) (by decide +kernel), by decide +kernel⟩
theorem mt_8 : (.selects RX yX_sendToHeading yX_sendToHeading : Cond) ∈ lw_g := List.mem_filter.mpr ⟨List.mem_of_getElem? (i := 8) (by decide +kernel), by decide +kernel⟩
theorem mt_9 : (.selects RX yX_findLink yX_findLink : Cond) ∈ lw_g := List.mem_filter.mpr ⟨List.mem_of_getElem? (i := 9) (by decide +kernel), by decide +kernel⟩
theorem mt_10 : (.selects RX yX_removeLink yX_removeLink : Cond) ∈ lw_g := List.mem_filter.mpr ⟨List.mem_of_getElem? (i := 10) (by decide +kernel), by decide +kernel⟩
theorem mt_11 : (.selects RX yX_findBroken yX_findBroken : Cond) ∈ lw_g := List.mem_filter.mpr ⟨List.mem_of_getElem? (i := 11) (by decide +kernel), by decide +kernel⟩
theorem mt_12 : (.selects RX yX_countHostedBy yX_countHostedBy : Cond) ∈ lw_g := List.mem_filter.mpr ⟨List.mem_of_getElem? (i := 12) (by decide +kernel), by decide +kernel⟩
theorem mt_13 : (.selects RX yX_removeLinksOf yX_removeLinksOf : Cond) ∈ lw_g := List.mem_filter.mpr ⟨List.mem_of_getElem? (i := 13) (by decide +kernel), by decide +kernel⟩
theorem mt_14 : (.selects RX yX_isLinked yX_isLinked : Cond) ∈ lw_g := List.mem_filter.mpr ⟨List.mem_of_getElem? (i := 14) (by decide +kernel), by decide +kernel⟩
theorem mt_15 : (.selects RM yM_isLive yM_isLive : Cond) ∈ lw_g := List.mem_filter.mpr ⟨List.mem_of_getElem? (i := 15) (by decide +kernel), by decide +kernel⟩
theorem mt_16 : (.selects RM yM_count yM_count : Cond) ∈ lw_g := List.mem_filter.mpr ⟨List.mem_of_getElem? (i := 16) (by decide +kernel), by decide +kernel⟩
theorem mt_17 : (.selects RM yM_find yM_find : Cond) ∈ lw_g := List.mem_filter.mpr ⟨List.mem_of_getElem? (i := 17) (by decide +kernel), by decide +kernel⟩
theorem mt_18 : (.selects RM yM_liesIn yM_liesIn : Cond) ∈ lw_g := List.mem_filter.mpr ⟨List.mem_of_getElem? (i := 18) (by decide +kernel), by decide +kernel⟩
theorem mt_19 : (.selects RM yM_hostOf yM_hostOf : Cond) ∈ lw_g := List.mem_filter.mpr ⟨List.mem_of_getElem? (i := 19) (by decide +kernel), by decide +kernel⟩
theorem mt_20 : (.selects RM yM_changed yM_changed : Cond) ∈ lw_g := List.mem_filter.mpr ⟨List.mem_of_getElem? (i := 20) (by decide +kernel), by decide +kernel⟩
theorem mt_21 : (.selects RM yM_drop yM_drop : Cond) ∈ lw_g := List.mem_filter.mpr ⟨List.mem_of_getElem? (i := 21) (by decide +kernel), by decide +kernel⟩
theorem mt_22 : (.selects RM yM_brokenAt yM_brokenAt : Cond) ∈ lw_g := List.mem_filter.mpr ⟨List.mem_of_getElem? (i := 22) (by decide +kernel), by decide +kernel⟩
theorem mt_23 : (.selects RM yM_isBroken yM_isBroken : Cond) ∈ lw_g := List.mem_filter.mpr ⟨List.mem_of_getElem? (i := 23) (by decide +kernel), by decide +kernel⟩
theorem lw_g_in : ∀ w ∈ lw_g, w ∈ lw_tbl := fun w h => (List.mem_filter.mp h).1
theorem lw_good : ∀ w ∈ lw_g, ((w.onTables && w.keeps) = true ∨ ∃ ty, w = .arrayClass ty) := fun w h => good_of_word (List.mem_filter.mp h).2
theorem gw_V {own : String} {idx : Nat} {C : String} {y : MethodName} {cd : ByteArray} {n : Nat} {rt : Option FieldType} (h1 : Cond.methodLink own idx y ∈ lw_g) (h2 : Cond.instanceMethod y ∈ lw_g) (h3 : Cond.selects C y y ∈ lw_g) (h4 : Cond.initialized C ∈ lw_g) (h5 : Cond.code y cd n rt ∈ lw_g) : GoodIn lw_g (wsV own idx C y (Cond.code y cd n rt :: lw_g)) := by
  intro w hw
  have hm : w ∈ lw_g := by
    unfold wsV at hw
    rcases List.mem_append.mp hw with h | h
    · simp only [List.mem_cons, List.not_mem_nil, or_false] at h
      rcases h with rfl | rfl | rfl | rfl <;> assumption
    · rcases List.mem_cons.mp h with rfl | h
      · exact h5
      · exact h
  exact ⟨hm, lw_good w hm⟩
theorem gw_S {own : String} {idx : Nat} {y : MethodName} {cd : ByteArray} {n : Nat} {rt : Option FieldType} (h1 : Cond.methodLink own idx y ∈ lw_g) (h2 : Cond.static y ∈ lw_g) (h4 : Cond.initialized y.cls ∈ lw_g) (h5 : Cond.code y cd n rt ∈ lw_g) : GoodIn lw_g (va_wsS own idx y (Cond.code y cd n rt :: lw_g)) := by
  intro w hw
  have hm : w ∈ lw_g := by
    unfold va_wsS at hw
    rcases List.mem_append.mp hw with h | h
    · simp only [List.mem_cons, List.not_mem_nil, or_false] at h
      rcases h with rfl | rfl | rfl <;> assumption
    · rcases List.mem_cons.mp h with rfl | h
      · exact h5
      · exact h
  exact ⟨hm, lw_good w hm⟩
theorem gw_I {y : MethodName} {cd : ByteArray} {n : Nat} {rt : Option FieldType} (h5 : Cond.code y cd n rt ∈ lw_g) : GoodIn lw_g (Cond.code y cd n rt :: lw_g) := by
  intro w hw
  have hm : w ∈ lw_g := by
    rcases List.mem_cons.mp hw with rfl | h
    · exact h5
    · exact h
  exact ⟨hm, lw_good w hm⟩
end
section
theorem dX_init_0 : decode cX_init 0 = .ok (.aload_n 0, 1) := by decide +kernel
theorem dX_init_1 : decode cX_init 1 = .ok (.invokespecial 1, 3) := by decide +kernel
theorem dX_init_4 : decode cX_init 4 = .ok (.aload_n 0, 1) := by decide +kernel
theorem dX_init_5 : decode cX_init 5 = .ok (.bipush 61, 2) := by decide +kernel
theorem dX_init_7 : decode cX_init 7 = .ok (.newarray .boolean, 2) := by decide +kernel
theorem dX_init_9 : decode cX_init 9 = .ok (.putfield 9, 3) := by decide +kernel
theorem dX_init_12 : decode cX_init 12 = .ok (.aload_n 0, 1) := by decide +kernel
theorem dX_init_13 : decode cX_init 13 = .ok (.bipush 61, 2) := by decide +kernel
theorem dX_init_15 : decode cX_init 15 = .ok (.newarray .int, 2) := by decide +kernel
theorem dX_init_17 : decode cX_init 17 = .ok (.putfield 13, 3) := by decide +kernel
theorem dX_init_20 : decode cX_init 20 = .ok (.aload_n 0, 1) := by decide +kernel
theorem dX_init_21 : decode cX_init 21 = .ok (.bipush 61, 2) := by decide +kernel
theorem dX_init_23 : decode cX_init 23 = .ok (.newarray .int, 2) := by decide +kernel
theorem dX_init_25 : decode cX_init 25 = .ok (.putfield 17, 3) := by decide +kernel
theorem dX_init_28 : decode cX_init 28 = .ok (.aload_n 0, 1) := by decide +kernel
theorem dX_init_29 : decode cX_init 29 = .ok (.bipush 61, 2) := by decide +kernel
theorem dX_init_31 : decode cX_init 31 = .ok (.newarray .int, 2) := by decide +kernel
theorem dX_init_33 : decode cX_init 33 = .ok (.putfield 20, 3) := by decide +kernel
theorem dX_init_36 : decode cX_init 36 = .ok (.aload_n 0, 1) := by decide +kernel
theorem dX_init_37 : decode cX_init 37 = .ok (.sipush 2440, 3) := by decide +kernel
theorem dX_init_40 : decode cX_init 40 = .ok (.newarray .int, 2) := by decide +kernel
theorem dX_init_42 : decode cX_init 42 = .ok (.putfield 23, 3) := by decide +kernel
theorem dX_init_45 : decode cX_init 45 = .ok (.aload_n 0, 1) := by decide +kernel
theorem dX_init_46 : decode cX_init 46 = .ok (.iconst 0, 1) := by decide +kernel
theorem dX_init_47 : decode cX_init 47 = .ok (.putfield 26, 3) := by decide +kernel
theorem dX_init_50 : decode cX_init 50 = .ok (.aload_n 0, 1) := by decide +kernel
theorem dX_init_51 : decode cX_init 51 = .ok (.sipush 200, 3) := by decide +kernel
theorem dX_init_54 : decode cX_init 54 = .ok (.newarray .int, 2) := by decide +kernel
theorem dX_init_56 : decode cX_init 56 = .ok (.putfield 30, 3) := by decide +kernel
theorem dX_init_59 : decode cX_init 59 = .ok (.aload_n 0, 1) := by decide +kernel
theorem dX_init_60 : decode cX_init 60 = .ok (.sipush 200, 3) := by decide +kernel
theorem dX_init_63 : decode cX_init 63 = .ok (.newarray .int, 2) := by decide +kernel
theorem dX_init_65 : decode cX_init 65 = .ok (.putfield 33, 3) := by decide +kernel
theorem dX_init_68 : decode cX_init 68 = .ok (.aload_n 0, 1) := by decide +kernel
theorem dX_init_69 : decode cX_init 69 = .ok (.sipush 200, 3) := by decide +kernel
theorem dX_init_72 : decode cX_init 72 = .ok (.newarray .int, 2) := by decide +kernel
theorem dX_init_74 : decode cX_init 74 = .ok (.putfield 36, 3) := by decide +kernel
theorem dX_init_77 : decode cX_init 77 = .ok (.aload_n 0, 1) := by decide +kernel
theorem dX_init_78 : decode cX_init 78 = .ok (.iconst 0, 1) := by decide +kernel
theorem dX_init_79 : decode cX_init 79 = .ok (.putfield 39, 3) := by decide +kernel
theorem dX_init_82 : decode cX_init 82 = .ok (.aload_n 0, 1) := by decide +kernel
theorem dX_init_83 : decode cX_init 83 = .ok (.bipush 60, 2) := by decide +kernel
theorem dX_init_85 : decode cX_init 85 = .ok (.newarray .int, 2) := by decide +kernel
theorem dX_init_87 : decode cX_init 87 = .ok (.putfield 42, 3) := by decide +kernel
theorem dX_init_90 : decode cX_init 90 = .ok (.aload_n 0, 1) := by decide +kernel
theorem dX_init_91 : decode cX_init 91 = .ok (.iconst 0, 1) := by decide +kernel
theorem dX_init_92 : decode cX_init 92 = .ok (.putfield 45, 3) := by decide +kernel
theorem dX_init_95 : decode cX_init 95 = .ok (.aload_n 0, 1) := by decide +kernel
theorem dX_init_96 : decode cX_init 96 = .ok (.iconst 0, 1) := by decide +kernel
theorem dX_init_97 : decode cX_init 97 = .ok (.putfield 48, 3) := by decide +kernel
theorem dX_init_100 : decode cX_init 100 = .ok (.return_, 1) := by decide +kernel
theorem dX_record_0 : decode cX_record 0 = .ok (.aload_n 0, 1) := by decide +kernel
theorem dX_record_1 : decode cX_record 1 = .ok (.getfield 26, 3) := by decide +kernel
theorem dX_record_4 : decode cX_record 4 = .ok (.bipush 60, 2) := by decide +kernel
theorem dX_record_6 : decode cX_record 6 = .ok (.if_icmp .lt 5, 3) := by decide +kernel
theorem dX_record_9 : decode cX_record 9 = .ok (.iconst 0, 1) := by decide +kernel
theorem dX_record_10 : decode cX_record 10 = .ok (.ireturn, 1) := by decide +kernel
theorem dX_record_11 : decode cX_record 11 = .ok (.aload_n 0, 1) := by decide +kernel
theorem dX_record_12 : decode cX_record 12 = .ok (.dup, 1) := by decide +kernel
theorem dX_record_13 : decode cX_record 13 = .ok (.getfield 26, 3) := by decide +kernel
theorem dX_record_16 : decode cX_record 16 = .ok (.iconst 1, 1) := by decide +kernel
theorem dX_record_17 : decode cX_record 17 = .ok (.iadd, 1) := by decide +kernel
theorem dX_record_18 : decode cX_record 18 = .ok (.putfield 26, 3) := by decide +kernel
theorem dX_record_21 : decode cX_record 21 = .ok (.aload_n 0, 1) := by decide +kernel
theorem dX_record_22 : decode cX_record 22 = .ok (.getfield 9, 3) := by decide +kernel
theorem dX_record_25 : decode cX_record 25 = .ok (.aload_n 0, 1) := by decide +kernel
theorem dX_record_26 : decode cX_record 26 = .ok (.getfield 26, 3) := by decide +kernel
theorem dX_record_29 : decode cX_record 29 = .ok (.iconst 1, 1) := by decide +kernel
theorem dX_record_30 : decode cX_record 30 = .ok (.bastore, 1) := by decide +kernel
theorem dX_record_31 : decode cX_record 31 = .ok (.aload_n 0, 1) := by decide +kernel
theorem dX_record_32 : decode cX_record 32 = .ok (.getfield 26, 3) := by decide +kernel
theorem dX_record_35 : decode cX_record 35 = .ok (.ireturn, 1) := by decide +kernel
theorem dX_link_0 : decode cX_link 0 = .ok (.aload_n 0, 1) := by decide +kernel
theorem dX_link_1 : decode cX_link 1 = .ok (.dup, 1) := by decide +kernel
theorem dX_link_2 : decode cX_link 2 = .ok (.getfield 48, 3) := by decide +kernel
theorem dX_link_5 : decode cX_link 5 = .ok (.iconst 1, 1) := by decide +kernel
theorem dX_link_6 : decode cX_link 6 = .ok (.iadd, 1) := by decide +kernel
theorem dX_link_7 : decode cX_link 7 = .ok (.putfield 48, 3) := by decide +kernel
theorem dX_link_10 : decode cX_link 10 = .ok (.aload_n 0, 1) := by decide +kernel
theorem dX_link_11 : decode cX_link 11 = .ok (.iload_n 1, 1) := by decide +kernel
theorem dX_link_12 : decode cX_link 12 = .ok (.iload_n 2, 1) := by decide +kernel
theorem dX_link_13 : decode cX_link 13 = .ok (.iload_n 3, 1) := by decide +kernel
theorem dX_link_14 : decode cX_link 14 = .ok (.iconst (-1), 1) := by decide +kernel
theorem dX_link_15 : decode cX_link 15 = .ok (.invokevirtual 51, 3) := by decide +kernel
theorem dX_link_18 : decode cX_link 18 = .ok (.ifCond .ne 5, 3) := by decide +kernel
theorem dX_link_21 : decode cX_link 21 = .ok (.iconst 0, 1) := by decide +kernel
theorem dX_link_22 : decode cX_link 22 = .ok (.ireturn, 1) := by decide +kernel
theorem dX_link_23 : decode cX_link 23 = .ok (.iload_n 2, 1) := by decide +kernel
theorem dX_link_24 : decode cX_link 24 = .ok (.ifCond .ne 20, 3) := by decide +kernel
theorem dX_link_27 : decode cX_link 27 = .ok (.aload_n 0, 1) := by decide +kernel
theorem dX_link_28 : decode cX_link 28 = .ok (.iload_n 3, 1) := by decide +kernel
theorem dX_link_29 : decode cX_link 29 = .ok (.iload_n 1, 1) := by decide +kernel
theorem dX_link_30 : decode cX_link 30 = .ok (.invokevirtual 55, 3) := by decide +kernel
theorem dX_link_33 : decode cX_link 33 = .ok (.ifCond .eq 11, 3) := by decide +kernel
theorem dX_link_36 : decode cX_link 36 = .ok (.aload_n 0, 1) := by decide +kernel
theorem dX_link_37 : decode cX_link 37 = .ok (.iload_n 3, 1) := by decide +kernel
theorem dX_link_38 : decode cX_link 38 = .ok (.iload_n 1, 1) := by decide +kernel
theorem dX_link_39 : decode cX_link 39 = .ok (.invokevirtual 59, 3) := by decide +kernel
theorem dX_link_42 : decode cX_link 42 = .ok (.iconst 0, 1) := by decide +kernel
theorem dX_link_43 : decode cX_link 43 = .ok (.ireturn, 1) := by decide +kernel
theorem dX_link_44 : decode cX_link 44 = .ok (.aload_n 0, 1) := by decide +kernel
theorem dX_link_45 : decode cX_link 45 = .ok (.iload_n 1, 1) := by decide +kernel
theorem dX_link_46 : decode cX_link 46 = .ok (.iload_n 2, 1) := by decide +kernel
theorem dX_link_47 : decode cX_link 47 = .ok (.iload_n 3, 1) := by decide +kernel
theorem dX_link_48 : decode cX_link 48 = .ok (.invokevirtual 63, 3) := by decide +kernel
theorem dX_link_51 : decode cX_link 51 = .ok (.aload_n 0, 1) := by decide +kernel
theorem dX_link_52 : decode cX_link 52 = .ok (.iload_n 1, 1) := by decide +kernel
theorem dX_link_53 : decode cX_link 53 = .ok (.invokevirtual 67, 3) := by decide +kernel
theorem dX_link_56 : decode cX_link 56 = .ok (.iconst 1, 1) := by decide +kernel
theorem dX_link_57 : decode cX_link 57 = .ok (.ireturn, 1) := by decide +kernel
theorem dX_hasRoomFor_0 : decode cX_hasRoomFor 0 = .ok (.aload_n 0, 1) := by decide +kernel
theorem dX_hasRoomFor_1 : decode cX_hasRoomFor 1 = .ok (.iload_n 1, 1) := by decide +kernel
theorem dX_hasRoomFor_2 : decode cX_hasRoomFor 2 = .ok (.invokevirtual 85, 3) := by decide +kernel
theorem dX_hasRoomFor_5 : decode cX_hasRoomFor 5 = .ok (.ifCond .eq 23, 3) := by decide +kernel
theorem dX_hasRoomFor_8 : decode cX_hasRoomFor 8 = .ok (.iload_n 2, 1) := by decide +kernel
theorem dX_hasRoomFor_9 : decode cX_hasRoomFor 9 = .ok (.ifCond .lt 19, 3) := by decide +kernel
theorem dX_hasRoomFor_12 : decode cX_hasRoomFor 12 = .ok (.iload_n 2, 1) := by decide +kernel
theorem dX_hasRoomFor_13 : decode cX_hasRoomFor 13 = .ok (.bipush 9, 2) := by decide +kernel
theorem dX_hasRoomFor_15 : decode cX_hasRoomFor 15 = .ok (.if_icmp .gt 13, 3) := by decide +kernel
theorem dX_hasRoomFor_18 : decode cX_hasRoomFor 18 = .ok (.aload_n 0, 1) := by decide +kernel
theorem dX_hasRoomFor_19 : decode cX_hasRoomFor 19 = .ok (.iload_n 1, 1) := by decide +kernel
theorem dX_hasRoomFor_20 : decode cX_hasRoomFor 20 = .ok (.iload_n 2, 1) := by decide +kernel
theorem dX_hasRoomFor_21 : decode cX_hasRoomFor 21 = .ok (.iload_n 3, 1) := by decide +kernel
theorem dX_hasRoomFor_22 : decode cX_hasRoomFor 22 = .ok (.invokevirtual 100, 3) := by decide +kernel
theorem dX_hasRoomFor_25 : decode cX_hasRoomFor 25 = .ok (.ifCond .ne 5, 3) := by decide +kernel
theorem dX_hasRoomFor_28 : decode cX_hasRoomFor 28 = .ok (.iconst 0, 1) := by decide +kernel
theorem dX_hasRoomFor_29 : decode cX_hasRoomFor 29 = .ok (.ireturn, 1) := by decide +kernel
theorem dX_hasRoomFor_30 : decode cX_hasRoomFor 30 = .ok (.iconst 0, 1) := by decide +kernel
theorem dX_hasRoomFor_31 : decode cX_hasRoomFor 31 = .ok (.istore 5, 2) := by decide +kernel
theorem dX_hasRoomFor_33 : decode cX_hasRoomFor 33 = .ok (.iconst 0, 1) := by decide +kernel
theorem dX_hasRoomFor_34 : decode cX_hasRoomFor 34 = .ok (.istore 6, 2) := by decide +kernel
theorem dX_hasRoomFor_36 : decode cX_hasRoomFor 36 = .ok (.iconst 0, 1) := by decide +kernel
theorem dX_hasRoomFor_37 : decode cX_hasRoomFor 37 = .ok (.istore 7, 2) := by decide +kernel
theorem dX_hasRoomFor_39 : decode cX_hasRoomFor 39 = .ok (.iload 7, 2) := by decide +kernel
theorem dX_hasRoomFor_41 : decode cX_hasRoomFor 41 = .ok (.aload_n 0, 1) := by decide +kernel
theorem dX_hasRoomFor_42 : decode cX_hasRoomFor 42 = .ok (.getfield 39, 3) := by decide +kernel
theorem dX_hasRoomFor_45 : decode cX_hasRoomFor 45 = .ok (.if_icmp .ge 60, 3) := by decide +kernel
theorem dX_hasRoomFor_48 : decode cX_hasRoomFor 48 = .ok (.iload 7, 2) := by decide +kernel
theorem dX_hasRoomFor_50 : decode cX_hasRoomFor 50 = .ok (.iload 4, 2) := by decide +kernel
theorem dX_hasRoomFor_52 : decode cX_hasRoomFor 52 = .ok (.if_icmp .ne 6, 3) := by decide +kernel
theorem dX_hasRoomFor_55 : decode cX_hasRoomFor 55 = .ok (.goto 44, 3) := by decide +kernel
theorem dX_hasRoomFor_58 : decode cX_hasRoomFor 58 = .ok (.iinc 6 1, 3) := by decide +kernel
theorem dX_hasRoomFor_61 : decode cX_hasRoomFor 61 = .ok (.aload_n 0, 1) := by decide +kernel
theorem dX_hasRoomFor_62 : decode cX_hasRoomFor 62 = .ok (.getfield 30, 3) := by decide +kernel
theorem dX_hasRoomFor_65 : decode cX_hasRoomFor 65 = .ok (.iload 7, 2) := by decide +kernel
theorem dX_hasRoomFor_67 : decode cX_hasRoomFor 67 = .ok (.iaload, 1) := by decide +kernel
theorem dX_hasRoomFor_68 : decode cX_hasRoomFor 68 = .ok (.iload_n 1, 1) := by decide +kernel
theorem dX_hasRoomFor_69 : decode cX_hasRoomFor 69 = .ok (.if_icmp .ne 30, 3) := by decide +kernel
theorem dX_hasRoomFor_72 : decode cX_hasRoomFor 72 = .ok (.aload_n 0, 1) := by decide +kernel
theorem dX_hasRoomFor_73 : decode cX_hasRoomFor 73 = .ok (.getfield 33, 3) := by decide +kernel
theorem dX_hasRoomFor_76 : decode cX_hasRoomFor 76 = .ok (.iload 7, 2) := by decide +kernel
theorem dX_hasRoomFor_78 : decode cX_hasRoomFor 78 = .ok (.iaload, 1) := by decide +kernel
theorem dX_hasRoomFor_79 : decode cX_hasRoomFor 79 = .ok (.iload_n 2, 1) := by decide +kernel
theorem dX_hasRoomFor_80 : decode cX_hasRoomFor 80 = .ok (.if_icmp .ne 19, 3) := by decide +kernel
theorem dX_hasRoomFor_83 : decode cX_hasRoomFor 83 = .ok (.iinc 5 1, 3) := by decide +kernel
theorem dX_hasRoomFor_86 : decode cX_hasRoomFor 86 = .ok (.aload_n 0, 1) := by decide +kernel
theorem dX_hasRoomFor_87 : decode cX_hasRoomFor 87 = .ok (.getfield 36, 3) := by decide +kernel
theorem dX_hasRoomFor_90 : decode cX_hasRoomFor 90 = .ok (.iload 7, 2) := by decide +kernel
theorem dX_hasRoomFor_92 : decode cX_hasRoomFor 92 = .ok (.iaload, 1) := by decide +kernel
theorem dX_hasRoomFor_93 : decode cX_hasRoomFor 93 = .ok (.iload_n 3, 1) := by decide +kernel
theorem dX_hasRoomFor_94 : decode cX_hasRoomFor 94 = .ok (.if_icmp .ne 5, 3) := by decide +kernel
theorem dX_hasRoomFor_97 : decode cX_hasRoomFor 97 = .ok (.iconst 0, 1) := by decide +kernel
theorem dX_hasRoomFor_98 : decode cX_hasRoomFor 98 = .ok (.ireturn, 1) := by decide +kernel
theorem dX_hasRoomFor_99 : decode cX_hasRoomFor 99 = .ok (.iinc 7 1, 3) := by decide +kernel
theorem dX_hasRoomFor_102 : decode cX_hasRoomFor 102 = .ok (.goto (-63), 3) := by decide +kernel
theorem dX_hasRoomFor_105 : decode cX_hasRoomFor 105 = .ok (.iload 5, 2) := by decide +kernel
theorem dX_hasRoomFor_107 : decode cX_hasRoomFor 107 = .ok (.getstatic 104, 3) := by decide +kernel
theorem dX_hasRoomFor_110 : decode cX_hasRoomFor 110 = .ok (.iload_n 2, 1) := by decide +kernel
theorem dX_hasRoomFor_111 : decode cX_hasRoomFor 111 = .ok (.iaload, 1) := by decide +kernel
theorem dX_hasRoomFor_112 : decode cX_hasRoomFor 112 = .ok (.if_icmp .ge 15, 3) := by decide +kernel
theorem dX_hasRoomFor_115 : decode cX_hasRoomFor 115 = .ok (.iload 6, 2) := by decide +kernel
theorem dX_hasRoomFor_117 : decode cX_hasRoomFor 117 = .ok (.sipush 200, 3) := by decide +kernel
theorem dX_hasRoomFor_120 : decode cX_hasRoomFor 120 = .ok (.if_icmp .ge 7, 3) := by decide +kernel
theorem dX_hasRoomFor_123 : decode cX_hasRoomFor 123 = .ok (.iconst 1, 1) := by decide +kernel
theorem dX_hasRoomFor_124 : decode cX_hasRoomFor 124 = .ok (.goto 4, 3) := by decide +kernel
theorem dX_hasRoomFor_127 : decode cX_hasRoomFor 127 = .ok (.iconst 0, 1) := by decide +kernel
theorem dX_hasRoomFor_128 : decode cX_hasRoomFor 128 = .ok (.ireturn, 1) := by decide +kernel
theorem dX_isLive_0 : decode cX_isLive 0 = .ok (.aload_n 0, 1) := by decide +kernel
theorem dX_isLive_1 : decode cX_isLive 1 = .ok (.iload_n 1, 1) := by decide +kernel
theorem dX_isLive_2 : decode cX_isLive 2 = .ok (.invokevirtual 94, 3) := by decide +kernel
theorem dX_isLive_5 : decode cX_isLive 5 = .ok (.ifCond .eq 16, 3) := by decide +kernel
theorem dX_isLive_8 : decode cX_isLive 8 = .ok (.aload_n 0, 1) := by decide +kernel
theorem dX_isLive_9 : decode cX_isLive 9 = .ok (.getfield 9, 3) := by decide +kernel
theorem dX_isLive_12 : decode cX_isLive 12 = .ok (.iload_n 1, 1) := by decide +kernel
theorem dX_isLive_13 : decode cX_isLive 13 = .ok (.baload, 1) := by decide +kernel
theorem dX_isLive_14 : decode cX_isLive 14 = .ok (.ifCond .eq 7, 3) := by decide +kernel
theorem dX_isLive_17 : decode cX_isLive 17 = .ok (.iconst 1, 1) := by decide +kernel
theorem dX_isLive_18 : decode cX_isLive 18 = .ok (.goto 4, 3) := by decide +kernel
theorem dX_isLive_21 : decode cX_isLive 21 = .ok (.iconst 0, 1) := by decide +kernel
theorem dX_isLive_22 : decode cX_isLive 22 = .ok (.ireturn, 1) := by decide +kernel
theorem dX_isRecord_0 : decode cX_isRecord 0 = .ok (.iload_n 1, 1) := by decide +kernel
theorem dX_isRecord_1 : decode cX_isRecord 1 = .ok (.iconst 1, 1) := by decide +kernel
theorem dX_isRecord_2 : decode cX_isRecord 2 = .ok (.if_icmp .lt 15, 3) := by decide +kernel
theorem dX_isRecord_5 : decode cX_isRecord 5 = .ok (.iload_n 1, 1) := by decide +kernel
theorem dX_isRecord_6 : decode cX_isRecord 6 = .ok (.aload_n 0, 1) := by decide +kernel
theorem dX_isRecord_7 : decode cX_isRecord 7 = .ok (.getfield 26, 3) := by decide +kernel
theorem dX_isRecord_10 : decode cX_isRecord 10 = .ok (.if_icmp .gt 7, 3) := by decide +kernel
theorem dX_isRecord_13 : decode cX_isRecord 13 = .ok (.iconst 1, 1) := by decide +kernel
theorem dX_isRecord_14 : decode cX_isRecord 14 = .ok (.goto 4, 3) := by decide +kernel
theorem dX_isRecord_17 : decode cX_isRecord 17 = .ok (.iconst 0, 1) := by decide +kernel
theorem dX_isRecord_18 : decode cX_isRecord 18 = .ok (.ireturn, 1) := by decide +kernel
theorem dX_mayGoTo_0 : decode cX_mayGoTo 0 = .ok (.iload_n 2, 1) := by decide +kernel
theorem dX_mayGoTo_1 : decode cX_mayGoTo 1 = .ok (.iconst 4, 1) := by decide +kernel
theorem dX_mayGoTo_2 : decode cX_mayGoTo 2 = .ok (.if_icmp .lt 8, 3) := by decide +kernel
theorem dX_mayGoTo_5 : decode cX_mayGoTo 5 = .ok (.iload_n 3, 1) := by decide +kernel
theorem dX_mayGoTo_6 : decode cX_mayGoTo 6 = .ok (.invokestatic 71, 3) := by decide +kernel
theorem dX_mayGoTo_9 : decode cX_mayGoTo 9 = .ok (.ireturn, 1) := by decide +kernel
theorem dX_mayGoTo_10 : decode cX_mayGoTo 10 = .ok (.aload_n 0, 1) := by decide +kernel
theorem dX_mayGoTo_11 : decode cX_mayGoTo 11 = .ok (.iload_n 3, 1) := by decide +kernel
theorem dX_mayGoTo_12 : decode cX_mayGoTo 12 = .ok (.invokevirtual 85, 3) := by decide +kernel
theorem dX_mayGoTo_15 : decode cX_mayGoTo 15 = .ok (.ifCond .eq 12, 3) := by decide +kernel
theorem dX_mayGoTo_18 : decode cX_mayGoTo 18 = .ok (.iload_n 3, 1) := by decide +kernel
theorem dX_mayGoTo_19 : decode cX_mayGoTo 19 = .ok (.iload_n 1, 1) := by decide +kernel
theorem dX_mayGoTo_20 : decode cX_mayGoTo 20 = .ok (.if_icmp .eq 7, 3) := by decide +kernel
theorem dX_mayGoTo_23 : decode cX_mayGoTo 23 = .ok (.iconst 1, 1) := by decide +kernel
theorem dX_mayGoTo_24 : decode cX_mayGoTo 24 = .ok (.goto 4, 3) := by decide +kernel
theorem dX_mayGoTo_27 : decode cX_mayGoTo 27 = .ok (.iconst 0, 1) := by decide +kernel
theorem dX_mayGoTo_28 : decode cX_mayGoTo 28 = .ok (.ireturn, 1) := by decide +kernel
theorem dX_isHeading_0 : decode cX_isHeading 0 = .ok (.iload_n 0, 1) := by decide +kernel
theorem dX_isHeading_1 : decode cX_isHeading 1 = .ok (.iconst 1, 1) := by decide +kernel
theorem dX_isHeading_2 : decode cX_isHeading 2 = .ok (.if_icmp .lt 13, 3) := by decide +kernel
theorem dX_isHeading_5 : decode cX_isHeading 5 = .ok (.iload_n 0, 1) := by decide +kernel
theorem dX_isHeading_6 : decode cX_isHeading 6 = .ok (.bipush 99, 2) := by decide +kernel
theorem dX_isHeading_8 : decode cX_isHeading 8 = .ok (.if_icmp .gt 7, 3) := by decide +kernel
theorem dX_isHeading_11 : decode cX_isHeading 11 = .ok (.iconst 1, 1) := by decide +kernel
theorem dX_isHeading_12 : decode cX_isHeading 12 = .ok (.goto 4, 3) := by decide +kernel
theorem dX_isHeading_15 : decode cX_isHeading 15 = .ok (.iconst 0, 1) := by decide +kernel
theorem dX_isHeading_16 : decode cX_isHeading 16 = .ok (.ireturn, 1) := by decide +kernel
theorem dX_liesIn_0 : decode cX_liesIn 0 = .ok (.aload_n 0, 1) := by decide +kernel
theorem dX_liesIn_1 : decode cX_liesIn 1 = .ok (.getfield 17, 3) := by decide +kernel
theorem dX_liesIn_4 : decode cX_liesIn 4 = .ok (.iload_n 1, 1) := by decide +kernel
theorem dX_liesIn_5 : decode cX_liesIn 5 = .ok (.iaload, 1) := by decide +kernel
theorem dX_liesIn_6 : decode cX_liesIn 6 = .ok (.istore_n 3, 1) := by decide +kernel
theorem dX_liesIn_7 : decode cX_liesIn 7 = .ok (.iconst 0, 1) := by decide +kernel
theorem dX_liesIn_8 : decode cX_liesIn 8 = .ok (.istore 4, 2) := by decide +kernel
theorem dX_liesIn_10 : decode cX_liesIn 10 = .ok (.iload 4, 2) := by decide +kernel
theorem dX_liesIn_12 : decode cX_liesIn 12 = .ok (.bipush 60, 2) := by decide +kernel
theorem dX_liesIn_14 : decode cX_liesIn 14 = .ok (.if_icmp .ge 27, 3) := by decide +kernel
theorem dX_liesIn_17 : decode cX_liesIn 17 = .ok (.iload_n 3, 1) := by decide +kernel
theorem dX_liesIn_18 : decode cX_liesIn 18 = .ok (.ifCond .eq 23, 3) := by decide +kernel
theorem dX_liesIn_21 : decode cX_liesIn 21 = .ok (.iload_n 3, 1) := by decide +kernel
theorem dX_liesIn_22 : decode cX_liesIn 22 = .ok (.iload_n 2, 1) := by decide +kernel
theorem dX_liesIn_23 : decode cX_liesIn 23 = .ok (.if_icmp .ne 5, 3) := by decide +kernel
theorem dX_liesIn_26 : decode cX_liesIn 26 = .ok (.iconst 1, 1) := by decide +kernel
theorem dX_liesIn_27 : decode cX_liesIn 27 = .ok (.ireturn, 1) := by decide +kernel
theorem dX_liesIn_28 : decode cX_liesIn 28 = .ok (.aload_n 0, 1) := by decide +kernel
theorem dX_liesIn_29 : decode cX_liesIn 29 = .ok (.getfield 17, 3) := by decide +kernel
theorem dX_liesIn_32 : decode cX_liesIn 32 = .ok (.iload_n 3, 1) := by decide +kernel
theorem dX_liesIn_33 : decode cX_liesIn 33 = .ok (.iaload, 1) := by decide +kernel
theorem dX_liesIn_34 : decode cX_liesIn 34 = .ok (.istore_n 3, 1) := by decide +kernel
theorem dX_liesIn_35 : decode cX_liesIn 35 = .ok (.iinc 4 1, 3) := by decide +kernel
theorem dX_liesIn_38 : decode cX_liesIn 38 = .ok (.goto (-28), 3) := by decide +kernel
theorem dX_liesIn_41 : decode cX_liesIn 41 = .ok (.iconst 0, 1) := by decide +kernel
theorem dX_liesIn_42 : decode cX_liesIn 42 = .ok (.ireturn, 1) := by decide +kernel
theorem dX_keepRefusedWay_0 : decode cX_keepRefusedWay 0 = .ok (.aload_n 0, 1) := by decide +kernel
theorem dX_keepRefusedWay_1 : decode cX_keepRefusedWay 1 = .ok (.iconst 0, 1) := by decide +kernel
theorem dX_keepRefusedWay_2 : decode cX_keepRefusedWay 2 = .ok (.putfield 45, 3) := by decide +kernel
theorem dX_keepRefusedWay_5 : decode cX_keepRefusedWay 5 = .ok (.iload_n 1, 1) := by decide +kernel
theorem dX_keepRefusedWay_6 : decode cX_keepRefusedWay 6 = .ok (.istore_n 3, 1) := by decide +kernel
theorem dX_keepRefusedWay_7 : decode cX_keepRefusedWay 7 = .ok (.aload_n 0, 1) := by decide +kernel
theorem dX_keepRefusedWay_8 : decode cX_keepRefusedWay 8 = .ok (.getfield 45, 3) := by decide +kernel
theorem dX_keepRefusedWay_11 : decode cX_keepRefusedWay 11 = .ok (.bipush 60, 2) := by decide +kernel
theorem dX_keepRefusedWay_13 : decode cX_keepRefusedWay 13 = .ok (.if_icmp .ge 46, 3) := by decide +kernel
theorem dX_keepRefusedWay_16 : decode cX_keepRefusedWay 16 = .ok (.iload_n 3, 1) := by decide +kernel
theorem dX_keepRefusedWay_17 : decode cX_keepRefusedWay 17 = .ok (.ifCond .eq 42, 3) := by decide +kernel
theorem dX_keepRefusedWay_20 : decode cX_keepRefusedWay 20 = .ok (.aload_n 0, 1) := by decide +kernel
theorem dX_keepRefusedWay_21 : decode cX_keepRefusedWay 21 = .ok (.getfield 42, 3) := by decide +kernel
theorem dX_keepRefusedWay_24 : decode cX_keepRefusedWay 24 = .ok (.aload_n 0, 1) := by decide +kernel
theorem dX_keepRefusedWay_25 : decode cX_keepRefusedWay 25 = .ok (.getfield 45, 3) := by decide +kernel
theorem dX_keepRefusedWay_28 : decode cX_keepRefusedWay 28 = .ok (.iload_n 3, 1) := by decide +kernel
theorem dX_keepRefusedWay_29 : decode cX_keepRefusedWay 29 = .ok (.iastore, 1) := by decide +kernel
theorem dX_keepRefusedWay_30 : decode cX_keepRefusedWay 30 = .ok (.aload_n 0, 1) := by decide +kernel
theorem dX_keepRefusedWay_31 : decode cX_keepRefusedWay 31 = .ok (.dup, 1) := by decide +kernel
theorem dX_keepRefusedWay_32 : decode cX_keepRefusedWay 32 = .ok (.getfield 45, 3) := by decide +kernel
theorem dX_keepRefusedWay_35 : decode cX_keepRefusedWay 35 = .ok (.iconst 1, 1) := by decide +kernel
theorem dX_keepRefusedWay_36 : decode cX_keepRefusedWay 36 = .ok (.iadd, 1) := by decide +kernel
theorem dX_keepRefusedWay_37 : decode cX_keepRefusedWay 37 = .ok (.putfield 45, 3) := by decide +kernel
theorem dX_keepRefusedWay_40 : decode cX_keepRefusedWay 40 = .ok (.iload_n 3, 1) := by decide +kernel
theorem dX_keepRefusedWay_41 : decode cX_keepRefusedWay 41 = .ok (.iload_n 2, 1) := by decide +kernel
theorem dX_keepRefusedWay_42 : decode cX_keepRefusedWay 42 = .ok (.if_icmp .ne 7, 3) := by decide +kernel
theorem dX_keepRefusedWay_45 : decode cX_keepRefusedWay 45 = .ok (.iconst 0, 1) := by decide +kernel
theorem dX_keepRefusedWay_46 : decode cX_keepRefusedWay 46 = .ok (.goto 9, 3) := by decide +kernel
theorem dX_keepRefusedWay_49 : decode cX_keepRefusedWay 49 = .ok (.aload_n 0, 1) := by decide +kernel
theorem dX_keepRefusedWay_50 : decode cX_keepRefusedWay 50 = .ok (.getfield 17, 3) := by decide +kernel
theorem dX_keepRefusedWay_53 : decode cX_keepRefusedWay 53 = .ok (.iload_n 3, 1) := by decide +kernel
theorem dX_keepRefusedWay_54 : decode cX_keepRefusedWay 54 = .ok (.iaload, 1) := by decide +kernel
theorem dX_keepRefusedWay_55 : decode cX_keepRefusedWay 55 = .ok (.istore_n 3, 1) := by decide +kernel
theorem dX_keepRefusedWay_56 : decode cX_keepRefusedWay 56 = .ok (.goto (-49), 3) := by decide +kernel
theorem dX_keepRefusedWay_59 : decode cX_keepRefusedWay 59 = .ok (.return_, 1) := by decide +kernel
theorem dX_addLink_0 : decode cX_addLink 0 = .ok (.aload_n 0, 1) := by decide +kernel
theorem dX_addLink_1 : decode cX_addLink 1 = .ok (.getfield 30, 3) := by decide +kernel
theorem dX_addLink_4 : decode cX_addLink 4 = .ok (.aload_n 0, 1) := by decide +kernel
theorem dX_addLink_5 : decode cX_addLink 5 = .ok (.getfield 39, 3) := by decide +kernel
theorem dX_addLink_8 : decode cX_addLink 8 = .ok (.iload_n 1, 1) := by decide +kernel
theorem dX_addLink_9 : decode cX_addLink 9 = .ok (.iastore, 1) := by decide +kernel
theorem dX_addLink_10 : decode cX_addLink 10 = .ok (.aload_n 0, 1) := by decide +kernel
theorem dX_addLink_11 : decode cX_addLink 11 = .ok (.getfield 33, 3) := by decide +kernel
theorem dX_addLink_14 : decode cX_addLink 14 = .ok (.aload_n 0, 1) := by decide +kernel
theorem dX_addLink_15 : decode cX_addLink 15 = .ok (.getfield 39, 3) := by decide +kernel
theorem dX_addLink_18 : decode cX_addLink 18 = .ok (.iload_n 2, 1) := by decide +kernel
theorem dX_addLink_19 : decode cX_addLink 19 = .ok (.iastore, 1) := by decide +kernel
theorem dX_addLink_20 : decode cX_addLink 20 = .ok (.aload_n 0, 1) := by decide +kernel
theorem dX_addLink_21 : decode cX_addLink 21 = .ok (.getfield 36, 3) := by decide +kernel
theorem dX_addLink_24 : decode cX_addLink 24 = .ok (.aload_n 0, 1) := by decide +kernel
theorem dX_addLink_25 : decode cX_addLink 25 = .ok (.getfield 39, 3) := by decide +kernel
theorem dX_addLink_28 : decode cX_addLink 28 = .ok (.iload_n 3, 1) := by decide +kernel
theorem dX_addLink_29 : decode cX_addLink 29 = .ok (.iastore, 1) := by decide +kernel
theorem dX_addLink_30 : decode cX_addLink 30 = .ok (.aload_n 0, 1) := by decide +kernel
theorem dX_addLink_31 : decode cX_addLink 31 = .ok (.dup, 1) := by decide +kernel
theorem dX_addLink_32 : decode cX_addLink 32 = .ok (.getfield 39, 3) := by decide +kernel
theorem dX_addLink_35 : decode cX_addLink 35 = .ok (.iconst 1, 1) := by decide +kernel
theorem dX_addLink_36 : decode cX_addLink 36 = .ok (.iadd, 1) := by decide +kernel
theorem dX_addLink_37 : decode cX_addLink 37 = .ok (.putfield 39, 3) := by decide +kernel
theorem dX_addLink_40 : decode cX_addLink 40 = .ok (.iload_n 2, 1) := by decide +kernel
theorem dX_addLink_41 : decode cX_addLink 41 = .ok (.ifCond .ne 10, 3) := by decide +kernel
theorem dX_addLink_44 : decode cX_addLink 44 = .ok (.aload_n 0, 1) := by decide +kernel
theorem dX_addLink_45 : decode cX_addLink 45 = .ok (.getfield 17, 3) := by decide +kernel
theorem dX_addLink_48 : decode cX_addLink 48 = .ok (.iload_n 1, 1) := by decide +kernel
theorem dX_addLink_49 : decode cX_addLink 49 = .ok (.iload_n 3, 1) := by decide +kernel
theorem dX_addLink_50 : decode cX_addLink 50 = .ok (.iastore, 1) := by decide +kernel
theorem dX_addLink_51 : decode cX_addLink 51 = .ok (.return_, 1) := by decide +kernel
theorem dX_noteChange_0 : decode cX_noteChange 0 = .ok (.aload_n 0, 1) := by decide +kernel
theorem dX_noteChange_1 : decode cX_noteChange 1 = .ok (.getfield 20, 3) := by decide +kernel
theorem dX_noteChange_4 : decode cX_noteChange 4 = .ok (.iload_n 1, 1) := by decide +kernel
theorem dX_noteChange_5 : decode cX_noteChange 5 = .ok (.iaload, 1) := by decide +kernel
theorem dX_noteChange_6 : decode cX_noteChange 6 = .ok (.istore_n 2, 1) := by decide +kernel
theorem dX_noteChange_7 : decode cX_noteChange 7 = .ok (.iload_n 2, 1) := by decide +kernel
theorem dX_noteChange_8 : decode cX_noteChange 8 = .ok (.bipush 40, 2) := by decide +kernel
theorem dX_noteChange_10 : decode cX_noteChange 10 = .ok (.if_icmp .lt 4, 3) := by decide +kernel
theorem dX_noteChange_13 : decode cX_noteChange 13 = .ok (.return_, 1) := by decide +kernel
theorem dX_noteChange_14 : decode cX_noteChange 14 = .ok (.iload_n 1, 1) := by decide +kernel
theorem dX_noteChange_15 : decode cX_noteChange 15 = .ok (.bipush 40, 2) := by decide +kernel
theorem dX_noteChange_17 : decode cX_noteChange 17 = .ok (.imul, 1) := by decide +kernel
theorem dX_noteChange_18 : decode cX_noteChange 18 = .ok (.iload_n 2, 1) := by decide +kernel
theorem dX_noteChange_19 : decode cX_noteChange 19 = .ok (.iadd, 1) := by decide +kernel
theorem dX_noteChange_20 : decode cX_noteChange 20 = .ok (.istore_n 3, 1) := by decide +kernel
theorem dX_noteChange_21 : decode cX_noteChange 21 = .ok (.iload_n 2, 1) := by decide +kernel
theorem dX_noteChange_22 : decode cX_noteChange 22 = .ok (.ifCond .le 19, 3) := by decide +kernel
theorem dX_noteChange_25 : decode cX_noteChange 25 = .ok (.aload_n 0, 1) := by decide +kernel
theorem dX_noteChange_26 : decode cX_noteChange 26 = .ok (.getfield 23, 3) := by decide +kernel
theorem dX_noteChange_29 : decode cX_noteChange 29 = .ok (.iload_n 3, 1) := by decide +kernel
theorem dX_noteChange_30 : decode cX_noteChange 30 = .ok (.iconst 1, 1) := by decide +kernel
theorem dX_noteChange_31 : decode cX_noteChange 31 = .ok (.isub, 1) := by decide +kernel
theorem dX_noteChange_32 : decode cX_noteChange 32 = .ok (.iaload, 1) := by decide +kernel
theorem dX_noteChange_33 : decode cX_noteChange 33 = .ok (.aload_n 0, 1) := by decide +kernel
theorem dX_noteChange_34 : decode cX_noteChange 34 = .ok (.getfield 48, 3) := by decide +kernel
theorem dX_noteChange_37 : decode cX_noteChange 37 = .ok (.if_icmp .ne 4, 3) := by decide +kernel
theorem dX_noteChange_40 : decode cX_noteChange 40 = .ok (.return_, 1) := by decide +kernel
theorem dX_noteChange_41 : decode cX_noteChange 41 = .ok (.aload_n 0, 1) := by decide +kernel
theorem dX_noteChange_42 : decode cX_noteChange 42 = .ok (.getfield 23, 3) := by decide +kernel
theorem dX_noteChange_45 : decode cX_noteChange 45 = .ok (.iload_n 3, 1) := by decide +kernel
theorem dX_noteChange_46 : decode cX_noteChange 46 = .ok (.aload_n 0, 1) := by decide +kernel
theorem dX_noteChange_47 : decode cX_noteChange 47 = .ok (.getfield 48, 3) := by decide +kernel
theorem dX_noteChange_50 : decode cX_noteChange 50 = .ok (.iastore, 1) := by decide +kernel
theorem dX_noteChange_51 : decode cX_noteChange 51 = .ok (.aload_n 0, 1) := by decide +kernel
theorem dX_noteChange_52 : decode cX_noteChange 52 = .ok (.getfield 20, 3) := by decide +kernel
theorem dX_noteChange_55 : decode cX_noteChange 55 = .ok (.iload_n 1, 1) := by decide +kernel
theorem dX_noteChange_56 : decode cX_noteChange 56 = .ok (.iload_n 2, 1) := by decide +kernel
theorem dX_noteChange_57 : decode cX_noteChange 57 = .ok (.iconst 1, 1) := by decide +kernel
theorem dX_noteChange_58 : decode cX_noteChange 58 = .ok (.iadd, 1) := by decide +kernel
theorem dX_noteChange_59 : decode cX_noteChange 59 = .ok (.iastore, 1) := by decide +kernel
theorem dX_noteChange_60 : decode cX_noteChange 60 = .ok (.return_, 1) := by decide +kernel
theorem dX_change_0 : decode cX_change 0 = .ok (.aload_n 0, 1) := by decide +kernel
theorem dX_change_1 : decode cX_change 1 = .ok (.dup, 1) := by decide +kernel
theorem dX_change_2 : decode cX_change 2 = .ok (.getfield 48, 3) := by decide +kernel
theorem dX_change_5 : decode cX_change 5 = .ok (.iconst 1, 1) := by decide +kernel
theorem dX_change_6 : decode cX_change 6 = .ok (.iadd, 1) := by decide +kernel
theorem dX_change_7 : decode cX_change 7 = .ok (.putfield 48, 3) := by decide +kernel
theorem dX_change_10 : decode cX_change 10 = .ok (.iload_n 1, 1) := by decide +kernel
theorem dX_change_11 : decode cX_change 11 = .ok (.invokestatic 71, 3) := by decide +kernel
theorem dX_change_14 : decode cX_change 14 = .ok (.ifCond .eq 15, 3) := by decide +kernel
theorem dX_change_17 : decode cX_change 17 = .ok (.iload_n 2, 1) := by decide +kernel
theorem dX_change_18 : decode cX_change 18 = .ok (.invokestatic 71, 3) := by decide +kernel
theorem dX_change_21 : decode cX_change 21 = .ok (.ifCond .eq 8, 3) := by decide +kernel
theorem dX_change_24 : decode cX_change 24 = .ok (.iload_n 1, 1) := by decide +kernel
theorem dX_change_25 : decode cX_change 25 = .ok (.iload_n 2, 1) := by decide +kernel
theorem dX_change_26 : decode cX_change 26 = .ok (.if_icmp .ne 5, 3) := by decide +kernel
theorem dX_change_29 : decode cX_change 29 = .ok (.iconst 0, 1) := by decide +kernel
theorem dX_change_30 : decode cX_change 30 = .ok (.ireturn, 1) := by decide +kernel
theorem dX_change_31 : decode cX_change 31 = .ok (.iconst 0, 1) := by decide +kernel
theorem dX_change_32 : decode cX_change 32 = .ok (.istore_n 3, 1) := by decide +kernel
theorem dX_change_33 : decode cX_change 33 = .ok (.aload_n 0, 1) := by decide +kernel
theorem dX_change_34 : decode cX_change 34 = .ok (.getfield 39, 3) := by decide +kernel
theorem dX_change_37 : decode cX_change 37 = .ok (.iconst 1, 1) := by decide +kernel
theorem dX_change_38 : decode cX_change 38 = .ok (.isub, 1) := by decide +kernel
theorem dX_change_39 : decode cX_change 39 = .ok (.istore 4, 2) := by decide +kernel
theorem dX_change_41 : decode cX_change 41 = .ok (.iload 4, 2) := by decide +kernel
theorem dX_change_43 : decode cX_change 43 = .ok (.ifCond .lt 52, 3) := by decide +kernel
theorem dX_change_46 : decode cX_change 46 = .ok (.aload_n 0, 1) := by decide +kernel
theorem dX_change_47 : decode cX_change 47 = .ok (.getfield 33, 3) := by decide +kernel
theorem dX_change_50 : decode cX_change 50 = .ok (.iload 4, 2) := by decide +kernel
theorem dX_change_52 : decode cX_change 52 = .ok (.iaload, 1) := by decide +kernel
theorem dX_change_53 : decode cX_change 53 = .ok (.iconst 4, 1) := by decide +kernel
theorem dX_change_54 : decode cX_change 54 = .ok (.if_icmp .lt 35, 3) := by decide +kernel
theorem dX_change_57 : decode cX_change 57 = .ok (.aload_n 0, 1) := by decide +kernel
theorem dX_change_58 : decode cX_change 58 = .ok (.getfield 36, 3) := by decide +kernel
theorem dX_change_61 : decode cX_change 61 = .ok (.iload 4, 2) := by decide +kernel
theorem dX_change_63 : decode cX_change 63 = .ok (.iaload, 1) := by decide +kernel
theorem dX_change_64 : decode cX_change 64 = .ok (.iload_n 1, 1) := by decide +kernel
theorem dX_change_65 : decode cX_change 65 = .ok (.if_icmp .ne 24, 3) := by decide +kernel
theorem dX_change_68 : decode cX_change 68 = .ok (.iinc 3 1, 3) := by decide +kernel
theorem dX_change_71 : decode cX_change 71 = .ok (.aload_n 0, 1) := by decide +kernel
theorem dX_change_72 : decode cX_change 72 = .ok (.aload_n 0, 1) := by decide +kernel
theorem dX_change_73 : decode cX_change 73 = .ok (.getfield 30, 3) := by decide +kernel
theorem dX_change_76 : decode cX_change 76 = .ok (.iload 4, 2) := by decide +kernel
theorem dX_change_78 : decode cX_change 78 = .ok (.iaload, 1) := by decide +kernel
theorem dX_change_79 : decode cX_change 79 = .ok (.invokevirtual 67, 3) := by decide +kernel
theorem dX_change_82 : decode cX_change 82 = .ok (.aload_n 0, 1) := by decide +kernel
theorem dX_change_83 : decode cX_change 83 = .ok (.iload 4, 2) := by decide +kernel
theorem dX_change_85 : decode cX_change 85 = .ok (.iload_n 2, 1) := by decide +kernel
theorem dX_change_86 : decode cX_change 86 = .ok (.invokevirtual 75, 3) := by decide +kernel
theorem dX_change_89 : decode cX_change 89 = .ok (.iinc 4 (-1), 3) := by decide +kernel
theorem dX_change_92 : decode cX_change 92 = .ok (.goto (-51), 3) := by decide +kernel
theorem dX_change_95 : decode cX_change 95 = .ok (.iload_n 3, 1) := by decide +kernel
theorem dX_change_96 : decode cX_change 96 = .ok (.ireturn, 1) := by decide +kernel
theorem dX_sendToHeading_0 : decode cX_sendToHeading 0 = .ok (.aload_n 0, 1) := by decide +kernel
theorem dX_sendToHeading_1 : decode cX_sendToHeading 1 = .ok (.aload_n 0, 1) := by decide +kernel
theorem dX_sendToHeading_2 : decode cX_sendToHeading 2 = .ok (.getfield 30, 3) := by decide +kernel
theorem dX_sendToHeading_5 : decode cX_sendToHeading 5 = .ok (.iload_n 1, 1) := by decide +kernel
theorem dX_sendToHeading_6 : decode cX_sendToHeading 6 = .ok (.iaload, 1) := by decide +kernel
theorem dX_sendToHeading_7 : decode cX_sendToHeading 7 = .ok (.aload_n 0, 1) := by decide +kernel
theorem dX_sendToHeading_8 : decode cX_sendToHeading 8 = .ok (.getfield 33, 3) := by decide +kernel
theorem dX_sendToHeading_11 : decode cX_sendToHeading 11 = .ok (.iload_n 1, 1) := by decide +kernel
theorem dX_sendToHeading_12 : decode cX_sendToHeading 12 = .ok (.iaload, 1) := by decide +kernel
theorem dX_sendToHeading_13 : decode cX_sendToHeading 13 = .ok (.iload_n 2, 1) := by decide +kernel
theorem dX_sendToHeading_14 : decode cX_sendToHeading 14 = .ok (.invokevirtual 113, 3) := by decide +kernel
theorem dX_sendToHeading_17 : decode cX_sendToHeading 17 = .ok (.istore_n 3, 1) := by decide +kernel
theorem dX_sendToHeading_18 : decode cX_sendToHeading 18 = .ok (.aload_n 0, 1) := by decide +kernel
theorem dX_sendToHeading_19 : decode cX_sendToHeading 19 = .ok (.getfield 36, 3) := by decide +kernel
theorem dX_sendToHeading_22 : decode cX_sendToHeading 22 = .ok (.iload_n 1, 1) := by decide +kernel
theorem dX_sendToHeading_23 : decode cX_sendToHeading 23 = .ok (.iload_n 2, 1) := by decide +kernel
theorem dX_sendToHeading_24 : decode cX_sendToHeading 24 = .ok (.iastore, 1) := by decide +kernel
theorem dX_sendToHeading_25 : decode cX_sendToHeading 25 = .ok (.iload_n 3, 1) := by decide +kernel
theorem dX_sendToHeading_26 : decode cX_sendToHeading 26 = .ok (.iconst (-1), 1) := by decide +kernel
theorem dX_sendToHeading_27 : decode cX_sendToHeading 27 = .ok (.if_icmp .eq 12, 3) := by decide +kernel
theorem dX_sendToHeading_30 : decode cX_sendToHeading 30 = .ok (.aload_n 0, 1) := by decide +kernel
theorem dX_sendToHeading_31 : decode cX_sendToHeading 31 = .ok (.iload_n 1, 1) := by decide +kernel
theorem dX_sendToHeading_32 : decode cX_sendToHeading 32 = .ok (.iload_n 3, 1) := by decide +kernel
theorem dX_sendToHeading_33 : decode cX_sendToHeading 33 = .ok (.invokestatic 117, 3) := by decide +kernel
theorem dX_sendToHeading_36 : decode cX_sendToHeading 36 = .ok (.invokevirtual 82, 3) := by decide +kernel
theorem dX_sendToHeading_39 : decode cX_sendToHeading 39 = .ok (.return_, 1) := by decide +kernel
theorem dX_findLink_0 : decode cX_findLink 0 = .ok (.iconst 0, 1) := by decide +kernel
theorem dX_findLink_1 : decode cX_findLink 1 = .ok (.istore 4, 2) := by decide +kernel
theorem dX_findLink_3 : decode cX_findLink 3 = .ok (.iload 4, 2) := by decide +kernel
theorem dX_findLink_5 : decode cX_findLink 5 = .ok (.aload_n 0, 1) := by decide +kernel
theorem dX_findLink_6 : decode cX_findLink 6 = .ok (.getfield 39, 3) := by decide +kernel
theorem dX_findLink_9 : decode cX_findLink 9 = .ok (.if_icmp .ge 45, 3) := by decide +kernel
theorem dX_findLink_12 : decode cX_findLink 12 = .ok (.aload_n 0, 1) := by decide +kernel
theorem dX_findLink_13 : decode cX_findLink 13 = .ok (.getfield 30, 3) := by decide +kernel
theorem dX_findLink_16 : decode cX_findLink 16 = .ok (.iload 4, 2) := by decide +kernel
theorem dX_findLink_18 : decode cX_findLink 18 = .ok (.iaload, 1) := by decide +kernel
theorem dX_findLink_19 : decode cX_findLink 19 = .ok (.iload_n 1, 1) := by decide +kernel
theorem dX_findLink_20 : decode cX_findLink 20 = .ok (.if_icmp .ne 28, 3) := by decide +kernel
theorem dX_findLink_23 : decode cX_findLink 23 = .ok (.aload_n 0, 1) := by decide +kernel
theorem dX_findLink_24 : decode cX_findLink 24 = .ok (.getfield 33, 3) := by decide +kernel
theorem dX_findLink_27 : decode cX_findLink 27 = .ok (.iload 4, 2) := by decide +kernel
theorem dX_findLink_29 : decode cX_findLink 29 = .ok (.iaload, 1) := by decide +kernel
theorem dX_findLink_30 : decode cX_findLink 30 = .ok (.iload_n 2, 1) := by decide +kernel
theorem dX_findLink_31 : decode cX_findLink 31 = .ok (.if_icmp .ne 17, 3) := by decide +kernel
theorem dX_findLink_34 : decode cX_findLink 34 = .ok (.aload_n 0, 1) := by decide +kernel
theorem dX_findLink_35 : decode cX_findLink 35 = .ok (.getfield 36, 3) := by decide +kernel
theorem dX_findLink_38 : decode cX_findLink 38 = .ok (.iload 4, 2) := by decide +kernel
theorem dX_findLink_40 : decode cX_findLink 40 = .ok (.iaload, 1) := by decide +kernel
theorem dX_findLink_41 : decode cX_findLink 41 = .ok (.iload_n 3, 1) := by decide +kernel
theorem dX_findLink_42 : decode cX_findLink 42 = .ok (.if_icmp .ne 6, 3) := by decide +kernel
theorem dX_findLink_45 : decode cX_findLink 45 = .ok (.iload 4, 2) := by decide +kernel
theorem dX_findLink_47 : decode cX_findLink 47 = .ok (.ireturn, 1) := by decide +kernel
theorem dX_findLink_48 : decode cX_findLink 48 = .ok (.iinc 4 1, 3) := by decide +kernel
theorem dX_findLink_51 : decode cX_findLink 51 = .ok (.goto (-48), 3) := by decide +kernel
theorem dX_findLink_54 : decode cX_findLink 54 = .ok (.iconst (-1), 1) := by decide +kernel
theorem dX_findLink_55 : decode cX_findLink 55 = .ok (.ireturn, 1) := by decide +kernel
theorem dX_removeLink_0 : decode cX_removeLink 0 = .ok (.aload_n 0, 1) := by decide +kernel
theorem dX_removeLink_1 : decode cX_removeLink 1 = .ok (.getfield 39, 3) := by decide +kernel
theorem dX_removeLink_4 : decode cX_removeLink 4 = .ok (.iload_n 1, 1) := by decide +kernel
theorem dX_removeLink_5 : decode cX_removeLink 5 = .ok (.isub, 1) := by decide +kernel
theorem dX_removeLink_6 : decode cX_removeLink 6 = .ok (.iconst 1, 1) := by decide +kernel
theorem dX_removeLink_7 : decode cX_removeLink 7 = .ok (.isub, 1) := by decide +kernel
theorem dX_removeLink_8 : decode cX_removeLink 8 = .ok (.istore_n 2, 1) := by decide +kernel
theorem dX_removeLink_9 : decode cX_removeLink 9 = .ok (.aload_n 0, 1) := by decide +kernel
theorem dX_removeLink_10 : decode cX_removeLink 10 = .ok (.getfield 30, 3) := by decide +kernel
theorem dX_removeLink_13 : decode cX_removeLink 13 = .ok (.iload_n 1, 1) := by decide +kernel
theorem dX_removeLink_14 : decode cX_removeLink 14 = .ok (.iconst 1, 1) := by decide +kernel
theorem dX_removeLink_15 : decode cX_removeLink 15 = .ok (.iadd, 1) := by decide +kernel
theorem dX_removeLink_16 : decode cX_removeLink 16 = .ok (.aload_n 0, 1) := by decide +kernel
theorem dX_removeLink_17 : decode cX_removeLink 17 = .ok (.getfield 30, 3) := by decide +kernel
theorem dX_removeLink_20 : decode cX_removeLink 20 = .ok (.iload_n 1, 1) := by decide +kernel
theorem dX_removeLink_21 : decode cX_removeLink 21 = .ok (.iload_n 2, 1) := by decide +kernel
theorem dX_removeLink_22 : decode cX_removeLink 22 = .ok (.invokestatic 107, 3) := by decide +kernel
theorem dX_removeLink_25 : decode cX_removeLink 25 = .ok (.aload_n 0, 1) := by decide +kernel
theorem dX_removeLink_26 : decode cX_removeLink 26 = .ok (.getfield 33, 3) := by decide +kernel
theorem dX_removeLink_29 : decode cX_removeLink 29 = .ok (.iload_n 1, 1) := by decide +kernel
theorem dX_removeLink_30 : decode cX_removeLink 30 = .ok (.iconst 1, 1) := by decide +kernel
theorem dX_removeLink_31 : decode cX_removeLink 31 = .ok (.iadd, 1) := by decide +kernel
theorem dX_removeLink_32 : decode cX_removeLink 32 = .ok (.aload_n 0, 1) := by decide +kernel
theorem dX_removeLink_33 : decode cX_removeLink 33 = .ok (.getfield 33, 3) := by decide +kernel
theorem dX_removeLink_36 : decode cX_removeLink 36 = .ok (.iload_n 1, 1) := by decide +kernel
theorem dX_removeLink_37 : decode cX_removeLink 37 = .ok (.iload_n 2, 1) := by decide +kernel
theorem dX_removeLink_38 : decode cX_removeLink 38 = .ok (.invokestatic 107, 3) := by decide +kernel
theorem dX_removeLink_41 : decode cX_removeLink 41 = .ok (.aload_n 0, 1) := by decide +kernel
theorem dX_removeLink_42 : decode cX_removeLink 42 = .ok (.getfield 36, 3) := by decide +kernel
theorem dX_removeLink_45 : decode cX_removeLink 45 = .ok (.iload_n 1, 1) := by decide +kernel
theorem dX_removeLink_46 : decode cX_removeLink 46 = .ok (.iconst 1, 1) := by decide +kernel
theorem dX_removeLink_47 : decode cX_removeLink 47 = .ok (.iadd, 1) := by decide +kernel
theorem dX_removeLink_48 : decode cX_removeLink 48 = .ok (.aload_n 0, 1) := by decide +kernel
theorem dX_removeLink_49 : decode cX_removeLink 49 = .ok (.getfield 36, 3) := by decide +kernel
theorem dX_removeLink_52 : decode cX_removeLink 52 = .ok (.iload_n 1, 1) := by decide +kernel
theorem dX_removeLink_53 : decode cX_removeLink 53 = .ok (.iload_n 2, 1) := by decide +kernel
theorem dX_removeLink_54 : decode cX_removeLink 54 = .ok (.invokestatic 107, 3) := by decide +kernel
theorem dX_removeLink_57 : decode cX_removeLink 57 = .ok (.aload_n 0, 1) := by decide +kernel
theorem dX_removeLink_58 : decode cX_removeLink 58 = .ok (.dup, 1) := by decide +kernel
theorem dX_removeLink_59 : decode cX_removeLink 59 = .ok (.getfield 39, 3) := by decide +kernel
theorem dX_removeLink_62 : decode cX_removeLink 62 = .ok (.iconst 1, 1) := by decide +kernel
theorem dX_removeLink_63 : decode cX_removeLink 63 = .ok (.isub, 1) := by decide +kernel
theorem dX_removeLink_64 : decode cX_removeLink 64 = .ok (.putfield 39, 3) := by decide +kernel
theorem dX_removeLink_67 : decode cX_removeLink 67 = .ok (.return_, 1) := by decide +kernel
theorem dX_broken_0 : decode cX_broken 0 = .ok (.aload_n 0, 1) := by decide +kernel
theorem dX_broken_1 : decode cX_broken 1 = .ok (.iload_n 1, 1) := by decide +kernel
theorem dX_broken_2 : decode cX_broken 2 = .ok (.invokevirtual 78, 3) := by decide +kernel
theorem dX_broken_5 : decode cX_broken 5 = .ok (.istore_n 3, 1) := by decide +kernel
theorem dX_broken_6 : decode cX_broken 6 = .ok (.iload_n 3, 1) := by decide +kernel
theorem dX_broken_7 : decode cX_broken 7 = .ok (.iconst (-1), 1) := by decide +kernel
theorem dX_broken_8 : decode cX_broken 8 = .ok (.if_icmp .ne 5, 3) := by decide +kernel
theorem dX_broken_11 : decode cX_broken 11 = .ok (.iconst (-1), 1) := by decide +kernel
theorem dX_broken_12 : decode cX_broken 12 = .ok (.ireturn, 1) := by decide +kernel
theorem dX_broken_13 : decode cX_broken 13 = .ok (.iload_n 2, 1) := by decide +kernel
theorem dX_broken_14 : decode cX_broken 14 = .ok (.tableswitch 47 0 2 #[26, 33, 40], 26) := by decide +kernel
theorem dX_broken_40 : decode cX_broken 40 = .ok (.aload_n 0, 1) := by decide +kernel
theorem dX_broken_41 : decode cX_broken 41 = .ok (.getfield 30, 3) := by decide +kernel
theorem dX_broken_44 : decode cX_broken 44 = .ok (.iload_n 3, 1) := by decide +kernel
theorem dX_broken_45 : decode cX_broken 45 = .ok (.iaload, 1) := by decide +kernel
theorem dX_broken_46 : decode cX_broken 46 = .ok (.ireturn, 1) := by decide +kernel
theorem dX_broken_47 : decode cX_broken 47 = .ok (.aload_n 0, 1) := by decide +kernel
theorem dX_broken_48 : decode cX_broken 48 = .ok (.getfield 33, 3) := by decide +kernel
theorem dX_broken_51 : decode cX_broken 51 = .ok (.iload_n 3, 1) := by decide +kernel
theorem dX_broken_52 : decode cX_broken 52 = .ok (.iaload, 1) := by decide +kernel
theorem dX_broken_53 : decode cX_broken 53 = .ok (.ireturn, 1) := by decide +kernel
theorem dX_broken_54 : decode cX_broken 54 = .ok (.aload_n 0, 1) := by decide +kernel
theorem dX_broken_55 : decode cX_broken 55 = .ok (.getfield 36, 3) := by decide +kernel
theorem dX_broken_58 : decode cX_broken 58 = .ok (.iload_n 3, 1) := by decide +kernel
theorem dX_broken_59 : decode cX_broken 59 = .ok (.iaload, 1) := by decide +kernel
theorem dX_broken_60 : decode cX_broken 60 = .ok (.ireturn, 1) := by decide +kernel
theorem dX_broken_61 : decode cX_broken 61 = .ok (.iconst (-1), 1) := by decide +kernel
theorem dX_broken_62 : decode cX_broken 62 = .ok (.ireturn, 1) := by decide +kernel
theorem dX_findBroken_0 : decode cX_findBroken 0 = .ok (.iload_n 1, 1) := by decide +kernel
theorem dX_findBroken_1 : decode cX_findBroken 1 = .ok (.ifCond .ge 5, 3) := by decide +kernel
theorem dX_findBroken_4 : decode cX_findBroken 4 = .ok (.iconst (-1), 1) := by decide +kernel
theorem dX_findBroken_5 : decode cX_findBroken 5 = .ok (.ireturn, 1) := by decide +kernel
theorem dX_findBroken_6 : decode cX_findBroken 6 = .ok (.iconst 0, 1) := by decide +kernel
theorem dX_findBroken_7 : decode cX_findBroken 7 = .ok (.istore_n 2, 1) := by decide +kernel
theorem dX_findBroken_8 : decode cX_findBroken 8 = .ok (.iconst 0, 1) := by decide +kernel
theorem dX_findBroken_9 : decode cX_findBroken 9 = .ok (.istore_n 3, 1) := by decide +kernel
theorem dX_findBroken_10 : decode cX_findBroken 10 = .ok (.iload_n 3, 1) := by decide +kernel
theorem dX_findBroken_11 : decode cX_findBroken 11 = .ok (.aload_n 0, 1) := by decide +kernel
theorem dX_findBroken_12 : decode cX_findBroken 12 = .ok (.getfield 39, 3) := by decide +kernel
theorem dX_findBroken_15 : decode cX_findBroken 15 = .ok (.if_icmp .ge 43, 3) := by decide +kernel
theorem dX_findBroken_18 : decode cX_findBroken 18 = .ok (.aload_n 0, 1) := by decide +kernel
theorem dX_findBroken_19 : decode cX_findBroken 19 = .ok (.getfield 33, 3) := by decide +kernel
theorem dX_findBroken_22 : decode cX_findBroken 22 = .ok (.iload_n 3, 1) := by decide +kernel
theorem dX_findBroken_23 : decode cX_findBroken 23 = .ok (.iaload, 1) := by decide +kernel
theorem dX_findBroken_24 : decode cX_findBroken 24 = .ok (.iconst 4, 1) := by decide +kernel
theorem dX_findBroken_25 : decode cX_findBroken 25 = .ok (.if_icmp .ge 27, 3) := by decide +kernel
theorem dX_findBroken_28 : decode cX_findBroken 28 = .ok (.aload_n 0, 1) := by decide +kernel
theorem dX_findBroken_29 : decode cX_findBroken 29 = .ok (.getfield 9, 3) := by decide +kernel
theorem dX_findBroken_32 : decode cX_findBroken 32 = .ok (.aload_n 0, 1) := by decide +kernel
theorem dX_findBroken_33 : decode cX_findBroken 33 = .ok (.getfield 36, 3) := by decide +kernel
theorem dX_findBroken_36 : decode cX_findBroken 36 = .ok (.iload_n 3, 1) := by decide +kernel
theorem dX_findBroken_37 : decode cX_findBroken 37 = .ok (.iaload, 1) := by decide +kernel
theorem dX_findBroken_38 : decode cX_findBroken 38 = .ok (.baload, 1) := by decide +kernel
theorem dX_findBroken_39 : decode cX_findBroken 39 = .ok (.ifCond .ne 13, 3) := by decide +kernel
theorem dX_findBroken_42 : decode cX_findBroken 42 = .ok (.iload_n 2, 1) := by decide +kernel
theorem dX_findBroken_43 : decode cX_findBroken 43 = .ok (.iload_n 1, 1) := by decide +kernel
theorem dX_findBroken_44 : decode cX_findBroken 44 = .ok (.if_icmp .ne 5, 3) := by decide +kernel
theorem dX_findBroken_47 : decode cX_findBroken 47 = .ok (.iload_n 3, 1) := by decide +kernel
theorem dX_findBroken_48 : decode cX_findBroken 48 = .ok (.ireturn, 1) := by decide +kernel
theorem dX_findBroken_49 : decode cX_findBroken 49 = .ok (.iinc 2 1, 3) := by decide +kernel
theorem dX_findBroken_52 : decode cX_findBroken 52 = .ok (.iinc 3 1, 3) := by decide +kernel
theorem dX_findBroken_55 : decode cX_findBroken 55 = .ok (.goto (-45), 3) := by decide +kernel
theorem dX_findBroken_58 : decode cX_findBroken 58 = .ok (.iconst (-1), 1) := by decide +kernel
theorem dX_findBroken_59 : decode cX_findBroken 59 = .ok (.ireturn, 1) := by decide +kernel
theorem dX_repair_0 : decode cX_repair 0 = .ok (.aload_n 0, 1) := by decide +kernel
theorem dX_repair_1 : decode cX_repair 1 = .ok (.dup, 1) := by decide +kernel
theorem dX_repair_2 : decode cX_repair 2 = .ok (.getfield 48, 3) := by decide +kernel
theorem dX_repair_5 : decode cX_repair 5 = .ok (.iconst 1, 1) := by decide +kernel
theorem dX_repair_6 : decode cX_repair 6 = .ok (.iadd, 1) := by decide +kernel
theorem dX_repair_7 : decode cX_repair 7 = .ok (.putfield 48, 3) := by decide +kernel
theorem dX_repair_10 : decode cX_repair 10 = .ok (.aload_n 0, 1) := by decide +kernel
theorem dX_repair_11 : decode cX_repair 11 = .ok (.iload_n 1, 1) := by decide +kernel
theorem dX_repair_12 : decode cX_repair 12 = .ok (.invokevirtual 78, 3) := by decide +kernel
theorem dX_repair_15 : decode cX_repair 15 = .ok (.istore_n 2, 1) := by decide +kernel
theorem dX_repair_16 : decode cX_repair 16 = .ok (.iload_n 2, 1) := by decide +kernel
theorem dX_repair_17 : decode cX_repair 17 = .ok (.iconst (-1), 1) := by decide +kernel
theorem dX_repair_18 : decode cX_repair 18 = .ok (.if_icmp .ne 5, 3) := by decide +kernel
theorem dX_repair_21 : decode cX_repair 21 = .ok (.iconst (-1), 1) := by decide +kernel
theorem dX_repair_22 : decode cX_repair 22 = .ok (.ireturn, 1) := by decide +kernel
theorem dX_repair_23 : decode cX_repair 23 = .ok (.aload_n 0, 1) := by decide +kernel
theorem dX_repair_24 : decode cX_repair 24 = .ok (.aload_n 0, 1) := by decide +kernel
theorem dX_repair_25 : decode cX_repair 25 = .ok (.getfield 30, 3) := by decide +kernel
theorem dX_repair_28 : decode cX_repair 28 = .ok (.iload_n 2, 1) := by decide +kernel
theorem dX_repair_29 : decode cX_repair 29 = .ok (.iaload, 1) := by decide +kernel
theorem dX_repair_30 : decode cX_repair 30 = .ok (.invokevirtual 67, 3) := by decide +kernel
theorem dX_repair_33 : decode cX_repair 33 = .ok (.aload_n 0, 1) := by decide +kernel
theorem dX_repair_34 : decode cX_repair 34 = .ok (.getfield 17, 3) := by decide +kernel
theorem dX_repair_37 : decode cX_repair 37 = .ok (.aload_n 0, 1) := by decide +kernel
theorem dX_repair_38 : decode cX_repair 38 = .ok (.getfield 36, 3) := by decide +kernel
theorem dX_repair_41 : decode cX_repair 41 = .ok (.iload_n 2, 1) := by decide +kernel
theorem dX_repair_42 : decode cX_repair 42 = .ok (.iaload, 1) := by decide +kernel
theorem dX_repair_43 : decode cX_repair 43 = .ok (.iaload, 1) := by decide +kernel
theorem dX_repair_44 : decode cX_repair 44 = .ok (.istore_n 3, 1) := by decide +kernel
theorem dX_repair_45 : decode cX_repair 45 = .ok (.aload_n 0, 1) := by decide +kernel
theorem dX_repair_46 : decode cX_repair 46 = .ok (.aload_n 0, 1) := by decide +kernel
theorem dX_repair_47 : decode cX_repair 47 = .ok (.getfield 30, 3) := by decide +kernel
theorem dX_repair_50 : decode cX_repair 50 = .ok (.iload_n 2, 1) := by decide +kernel
theorem dX_repair_51 : decode cX_repair 51 = .ok (.iaload, 1) := by decide +kernel
theorem dX_repair_52 : decode cX_repair 52 = .ok (.aload_n 0, 1) := by decide +kernel
theorem dX_repair_53 : decode cX_repair 53 = .ok (.getfield 33, 3) := by decide +kernel
theorem dX_repair_56 : decode cX_repair 56 = .ok (.iload_n 2, 1) := by decide +kernel
theorem dX_repair_57 : decode cX_repair 57 = .ok (.iaload, 1) := by decide +kernel
theorem dX_repair_58 : decode cX_repair 58 = .ok (.iload_n 3, 1) := by decide +kernel
theorem dX_repair_59 : decode cX_repair 59 = .ok (.iload_n 2, 1) := by decide +kernel
theorem dX_repair_60 : decode cX_repair 60 = .ok (.invokevirtual 51, 3) := by decide +kernel
theorem dX_repair_63 : decode cX_repair 63 = .ok (.ifCond .eq 12, 3) := by decide +kernel
theorem dX_repair_66 : decode cX_repair 66 = .ok (.aload_n 0, 1) := by decide +kernel
theorem dX_repair_67 : decode cX_repair 67 = .ok (.getfield 36, 3) := by decide +kernel
theorem dX_repair_70 : decode cX_repair 70 = .ok (.iload_n 2, 1) := by decide +kernel
theorem dX_repair_71 : decode cX_repair 71 = .ok (.iload_n 3, 1) := by decide +kernel
theorem dX_repair_72 : decode cX_repair 72 = .ok (.iastore, 1) := by decide +kernel
theorem dX_repair_73 : decode cX_repair 73 = .ok (.iconst 1, 1) := by decide +kernel
theorem dX_repair_74 : decode cX_repair 74 = .ok (.ireturn, 1) := by decide +kernel
theorem dX_repair_75 : decode cX_repair 75 = .ok (.aload_n 0, 1) := by decide +kernel
theorem dX_repair_76 : decode cX_repair 76 = .ok (.iload_n 2, 1) := by decide +kernel
theorem dX_repair_77 : decode cX_repair 77 = .ok (.invokevirtual 82, 3) := by decide +kernel
theorem dX_repair_80 : decode cX_repair 80 = .ok (.iconst 0, 1) := by decide +kernel
theorem dX_repair_81 : decode cX_repair 81 = .ok (.ireturn, 1) := by decide +kernel
theorem dX_chain_0 : decode cX_chain 0 = .ok (.aload_n 0, 1) := by decide +kernel
theorem dX_chain_1 : decode cX_chain 1 = .ok (.iload_n 1, 1) := by decide +kernel
theorem dX_chain_2 : decode cX_chain 2 = .ok (.invokevirtual 85, 3) := by decide +kernel
theorem dX_chain_5 : decode cX_chain 5 = .ok (.ifCond .eq 13, 3) := by decide +kernel
theorem dX_chain_8 : decode cX_chain 8 = .ok (.iload_n 2, 1) := by decide +kernel
theorem dX_chain_9 : decode cX_chain 9 = .ok (.ifCond .lt 9, 3) := by decide +kernel
theorem dX_chain_12 : decode cX_chain 12 = .ok (.iload_n 2, 1) := by decide +kernel
theorem dX_chain_13 : decode cX_chain 13 = .ok (.bipush 60, 2) := by decide +kernel
theorem dX_chain_15 : decode cX_chain 15 = .ok (.if_icmp .lt 5, 3) := by decide +kernel
theorem dX_chain_18 : decode cX_chain 18 = .ok (.iconst 0, 1) := by decide +kernel
theorem dX_chain_19 : decode cX_chain 19 = .ok (.ireturn, 1) := by decide +kernel
theorem dX_chain_20 : decode cX_chain 20 = .ok (.aload_n 0, 1) := by decide +kernel
theorem dX_chain_21 : decode cX_chain 21 = .ok (.getfield 17, 3) := by decide +kernel
theorem dX_chain_24 : decode cX_chain 24 = .ok (.iload_n 1, 1) := by decide +kernel
theorem dX_chain_25 : decode cX_chain 25 = .ok (.iaload, 1) := by decide +kernel
theorem dX_chain_26 : decode cX_chain 26 = .ok (.istore_n 3, 1) := by decide +kernel
theorem dX_chain_27 : decode cX_chain 27 = .ok (.iconst 0, 1) := by decide +kernel
theorem dX_chain_28 : decode cX_chain 28 = .ok (.istore 4, 2) := by decide +kernel
theorem dX_chain_30 : decode cX_chain 30 = .ok (.iload 4, 2) := by decide +kernel
theorem dX_chain_32 : decode cX_chain 32 = .ok (.iload_n 2, 1) := by decide +kernel
theorem dX_chain_33 : decode cX_chain 33 = .ok (.if_icmp .ge 16, 3) := by decide +kernel
theorem dX_chain_36 : decode cX_chain 36 = .ok (.aload_n 0, 1) := by decide +kernel
theorem dX_chain_37 : decode cX_chain 37 = .ok (.getfield 17, 3) := by decide +kernel
theorem dX_chain_40 : decode cX_chain 40 = .ok (.iload_n 3, 1) := by decide +kernel
theorem dX_chain_41 : decode cX_chain 41 = .ok (.iaload, 1) := by decide +kernel
theorem dX_chain_42 : decode cX_chain 42 = .ok (.istore_n 3, 1) := by decide +kernel
theorem dX_chain_43 : decode cX_chain 43 = .ok (.iinc 4 1, 3) := by decide +kernel
theorem dX_chain_46 : decode cX_chain 46 = .ok (.goto (-16), 3) := by decide +kernel
theorem dX_chain_49 : decode cX_chain 49 = .ok (.iload_n 3, 1) := by decide +kernel
theorem dX_chain_50 : decode cX_chain 50 = .ok (.ireturn, 1) := by decide +kernel
theorem dX_ring_0 : decode cX_ring 0 = .ok (.iload_n 1, 1) := by decide +kernel
theorem dX_ring_1 : decode cX_ring 1 = .ok (.ifCond .lt 20, 3) := by decide +kernel
theorem dX_ring_4 : decode cX_ring 4 = .ok (.iload_n 1, 1) := by decide +kernel
theorem dX_ring_5 : decode cX_ring 5 = .ok (.aload_n 0, 1) := by decide +kernel
theorem dX_ring_6 : decode cX_ring 6 = .ok (.getfield 45, 3) := by decide +kernel
theorem dX_ring_9 : decode cX_ring 9 = .ok (.if_icmp .ge 12, 3) := by decide +kernel
theorem dX_ring_12 : decode cX_ring 12 = .ok (.aload_n 0, 1) := by decide +kernel
theorem dX_ring_13 : decode cX_ring 13 = .ok (.getfield 42, 3) := by decide +kernel
theorem dX_ring_16 : decode cX_ring 16 = .ok (.iload_n 1, 1) := by decide +kernel
theorem dX_ring_17 : decode cX_ring 17 = .ok (.iaload, 1) := by decide +kernel
theorem dX_ring_18 : decode cX_ring 18 = .ok (.goto 4, 3) := by decide +kernel
theorem dX_ring_21 : decode cX_ring 21 = .ok (.iconst 0, 1) := by decide +kernel
theorem dX_ring_22 : decode cX_ring 22 = .ok (.ireturn, 1) := by decide +kernel
theorem dX_host_0 : decode cX_host 0 = .ok (.aload_n 0, 1) := by decide +kernel
theorem dX_host_1 : decode cX_host 1 = .ok (.iload_n 1, 1) := by decide +kernel
theorem dX_host_2 : decode cX_host 2 = .ok (.invokevirtual 85, 3) := by decide +kernel
theorem dX_host_5 : decode cX_host 5 = .ok (.ifCond .eq 12, 3) := by decide +kernel
theorem dX_host_8 : decode cX_host 8 = .ok (.aload_n 0, 1) := by decide +kernel
theorem dX_host_9 : decode cX_host 9 = .ok (.getfield 17, 3) := by decide +kernel
theorem dX_host_12 : decode cX_host 12 = .ok (.iload_n 1, 1) := by decide +kernel
theorem dX_host_13 : decode cX_host 13 = .ok (.iaload, 1) := by decide +kernel
theorem dX_host_14 : decode cX_host 14 = .ok (.goto 4, 3) := by decide +kernel
theorem dX_host_17 : decode cX_host 17 = .ok (.iconst 0, 1) := by decide +kernel
theorem dX_host_18 : decode cX_host 18 = .ok (.ireturn, 1) := by decide +kernel
theorem dX_move_0 : decode cX_move 0 = .ok (.aload_n 0, 1) := by decide +kernel
theorem dX_move_1 : decode cX_move 1 = .ok (.dup, 1) := by decide +kernel
theorem dX_move_2 : decode cX_move 2 = .ok (.getfield 48, 3) := by decide +kernel
theorem dX_move_5 : decode cX_move 5 = .ok (.iconst 1, 1) := by decide +kernel
theorem dX_move_6 : decode cX_move 6 = .ok (.iadd, 1) := by decide +kernel
theorem dX_move_7 : decode cX_move 7 = .ok (.putfield 48, 3) := by decide +kernel
theorem dX_move_10 : decode cX_move 10 = .ok (.aload_n 0, 1) := by decide +kernel
theorem dX_move_11 : decode cX_move 11 = .ok (.iload_n 1, 1) := by decide +kernel
theorem dX_move_12 : decode cX_move 12 = .ok (.invokevirtual 85, 3) := by decide +kernel
theorem dX_move_15 : decode cX_move 15 = .ok (.ifCond .eq 13, 3) := by decide +kernel
theorem dX_move_18 : decode cX_move 18 = .ok (.iload_n 2, 1) := by decide +kernel
theorem dX_move_19 : decode cX_move 19 = .ok (.ifCond .lt 9, 3) := by decide +kernel
theorem dX_move_22 : decode cX_move 22 = .ok (.iload_n 2, 1) := by decide +kernel
theorem dX_move_23 : decode cX_move 23 = .ok (.bipush 9, 2) := by decide +kernel
theorem dX_move_25 : decode cX_move 25 = .ok (.if_icmp .le 5, 3) := by decide +kernel
theorem dX_move_28 : decode cX_move 28 = .ok (.iconst 0, 1) := by decide +kernel
theorem dX_move_29 : decode cX_move 29 = .ok (.ireturn, 1) := by decide +kernel
theorem dX_move_30 : decode cX_move 30 = .ok (.iconst 0, 1) := by decide +kernel
theorem dX_move_31 : decode cX_move 31 = .ok (.istore_n 3, 1) := by decide +kernel
theorem dX_move_32 : decode cX_move 32 = .ok (.iconst 1, 1) := by decide +kernel
theorem dX_move_33 : decode cX_move 33 = .ok (.istore 4, 2) := by decide +kernel
theorem dX_move_35 : decode cX_move 35 = .ok (.iload 4, 2) := by decide +kernel
theorem dX_move_37 : decode cX_move 37 = .ok (.aload_n 0, 1) := by decide +kernel
theorem dX_move_38 : decode cX_move 38 = .ok (.getfield 26, 3) := by decide +kernel
theorem dX_move_41 : decode cX_move 41 = .ok (.if_icmp .gt 69, 3) := by decide +kernel
theorem dX_move_44 : decode cX_move 44 = .ok (.iload 4, 2) := by decide +kernel
theorem dX_move_46 : decode cX_move 46 = .ok (.iload_n 1, 1) := by decide +kernel
theorem dX_move_47 : decode cX_move 47 = .ok (.if_icmp .eq 23, 3) := by decide +kernel
theorem dX_move_50 : decode cX_move 50 = .ok (.aload_n 0, 1) := by decide +kernel
theorem dX_move_51 : decode cX_move 51 = .ok (.getfield 9, 3) := by decide +kernel
theorem dX_move_54 : decode cX_move 54 = .ok (.iload 4, 2) := by decide +kernel
theorem dX_move_56 : decode cX_move 56 = .ok (.baload, 1) := by decide +kernel
theorem dX_move_57 : decode cX_move 57 = .ok (.ifCond .eq 17, 3) := by decide +kernel
theorem dX_move_60 : decode cX_move 60 = .ok (.aload_n 0, 1) := by decide +kernel
theorem dX_move_61 : decode cX_move 61 = .ok (.iload 4, 2) := by decide +kernel
theorem dX_move_63 : decode cX_move 63 = .ok (.iload_n 1, 1) := by decide +kernel
theorem dX_move_64 : decode cX_move 64 = .ok (.invokevirtual 55, 3) := by decide +kernel
theorem dX_move_67 : decode cX_move 67 = .ok (.ifCond .eq 7, 3) := by decide +kernel
theorem dX_move_70 : decode cX_move 70 = .ok (.iconst 1, 1) := by decide +kernel
theorem dX_move_71 : decode cX_move 71 = .ok (.goto 4, 3) := by decide +kernel
theorem dX_move_74 : decode cX_move 74 = .ok (.iconst 0, 1) := by decide +kernel
theorem dX_move_75 : decode cX_move 75 = .ok (.istore 5, 2) := by decide +kernel
theorem dX_move_77 : decode cX_move 77 = .ok (.iload 5, 2) := by decide +kernel
theorem dX_move_79 : decode cX_move 79 = .ok (.ifCond .eq 25, 3) := by decide +kernel
theorem dX_move_82 : decode cX_move 82 = .ok (.aload_n 0, 1) := by decide +kernel
theorem dX_move_83 : decode cX_move 83 = .ok (.getfield 13, 3) := by decide +kernel
theorem dX_move_86 : decode cX_move 86 = .ok (.iload 4, 2) := by decide +kernel
theorem dX_move_88 : decode cX_move 88 = .ok (.iaload, 1) := by decide +kernel
theorem dX_move_89 : decode cX_move 89 = .ok (.iload_n 2, 1) := by decide +kernel
theorem dX_move_90 : decode cX_move 90 = .ok (.if_icmp .eq 14, 3) := by decide +kernel
theorem dX_move_93 : decode cX_move 93 = .ok (.aload_n 0, 1) := by decide +kernel
theorem dX_move_94 : decode cX_move 94 = .ok (.getfield 13, 3) := by decide +kernel
theorem dX_move_97 : decode cX_move 97 = .ok (.iload 4, 2) := by decide +kernel
theorem dX_move_99 : decode cX_move 99 = .ok (.iload_n 2, 1) := by decide +kernel
theorem dX_move_100 : decode cX_move 100 = .ok (.iastore, 1) := by decide +kernel
theorem dX_move_101 : decode cX_move 101 = .ok (.iinc 3 1, 3) := by decide +kernel
theorem dX_move_104 : decode cX_move 104 = .ok (.iinc 4 1, 3) := by decide +kernel
theorem dX_move_107 : decode cX_move 107 = .ok (.goto (-72), 3) := by decide +kernel
theorem dX_move_110 : decode cX_move 110 = .ok (.iload_n 3, 1) := by decide +kernel
theorem dX_move_111 : decode cX_move 111 = .ok (.ireturn, 1) := by decide +kernel
theorem dX_delete_0 : decode cX_delete 0 = .ok (.aload_n 0, 1) := by decide +kernel
theorem dX_delete_1 : decode cX_delete 1 = .ok (.dup, 1) := by decide +kernel
theorem dX_delete_2 : decode cX_delete 2 = .ok (.getfield 48, 3) := by decide +kernel
theorem dX_delete_5 : decode cX_delete 5 = .ok (.iconst 1, 1) := by decide +kernel
theorem dX_delete_6 : decode cX_delete 6 = .ok (.iadd, 1) := by decide +kernel
theorem dX_delete_7 : decode cX_delete 7 = .ok (.putfield 48, 3) := by decide +kernel
theorem dX_delete_10 : decode cX_delete 10 = .ok (.aload_n 0, 1) := by decide +kernel
theorem dX_delete_11 : decode cX_delete 11 = .ok (.iload_n 1, 1) := by decide +kernel
theorem dX_delete_12 : decode cX_delete 12 = .ok (.invokevirtual 85, 3) := by decide +kernel
theorem dX_delete_15 : decode cX_delete 15 = .ok (.ifCond .ne 5, 3) := by decide +kernel
theorem dX_delete_18 : decode cX_delete 18 = .ok (.iconst 0, 1) := by decide +kernel
theorem dX_delete_19 : decode cX_delete 19 = .ok (.ireturn, 1) := by decide +kernel
theorem dX_delete_20 : decode cX_delete 20 = .ok (.aload_n 0, 1) := by decide +kernel
theorem dX_delete_21 : decode cX_delete 21 = .ok (.iload_n 1, 1) := by decide +kernel
theorem dX_delete_22 : decode cX_delete 22 = .ok (.invokevirtual 88, 3) := by decide +kernel
theorem dX_delete_25 : decode cX_delete 25 = .ok (.istore_n 2, 1) := by decide +kernel
theorem dX_delete_26 : decode cX_delete 26 = .ok (.iload_n 2, 1) := by decide +kernel
theorem dX_delete_27 : decode cX_delete 27 = .ok (.ifCond .le 6, 3) := by decide +kernel
theorem dX_delete_30 : decode cX_delete 30 = .ok (.iload_n 2, 1) := by decide +kernel
theorem dX_delete_31 : decode cX_delete 31 = .ok (.ineg, 1) := by decide +kernel
theorem dX_delete_32 : decode cX_delete 32 = .ok (.ireturn, 1) := by decide +kernel
theorem dX_delete_33 : decode cX_delete 33 = .ok (.aload_n 0, 1) := by decide +kernel
theorem dX_delete_34 : decode cX_delete 34 = .ok (.getfield 9, 3) := by decide +kernel
theorem dX_delete_37 : decode cX_delete 37 = .ok (.iload_n 1, 1) := by decide +kernel
theorem dX_delete_38 : decode cX_delete 38 = .ok (.iconst 0, 1) := by decide +kernel
theorem dX_delete_39 : decode cX_delete 39 = .ok (.bastore, 1) := by decide +kernel
theorem dX_delete_40 : decode cX_delete 40 = .ok (.aload_n 0, 1) := by decide +kernel
theorem dX_delete_41 : decode cX_delete 41 = .ok (.iload_n 1, 1) := by decide +kernel
theorem dX_delete_42 : decode cX_delete 42 = .ok (.invokevirtual 91, 3) := by decide +kernel
theorem dX_delete_45 : decode cX_delete 45 = .ok (.iconst 1, 1) := by decide +kernel
theorem dX_delete_46 : decode cX_delete 46 = .ok (.ireturn, 1) := by decide +kernel
theorem dX_countHostedBy_0 : decode cX_countHostedBy 0 = .ok (.iconst 0, 1) := by decide +kernel
theorem dX_countHostedBy_1 : decode cX_countHostedBy 1 = .ok (.istore_n 2, 1) := by decide +kernel
theorem dX_countHostedBy_2 : decode cX_countHostedBy 2 = .ok (.iconst 1, 1) := by decide +kernel
theorem dX_countHostedBy_3 : decode cX_countHostedBy 3 = .ok (.istore_n 3, 1) := by decide +kernel
theorem dX_countHostedBy_4 : decode cX_countHostedBy 4 = .ok (.iload_n 3, 1) := by decide +kernel
theorem dX_countHostedBy_5 : decode cX_countHostedBy 5 = .ok (.aload_n 0, 1) := by decide +kernel
theorem dX_countHostedBy_6 : decode cX_countHostedBy 6 = .ok (.getfield 26, 3) := by decide +kernel
theorem dX_countHostedBy_9 : decode cX_countHostedBy 9 = .ok (.if_icmp .gt 31, 3) := by decide +kernel
theorem dX_countHostedBy_12 : decode cX_countHostedBy 12 = .ok (.aload_n 0, 1) := by decide +kernel
theorem dX_countHostedBy_13 : decode cX_countHostedBy 13 = .ok (.getfield 9, 3) := by decide +kernel
theorem dX_countHostedBy_16 : decode cX_countHostedBy 16 = .ok (.iload_n 3, 1) := by decide +kernel
theorem dX_countHostedBy_17 : decode cX_countHostedBy 17 = .ok (.baload, 1) := by decide +kernel
theorem dX_countHostedBy_18 : decode cX_countHostedBy 18 = .ok (.ifCond .eq 16, 3) := by decide +kernel
theorem dX_countHostedBy_21 : decode cX_countHostedBy 21 = .ok (.aload_n 0, 1) := by decide +kernel
theorem dX_countHostedBy_22 : decode cX_countHostedBy 22 = .ok (.getfield 17, 3) := by decide +kernel
theorem dX_countHostedBy_25 : decode cX_countHostedBy 25 = .ok (.iload_n 3, 1) := by decide +kernel
theorem dX_countHostedBy_26 : decode cX_countHostedBy 26 = .ok (.iaload, 1) := by decide +kernel
theorem dX_countHostedBy_27 : decode cX_countHostedBy 27 = .ok (.iload_n 1, 1) := by decide +kernel
theorem dX_countHostedBy_28 : decode cX_countHostedBy 28 = .ok (.if_icmp .ne 6, 3) := by decide +kernel
theorem dX_countHostedBy_31 : decode cX_countHostedBy 31 = .ok (.iinc 2 1, 3) := by decide +kernel
theorem dX_countHostedBy_34 : decode cX_countHostedBy 34 = .ok (.iinc 3 1, 3) := by decide +kernel
theorem dX_countHostedBy_37 : decode cX_countHostedBy 37 = .ok (.goto (-33), 3) := by decide +kernel
theorem dX_countHostedBy_40 : decode cX_countHostedBy 40 = .ok (.iload_n 2, 1) := by decide +kernel
theorem dX_countHostedBy_41 : decode cX_countHostedBy 41 = .ok (.ireturn, 1) := by decide +kernel
theorem dX_removeLinksOf_0 : decode cX_removeLinksOf 0 = .ok (.aload_n 0, 1) := by decide +kernel
theorem dX_removeLinksOf_1 : decode cX_removeLinksOf 1 = .ok (.getfield 39, 3) := by decide +kernel
theorem dX_removeLinksOf_4 : decode cX_removeLinksOf 4 = .ok (.iconst 1, 1) := by decide +kernel
theorem dX_removeLinksOf_5 : decode cX_removeLinksOf 5 = .ok (.isub, 1) := by decide +kernel
theorem dX_removeLinksOf_6 : decode cX_removeLinksOf 6 = .ok (.istore_n 2, 1) := by decide +kernel
theorem dX_removeLinksOf_7 : decode cX_removeLinksOf 7 = .ok (.iload_n 2, 1) := by decide +kernel
theorem dX_removeLinksOf_8 : decode cX_removeLinksOf 8 = .ok (.ifCond .lt 29, 3) := by decide +kernel
theorem dX_removeLinksOf_11 : decode cX_removeLinksOf 11 = .ok (.aload_n 0, 1) := by decide +kernel
theorem dX_removeLinksOf_12 : decode cX_removeLinksOf 12 = .ok (.getfield 30, 3) := by decide +kernel
theorem dX_removeLinksOf_15 : decode cX_removeLinksOf 15 = .ok (.iload_n 2, 1) := by decide +kernel
theorem dX_removeLinksOf_16 : decode cX_removeLinksOf 16 = .ok (.iaload, 1) := by decide +kernel
theorem dX_removeLinksOf_17 : decode cX_removeLinksOf 17 = .ok (.iload_n 1, 1) := by decide +kernel
theorem dX_removeLinksOf_18 : decode cX_removeLinksOf 18 = .ok (.if_icmp .ne 13, 3) := by decide +kernel
theorem dX_removeLinksOf_21 : decode cX_removeLinksOf 21 = .ok (.aload_n 0, 1) := by decide +kernel
theorem dX_removeLinksOf_22 : decode cX_removeLinksOf 22 = .ok (.iload_n 1, 1) := by decide +kernel
theorem dX_removeLinksOf_23 : decode cX_removeLinksOf 23 = .ok (.invokevirtual 67, 3) := by decide +kernel
theorem dX_removeLinksOf_26 : decode cX_removeLinksOf 26 = .ok (.aload_n 0, 1) := by decide +kernel
theorem dX_removeLinksOf_27 : decode cX_removeLinksOf 27 = .ok (.iload_n 2, 1) := by decide +kernel
theorem dX_removeLinksOf_28 : decode cX_removeLinksOf 28 = .ok (.invokevirtual 82, 3) := by decide +kernel
theorem dX_removeLinksOf_31 : decode cX_removeLinksOf 31 = .ok (.iinc 2 (-1), 3) := by decide +kernel
theorem dX_removeLinksOf_34 : decode cX_removeLinksOf 34 = .ok (.goto (-27), 3) := by decide +kernel
theorem dX_removeLinksOf_37 : decode cX_removeLinksOf 37 = .ok (.return_, 1) := by decide +kernel
theorem dX_times_0 : decode cX_times 0 = .ok (.aload_n 0, 1) := by decide +kernel
theorem dX_times_1 : decode cX_times 1 = .ok (.iload_n 1, 1) := by decide +kernel
theorem dX_times_2 : decode cX_times 2 = .ok (.invokevirtual 94, 3) := by decide +kernel
theorem dX_times_5 : decode cX_times 5 = .ok (.ifCond .eq 17, 3) := by decide +kernel
theorem dX_times_8 : decode cX_times 8 = .ok (.iload_n 2, 1) := by decide +kernel
theorem dX_times_9 : decode cX_times 9 = .ok (.ifCond .lt 13, 3) := by decide +kernel
theorem dX_times_12 : decode cX_times 12 = .ok (.iload_n 2, 1) := by decide +kernel
theorem dX_times_13 : decode cX_times 13 = .ok (.aload_n 0, 1) := by decide +kernel
theorem dX_times_14 : decode cX_times 14 = .ok (.getfield 20, 3) := by decide +kernel
theorem dX_times_17 : decode cX_times 17 = .ok (.iload_n 1, 1) := by decide +kernel
theorem dX_times_18 : decode cX_times 18 = .ok (.iaload, 1) := by decide +kernel
theorem dX_times_19 : decode cX_times 19 = .ok (.if_icmp .lt 5, 3) := by decide +kernel
theorem dX_times_22 : decode cX_times 22 = .ok (.iconst 0, 1) := by decide +kernel
theorem dX_times_23 : decode cX_times 23 = .ok (.ireturn, 1) := by decide +kernel
theorem dX_times_24 : decode cX_times 24 = .ok (.aload_n 0, 1) := by decide +kernel
theorem dX_times_25 : decode cX_times 25 = .ok (.getfield 23, 3) := by decide +kernel
theorem dX_times_28 : decode cX_times 28 = .ok (.iload_n 1, 1) := by decide +kernel
theorem dX_times_29 : decode cX_times 29 = .ok (.bipush 40, 2) := by decide +kernel
theorem dX_times_31 : decode cX_times 31 = .ok (.imul, 1) := by decide +kernel
theorem dX_times_32 : decode cX_times 32 = .ok (.iload_n 2, 1) := by decide +kernel
theorem dX_times_33 : decode cX_times 33 = .ok (.iadd, 1) := by decide +kernel
theorem dX_times_34 : decode cX_times 34 = .ok (.iaload, 1) := by decide +kernel
theorem dX_times_35 : decode cX_times 35 = .ok (.ireturn, 1) := by decide +kernel
theorem dX_orphan_0 : decode cX_orphan 0 = .ok (.iload_n 1, 1) := by decide +kernel
theorem dX_orphan_1 : decode cX_orphan 1 = .ok (.ifCond .ge 5, 3) := by decide +kernel
theorem dX_orphan_4 : decode cX_orphan 4 = .ok (.iconst 0, 1) := by decide +kernel
theorem dX_orphan_5 : decode cX_orphan 5 = .ok (.ireturn, 1) := by decide +kernel
theorem dX_orphan_6 : decode cX_orphan 6 = .ok (.iconst 0, 1) := by decide +kernel
theorem dX_orphan_7 : decode cX_orphan 7 = .ok (.istore_n 2, 1) := by decide +kernel
theorem dX_orphan_8 : decode cX_orphan 8 = .ok (.iconst 1, 1) := by decide +kernel
theorem dX_orphan_9 : decode cX_orphan 9 = .ok (.istore_n 3, 1) := by decide +kernel
theorem dX_orphan_10 : decode cX_orphan 10 = .ok (.iload_n 3, 1) := by decide +kernel
theorem dX_orphan_11 : decode cX_orphan 11 = .ok (.aload_n 0, 1) := by decide +kernel
theorem dX_orphan_12 : decode cX_orphan 12 = .ok (.getfield 26, 3) := by decide +kernel
theorem dX_orphan_15 : decode cX_orphan 15 = .ok (.if_icmp .gt 36, 3) := by decide +kernel
theorem dX_orphan_18 : decode cX_orphan 18 = .ok (.aload_n 0, 1) := by decide +kernel
theorem dX_orphan_19 : decode cX_orphan 19 = .ok (.getfield 9, 3) := by decide +kernel
theorem dX_orphan_22 : decode cX_orphan 22 = .ok (.iload_n 3, 1) := by decide +kernel
theorem dX_orphan_23 : decode cX_orphan 23 = .ok (.baload, 1) := by decide +kernel
theorem dX_orphan_24 : decode cX_orphan 24 = .ok (.ifCond .eq 21, 3) := by decide +kernel
theorem dX_orphan_27 : decode cX_orphan 27 = .ok (.aload_n 0, 1) := by decide +kernel
theorem dX_orphan_28 : decode cX_orphan 28 = .ok (.iload_n 3, 1) := by decide +kernel
theorem dX_orphan_29 : decode cX_orphan 29 = .ok (.invokevirtual 97, 3) := by decide +kernel
theorem dX_orphan_32 : decode cX_orphan 32 = .ok (.ifCond .ne 13, 3) := by decide +kernel
theorem dX_orphan_35 : decode cX_orphan 35 = .ok (.iload_n 2, 1) := by decide +kernel
theorem dX_orphan_36 : decode cX_orphan 36 = .ok (.iload_n 1, 1) := by decide +kernel
theorem dX_orphan_37 : decode cX_orphan 37 = .ok (.if_icmp .ne 5, 3) := by decide +kernel
theorem dX_orphan_40 : decode cX_orphan 40 = .ok (.iload_n 3, 1) := by decide +kernel
theorem dX_orphan_41 : decode cX_orphan 41 = .ok (.ireturn, 1) := by decide +kernel
theorem dX_orphan_42 : decode cX_orphan 42 = .ok (.iinc 2 1, 3) := by decide +kernel
theorem dX_orphan_45 : decode cX_orphan 45 = .ok (.iinc 3 1, 3) := by decide +kernel
theorem dX_orphan_48 : decode cX_orphan 48 = .ok (.goto (-38), 3) := by decide +kernel
theorem dX_orphan_51 : decode cX_orphan 51 = .ok (.iconst 0, 1) := by decide +kernel
theorem dX_orphan_52 : decode cX_orphan 52 = .ok (.ireturn, 1) := by decide +kernel
theorem dX_isLinked_0 : decode cX_isLinked 0 = .ok (.iconst 0, 1) := by decide +kernel
theorem dX_isLinked_1 : decode cX_isLinked 1 = .ok (.istore_n 2, 1) := by decide +kernel
theorem dX_isLinked_2 : decode cX_isLinked 2 = .ok (.iload_n 2, 1) := by decide +kernel
theorem dX_isLinked_3 : decode cX_isLinked 3 = .ok (.aload_n 0, 1) := by decide +kernel
theorem dX_isLinked_4 : decode cX_isLinked 4 = .ok (.getfield 39, 3) := by decide +kernel
theorem dX_isLinked_7 : decode cX_isLinked 7 = .ok (.if_icmp .ge 51, 3) := by decide +kernel
theorem dX_isLinked_10 : decode cX_isLinked 10 = .ok (.aload_n 0, 1) := by decide +kernel
theorem dX_isLinked_11 : decode cX_isLinked 11 = .ok (.getfield 33, 3) := by decide +kernel
theorem dX_isLinked_14 : decode cX_isLinked 14 = .ok (.iload_n 2, 1) := by decide +kernel
theorem dX_isLinked_15 : decode cX_isLinked 15 = .ok (.iaload, 1) := by decide +kernel
theorem dX_isLinked_16 : decode cX_isLinked 16 = .ok (.iconst 4, 1) := by decide +kernel
theorem dX_isLinked_17 : decode cX_isLinked 17 = .ok (.if_icmp .ge 17, 3) := by decide +kernel
theorem dX_isLinked_20 : decode cX_isLinked 20 = .ok (.aload_n 0, 1) := by decide +kernel
theorem dX_isLinked_21 : decode cX_isLinked 21 = .ok (.getfield 36, 3) := by decide +kernel
theorem dX_isLinked_24 : decode cX_isLinked 24 = .ok (.iload_n 2, 1) := by decide +kernel
theorem dX_isLinked_25 : decode cX_isLinked 25 = .ok (.iaload, 1) := by decide +kernel
theorem dX_isLinked_26 : decode cX_isLinked 26 = .ok (.iload_n 1, 1) := by decide +kernel
theorem dX_isLinked_27 : decode cX_isLinked 27 = .ok (.if_icmp .ne 7, 3) := by decide +kernel
theorem dX_isLinked_30 : decode cX_isLinked 30 = .ok (.iconst 1, 1) := by decide +kernel
theorem dX_isLinked_31 : decode cX_isLinked 31 = .ok (.goto 4, 3) := by decide +kernel
theorem dX_isLinked_34 : decode cX_isLinked 34 = .ok (.iconst 0, 1) := by decide +kernel
theorem dX_isLinked_35 : decode cX_isLinked 35 = .ok (.istore_n 3, 1) := by decide +kernel
theorem dX_isLinked_36 : decode cX_isLinked 36 = .ok (.iload_n 3, 1) := by decide +kernel
theorem dX_isLinked_37 : decode cX_isLinked 37 = .ok (.ifCond .ne 13, 3) := by decide +kernel
theorem dX_isLinked_40 : decode cX_isLinked 40 = .ok (.aload_n 0, 1) := by decide +kernel
theorem dX_isLinked_41 : decode cX_isLinked 41 = .ok (.getfield 30, 3) := by decide +kernel
theorem dX_isLinked_44 : decode cX_isLinked 44 = .ok (.iload_n 2, 1) := by decide +kernel
theorem dX_isLinked_45 : decode cX_isLinked 45 = .ok (.iaload, 1) := by decide +kernel
theorem dX_isLinked_46 : decode cX_isLinked 46 = .ok (.iload_n 1, 1) := by decide +kernel
theorem dX_isLinked_47 : decode cX_isLinked 47 = .ok (.if_icmp .ne 5, 3) := by decide +kernel
theorem dX_isLinked_50 : decode cX_isLinked 50 = .ok (.iconst 1, 1) := by decide +kernel
theorem dX_isLinked_51 : decode cX_isLinked 51 = .ok (.ireturn, 1) := by decide +kernel
theorem dX_isLinked_52 : decode cX_isLinked 52 = .ok (.iinc 2 1, 3) := by decide +kernel
theorem dX_isLinked_55 : decode cX_isLinked 55 = .ok (.goto (-53), 3) := by decide +kernel
theorem dX_isLinked_58 : decode cX_isLinked 58 = .ok (.iconst 0, 1) := by decide +kernel
theorem dX_isLinked_59 : decode cX_isLinked 59 = .ok (.ireturn, 1) := by decide +kernel
theorem dX_house_0 : decode cX_house 0 = .ok (.aload_n 0, 1) := by decide +kernel
theorem dX_house_1 : decode cX_house 1 = .ok (.iload_n 1, 1) := by decide +kernel
theorem dX_house_2 : decode cX_house 2 = .ok (.invokevirtual 94, 3) := by decide +kernel
theorem dX_house_5 : decode cX_house 5 = .ok (.ifCond .eq 12, 3) := by decide +kernel
theorem dX_house_8 : decode cX_house 8 = .ok (.aload_n 0, 1) := by decide +kernel
theorem dX_house_9 : decode cX_house 9 = .ok (.getfield 13, 3) := by decide +kernel
theorem dX_house_12 : decode cX_house 12 = .ok (.iload_n 1, 1) := by decide +kernel
theorem dX_house_13 : decode cX_house 13 = .ok (.iaload, 1) := by decide +kernel
theorem dX_house_14 : decode cX_house 14 = .ok (.goto 4, 3) := by decide +kernel
theorem dX_house_17 : decode cX_house 17 = .ok (.iconst (-1), 1) := by decide +kernel
theorem dX_house_18 : decode cX_house 18 = .ok (.ireturn, 1) := by decide +kernel
theorem dX_goes_0 : decode cX_goes 0 = .ok (.iload_n 3, 1) := by decide +kernel
theorem dX_goes_1 : decode cX_goes 1 = .ok (.ifCond .ge 5, 3) := by decide +kernel
theorem dX_goes_4 : decode cX_goes 4 = .ok (.iconst 0, 1) := by decide +kernel
theorem dX_goes_5 : decode cX_goes 5 = .ok (.ireturn, 1) := by decide +kernel
theorem dX_goes_6 : decode cX_goes 6 = .ok (.iconst 0, 1) := by decide +kernel
theorem dX_goes_7 : decode cX_goes 7 = .ok (.istore 4, 2) := by decide +kernel
theorem dX_goes_9 : decode cX_goes 9 = .ok (.iconst 0, 1) := by decide +kernel
theorem dX_goes_10 : decode cX_goes 10 = .ok (.istore 5, 2) := by decide +kernel
theorem dX_goes_12 : decode cX_goes 12 = .ok (.iload 5, 2) := by decide +kernel
theorem dX_goes_14 : decode cX_goes 14 = .ok (.aload_n 0, 1) := by decide +kernel
theorem dX_goes_15 : decode cX_goes 15 = .ok (.getfield 39, 3) := by decide +kernel
theorem dX_goes_18 : decode cX_goes 18 = .ok (.if_icmp .ge 48, 3) := by decide +kernel
theorem dX_goes_21 : decode cX_goes 21 = .ok (.aload_n 0, 1) := by decide +kernel
theorem dX_goes_22 : decode cX_goes 22 = .ok (.getfield 30, 3) := by decide +kernel
theorem dX_goes_25 : decode cX_goes 25 = .ok (.iload 5, 2) := by decide +kernel
theorem dX_goes_27 : decode cX_goes 27 = .ok (.iaload, 1) := by decide +kernel
theorem dX_goes_28 : decode cX_goes 28 = .ok (.iload_n 1, 1) := by decide +kernel
theorem dX_goes_29 : decode cX_goes 29 = .ok (.if_icmp .ne 31, 3) := by decide +kernel
theorem dX_goes_32 : decode cX_goes 32 = .ok (.aload_n 0, 1) := by decide +kernel
theorem dX_goes_33 : decode cX_goes 33 = .ok (.getfield 33, 3) := by decide +kernel
theorem dX_goes_36 : decode cX_goes 36 = .ok (.iload 5, 2) := by decide +kernel
theorem dX_goes_38 : decode cX_goes 38 = .ok (.iaload, 1) := by decide +kernel
theorem dX_goes_39 : decode cX_goes 39 = .ok (.iload_n 2, 1) := by decide +kernel
theorem dX_goes_40 : decode cX_goes 40 = .ok (.if_icmp .ne 20, 3) := by decide +kernel
theorem dX_goes_43 : decode cX_goes 43 = .ok (.iload 4, 2) := by decide +kernel
theorem dX_goes_45 : decode cX_goes 45 = .ok (.iload_n 3, 1) := by decide +kernel
theorem dX_goes_46 : decode cX_goes 46 = .ok (.if_icmp .ne 11, 3) := by decide +kernel
theorem dX_goes_49 : decode cX_goes 49 = .ok (.aload_n 0, 1) := by decide +kernel
theorem dX_goes_50 : decode cX_goes 50 = .ok (.getfield 36, 3) := by decide +kernel
theorem dX_goes_53 : decode cX_goes 53 = .ok (.iload 5, 2) := by decide +kernel
theorem dX_goes_55 : decode cX_goes 55 = .ok (.iaload, 1) := by decide +kernel
theorem dX_goes_56 : decode cX_goes 56 = .ok (.ireturn, 1) := by decide +kernel
theorem dX_goes_57 : decode cX_goes 57 = .ok (.iinc 4 1, 3) := by decide +kernel
theorem dX_goes_60 : decode cX_goes 60 = .ok (.iinc 5 1, 3) := by decide +kernel
theorem dX_goes_63 : decode cX_goes 63 = .ok (.goto (-51), 3) := by decide +kernel
theorem dX_goes_66 : decode cX_goes 66 = .ok (.iconst 0, 1) := by decide +kernel
theorem dX_goes_67 : decode cX_goes 67 = .ok (.ireturn, 1) := by decide +kernel
end
section
theorem dM_init_0 : decode cM_init 0 = .ok (.aload_n 0, 1) := by decide +kernel
theorem dM_init_1 : decode cM_init 1 = .ok (.invokespecial 1, 3) := by decide +kernel
theorem dM_init_4 : decode cM_init 4 = .ok (.aload_n 0, 1) := by decide +kernel
theorem dM_init_5 : decode cM_init 5 = .ok (.bipush 61, 2) := by decide +kernel
theorem dM_init_7 : decode cM_init 7 = .ok (.newarray .boolean, 2) := by decide +kernel
theorem dM_init_9 : decode cM_init 9 = .ok (.putfield 7, 3) := by decide +kernel
theorem dM_init_12 : decode cM_init 12 = .ok (.aload_n 0, 1) := by decide +kernel
theorem dM_init_13 : decode cM_init 13 = .ok (.bipush 61, 2) := by decide +kernel
theorem dM_init_15 : decode cM_init 15 = .ok (.newarray .int, 2) := by decide +kernel
theorem dM_init_17 : decode cM_init 17 = .ok (.putfield 13, 3) := by decide +kernel
theorem dM_init_20 : decode cM_init 20 = .ok (.aload_n 0, 1) := by decide +kernel
theorem dM_init_21 : decode cM_init 21 = .ok (.bipush 61, 2) := by decide +kernel
theorem dM_init_23 : decode cM_init 23 = .ok (.newarray .int, 2) := by decide +kernel
theorem dM_init_25 : decode cM_init 25 = .ok (.putfield 17, 3) := by decide +kernel
theorem dM_init_28 : decode cM_init 28 = .ok (.aload_n 0, 1) := by decide +kernel
theorem dM_init_29 : decode cM_init 29 = .ok (.sipush 2440, 3) := by decide +kernel
theorem dM_init_32 : decode cM_init 32 = .ok (.newarray .int, 2) := by decide +kernel
theorem dM_init_34 : decode cM_init 34 = .ok (.putfield 20, 3) := by decide +kernel
theorem dM_init_37 : decode cM_init 37 = .ok (.aload_n 0, 1) := by decide +kernel
theorem dM_init_38 : decode cM_init 38 = .ok (.bipush 61, 2) := by decide +kernel
theorem dM_init_40 : decode cM_init 40 = .ok (.newarray .int, 2) := by decide +kernel
theorem dM_init_42 : decode cM_init 42 = .ok (.putfield 23, 3) := by decide +kernel
theorem dM_init_45 : decode cM_init 45 = .ok (.aload_n 0, 1) := by decide +kernel
theorem dM_init_46 : decode cM_init 46 = .ok (.sipush 200, 3) := by decide +kernel
theorem dM_init_49 : decode cM_init 49 = .ok (.newarray .int, 2) := by decide +kernel
theorem dM_init_51 : decode cM_init 51 = .ok (.putfield 26, 3) := by decide +kernel
theorem dM_init_54 : decode cM_init 54 = .ok (.aload_n 0, 1) := by decide +kernel
theorem dM_init_55 : decode cM_init 55 = .ok (.sipush 200, 3) := by decide +kernel
theorem dM_init_58 : decode cM_init 58 = .ok (.newarray .int, 2) := by decide +kernel
theorem dM_init_60 : decode cM_init 60 = .ok (.putfield 29, 3) := by decide +kernel
theorem dM_init_63 : decode cM_init 63 = .ok (.aload_n 0, 1) := by decide +kernel
theorem dM_init_64 : decode cM_init 64 = .ok (.sipush 200, 3) := by decide +kernel
theorem dM_init_67 : decode cM_init 67 = .ok (.newarray .int, 2) := by decide +kernel
theorem dM_init_69 : decode cM_init 69 = .ok (.putfield 32, 3) := by decide +kernel
theorem dM_init_72 : decode cM_init 72 = .ok (.aload_n 0, 1) := by decide +kernel
theorem dM_init_73 : decode cM_init 73 = .ok (.bipush 61, 2) := by decide +kernel
theorem dM_init_75 : decode cM_init 75 = .ok (.newarray .int, 2) := by decide +kernel
theorem dM_init_77 : decode cM_init 77 = .ok (.putfield 35, 3) := by decide +kernel
theorem dM_init_80 : decode cM_init 80 = .ok (.return_, 1) := by decide +kernel
theorem dM_record_0 : decode cM_record 0 = .ok (.aload_n 0, 1) := by decide +kernel
theorem dM_record_1 : decode cM_record 1 = .ok (.iconst 0, 1) := by decide +kernel
theorem dM_record_2 : decode cM_record 2 = .ok (.putfield 38, 3) := by decide +kernel
theorem dM_record_5 : decode cM_record 5 = .ok (.aload_n 0, 1) := by decide +kernel
theorem dM_record_6 : decode cM_record 6 = .ok (.getfield 42, 3) := by decide +kernel
theorem dM_record_9 : decode cM_record 9 = .ok (.bipush 60, 2) := by decide +kernel
theorem dM_record_11 : decode cM_record 11 = .ok (.if_icmp .ne 5, 3) := by decide +kernel
theorem dM_record_14 : decode cM_record 14 = .ok (.iconst 0, 1) := by decide +kernel
theorem dM_record_15 : decode cM_record 15 = .ok (.ireturn, 1) := by decide +kernel
theorem dM_record_16 : decode cM_record 16 = .ok (.aload_n 0, 1) := by decide +kernel
theorem dM_record_17 : decode cM_record 17 = .ok (.dup, 1) := by decide +kernel
theorem dM_record_18 : decode cM_record 18 = .ok (.getfield 42, 3) := by decide +kernel
theorem dM_record_21 : decode cM_record 21 = .ok (.iconst 1, 1) := by decide +kernel
theorem dM_record_22 : decode cM_record 22 = .ok (.iadd, 1) := by decide +kernel
theorem dM_record_23 : decode cM_record 23 = .ok (.putfield 42, 3) := by decide +kernel
theorem dM_record_26 : decode cM_record 26 = .ok (.aload_n 0, 1) := by decide +kernel
theorem dM_record_27 : decode cM_record 27 = .ok (.getfield 7, 3) := by decide +kernel
theorem dM_record_30 : decode cM_record 30 = .ok (.aload_n 0, 1) := by decide +kernel
theorem dM_record_31 : decode cM_record 31 = .ok (.getfield 42, 3) := by decide +kernel
theorem dM_record_34 : decode cM_record 34 = .ok (.iconst 1, 1) := by decide +kernel
theorem dM_record_35 : decode cM_record 35 = .ok (.bastore, 1) := by decide +kernel
theorem dM_record_36 : decode cM_record 36 = .ok (.aload_n 0, 1) := by decide +kernel
theorem dM_record_37 : decode cM_record 37 = .ok (.getfield 42, 3) := by decide +kernel
theorem dM_record_40 : decode cM_record 40 = .ok (.ireturn, 1) := by decide +kernel
theorem dM_link_0 : decode cM_link 0 = .ok (.aload_n 0, 1) := by decide +kernel
theorem dM_link_1 : decode cM_link 1 = .ok (.iconst 0, 1) := by decide +kernel
theorem dM_link_2 : decode cM_link 2 = .ok (.putfield 38, 3) := by decide +kernel
theorem dM_link_5 : decode cM_link 5 = .ok (.aload_n 0, 1) := by decide +kernel
theorem dM_link_6 : decode cM_link 6 = .ok (.dup, 1) := by decide +kernel
theorem dM_link_7 : decode cM_link 7 = .ok (.getfield 45, 3) := by decide +kernel
theorem dM_link_10 : decode cM_link 10 = .ok (.iconst 1, 1) := by decide +kernel
theorem dM_link_11 : decode cM_link 11 = .ok (.iadd, 1) := by decide +kernel
theorem dM_link_12 : decode cM_link 12 = .ok (.putfield 45, 3) := by decide +kernel
theorem dM_link_15 : decode cM_link 15 = .ok (.aload_n 0, 1) := by decide +kernel
theorem dM_link_16 : decode cM_link 16 = .ok (.iload_n 1, 1) := by decide +kernel
theorem dM_link_17 : decode cM_link 17 = .ok (.invokevirtual 55, 3) := by decide +kernel
theorem dM_link_20 : decode cM_link 20 = .ok (.ifCond .eq 23, 3) := by decide +kernel
theorem dM_link_23 : decode cM_link 23 = .ok (.iload_n 2, 1) := by decide +kernel
theorem dM_link_24 : decode cM_link 24 = .ok (.ifCond .lt 19, 3) := by decide +kernel
theorem dM_link_27 : decode cM_link 27 = .ok (.iload_n 2, 1) := by decide +kernel
theorem dM_link_28 : decode cM_link 28 = .ok (.bipush 9, 2) := by decide +kernel
theorem dM_link_30 : decode cM_link 30 = .ok (.if_icmp .gt 13, 3) := by decide +kernel
theorem dM_link_33 : decode cM_link 33 = .ok (.aload_n 0, 1) := by decide +kernel
theorem dM_link_34 : decode cM_link 34 = .ok (.getfield 48, 3) := by decide +kernel
theorem dM_link_37 : decode cM_link 37 = .ok (.sipush 200, 3) := by decide +kernel
theorem dM_link_40 : decode cM_link 40 = .ok (.if_icmp .ne 5, 3) := by decide +kernel
theorem dM_link_43 : decode cM_link 43 = .ok (.iconst 0, 1) := by decide +kernel
theorem dM_link_44 : decode cM_link 44 = .ok (.ireturn, 1) := by decide +kernel
theorem dM_link_45 : decode cM_link 45 = .ok (.iload_n 2, 1) := by decide +kernel
theorem dM_link_46 : decode cM_link 46 = .ok (.iconst 4, 1) := by decide +kernel
theorem dM_link_47 : decode cM_link 47 = .ok (.if_icmp .ge 19, 3) := by decide +kernel
theorem dM_link_50 : decode cM_link 50 = .ok (.aload_n 0, 1) := by decide +kernel
theorem dM_link_51 : decode cM_link 51 = .ok (.iload_n 3, 1) := by decide +kernel
theorem dM_link_52 : decode cM_link 52 = .ok (.invokevirtual 55, 3) := by decide +kernel
theorem dM_link_55 : decode cM_link 55 = .ok (.ifCond .eq 18, 3) := by decide +kernel
theorem dM_link_58 : decode cM_link 58 = .ok (.iload_n 3, 1) := by decide +kernel
theorem dM_link_59 : decode cM_link 59 = .ok (.iload_n 1, 1) := by decide +kernel
theorem dM_link_60 : decode cM_link 60 = .ok (.if_icmp .ne 15, 3) := by decide +kernel
theorem dM_link_63 : decode cM_link 63 = .ok (.goto 10, 3) := by decide +kernel
theorem dM_link_66 : decode cM_link 66 = .ok (.iload_n 3, 1) := by decide +kernel
theorem dM_link_67 : decode cM_link 67 = .ok (.invokestatic 59, 3) := by decide +kernel
theorem dM_link_70 : decode cM_link 70 = .ok (.ifCond .ne 5, 3) := by decide +kernel
theorem dM_link_73 : decode cM_link 73 = .ok (.iconst 0, 1) := by decide +kernel
theorem dM_link_74 : decode cM_link 74 = .ok (.ireturn, 1) := by decide +kernel
theorem dM_link_75 : decode cM_link 75 = .ok (.aload_n 0, 1) := by decide +kernel
theorem dM_link_76 : decode cM_link 76 = .ok (.iload_n 1, 1) := by decide +kernel
theorem dM_link_77 : decode cM_link 77 = .ok (.iload_n 2, 1) := by decide +kernel
theorem dM_link_78 : decode cM_link 78 = .ok (.invokevirtual 62, 3) := by decide +kernel
theorem dM_link_81 : decode cM_link 81 = .ok (.iload_n 2, 1) := by decide +kernel
theorem dM_link_82 : decode cM_link 82 = .ok (.invokestatic 66, 3) := by decide +kernel
theorem dM_link_85 : decode cM_link 85 = .ok (.if_icmp .eq 14, 3) := by decide +kernel
theorem dM_link_88 : decode cM_link 88 = .ok (.aload_n 0, 1) := by decide +kernel
theorem dM_link_89 : decode cM_link 89 = .ok (.iload_n 1, 1) := by decide +kernel
theorem dM_link_90 : decode cM_link 90 = .ok (.iload_n 2, 1) := by decide +kernel
theorem dM_link_91 : decode cM_link 91 = .ok (.iload_n 3, 1) := by decide +kernel
theorem dM_link_92 : decode cM_link 92 = .ok (.invokevirtual 69, 3) := by decide +kernel
theorem dM_link_95 : decode cM_link 95 = .ok (.iconst (-1), 1) := by decide +kernel
theorem dM_link_96 : decode cM_link 96 = .ok (.if_icmp .eq 5, 3) := by decide +kernel
theorem dM_link_99 : decode cM_link 99 = .ok (.iconst 0, 1) := by decide +kernel
theorem dM_link_100 : decode cM_link 100 = .ok (.ireturn, 1) := by decide +kernel
theorem dM_link_101 : decode cM_link 101 = .ok (.iload_n 2, 1) := by decide +kernel
theorem dM_link_102 : decode cM_link 102 = .ok (.ifCond .ne 80, 3) := by decide +kernel
theorem dM_link_105 : decode cM_link 105 = .ok (.aload_n 0, 1) := by decide +kernel
theorem dM_link_106 : decode cM_link 106 = .ok (.iload_n 3, 1) := by decide +kernel
theorem dM_link_107 : decode cM_link 107 = .ok (.iload_n 1, 1) := by decide +kernel
theorem dM_link_108 : decode cM_link 108 = .ok (.invokevirtual 73, 3) := by decide +kernel
theorem dM_link_111 : decode cM_link 111 = .ok (.ifCond .eq 71, 3) := by decide +kernel
theorem dM_link_114 : decode cM_link 114 = .ok (.aload_n 0, 1) := by decide +kernel
theorem dM_link_115 : decode cM_link 115 = .ok (.iconst 0, 1) := by decide +kernel
theorem dM_link_116 : decode cM_link 116 = .ok (.putfield 77, 3) := by decide +kernel
theorem dM_link_119 : decode cM_link 119 = .ok (.iload_n 3, 1) := by decide +kernel
theorem dM_link_120 : decode cM_link 120 = .ok (.istore 4, 2) := by decide +kernel
theorem dM_link_122 : decode cM_link 122 = .ok (.iload 4, 2) := by decide +kernel
theorem dM_link_124 : decode cM_link 124 = .ok (.iload_n 1, 1) := by decide +kernel
theorem dM_link_125 : decode cM_link 125 = .ok (.if_icmp .eq 35, 3) := by decide +kernel
theorem dM_link_128 : decode cM_link 128 = .ok (.aload_n 0, 1) := by decide +kernel
theorem dM_link_129 : decode cM_link 129 = .ok (.getfield 35, 3) := by decide +kernel
theorem dM_link_132 : decode cM_link 132 = .ok (.aload_n 0, 1) := by decide +kernel
theorem dM_link_133 : decode cM_link 133 = .ok (.getfield 77, 3) := by decide +kernel
theorem dM_link_136 : decode cM_link 136 = .ok (.iload 4, 2) := by decide +kernel
theorem dM_link_138 : decode cM_link 138 = .ok (.iastore, 1) := by decide +kernel
theorem dM_link_139 : decode cM_link 139 = .ok (.aload_n 0, 1) := by decide +kernel
theorem dM_link_140 : decode cM_link 140 = .ok (.dup, 1) := by decide +kernel
theorem dM_link_141 : decode cM_link 141 = .ok (.getfield 77, 3) := by decide +kernel
theorem dM_link_144 : decode cM_link 144 = .ok (.iconst 1, 1) := by decide +kernel
theorem dM_link_145 : decode cM_link 145 = .ok (.iadd, 1) := by decide +kernel
theorem dM_link_146 : decode cM_link 146 = .ok (.putfield 77, 3) := by decide +kernel
theorem dM_link_149 : decode cM_link 149 = .ok (.aload_n 0, 1) := by decide +kernel
theorem dM_link_150 : decode cM_link 150 = .ok (.iload 4, 2) := by decide +kernel
theorem dM_link_152 : decode cM_link 152 = .ok (.invokevirtual 51, 3) := by decide +kernel
theorem dM_link_155 : decode cM_link 155 = .ok (.istore 4, 2) := by decide +kernel
theorem dM_link_157 : decode cM_link 157 = .ok (.goto (-35), 3) := by decide +kernel
theorem dM_link_160 : decode cM_link 160 = .ok (.aload_n 0, 1) := by decide +kernel
theorem dM_link_161 : decode cM_link 161 = .ok (.getfield 35, 3) := by decide +kernel
theorem dM_link_164 : decode cM_link 164 = .ok (.aload_n 0, 1) := by decide +kernel
theorem dM_link_165 : decode cM_link 165 = .ok (.getfield 77, 3) := by decide +kernel
theorem dM_link_168 : decode cM_link 168 = .ok (.iload_n 1, 1) := by decide +kernel
theorem dM_link_169 : decode cM_link 169 = .ok (.iastore, 1) := by decide +kernel
theorem dM_link_170 : decode cM_link 170 = .ok (.aload_n 0, 1) := by decide +kernel
theorem dM_link_171 : decode cM_link 171 = .ok (.dup, 1) := by decide +kernel
theorem dM_link_172 : decode cM_link 172 = .ok (.getfield 77, 3) := by decide +kernel
theorem dM_link_175 : decode cM_link 175 = .ok (.iconst 1, 1) := by decide +kernel
theorem dM_link_176 : decode cM_link 176 = .ok (.iadd, 1) := by decide +kernel
theorem dM_link_177 : decode cM_link 177 = .ok (.putfield 77, 3) := by decide +kernel
theorem dM_link_180 : decode cM_link 180 = .ok (.iconst 0, 1) := by decide +kernel
theorem dM_link_181 : decode cM_link 181 = .ok (.ireturn, 1) := by decide +kernel
theorem dM_link_182 : decode cM_link 182 = .ok (.aload_n 0, 1) := by decide +kernel
theorem dM_link_183 : decode cM_link 183 = .ok (.getfield 26, 3) := by decide +kernel
theorem dM_link_186 : decode cM_link 186 = .ok (.aload_n 0, 1) := by decide +kernel
theorem dM_link_187 : decode cM_link 187 = .ok (.getfield 48, 3) := by decide +kernel
theorem dM_link_190 : decode cM_link 190 = .ok (.iload_n 1, 1) := by decide +kernel
theorem dM_link_191 : decode cM_link 191 = .ok (.iastore, 1) := by decide +kernel
theorem dM_link_192 : decode cM_link 192 = .ok (.aload_n 0, 1) := by decide +kernel
theorem dM_link_193 : decode cM_link 193 = .ok (.getfield 29, 3) := by decide +kernel
theorem dM_link_196 : decode cM_link 196 = .ok (.aload_n 0, 1) := by decide +kernel
theorem dM_link_197 : decode cM_link 197 = .ok (.getfield 48, 3) := by decide +kernel
theorem dM_link_200 : decode cM_link 200 = .ok (.iload_n 2, 1) := by decide +kernel
theorem dM_link_201 : decode cM_link 201 = .ok (.iastore, 1) := by decide +kernel
theorem dM_link_202 : decode cM_link 202 = .ok (.aload_n 0, 1) := by decide +kernel
theorem dM_link_203 : decode cM_link 203 = .ok (.getfield 32, 3) := by decide +kernel
theorem dM_link_206 : decode cM_link 206 = .ok (.aload_n 0, 1) := by decide +kernel
theorem dM_link_207 : decode cM_link 207 = .ok (.getfield 48, 3) := by decide +kernel
theorem dM_link_210 : decode cM_link 210 = .ok (.iload_n 3, 1) := by decide +kernel
theorem dM_link_211 : decode cM_link 211 = .ok (.iastore, 1) := by decide +kernel
theorem dM_link_212 : decode cM_link 212 = .ok (.aload_n 0, 1) := by decide +kernel
theorem dM_link_213 : decode cM_link 213 = .ok (.dup, 1) := by decide +kernel
theorem dM_link_214 : decode cM_link 214 = .ok (.getfield 48, 3) := by decide +kernel
theorem dM_link_217 : decode cM_link 217 = .ok (.iconst 1, 1) := by decide +kernel
theorem dM_link_218 : decode cM_link 218 = .ok (.iadd, 1) := by decide +kernel
theorem dM_link_219 : decode cM_link 219 = .ok (.putfield 48, 3) := by decide +kernel
theorem dM_link_222 : decode cM_link 222 = .ok (.aload_n 0, 1) := by decide +kernel
theorem dM_link_223 : decode cM_link 223 = .ok (.iload_n 1, 1) := by decide +kernel
theorem dM_link_224 : decode cM_link 224 = .ok (.invokevirtual 80, 3) := by decide +kernel
theorem dM_link_227 : decode cM_link 227 = .ok (.iconst 1, 1) := by decide +kernel
theorem dM_link_228 : decode cM_link 228 = .ok (.ireturn, 1) := by decide +kernel
theorem dM_isLive_0 : decode cM_isLive 0 = .ok (.iload_n 1, 1) := by decide +kernel
theorem dM_isLive_1 : decode cM_isLive 1 = .ok (.ifCond .le 24, 3) := by decide +kernel
theorem dM_isLive_4 : decode cM_isLive 4 = .ok (.iload_n 1, 1) := by decide +kernel
theorem dM_isLive_5 : decode cM_isLive 5 = .ok (.aload_n 0, 1) := by decide +kernel
theorem dM_isLive_6 : decode cM_isLive 6 = .ok (.getfield 42, 3) := by decide +kernel
theorem dM_isLive_9 : decode cM_isLive 9 = .ok (.if_icmp .gt 16, 3) := by decide +kernel
theorem dM_isLive_12 : decode cM_isLive 12 = .ok (.aload_n 0, 1) := by decide +kernel
theorem dM_isLive_13 : decode cM_isLive 13 = .ok (.getfield 7, 3) := by decide +kernel
theorem dM_isLive_16 : decode cM_isLive 16 = .ok (.iload_n 1, 1) := by decide +kernel
theorem dM_isLive_17 : decode cM_isLive 17 = .ok (.baload, 1) := by decide +kernel
theorem dM_isLive_18 : decode cM_isLive 18 = .ok (.ifCond .eq 7, 3) := by decide +kernel
theorem dM_isLive_21 : decode cM_isLive 21 = .ok (.iconst 1, 1) := by decide +kernel
theorem dM_isLive_22 : decode cM_isLive 22 = .ok (.goto 4, 3) := by decide +kernel
theorem dM_isLive_25 : decode cM_isLive 25 = .ok (.iconst 0, 1) := by decide +kernel
theorem dM_isLive_26 : decode cM_isLive 26 = .ok (.ireturn, 1) := by decide +kernel
theorem dM_isHeading_0 : decode cM_isHeading 0 = .ok (.iload_n 0, 1) := by decide +kernel
theorem dM_isHeading_1 : decode cM_isHeading 1 = .ok (.ifCond .le 13, 3) := by decide +kernel
theorem dM_isHeading_4 : decode cM_isHeading 4 = .ok (.iload_n 0, 1) := by decide +kernel
theorem dM_isHeading_5 : decode cM_isHeading 5 = .ok (.bipush 100, 2) := by decide +kernel
theorem dM_isHeading_7 : decode cM_isHeading 7 = .ok (.if_icmp .ge 7, 3) := by decide +kernel
theorem dM_isHeading_10 : decode cM_isHeading 10 = .ok (.iconst 1, 1) := by decide +kernel
theorem dM_isHeading_11 : decode cM_isHeading 11 = .ok (.goto 4, 3) := by decide +kernel
theorem dM_isHeading_14 : decode cM_isHeading 14 = .ok (.iconst 0, 1) := by decide +kernel
theorem dM_isHeading_15 : decode cM_isHeading 15 = .ok (.ireturn, 1) := by decide +kernel
theorem dM_count_0 : decode cM_count 0 = .ok (.iconst 0, 1) := by decide +kernel
theorem dM_count_1 : decode cM_count 1 = .ok (.istore_n 3, 1) := by decide +kernel
theorem dM_count_2 : decode cM_count 2 = .ok (.iconst 0, 1) := by decide +kernel
theorem dM_count_3 : decode cM_count 3 = .ok (.istore 4, 2) := by decide +kernel
theorem dM_count_5 : decode cM_count 5 = .ok (.iload 4, 2) := by decide +kernel
theorem dM_count_7 : decode cM_count 7 = .ok (.aload_n 0, 1) := by decide +kernel
theorem dM_count_8 : decode cM_count 8 = .ok (.getfield 48, 3) := by decide +kernel
theorem dM_count_11 : decode cM_count 11 = .ok (.if_icmp .ge 39, 3) := by decide +kernel
theorem dM_count_14 : decode cM_count 14 = .ok (.iload_n 3, 1) := by decide +kernel
theorem dM_count_15 : decode cM_count 15 = .ok (.aload_n 0, 1) := by decide +kernel
theorem dM_count_16 : decode cM_count 16 = .ok (.getfield 26, 3) := by decide +kernel
theorem dM_count_19 : decode cM_count 19 = .ok (.iload 4, 2) := by decide +kernel
theorem dM_count_21 : decode cM_count 21 = .ok (.iaload, 1) := by decide +kernel
theorem dM_count_22 : decode cM_count 22 = .ok (.iload_n 1, 1) := by decide +kernel
theorem dM_count_23 : decode cM_count 23 = .ok (.if_icmp .ne 18, 3) := by decide +kernel
theorem dM_count_26 : decode cM_count 26 = .ok (.aload_n 0, 1) := by decide +kernel
theorem dM_count_27 : decode cM_count 27 = .ok (.getfield 29, 3) := by decide +kernel
theorem dM_count_30 : decode cM_count 30 = .ok (.iload 4, 2) := by decide +kernel
theorem dM_count_32 : decode cM_count 32 = .ok (.iaload, 1) := by decide +kernel
theorem dM_count_33 : decode cM_count 33 = .ok (.iload_n 2, 1) := by decide +kernel
theorem dM_count_34 : decode cM_count 34 = .ok (.if_icmp .ne 7, 3) := by decide +kernel
theorem dM_count_37 : decode cM_count 37 = .ok (.iconst 1, 1) := by decide +kernel
theorem dM_count_38 : decode cM_count 38 = .ok (.goto 4, 3) := by decide +kernel
theorem dM_count_41 : decode cM_count 41 = .ok (.iconst 0, 1) := by decide +kernel
theorem dM_count_42 : decode cM_count 42 = .ok (.iadd, 1) := by decide +kernel
theorem dM_count_43 : decode cM_count 43 = .ok (.istore_n 3, 1) := by decide +kernel
theorem dM_count_44 : decode cM_count 44 = .ok (.iinc 4 1, 3) := by decide +kernel
theorem dM_count_47 : decode cM_count 47 = .ok (.goto (-42), 3) := by decide +kernel
theorem dM_count_50 : decode cM_count 50 = .ok (.iload_n 3, 1) := by decide +kernel
theorem dM_count_51 : decode cM_count 51 = .ok (.ireturn, 1) := by decide +kernel
theorem dM_most_0 : decode cM_most 0 = .ok (.iload_n 0, 1) := by decide +kernel
theorem dM_most_1 : decode cM_most 1 = .ok (.ifCond .ne 7, 3) := by decide +kernel
theorem dM_most_4 : decode cM_most 4 = .ok (.iconst 1, 1) := by decide +kernel
theorem dM_most_5 : decode cM_most 5 = .ok (.goto 22, 3) := by decide +kernel
theorem dM_most_8 : decode cM_most 8 = .ok (.iload_n 0, 1) := by decide +kernel
theorem dM_most_9 : decode cM_most 9 = .ok (.iconst 1, 1) := by decide +kernel
theorem dM_most_10 : decode cM_most 10 = .ok (.if_icmp .ne 7, 3) := by decide +kernel
theorem dM_most_13 : decode cM_most 13 = .ok (.iconst 2, 1) := by decide +kernel
theorem dM_most_14 : decode cM_most 14 = .ok (.goto 13, 3) := by decide +kernel
theorem dM_most_17 : decode cM_most 17 = .ok (.iload_n 0, 1) := by decide +kernel
theorem dM_most_18 : decode cM_most 18 = .ok (.iconst 4, 1) := by decide +kernel
theorem dM_most_19 : decode cM_most 19 = .ok (.if_icmp .ge 7, 3) := by decide +kernel
theorem dM_most_22 : decode cM_most 22 = .ok (.iconst 5, 1) := by decide +kernel
theorem dM_most_23 : decode cM_most 23 = .ok (.goto 4, 3) := by decide +kernel
theorem dM_most_26 : decode cM_most 26 = .ok (.iconst 3, 1) := by decide +kernel
theorem dM_most_27 : decode cM_most 27 = .ok (.ireturn, 1) := by decide +kernel
theorem dM_find_0 : decode cM_find 0 = .ok (.iconst 0, 1) := by decide +kernel
theorem dM_find_1 : decode cM_find 1 = .ok (.istore 4, 2) := by decide +kernel
theorem dM_find_3 : decode cM_find 3 = .ok (.iload 4, 2) := by decide +kernel
theorem dM_find_5 : decode cM_find 5 = .ok (.aload_n 0, 1) := by decide +kernel
theorem dM_find_6 : decode cM_find 6 = .ok (.getfield 48, 3) := by decide +kernel
theorem dM_find_9 : decode cM_find 9 = .ok (.if_icmp .ge 45, 3) := by decide +kernel
theorem dM_find_12 : decode cM_find 12 = .ok (.aload_n 0, 1) := by decide +kernel
theorem dM_find_13 : decode cM_find 13 = .ok (.getfield 26, 3) := by decide +kernel
theorem dM_find_16 : decode cM_find 16 = .ok (.iload 4, 2) := by decide +kernel
theorem dM_find_18 : decode cM_find 18 = .ok (.iaload, 1) := by decide +kernel
theorem dM_find_19 : decode cM_find 19 = .ok (.iload_n 1, 1) := by decide +kernel
theorem dM_find_20 : decode cM_find 20 = .ok (.if_icmp .ne 28, 3) := by decide +kernel
theorem dM_find_23 : decode cM_find 23 = .ok (.aload_n 0, 1) := by decide +kernel
theorem dM_find_24 : decode cM_find 24 = .ok (.getfield 29, 3) := by decide +kernel
theorem dM_find_27 : decode cM_find 27 = .ok (.iload 4, 2) := by decide +kernel
theorem dM_find_29 : decode cM_find 29 = .ok (.iaload, 1) := by decide +kernel
theorem dM_find_30 : decode cM_find 30 = .ok (.iload_n 2, 1) := by decide +kernel
theorem dM_find_31 : decode cM_find 31 = .ok (.if_icmp .ne 17, 3) := by decide +kernel
theorem dM_find_34 : decode cM_find 34 = .ok (.aload_n 0, 1) := by decide +kernel
theorem dM_find_35 : decode cM_find 35 = .ok (.getfield 32, 3) := by decide +kernel
theorem dM_find_38 : decode cM_find 38 = .ok (.iload 4, 2) := by decide +kernel
theorem dM_find_40 : decode cM_find 40 = .ok (.iaload, 1) := by decide +kernel
theorem dM_find_41 : decode cM_find 41 = .ok (.iload_n 3, 1) := by decide +kernel
theorem dM_find_42 : decode cM_find 42 = .ok (.if_icmp .ne 6, 3) := by decide +kernel
theorem dM_find_45 : decode cM_find 45 = .ok (.iload 4, 2) := by decide +kernel
theorem dM_find_47 : decode cM_find 47 = .ok (.ireturn, 1) := by decide +kernel
theorem dM_find_48 : decode cM_find 48 = .ok (.iinc 4 1, 3) := by decide +kernel
theorem dM_find_51 : decode cM_find 51 = .ok (.goto (-48), 3) := by decide +kernel
theorem dM_find_54 : decode cM_find 54 = .ok (.iconst (-1), 1) := by decide +kernel
theorem dM_find_55 : decode cM_find 55 = .ok (.ireturn, 1) := by decide +kernel
theorem dM_liesIn_0 : decode cM_liesIn 0 = .ok (.iload_n 1, 1) := by decide +kernel
theorem dM_liesIn_1 : decode cM_liesIn 1 = .ok (.istore_n 3, 1) := by decide +kernel
theorem dM_liesIn_2 : decode cM_liesIn 2 = .ok (.iload_n 3, 1) := by decide +kernel
theorem dM_liesIn_3 : decode cM_liesIn 3 = .ok (.ifCond .eq 17, 3) := by decide +kernel
theorem dM_liesIn_6 : decode cM_liesIn 6 = .ok (.iload_n 3, 1) := by decide +kernel
theorem dM_liesIn_7 : decode cM_liesIn 7 = .ok (.iload_n 2, 1) := by decide +kernel
theorem dM_liesIn_8 : decode cM_liesIn 8 = .ok (.if_icmp .eq 12, 3) := by decide +kernel
theorem dM_liesIn_11 : decode cM_liesIn 11 = .ok (.aload_n 0, 1) := by decide +kernel
theorem dM_liesIn_12 : decode cM_liesIn 12 = .ok (.iload_n 3, 1) := by decide +kernel
theorem dM_liesIn_13 : decode cM_liesIn 13 = .ok (.invokevirtual 51, 3) := by decide +kernel
theorem dM_liesIn_16 : decode cM_liesIn 16 = .ok (.istore_n 3, 1) := by decide +kernel
theorem dM_liesIn_17 : decode cM_liesIn 17 = .ok (.goto (-15), 3) := by decide +kernel
theorem dM_liesIn_20 : decode cM_liesIn 20 = .ok (.iload_n 3, 1) := by decide +kernel
theorem dM_liesIn_21 : decode cM_liesIn 21 = .ok (.iload_n 2, 1) := by decide +kernel
theorem dM_liesIn_22 : decode cM_liesIn 22 = .ok (.if_icmp .ne 7, 3) := by decide +kernel
theorem dM_liesIn_25 : decode cM_liesIn 25 = .ok (.iconst 1, 1) := by decide +kernel
theorem dM_liesIn_26 : decode cM_liesIn 26 = .ok (.goto 4, 3) := by decide +kernel
theorem dM_liesIn_29 : decode cM_liesIn 29 = .ok (.iconst 0, 1) := by decide +kernel
theorem dM_liesIn_30 : decode cM_liesIn 30 = .ok (.ireturn, 1) := by decide +kernel
theorem dM_hostOf_0 : decode cM_hostOf 0 = .ok (.iconst 0, 1) := by decide +kernel
theorem dM_hostOf_1 : decode cM_hostOf 1 = .ok (.istore_n 2, 1) := by decide +kernel
theorem dM_hostOf_2 : decode cM_hostOf 2 = .ok (.iload_n 2, 1) := by decide +kernel
theorem dM_hostOf_3 : decode cM_hostOf 3 = .ok (.aload_n 0, 1) := by decide +kernel
theorem dM_hostOf_4 : decode cM_hostOf 4 = .ok (.getfield 48, 3) := by decide +kernel
theorem dM_hostOf_7 : decode cM_hostOf 7 = .ok (.if_icmp .ge 35, 3) := by decide +kernel
theorem dM_hostOf_10 : decode cM_hostOf 10 = .ok (.aload_n 0, 1) := by decide +kernel
theorem dM_hostOf_11 : decode cM_hostOf 11 = .ok (.getfield 26, 3) := by decide +kernel
theorem dM_hostOf_14 : decode cM_hostOf 14 = .ok (.iload_n 2, 1) := by decide +kernel
theorem dM_hostOf_15 : decode cM_hostOf 15 = .ok (.iaload, 1) := by decide +kernel
theorem dM_hostOf_16 : decode cM_hostOf 16 = .ok (.iload_n 1, 1) := by decide +kernel
theorem dM_hostOf_17 : decode cM_hostOf 17 = .ok (.if_icmp .ne 19, 3) := by decide +kernel
theorem dM_hostOf_20 : decode cM_hostOf 20 = .ok (.aload_n 0, 1) := by decide +kernel
theorem dM_hostOf_21 : decode cM_hostOf 21 = .ok (.getfield 29, 3) := by decide +kernel
theorem dM_hostOf_24 : decode cM_hostOf 24 = .ok (.iload_n 2, 1) := by decide +kernel
theorem dM_hostOf_25 : decode cM_hostOf 25 = .ok (.iaload, 1) := by decide +kernel
theorem dM_hostOf_26 : decode cM_hostOf 26 = .ok (.ifCond .ne 10, 3) := by decide +kernel
theorem dM_hostOf_29 : decode cM_hostOf 29 = .ok (.aload_n 0, 1) := by decide +kernel
theorem dM_hostOf_30 : decode cM_hostOf 30 = .ok (.getfield 32, 3) := by decide +kernel
theorem dM_hostOf_33 : decode cM_hostOf 33 = .ok (.iload_n 2, 1) := by decide +kernel
theorem dM_hostOf_34 : decode cM_hostOf 34 = .ok (.iaload, 1) := by decide +kernel
theorem dM_hostOf_35 : decode cM_hostOf 35 = .ok (.ireturn, 1) := by decide +kernel
theorem dM_hostOf_36 : decode cM_hostOf 36 = .ok (.iinc 2 1, 3) := by decide +kernel
theorem dM_hostOf_39 : decode cM_hostOf 39 = .ok (.goto (-37), 3) := by decide +kernel
theorem dM_hostOf_42 : decode cM_hostOf 42 = .ok (.iconst 0, 1) := by decide +kernel
theorem dM_hostOf_43 : decode cM_hostOf 43 = .ok (.ireturn, 1) := by decide +kernel
theorem dM_changed_0 : decode cM_changed 0 = .ok (.aload_n 0, 1) := by decide +kernel
theorem dM_changed_1 : decode cM_changed 1 = .ok (.getfield 23, 3) := by decide +kernel
theorem dM_changed_4 : decode cM_changed 4 = .ok (.iload_n 1, 1) := by decide +kernel
theorem dM_changed_5 : decode cM_changed 5 = .ok (.iaload, 1) := by decide +kernel
theorem dM_changed_6 : decode cM_changed 6 = .ok (.ifCond .le 40, 3) := by decide +kernel
theorem dM_changed_9 : decode cM_changed 9 = .ok (.aload_n 0, 1) := by decide +kernel
theorem dM_changed_10 : decode cM_changed 10 = .ok (.getfield 23, 3) := by decide +kernel
theorem dM_changed_13 : decode cM_changed 13 = .ok (.iload_n 1, 1) := by decide +kernel
theorem dM_changed_14 : decode cM_changed 14 = .ok (.iaload, 1) := by decide +kernel
theorem dM_changed_15 : decode cM_changed 15 = .ok (.bipush 41, 2) := by decide +kernel
theorem dM_changed_17 : decode cM_changed 17 = .ok (.if_icmp .ge 29, 3) := by decide +kernel
theorem dM_changed_20 : decode cM_changed 20 = .ok (.aload_n 0, 1) := by decide +kernel
theorem dM_changed_21 : decode cM_changed 21 = .ok (.getfield 20, 3) := by decide +kernel
theorem dM_changed_24 : decode cM_changed 24 = .ok (.bipush 40, 2) := by decide +kernel
theorem dM_changed_26 : decode cM_changed 26 = .ok (.iload_n 1, 1) := by decide +kernel
theorem dM_changed_27 : decode cM_changed 27 = .ok (.imul, 1) := by decide +kernel
theorem dM_changed_28 : decode cM_changed 28 = .ok (.aload_n 0, 1) := by decide +kernel
theorem dM_changed_29 : decode cM_changed 29 = .ok (.getfield 23, 3) := by decide +kernel
theorem dM_changed_32 : decode cM_changed 32 = .ok (.iload_n 1, 1) := by decide +kernel
theorem dM_changed_33 : decode cM_changed 33 = .ok (.iaload, 1) := by decide +kernel
theorem dM_changed_34 : decode cM_changed 34 = .ok (.iadd, 1) := by decide +kernel
theorem dM_changed_35 : decode cM_changed 35 = .ok (.iconst 1, 1) := by decide +kernel
theorem dM_changed_36 : decode cM_changed 36 = .ok (.isub, 1) := by decide +kernel
theorem dM_changed_37 : decode cM_changed 37 = .ok (.iaload, 1) := by decide +kernel
theorem dM_changed_38 : decode cM_changed 38 = .ok (.aload_n 0, 1) := by decide +kernel
theorem dM_changed_39 : decode cM_changed 39 = .ok (.getfield 45, 3) := by decide +kernel
theorem dM_changed_42 : decode cM_changed 42 = .ok (.if_icmp .ne 4, 3) := by decide +kernel
theorem dM_changed_45 : decode cM_changed 45 = .ok (.return_, 1) := by decide +kernel
theorem dM_changed_46 : decode cM_changed 46 = .ok (.aload_n 0, 1) := by decide +kernel
theorem dM_changed_47 : decode cM_changed 47 = .ok (.getfield 23, 3) := by decide +kernel
theorem dM_changed_50 : decode cM_changed 50 = .ok (.iload_n 1, 1) := by decide +kernel
theorem dM_changed_51 : decode cM_changed 51 = .ok (.iaload, 1) := by decide +kernel
theorem dM_changed_52 : decode cM_changed 52 = .ok (.bipush 40, 2) := by decide +kernel
theorem dM_changed_54 : decode cM_changed 54 = .ok (.if_icmp .ge 33, 3) := by decide +kernel
theorem dM_changed_57 : decode cM_changed 57 = .ok (.aload_n 0, 1) := by decide +kernel
theorem dM_changed_58 : decode cM_changed 58 = .ok (.getfield 20, 3) := by decide +kernel
theorem dM_changed_61 : decode cM_changed 61 = .ok (.bipush 40, 2) := by decide +kernel
theorem dM_changed_63 : decode cM_changed 63 = .ok (.iload_n 1, 1) := by decide +kernel
theorem dM_changed_64 : decode cM_changed 64 = .ok (.imul, 1) := by decide +kernel
theorem dM_changed_65 : decode cM_changed 65 = .ok (.aload_n 0, 1) := by decide +kernel
theorem dM_changed_66 : decode cM_changed 66 = .ok (.getfield 23, 3) := by decide +kernel
theorem dM_changed_69 : decode cM_changed 69 = .ok (.iload_n 1, 1) := by decide +kernel
theorem dM_changed_70 : decode cM_changed 70 = .ok (.iaload, 1) := by decide +kernel
theorem dM_changed_71 : decode cM_changed 71 = .ok (.iadd, 1) := by decide +kernel
theorem dM_changed_72 : decode cM_changed 72 = .ok (.aload_n 0, 1) := by decide +kernel
theorem dM_changed_73 : decode cM_changed 73 = .ok (.getfield 45, 3) := by decide +kernel
theorem dM_changed_76 : decode cM_changed 76 = .ok (.iastore, 1) := by decide +kernel
theorem dM_changed_77 : decode cM_changed 77 = .ok (.aload_n 0, 1) := by decide +kernel
theorem dM_changed_78 : decode cM_changed 78 = .ok (.getfield 23, 3) := by decide +kernel
theorem dM_changed_81 : decode cM_changed 81 = .ok (.iload_n 1, 1) := by decide +kernel
theorem dM_changed_82 : decode cM_changed 82 = .ok (.dup2, 1) := by decide +kernel
theorem dM_changed_83 : decode cM_changed 83 = .ok (.iaload, 1) := by decide +kernel
theorem dM_changed_84 : decode cM_changed 84 = .ok (.iconst 1, 1) := by decide +kernel
theorem dM_changed_85 : decode cM_changed 85 = .ok (.iadd, 1) := by decide +kernel
theorem dM_changed_86 : decode cM_changed 86 = .ok (.iastore, 1) := by decide +kernel
theorem dM_changed_87 : decode cM_changed 87 = .ok (.return_, 1) := by decide +kernel
theorem dM_change_0 : decode cM_change 0 = .ok (.aload_n 0, 1) := by decide +kernel
theorem dM_change_1 : decode cM_change 1 = .ok (.iconst 0, 1) := by decide +kernel
theorem dM_change_2 : decode cM_change 2 = .ok (.putfield 38, 3) := by decide +kernel
theorem dM_change_5 : decode cM_change 5 = .ok (.aload_n 0, 1) := by decide +kernel
theorem dM_change_6 : decode cM_change 6 = .ok (.dup, 1) := by decide +kernel
theorem dM_change_7 : decode cM_change 7 = .ok (.getfield 45, 3) := by decide +kernel
theorem dM_change_10 : decode cM_change 10 = .ok (.iconst 1, 1) := by decide +kernel
theorem dM_change_11 : decode cM_change 11 = .ok (.iadd, 1) := by decide +kernel
theorem dM_change_12 : decode cM_change 12 = .ok (.putfield 45, 3) := by decide +kernel
theorem dM_change_15 : decode cM_change 15 = .ok (.iload_n 1, 1) := by decide +kernel
theorem dM_change_16 : decode cM_change 16 = .ok (.invokestatic 59, 3) := by decide +kernel
theorem dM_change_19 : decode cM_change 19 = .ok (.ifCond .eq 15, 3) := by decide +kernel
theorem dM_change_22 : decode cM_change 22 = .ok (.iload_n 2, 1) := by decide +kernel
theorem dM_change_23 : decode cM_change 23 = .ok (.invokestatic 59, 3) := by decide +kernel
theorem dM_change_26 : decode cM_change 26 = .ok (.ifCond .eq 8, 3) := by decide +kernel
theorem dM_change_29 : decode cM_change 29 = .ok (.iload_n 1, 1) := by decide +kernel
theorem dM_change_30 : decode cM_change 30 = .ok (.iload_n 2, 1) := by decide +kernel
theorem dM_change_31 : decode cM_change 31 = .ok (.if_icmp .ne 5, 3) := by decide +kernel
theorem dM_change_34 : decode cM_change 34 = .ok (.iconst 0, 1) := by decide +kernel
theorem dM_change_35 : decode cM_change 35 = .ok (.ireturn, 1) := by decide +kernel
theorem dM_change_36 : decode cM_change 36 = .ok (.iconst 0, 1) := by decide +kernel
theorem dM_change_37 : decode cM_change 37 = .ok (.istore_n 3, 1) := by decide +kernel
theorem dM_change_38 : decode cM_change 38 = .ok (.iconst 0, 1) := by decide +kernel
theorem dM_change_39 : decode cM_change 39 = .ok (.istore 4, 2) := by decide +kernel
theorem dM_change_41 : decode cM_change 41 = .ok (.iload 4, 2) := by decide +kernel
theorem dM_change_43 : decode cM_change 43 = .ok (.aload_n 0, 1) := by decide +kernel
theorem dM_change_44 : decode cM_change 44 = .ok (.getfield 48, 3) := by decide +kernel
theorem dM_change_47 : decode cM_change 47 = .ok (.if_icmp .ge 131, 3) := by decide +kernel
theorem dM_change_50 : decode cM_change 50 = .ok (.iconst 1, 1) := by decide +kernel
theorem dM_change_51 : decode cM_change 51 = .ok (.istore 5, 2) := by decide +kernel
theorem dM_change_53 : decode cM_change 53 = .ok (.aload_n 0, 1) := by decide +kernel
theorem dM_change_54 : decode cM_change 54 = .ok (.getfield 29, 3) := by decide +kernel
theorem dM_change_57 : decode cM_change 57 = .ok (.iload 4, 2) := by decide +kernel
theorem dM_change_59 : decode cM_change 59 = .ok (.iaload, 1) := by decide +kernel
theorem dM_change_60 : decode cM_change 60 = .ok (.iconst 3, 1) := by decide +kernel
theorem dM_change_61 : decode cM_change 61 = .ok (.if_icmp .le 99, 3) := by decide +kernel
theorem dM_change_64 : decode cM_change 64 = .ok (.aload_n 0, 1) := by decide +kernel
theorem dM_change_65 : decode cM_change 65 = .ok (.getfield 32, 3) := by decide +kernel
theorem dM_change_68 : decode cM_change 68 = .ok (.iload 4, 2) := by decide +kernel
theorem dM_change_70 : decode cM_change 70 = .ok (.iaload, 1) := by decide +kernel
theorem dM_change_71 : decode cM_change 71 = .ok (.iload_n 1, 1) := by decide +kernel
theorem dM_change_72 : decode cM_change 72 = .ok (.if_icmp .ne 88, 3) := by decide +kernel
theorem dM_change_75 : decode cM_change 75 = .ok (.iinc 3 1, 3) := by decide +kernel
theorem dM_change_78 : decode cM_change 78 = .ok (.aload_n 0, 1) := by decide +kernel
theorem dM_change_79 : decode cM_change 79 = .ok (.aload_n 0, 1) := by decide +kernel
theorem dM_change_80 : decode cM_change 80 = .ok (.getfield 26, 3) := by decide +kernel
theorem dM_change_83 : decode cM_change 83 = .ok (.iload 4, 2) := by decide +kernel
theorem dM_change_85 : decode cM_change 85 = .ok (.iaload, 1) := by decide +kernel
theorem dM_change_86 : decode cM_change 86 = .ok (.invokevirtual 80, 3) := by decide +kernel
theorem dM_change_89 : decode cM_change 89 = .ok (.aload_n 0, 1) := by decide +kernel
theorem dM_change_90 : decode cM_change 90 = .ok (.aload_n 0, 1) := by decide +kernel
theorem dM_change_91 : decode cM_change 91 = .ok (.getfield 26, 3) := by decide +kernel
theorem dM_change_94 : decode cM_change 94 = .ok (.iload 4, 2) := by decide +kernel
theorem dM_change_96 : decode cM_change 96 = .ok (.iaload, 1) := by decide +kernel
theorem dM_change_97 : decode cM_change 97 = .ok (.aload_n 0, 1) := by decide +kernel
theorem dM_change_98 : decode cM_change 98 = .ok (.getfield 29, 3) := by decide +kernel
theorem dM_change_101 : decode cM_change 101 = .ok (.iload 4, 2) := by decide +kernel
theorem dM_change_103 : decode cM_change 103 = .ok (.iaload, 1) := by decide +kernel
theorem dM_change_104 : decode cM_change 104 = .ok (.iload_n 2, 1) := by decide +kernel
theorem dM_change_105 : decode cM_change 105 = .ok (.invokevirtual 69, 3) := by decide +kernel
theorem dM_change_108 : decode cM_change 108 = .ok (.istore 6, 2) := by decide +kernel
theorem dM_change_110 : decode cM_change 110 = .ok (.iload 6, 2) := by decide +kernel
theorem dM_change_112 : decode cM_change 112 = .ok (.iconst (-1), 1) := by decide +kernel
theorem dM_change_113 : decode cM_change 113 = .ok (.if_icmp .ne 14, 3) := by decide +kernel
theorem dM_change_116 : decode cM_change 116 = .ok (.aload_n 0, 1) := by decide +kernel
theorem dM_change_117 : decode cM_change 117 = .ok (.getfield 32, 3) := by decide +kernel
theorem dM_change_120 : decode cM_change 120 = .ok (.iload 4, 2) := by decide +kernel
theorem dM_change_122 : decode cM_change 122 = .ok (.iload_n 2, 1) := by decide +kernel
theorem dM_change_123 : decode cM_change 123 = .ok (.iastore, 1) := by decide +kernel
theorem dM_change_124 : decode cM_change 124 = .ok (.goto 36, 3) := by decide +kernel
theorem dM_change_127 : decode cM_change 127 = .ok (.iload 6, 2) := by decide +kernel
theorem dM_change_129 : decode cM_change 129 = .ok (.iload 4, 2) := by decide +kernel
theorem dM_change_131 : decode cM_change 131 = .ok (.if_icmp .ge 15, 3) := by decide +kernel
theorem dM_change_134 : decode cM_change 134 = .ok (.aload_n 0, 1) := by decide +kernel
theorem dM_change_135 : decode cM_change 135 = .ok (.iload 4, 2) := by decide +kernel
theorem dM_change_137 : decode cM_change 137 = .ok (.invokevirtual 84, 3) := by decide +kernel
theorem dM_change_140 : decode cM_change 140 = .ok (.iconst 0, 1) := by decide +kernel
theorem dM_change_141 : decode cM_change 141 = .ok (.istore 5, 2) := by decide +kernel
theorem dM_change_143 : decode cM_change 143 = .ok (.goto 17, 3) := by decide +kernel
theorem dM_change_146 : decode cM_change 146 = .ok (.aload_n 0, 1) := by decide +kernel
theorem dM_change_147 : decode cM_change 147 = .ok (.getfield 32, 3) := by decide +kernel
theorem dM_change_150 : decode cM_change 150 = .ok (.iload 4, 2) := by decide +kernel
theorem dM_change_152 : decode cM_change 152 = .ok (.iload_n 2, 1) := by decide +kernel
theorem dM_change_153 : decode cM_change 153 = .ok (.iastore, 1) := by decide +kernel
theorem dM_change_154 : decode cM_change 154 = .ok (.aload_n 0, 1) := by decide +kernel
theorem dM_change_155 : decode cM_change 155 = .ok (.iload 6, 2) := by decide +kernel
theorem dM_change_157 : decode cM_change 157 = .ok (.invokevirtual 84, 3) := by decide +kernel
theorem dM_change_160 : decode cM_change 160 = .ok (.iload 4, 2) := by decide +kernel
theorem dM_change_162 : decode cM_change 162 = .ok (.iload 5, 2) := by decide +kernel
theorem dM_change_164 : decode cM_change 164 = .ok (.ifCond .eq 7, 3) := by decide +kernel
theorem dM_change_167 : decode cM_change 167 = .ok (.iconst 1, 1) := by decide +kernel
theorem dM_change_168 : decode cM_change 168 = .ok (.goto 4, 3) := by decide +kernel
theorem dM_change_171 : decode cM_change 171 = .ok (.iconst 0, 1) := by decide +kernel
theorem dM_change_172 : decode cM_change 172 = .ok (.iadd, 1) := by decide +kernel
theorem dM_change_173 : decode cM_change 173 = .ok (.istore 4, 2) := by decide +kernel
theorem dM_change_175 : decode cM_change 175 = .ok (.goto (-134), 3) := by decide +kernel
theorem dM_change_178 : decode cM_change 178 = .ok (.iload_n 3, 1) := by decide +kernel
theorem dM_change_179 : decode cM_change 179 = .ok (.ireturn, 1) := by decide +kernel
theorem dM_drop_0 : decode cM_drop 0 = .ok (.aload_n 0, 1) := by decide +kernel
theorem dM_drop_1 : decode cM_drop 1 = .ok (.dup, 1) := by decide +kernel
theorem dM_drop_2 : decode cM_drop 2 = .ok (.getfield 48, 3) := by decide +kernel
theorem dM_drop_5 : decode cM_drop 5 = .ok (.iconst 1, 1) := by decide +kernel
theorem dM_drop_6 : decode cM_drop 6 = .ok (.isub, 1) := by decide +kernel
theorem dM_drop_7 : decode cM_drop 7 = .ok (.putfield 48, 3) := by decide +kernel
theorem dM_drop_10 : decode cM_drop 10 = .ok (.iload_n 1, 1) := by decide +kernel
theorem dM_drop_11 : decode cM_drop 11 = .ok (.istore_n 2, 1) := by decide +kernel
theorem dM_drop_12 : decode cM_drop 12 = .ok (.iload_n 2, 1) := by decide +kernel
theorem dM_drop_13 : decode cM_drop 13 = .ok (.aload_n 0, 1) := by decide +kernel
theorem dM_drop_14 : decode cM_drop 14 = .ok (.getfield 48, 3) := by decide +kernel
theorem dM_drop_17 : decode cM_drop 17 = .ok (.if_icmp .ge 51, 3) := by decide +kernel
theorem dM_drop_20 : decode cM_drop 20 = .ok (.aload_n 0, 1) := by decide +kernel
theorem dM_drop_21 : decode cM_drop 21 = .ok (.getfield 26, 3) := by decide +kernel
theorem dM_drop_24 : decode cM_drop 24 = .ok (.iload_n 2, 1) := by decide +kernel
theorem dM_drop_25 : decode cM_drop 25 = .ok (.aload_n 0, 1) := by decide +kernel
theorem dM_drop_26 : decode cM_drop 26 = .ok (.getfield 26, 3) := by decide +kernel
theorem dM_drop_29 : decode cM_drop 29 = .ok (.iload_n 2, 1) := by decide +kernel
theorem dM_drop_30 : decode cM_drop 30 = .ok (.iconst 1, 1) := by decide +kernel
theorem dM_drop_31 : decode cM_drop 31 = .ok (.iadd, 1) := by decide +kernel
theorem dM_drop_32 : decode cM_drop 32 = .ok (.iaload, 1) := by decide +kernel
theorem dM_drop_33 : decode cM_drop 33 = .ok (.iastore, 1) := by decide +kernel
theorem dM_drop_34 : decode cM_drop 34 = .ok (.aload_n 0, 1) := by decide +kernel
theorem dM_drop_35 : decode cM_drop 35 = .ok (.getfield 29, 3) := by decide +kernel
theorem dM_drop_38 : decode cM_drop 38 = .ok (.iload_n 2, 1) := by decide +kernel
theorem dM_drop_39 : decode cM_drop 39 = .ok (.aload_n 0, 1) := by decide +kernel
theorem dM_drop_40 : decode cM_drop 40 = .ok (.getfield 29, 3) := by decide +kernel
theorem dM_drop_43 : decode cM_drop 43 = .ok (.iload_n 2, 1) := by decide +kernel
theorem dM_drop_44 : decode cM_drop 44 = .ok (.iconst 1, 1) := by decide +kernel
theorem dM_drop_45 : decode cM_drop 45 = .ok (.iadd, 1) := by decide +kernel
theorem dM_drop_46 : decode cM_drop 46 = .ok (.iaload, 1) := by decide +kernel
theorem dM_drop_47 : decode cM_drop 47 = .ok (.iastore, 1) := by decide +kernel
theorem dM_drop_48 : decode cM_drop 48 = .ok (.aload_n 0, 1) := by decide +kernel
theorem dM_drop_49 : decode cM_drop 49 = .ok (.getfield 32, 3) := by decide +kernel
theorem dM_drop_52 : decode cM_drop 52 = .ok (.iload_n 2, 1) := by decide +kernel
theorem dM_drop_53 : decode cM_drop 53 = .ok (.aload_n 0, 1) := by decide +kernel
theorem dM_drop_54 : decode cM_drop 54 = .ok (.getfield 32, 3) := by decide +kernel
theorem dM_drop_57 : decode cM_drop 57 = .ok (.iload_n 2, 1) := by decide +kernel
theorem dM_drop_58 : decode cM_drop 58 = .ok (.iconst 1, 1) := by decide +kernel
theorem dM_drop_59 : decode cM_drop 59 = .ok (.iadd, 1) := by decide +kernel
theorem dM_drop_60 : decode cM_drop 60 = .ok (.iaload, 1) := by decide +kernel
theorem dM_drop_61 : decode cM_drop 61 = .ok (.iastore, 1) := by decide +kernel
theorem dM_drop_62 : decode cM_drop 62 = .ok (.iinc 2 1, 3) := by decide +kernel
theorem dM_drop_65 : decode cM_drop 65 = .ok (.goto (-53), 3) := by decide +kernel
theorem dM_drop_68 : decode cM_drop 68 = .ok (.return_, 1) := by decide +kernel
theorem dM_broken_0 : decode cM_broken 0 = .ok (.aload_n 0, 1) := by decide +kernel
theorem dM_broken_1 : decode cM_broken 1 = .ok (.iconst 0, 1) := by decide +kernel
theorem dM_broken_2 : decode cM_broken 2 = .ok (.putfield 38, 3) := by decide +kernel
theorem dM_broken_5 : decode cM_broken 5 = .ok (.aload_n 0, 1) := by decide +kernel
theorem dM_broken_6 : decode cM_broken 6 = .ok (.iload_n 1, 1) := by decide +kernel
theorem dM_broken_7 : decode cM_broken 7 = .ok (.invokevirtual 90, 3) := by decide +kernel
theorem dM_broken_10 : decode cM_broken 10 = .ok (.istore_n 3, 1) := by decide +kernel
theorem dM_broken_11 : decode cM_broken 11 = .ok (.iload_n 3, 1) := by decide +kernel
theorem dM_broken_12 : decode cM_broken 12 = .ok (.iconst (-1), 1) := by decide +kernel
theorem dM_broken_13 : decode cM_broken 13 = .ok (.if_icmp .ne 7, 3) := by decide +kernel
theorem dM_broken_16 : decode cM_broken 16 = .ok (.iconst (-1), 1) := by decide +kernel
theorem dM_broken_17 : decode cM_broken 17 = .ok (.goto 45, 3) := by decide +kernel
theorem dM_broken_20 : decode cM_broken 20 = .ok (.iload_n 2, 1) := by decide +kernel
theorem dM_broken_21 : decode cM_broken 21 = .ok (.ifCond .ne 12, 3) := by decide +kernel
theorem dM_broken_24 : decode cM_broken 24 = .ok (.aload_n 0, 1) := by decide +kernel
theorem dM_broken_25 : decode cM_broken 25 = .ok (.getfield 26, 3) := by decide +kernel
theorem dM_broken_28 : decode cM_broken 28 = .ok (.iload_n 3, 1) := by decide +kernel
theorem dM_broken_29 : decode cM_broken 29 = .ok (.iaload, 1) := by decide +kernel
theorem dM_broken_30 : decode cM_broken 30 = .ok (.goto 32, 3) := by decide +kernel
theorem dM_broken_33 : decode cM_broken 33 = .ok (.iload_n 2, 1) := by decide +kernel
theorem dM_broken_34 : decode cM_broken 34 = .ok (.iconst 1, 1) := by decide +kernel
theorem dM_broken_35 : decode cM_broken 35 = .ok (.if_icmp .ne 12, 3) := by decide +kernel
theorem dM_broken_38 : decode cM_broken 38 = .ok (.aload_n 0, 1) := by decide +kernel
theorem dM_broken_39 : decode cM_broken 39 = .ok (.getfield 29, 3) := by decide +kernel
theorem dM_broken_42 : decode cM_broken 42 = .ok (.iload_n 3, 1) := by decide +kernel
theorem dM_broken_43 : decode cM_broken 43 = .ok (.iaload, 1) := by decide +kernel
theorem dM_broken_44 : decode cM_broken 44 = .ok (.goto 18, 3) := by decide +kernel
theorem dM_broken_47 : decode cM_broken 47 = .ok (.iload_n 2, 1) := by decide +kernel
theorem dM_broken_48 : decode cM_broken 48 = .ok (.iconst 2, 1) := by decide +kernel
theorem dM_broken_49 : decode cM_broken 49 = .ok (.if_icmp .ne 12, 3) := by decide +kernel
theorem dM_broken_52 : decode cM_broken 52 = .ok (.aload_n 0, 1) := by decide +kernel
theorem dM_broken_53 : decode cM_broken 53 = .ok (.getfield 32, 3) := by decide +kernel
theorem dM_broken_56 : decode cM_broken 56 = .ok (.iload_n 3, 1) := by decide +kernel
theorem dM_broken_57 : decode cM_broken 57 = .ok (.iaload, 1) := by decide +kernel
theorem dM_broken_58 : decode cM_broken 58 = .ok (.goto 4, 3) := by decide +kernel
theorem dM_broken_61 : decode cM_broken 61 = .ok (.iconst (-1), 1) := by decide +kernel
theorem dM_broken_62 : decode cM_broken 62 = .ok (.ireturn, 1) := by decide +kernel
theorem dM_brokenAt_0 : decode cM_brokenAt 0 = .ok (.iconst 0, 1) := by decide +kernel
theorem dM_brokenAt_1 : decode cM_brokenAt 1 = .ok (.istore_n 2, 1) := by decide +kernel
theorem dM_brokenAt_2 : decode cM_brokenAt 2 = .ok (.iconst 0, 1) := by decide +kernel
theorem dM_brokenAt_3 : decode cM_brokenAt 3 = .ok (.istore_n 3, 1) := by decide +kernel
theorem dM_brokenAt_4 : decode cM_brokenAt 4 = .ok (.iload_n 3, 1) := by decide +kernel
theorem dM_brokenAt_5 : decode cM_brokenAt 5 = .ok (.aload_n 0, 1) := by decide +kernel
theorem dM_brokenAt_6 : decode cM_brokenAt 6 = .ok (.getfield 48, 3) := by decide +kernel
theorem dM_brokenAt_9 : decode cM_brokenAt 9 = .ok (.if_icmp .ge 31, 3) := by decide +kernel
theorem dM_brokenAt_12 : decode cM_brokenAt 12 = .ok (.iload_n 1, 1) := by decide +kernel
theorem dM_brokenAt_13 : decode cM_brokenAt 13 = .ok (.ifCond .lt 27, 3) := by decide +kernel
theorem dM_brokenAt_16 : decode cM_brokenAt 16 = .ok (.aload_n 0, 1) := by decide +kernel
theorem dM_brokenAt_17 : decode cM_brokenAt 17 = .ok (.iload_n 3, 1) := by decide +kernel
theorem dM_brokenAt_18 : decode cM_brokenAt 18 = .ok (.invokevirtual 87, 3) := by decide +kernel
theorem dM_brokenAt_21 : decode cM_brokenAt 21 = .ok (.ifCond .eq 13, 3) := by decide +kernel
theorem dM_brokenAt_24 : decode cM_brokenAt 24 = .ok (.iload_n 2, 1) := by decide +kernel
theorem dM_brokenAt_25 : decode cM_brokenAt 25 = .ok (.iload_n 1, 1) := by decide +kernel
theorem dM_brokenAt_26 : decode cM_brokenAt 26 = .ok (.if_icmp .ne 5, 3) := by decide +kernel
theorem dM_brokenAt_29 : decode cM_brokenAt 29 = .ok (.iload_n 3, 1) := by decide +kernel
theorem dM_brokenAt_30 : decode cM_brokenAt 30 = .ok (.ireturn, 1) := by decide +kernel
theorem dM_brokenAt_31 : decode cM_brokenAt 31 = .ok (.iinc 2 1, 3) := by decide +kernel
theorem dM_brokenAt_34 : decode cM_brokenAt 34 = .ok (.iinc 3 1, 3) := by decide +kernel
theorem dM_brokenAt_37 : decode cM_brokenAt 37 = .ok (.goto (-33), 3) := by decide +kernel
theorem dM_brokenAt_40 : decode cM_brokenAt 40 = .ok (.iconst (-1), 1) := by decide +kernel
theorem dM_brokenAt_41 : decode cM_brokenAt 41 = .ok (.ireturn, 1) := by decide +kernel
theorem dM_isBroken_0 : decode cM_isBroken 0 = .ok (.aload_n 0, 1) := by decide +kernel
theorem dM_isBroken_1 : decode cM_isBroken 1 = .ok (.getfield 29, 3) := by decide +kernel
theorem dM_isBroken_4 : decode cM_isBroken 4 = .ok (.iload_n 1, 1) := by decide +kernel
theorem dM_isBroken_5 : decode cM_isBroken 5 = .ok (.iaload, 1) := by decide +kernel
theorem dM_isBroken_6 : decode cM_isBroken 6 = .ok (.iconst 4, 1) := by decide +kernel
theorem dM_isBroken_7 : decode cM_isBroken 7 = .ok (.if_icmp .ge 21, 3) := by decide +kernel
theorem dM_isBroken_10 : decode cM_isBroken 10 = .ok (.aload_n 0, 1) := by decide +kernel
theorem dM_isBroken_11 : decode cM_isBroken 11 = .ok (.getfield 7, 3) := by decide +kernel
theorem dM_isBroken_14 : decode cM_isBroken 14 = .ok (.aload_n 0, 1) := by decide +kernel
theorem dM_isBroken_15 : decode cM_isBroken 15 = .ok (.getfield 32, 3) := by decide +kernel
theorem dM_isBroken_18 : decode cM_isBroken 18 = .ok (.iload_n 1, 1) := by decide +kernel
theorem dM_isBroken_19 : decode cM_isBroken 19 = .ok (.iaload, 1) := by decide +kernel
theorem dM_isBroken_20 : decode cM_isBroken 20 = .ok (.baload, 1) := by decide +kernel
theorem dM_isBroken_21 : decode cM_isBroken 21 = .ok (.ifCond .ne 7, 3) := by decide +kernel
theorem dM_isBroken_24 : decode cM_isBroken 24 = .ok (.iconst 1, 1) := by decide +kernel
theorem dM_isBroken_25 : decode cM_isBroken 25 = .ok (.goto 4, 3) := by decide +kernel
theorem dM_isBroken_28 : decode cM_isBroken 28 = .ok (.iconst 0, 1) := by decide +kernel
theorem dM_isBroken_29 : decode cM_isBroken 29 = .ok (.ireturn, 1) := by decide +kernel
theorem dM_repair_0 : decode cM_repair 0 = .ok (.aload_n 0, 1) := by decide +kernel
theorem dM_repair_1 : decode cM_repair 1 = .ok (.iconst 0, 1) := by decide +kernel
theorem dM_repair_2 : decode cM_repair 2 = .ok (.putfield 38, 3) := by decide +kernel
theorem dM_repair_5 : decode cM_repair 5 = .ok (.aload_n 0, 1) := by decide +kernel
theorem dM_repair_6 : decode cM_repair 6 = .ok (.dup, 1) := by decide +kernel
theorem dM_repair_7 : decode cM_repair 7 = .ok (.getfield 45, 3) := by decide +kernel
theorem dM_repair_10 : decode cM_repair 10 = .ok (.iconst 1, 1) := by decide +kernel
theorem dM_repair_11 : decode cM_repair 11 = .ok (.iadd, 1) := by decide +kernel
theorem dM_repair_12 : decode cM_repair 12 = .ok (.putfield 45, 3) := by decide +kernel
theorem dM_repair_15 : decode cM_repair 15 = .ok (.aload_n 0, 1) := by decide +kernel
theorem dM_repair_16 : decode cM_repair 16 = .ok (.iload_n 1, 1) := by decide +kernel
theorem dM_repair_17 : decode cM_repair 17 = .ok (.invokevirtual 90, 3) := by decide +kernel
theorem dM_repair_20 : decode cM_repair 20 = .ok (.istore_n 2, 1) := by decide +kernel
theorem dM_repair_21 : decode cM_repair 21 = .ok (.iload_n 2, 1) := by decide +kernel
theorem dM_repair_22 : decode cM_repair 22 = .ok (.iconst (-1), 1) := by decide +kernel
theorem dM_repair_23 : decode cM_repair 23 = .ok (.if_icmp .ne 5, 3) := by decide +kernel
theorem dM_repair_26 : decode cM_repair 26 = .ok (.iconst (-1), 1) := by decide +kernel
theorem dM_repair_27 : decode cM_repair 27 = .ok (.ireturn, 1) := by decide +kernel
theorem dM_repair_28 : decode cM_repair 28 = .ok (.aload_n 0, 1) := by decide +kernel
theorem dM_repair_29 : decode cM_repair 29 = .ok (.aload_n 0, 1) := by decide +kernel
theorem dM_repair_30 : decode cM_repair 30 = .ok (.getfield 26, 3) := by decide +kernel
theorem dM_repair_33 : decode cM_repair 33 = .ok (.iload_n 2, 1) := by decide +kernel
theorem dM_repair_34 : decode cM_repair 34 = .ok (.iaload, 1) := by decide +kernel
theorem dM_repair_35 : decode cM_repair 35 = .ok (.invokevirtual 80, 3) := by decide +kernel
theorem dM_repair_38 : decode cM_repair 38 = .ok (.aload_n 0, 1) := by decide +kernel
theorem dM_repair_39 : decode cM_repair 39 = .ok (.getfield 17, 3) := by decide +kernel
theorem dM_repair_42 : decode cM_repair 42 = .ok (.aload_n 0, 1) := by decide +kernel
theorem dM_repair_43 : decode cM_repair 43 = .ok (.getfield 32, 3) := by decide +kernel
theorem dM_repair_46 : decode cM_repair 46 = .ok (.iload_n 2, 1) := by decide +kernel
theorem dM_repair_47 : decode cM_repair 47 = .ok (.iaload, 1) := by decide +kernel
theorem dM_repair_48 : decode cM_repair 48 = .ok (.iaload, 1) := by decide +kernel
theorem dM_repair_49 : decode cM_repair 49 = .ok (.istore_n 3, 1) := by decide +kernel
theorem dM_repair_50 : decode cM_repair 50 = .ok (.aload_n 0, 1) := by decide +kernel
theorem dM_repair_51 : decode cM_repair 51 = .ok (.iload_n 3, 1) := by decide +kernel
theorem dM_repair_52 : decode cM_repair 52 = .ok (.invokevirtual 55, 3) := by decide +kernel
theorem dM_repair_55 : decode cM_repair 55 = .ok (.ifCond .eq 43, 3) := by decide +kernel
theorem dM_repair_58 : decode cM_repair 58 = .ok (.iload_n 3, 1) := by decide +kernel
theorem dM_repair_59 : decode cM_repair 59 = .ok (.aload_n 0, 1) := by decide +kernel
theorem dM_repair_60 : decode cM_repair 60 = .ok (.getfield 26, 3) := by decide +kernel
theorem dM_repair_63 : decode cM_repair 63 = .ok (.iload_n 2, 1) := by decide +kernel
theorem dM_repair_64 : decode cM_repair 64 = .ok (.iaload, 1) := by decide +kernel
theorem dM_repair_65 : decode cM_repair 65 = .ok (.if_icmp .eq 33, 3) := by decide +kernel
theorem dM_repair_68 : decode cM_repair 68 = .ok (.aload_n 0, 1) := by decide +kernel
theorem dM_repair_69 : decode cM_repair 69 = .ok (.aload_n 0, 1) := by decide +kernel
theorem dM_repair_70 : decode cM_repair 70 = .ok (.getfield 26, 3) := by decide +kernel
theorem dM_repair_73 : decode cM_repair 73 = .ok (.iload_n 2, 1) := by decide +kernel
theorem dM_repair_74 : decode cM_repair 74 = .ok (.iaload, 1) := by decide +kernel
theorem dM_repair_75 : decode cM_repair 75 = .ok (.aload_n 0, 1) := by decide +kernel
theorem dM_repair_76 : decode cM_repair 76 = .ok (.getfield 29, 3) := by decide +kernel
theorem dM_repair_79 : decode cM_repair 79 = .ok (.iload_n 2, 1) := by decide +kernel
theorem dM_repair_80 : decode cM_repair 80 = .ok (.iaload, 1) := by decide +kernel
theorem dM_repair_81 : decode cM_repair 81 = .ok (.iload_n 3, 1) := by decide +kernel
theorem dM_repair_82 : decode cM_repair 82 = .ok (.invokevirtual 69, 3) := by decide +kernel
theorem dM_repair_85 : decode cM_repair 85 = .ok (.iconst (-1), 1) := by decide +kernel
theorem dM_repair_86 : decode cM_repair 86 = .ok (.if_icmp .ne 12, 3) := by decide +kernel
theorem dM_repair_89 : decode cM_repair 89 = .ok (.aload_n 0, 1) := by decide +kernel
theorem dM_repair_90 : decode cM_repair 90 = .ok (.getfield 32, 3) := by decide +kernel
theorem dM_repair_93 : decode cM_repair 93 = .ok (.iload_n 2, 1) := by decide +kernel
theorem dM_repair_94 : decode cM_repair 94 = .ok (.iload_n 3, 1) := by decide +kernel
theorem dM_repair_95 : decode cM_repair 95 = .ok (.iastore, 1) := by decide +kernel
theorem dM_repair_96 : decode cM_repair 96 = .ok (.iconst 1, 1) := by decide +kernel
theorem dM_repair_97 : decode cM_repair 97 = .ok (.ireturn, 1) := by decide +kernel
theorem dM_repair_98 : decode cM_repair 98 = .ok (.aload_n 0, 1) := by decide +kernel
theorem dM_repair_99 : decode cM_repair 99 = .ok (.iload_n 2, 1) := by decide +kernel
theorem dM_repair_100 : decode cM_repair 100 = .ok (.invokevirtual 84, 3) := by decide +kernel
theorem dM_repair_103 : decode cM_repair 103 = .ok (.iconst 0, 1) := by decide +kernel
theorem dM_repair_104 : decode cM_repair 104 = .ok (.ireturn, 1) := by decide +kernel
theorem dM_chain_0 : decode cM_chain 0 = .ok (.aload_n 0, 1) := by decide +kernel
theorem dM_chain_1 : decode cM_chain 1 = .ok (.iconst 0, 1) := by decide +kernel
theorem dM_chain_2 : decode cM_chain 2 = .ok (.putfield 38, 3) := by decide +kernel
theorem dM_chain_5 : decode cM_chain 5 = .ok (.aload_n 0, 1) := by decide +kernel
theorem dM_chain_6 : decode cM_chain 6 = .ok (.iload_n 1, 1) := by decide +kernel
theorem dM_chain_7 : decode cM_chain 7 = .ok (.invokevirtual 55, 3) := by decide +kernel
theorem dM_chain_10 : decode cM_chain 10 = .ok (.ifCond .eq 7, 3) := by decide +kernel
theorem dM_chain_13 : decode cM_chain 13 = .ok (.iload_n 2, 1) := by decide +kernel
theorem dM_chain_14 : decode cM_chain 14 = .ok (.ifCond .ge 5, 3) := by decide +kernel
theorem dM_chain_17 : decode cM_chain 17 = .ok (.iconst 0, 1) := by decide +kernel
theorem dM_chain_18 : decode cM_chain 18 = .ok (.ireturn, 1) := by decide +kernel
theorem dM_chain_19 : decode cM_chain 19 = .ok (.aload_n 0, 1) := by decide +kernel
theorem dM_chain_20 : decode cM_chain 20 = .ok (.iload_n 1, 1) := by decide +kernel
theorem dM_chain_21 : decode cM_chain 21 = .ok (.invokevirtual 51, 3) := by decide +kernel
theorem dM_chain_24 : decode cM_chain 24 = .ok (.istore_n 3, 1) := by decide +kernel
theorem dM_chain_25 : decode cM_chain 25 = .ok (.iconst 0, 1) := by decide +kernel
theorem dM_chain_26 : decode cM_chain 26 = .ok (.istore 4, 2) := by decide +kernel
theorem dM_chain_28 : decode cM_chain 28 = .ok (.iload 4, 2) := by decide +kernel
theorem dM_chain_30 : decode cM_chain 30 = .ok (.iload_n 2, 1) := by decide +kernel
theorem dM_chain_31 : decode cM_chain 31 = .ok (.if_icmp .ge 19, 3) := by decide +kernel
theorem dM_chain_34 : decode cM_chain 34 = .ok (.iload_n 3, 1) := by decide +kernel
theorem dM_chain_35 : decode cM_chain 35 = .ok (.ifCond .eq 15, 3) := by decide +kernel
theorem dM_chain_38 : decode cM_chain 38 = .ok (.aload_n 0, 1) := by decide +kernel
theorem dM_chain_39 : decode cM_chain 39 = .ok (.iload_n 3, 1) := by decide +kernel
theorem dM_chain_40 : decode cM_chain 40 = .ok (.invokevirtual 51, 3) := by decide +kernel
theorem dM_chain_43 : decode cM_chain 43 = .ok (.istore_n 3, 1) := by decide +kernel
theorem dM_chain_44 : decode cM_chain 44 = .ok (.iinc 4 1, 3) := by decide +kernel
theorem dM_chain_47 : decode cM_chain 47 = .ok (.goto (-19), 3) := by decide +kernel
theorem dM_chain_50 : decode cM_chain 50 = .ok (.iload_n 3, 1) := by decide +kernel
theorem dM_chain_51 : decode cM_chain 51 = .ok (.ireturn, 1) := by decide +kernel
theorem dM_ring_0 : decode cM_ring 0 = .ok (.aload_n 0, 1) := by decide +kernel
theorem dM_ring_1 : decode cM_ring 1 = .ok (.iconst 0, 1) := by decide +kernel
theorem dM_ring_2 : decode cM_ring 2 = .ok (.putfield 38, 3) := by decide +kernel
theorem dM_ring_5 : decode cM_ring 5 = .ok (.iload_n 1, 1) := by decide +kernel
theorem dM_ring_6 : decode cM_ring 6 = .ok (.ifCond .lt 11, 3) := by decide +kernel
theorem dM_ring_9 : decode cM_ring 9 = .ok (.iload_n 1, 1) := by decide +kernel
theorem dM_ring_10 : decode cM_ring 10 = .ok (.aload_n 0, 1) := by decide +kernel
theorem dM_ring_11 : decode cM_ring 11 = .ok (.getfield 77, 3) := by decide +kernel
theorem dM_ring_14 : decode cM_ring 14 = .ok (.if_icmp .lt 7, 3) := by decide +kernel
theorem dM_ring_17 : decode cM_ring 17 = .ok (.iconst 0, 1) := by decide +kernel
theorem dM_ring_18 : decode cM_ring 18 = .ok (.goto 9, 3) := by decide +kernel
theorem dM_ring_21 : decode cM_ring 21 = .ok (.aload_n 0, 1) := by decide +kernel
theorem dM_ring_22 : decode cM_ring 22 = .ok (.getfield 35, 3) := by decide +kernel
theorem dM_ring_25 : decode cM_ring 25 = .ok (.iload_n 1, 1) := by decide +kernel
theorem dM_ring_26 : decode cM_ring 26 = .ok (.iaload, 1) := by decide +kernel
theorem dM_ring_27 : decode cM_ring 27 = .ok (.ireturn, 1) := by decide +kernel
theorem dM_host_0 : decode cM_host 0 = .ok (.aload_n 0, 1) := by decide +kernel
theorem dM_host_1 : decode cM_host 1 = .ok (.iconst 0, 1) := by decide +kernel
theorem dM_host_2 : decode cM_host 2 = .ok (.putfield 38, 3) := by decide +kernel
theorem dM_host_5 : decode cM_host 5 = .ok (.aload_n 0, 1) := by decide +kernel
theorem dM_host_6 : decode cM_host 6 = .ok (.iload_n 1, 1) := by decide +kernel
theorem dM_host_7 : decode cM_host 7 = .ok (.invokevirtual 55, 3) := by decide +kernel
theorem dM_host_10 : decode cM_host 10 = .ok (.ifCond .eq 11, 3) := by decide +kernel
theorem dM_host_13 : decode cM_host 13 = .ok (.aload_n 0, 1) := by decide +kernel
theorem dM_host_14 : decode cM_host 14 = .ok (.iload_n 1, 1) := by decide +kernel
theorem dM_host_15 : decode cM_host 15 = .ok (.invokevirtual 51, 3) := by decide +kernel
theorem dM_host_18 : decode cM_host 18 = .ok (.goto 4, 3) := by decide +kernel
theorem dM_host_21 : decode cM_host 21 = .ok (.iconst 0, 1) := by decide +kernel
theorem dM_host_22 : decode cM_host 22 = .ok (.ireturn, 1) := by decide +kernel
theorem dM_move_0 : decode cM_move 0 = .ok (.aload_n 0, 1) := by decide +kernel
theorem dM_move_1 : decode cM_move 1 = .ok (.iconst 0, 1) := by decide +kernel
theorem dM_move_2 : decode cM_move 2 = .ok (.putfield 38, 3) := by decide +kernel
theorem dM_move_5 : decode cM_move 5 = .ok (.aload_n 0, 1) := by decide +kernel
theorem dM_move_6 : decode cM_move 6 = .ok (.dup, 1) := by decide +kernel
theorem dM_move_7 : decode cM_move 7 = .ok (.getfield 45, 3) := by decide +kernel
theorem dM_move_10 : decode cM_move 10 = .ok (.iconst 1, 1) := by decide +kernel
theorem dM_move_11 : decode cM_move 11 = .ok (.iadd, 1) := by decide +kernel
theorem dM_move_12 : decode cM_move 12 = .ok (.putfield 45, 3) := by decide +kernel
theorem dM_move_15 : decode cM_move 15 = .ok (.aload_n 0, 1) := by decide +kernel
theorem dM_move_16 : decode cM_move 16 = .ok (.iload_n 1, 1) := by decide +kernel
theorem dM_move_17 : decode cM_move 17 = .ok (.invokevirtual 55, 3) := by decide +kernel
theorem dM_move_20 : decode cM_move 20 = .ok (.ifCond .eq 13, 3) := by decide +kernel
theorem dM_move_23 : decode cM_move 23 = .ok (.iload_n 2, 1) := by decide +kernel
theorem dM_move_24 : decode cM_move 24 = .ok (.ifCond .lt 9, 3) := by decide +kernel
theorem dM_move_27 : decode cM_move 27 = .ok (.iload_n 2, 1) := by decide +kernel
theorem dM_move_28 : decode cM_move 28 = .ok (.bipush 9, 2) := by decide +kernel
theorem dM_move_30 : decode cM_move 30 = .ok (.if_icmp .le 5, 3) := by decide +kernel
theorem dM_move_33 : decode cM_move 33 = .ok (.iconst 0, 1) := by decide +kernel
theorem dM_move_34 : decode cM_move 34 = .ok (.ireturn, 1) := by decide +kernel
theorem dM_move_35 : decode cM_move 35 = .ok (.iconst 0, 1) := by decide +kernel
theorem dM_move_36 : decode cM_move 36 = .ok (.istore_n 3, 1) := by decide +kernel
theorem dM_move_37 : decode cM_move 37 = .ok (.iconst 1, 1) := by decide +kernel
theorem dM_move_38 : decode cM_move 38 = .ok (.istore 4, 2) := by decide +kernel
theorem dM_move_40 : decode cM_move 40 = .ok (.iload 4, 2) := by decide +kernel
theorem dM_move_42 : decode cM_move 42 = .ok (.aload_n 0, 1) := by decide +kernel
theorem dM_move_43 : decode cM_move 43 = .ok (.getfield 42, 3) := by decide +kernel
theorem dM_move_46 : decode cM_move 46 = .ok (.if_icmp .gt 56, 3) := by decide +kernel
theorem dM_move_49 : decode cM_move 49 = .ok (.aload_n 0, 1) := by decide +kernel
theorem dM_move_50 : decode cM_move 50 = .ok (.getfield 7, 3) := by decide +kernel
theorem dM_move_53 : decode cM_move 53 = .ok (.iload 4, 2) := by decide +kernel
theorem dM_move_55 : decode cM_move 55 = .ok (.baload, 1) := by decide +kernel
theorem dM_move_56 : decode cM_move 56 = .ok (.ifCond .eq 40, 3) := by decide +kernel
theorem dM_move_59 : decode cM_move 59 = .ok (.aload_n 0, 1) := by decide +kernel
theorem dM_move_60 : decode cM_move 60 = .ok (.iload 4, 2) := by decide +kernel
theorem dM_move_62 : decode cM_move 62 = .ok (.iload_n 1, 1) := by decide +kernel
theorem dM_move_63 : decode cM_move 63 = .ok (.invokevirtual 73, 3) := by decide +kernel
theorem dM_move_66 : decode cM_move 66 = .ok (.ifCond .eq 30, 3) := by decide +kernel
theorem dM_move_69 : decode cM_move 69 = .ok (.iload_n 3, 1) := by decide +kernel
theorem dM_move_70 : decode cM_move 70 = .ok (.aload_n 0, 1) := by decide +kernel
theorem dM_move_71 : decode cM_move 71 = .ok (.getfield 13, 3) := by decide +kernel
theorem dM_move_74 : decode cM_move 74 = .ok (.iload 4, 2) := by decide +kernel
theorem dM_move_76 : decode cM_move 76 = .ok (.iaload, 1) := by decide +kernel
theorem dM_move_77 : decode cM_move 77 = .ok (.iload_n 2, 1) := by decide +kernel
theorem dM_move_78 : decode cM_move 78 = .ok (.if_icmp .eq 7, 3) := by decide +kernel
theorem dM_move_81 : decode cM_move 81 = .ok (.iconst 1, 1) := by decide +kernel
theorem dM_move_82 : decode cM_move 82 = .ok (.goto 4, 3) := by decide +kernel
theorem dM_move_85 : decode cM_move 85 = .ok (.iconst 0, 1) := by decide +kernel
theorem dM_move_86 : decode cM_move 86 = .ok (.iadd, 1) := by decide +kernel
theorem dM_move_87 : decode cM_move 87 = .ok (.istore_n 3, 1) := by decide +kernel
theorem dM_move_88 : decode cM_move 88 = .ok (.aload_n 0, 1) := by decide +kernel
theorem dM_move_89 : decode cM_move 89 = .ok (.getfield 13, 3) := by decide +kernel
theorem dM_move_92 : decode cM_move 92 = .ok (.iload 4, 2) := by decide +kernel
theorem dM_move_94 : decode cM_move 94 = .ok (.iload_n 2, 1) := by decide +kernel
theorem dM_move_95 : decode cM_move 95 = .ok (.iastore, 1) := by decide +kernel
theorem dM_move_96 : decode cM_move 96 = .ok (.iinc 4 1, 3) := by decide +kernel
theorem dM_move_99 : decode cM_move 99 = .ok (.goto (-59), 3) := by decide +kernel
theorem dM_move_102 : decode cM_move 102 = .ok (.iload_n 3, 1) := by decide +kernel
theorem dM_move_103 : decode cM_move 103 = .ok (.ireturn, 1) := by decide +kernel
theorem dM_delete_0 : decode cM_delete 0 = .ok (.aload_n 0, 1) := by decide +kernel
theorem dM_delete_1 : decode cM_delete 1 = .ok (.iconst 0, 1) := by decide +kernel
theorem dM_delete_2 : decode cM_delete 2 = .ok (.putfield 38, 3) := by decide +kernel
theorem dM_delete_5 : decode cM_delete 5 = .ok (.aload_n 0, 1) := by decide +kernel
theorem dM_delete_6 : decode cM_delete 6 = .ok (.dup, 1) := by decide +kernel
theorem dM_delete_7 : decode cM_delete 7 = .ok (.getfield 45, 3) := by decide +kernel
theorem dM_delete_10 : decode cM_delete 10 = .ok (.iconst 1, 1) := by decide +kernel
theorem dM_delete_11 : decode cM_delete 11 = .ok (.iadd, 1) := by decide +kernel
theorem dM_delete_12 : decode cM_delete 12 = .ok (.putfield 45, 3) := by decide +kernel
theorem dM_delete_15 : decode cM_delete 15 = .ok (.aload_n 0, 1) := by decide +kernel
theorem dM_delete_16 : decode cM_delete 16 = .ok (.iload_n 1, 1) := by decide +kernel
theorem dM_delete_17 : decode cM_delete 17 = .ok (.invokevirtual 55, 3) := by decide +kernel
theorem dM_delete_20 : decode cM_delete 20 = .ok (.ifCond .ne 5, 3) := by decide +kernel
theorem dM_delete_23 : decode cM_delete 23 = .ok (.iconst 0, 1) := by decide +kernel
theorem dM_delete_24 : decode cM_delete 24 = .ok (.ireturn, 1) := by decide +kernel
theorem dM_delete_25 : decode cM_delete 25 = .ok (.iconst 0, 1) := by decide +kernel
theorem dM_delete_26 : decode cM_delete 26 = .ok (.istore_n 2, 1) := by decide +kernel
theorem dM_delete_27 : decode cM_delete 27 = .ok (.iconst 0, 1) := by decide +kernel
theorem dM_delete_28 : decode cM_delete 28 = .ok (.istore_n 3, 1) := by decide +kernel
theorem dM_delete_29 : decode cM_delete 29 = .ok (.iload_n 3, 1) := by decide +kernel
theorem dM_delete_30 : decode cM_delete 30 = .ok (.aload_n 0, 1) := by decide +kernel
theorem dM_delete_31 : decode cM_delete 31 = .ok (.getfield 48, 3) := by decide +kernel
theorem dM_delete_34 : decode cM_delete 34 = .ok (.if_icmp .ge 36, 3) := by decide +kernel
theorem dM_delete_37 : decode cM_delete 37 = .ok (.iload_n 2, 1) := by decide +kernel
theorem dM_delete_38 : decode cM_delete 38 = .ok (.aload_n 0, 1) := by decide +kernel
theorem dM_delete_39 : decode cM_delete 39 = .ok (.getfield 29, 3) := by decide +kernel
theorem dM_delete_42 : decode cM_delete 42 = .ok (.iload_n 3, 1) := by decide +kernel
theorem dM_delete_43 : decode cM_delete 43 = .ok (.iaload, 1) := by decide +kernel
theorem dM_delete_44 : decode cM_delete 44 = .ok (.ifCond .ne 17, 3) := by decide +kernel
theorem dM_delete_47 : decode cM_delete 47 = .ok (.aload_n 0, 1) := by decide +kernel
theorem dM_delete_48 : decode cM_delete 48 = .ok (.getfield 32, 3) := by decide +kernel
theorem dM_delete_51 : decode cM_delete 51 = .ok (.iload_n 3, 1) := by decide +kernel
theorem dM_delete_52 : decode cM_delete 52 = .ok (.iaload, 1) := by decide +kernel
theorem dM_delete_53 : decode cM_delete 53 = .ok (.iload_n 1, 1) := by decide +kernel
theorem dM_delete_54 : decode cM_delete 54 = .ok (.if_icmp .ne 7, 3) := by decide +kernel
theorem dM_delete_57 : decode cM_delete 57 = .ok (.iconst 1, 1) := by decide +kernel
theorem dM_delete_58 : decode cM_delete 58 = .ok (.goto 4, 3) := by decide +kernel
theorem dM_delete_61 : decode cM_delete 61 = .ok (.iconst 0, 1) := by decide +kernel
theorem dM_delete_62 : decode cM_delete 62 = .ok (.iadd, 1) := by decide +kernel
theorem dM_delete_63 : decode cM_delete 63 = .ok (.istore_n 2, 1) := by decide +kernel
theorem dM_delete_64 : decode cM_delete 64 = .ok (.iinc 3 1, 3) := by decide +kernel
theorem dM_delete_67 : decode cM_delete 67 = .ok (.goto (-38), 3) := by decide +kernel
theorem dM_delete_70 : decode cM_delete 70 = .ok (.iload_n 2, 1) := by decide +kernel
theorem dM_delete_71 : decode cM_delete 71 = .ok (.ifCond .le 6, 3) := by decide +kernel
theorem dM_delete_74 : decode cM_delete 74 = .ok (.iload_n 2, 1) := by decide +kernel
theorem dM_delete_75 : decode cM_delete 75 = .ok (.ineg, 1) := by decide +kernel
theorem dM_delete_76 : decode cM_delete 76 = .ok (.ireturn, 1) := by decide +kernel
theorem dM_delete_77 : decode cM_delete 77 = .ok (.aload_n 0, 1) := by decide +kernel
theorem dM_delete_78 : decode cM_delete 78 = .ok (.getfield 17, 3) := by decide +kernel
theorem dM_delete_81 : decode cM_delete 81 = .ok (.iload_n 1, 1) := by decide +kernel
theorem dM_delete_82 : decode cM_delete 82 = .ok (.aload_n 0, 1) := by decide +kernel
theorem dM_delete_83 : decode cM_delete 83 = .ok (.iload_n 1, 1) := by decide +kernel
theorem dM_delete_84 : decode cM_delete 84 = .ok (.invokevirtual 51, 3) := by decide +kernel
theorem dM_delete_87 : decode cM_delete 87 = .ok (.iastore, 1) := by decide +kernel
theorem dM_delete_88 : decode cM_delete 88 = .ok (.aload_n 0, 1) := by decide +kernel
theorem dM_delete_89 : decode cM_delete 89 = .ok (.getfield 7, 3) := by decide +kernel
theorem dM_delete_92 : decode cM_delete 92 = .ok (.iload_n 1, 1) := by decide +kernel
theorem dM_delete_93 : decode cM_delete 93 = .ok (.iconst 0, 1) := by decide +kernel
theorem dM_delete_94 : decode cM_delete 94 = .ok (.bastore, 1) := by decide +kernel
theorem dM_delete_95 : decode cM_delete 95 = .ok (.iconst 0, 1) := by decide +kernel
theorem dM_delete_96 : decode cM_delete 96 = .ok (.istore_n 3, 1) := by decide +kernel
theorem dM_delete_97 : decode cM_delete 97 = .ok (.iload_n 3, 1) := by decide +kernel
theorem dM_delete_98 : decode cM_delete 98 = .ok (.aload_n 0, 1) := by decide +kernel
theorem dM_delete_99 : decode cM_delete 99 = .ok (.getfield 48, 3) := by decide +kernel
theorem dM_delete_102 : decode cM_delete 102 = .ok (.if_icmp .ge 32, 3) := by decide +kernel
theorem dM_delete_105 : decode cM_delete 105 = .ok (.aload_n 0, 1) := by decide +kernel
theorem dM_delete_106 : decode cM_delete 106 = .ok (.getfield 26, 3) := by decide +kernel
theorem dM_delete_109 : decode cM_delete 109 = .ok (.iload_n 3, 1) := by decide +kernel
theorem dM_delete_110 : decode cM_delete 110 = .ok (.iaload, 1) := by decide +kernel
theorem dM_delete_111 : decode cM_delete 111 = .ok (.iload_n 1, 1) := by decide +kernel
theorem dM_delete_112 : decode cM_delete 112 = .ok (.if_icmp .ne 16, 3) := by decide +kernel
theorem dM_delete_115 : decode cM_delete 115 = .ok (.aload_n 0, 1) := by decide +kernel
theorem dM_delete_116 : decode cM_delete 116 = .ok (.iload_n 1, 1) := by decide +kernel
theorem dM_delete_117 : decode cM_delete 117 = .ok (.invokevirtual 80, 3) := by decide +kernel
theorem dM_delete_120 : decode cM_delete 120 = .ok (.aload_n 0, 1) := by decide +kernel
theorem dM_delete_121 : decode cM_delete 121 = .ok (.iload_n 3, 1) := by decide +kernel
theorem dM_delete_122 : decode cM_delete 122 = .ok (.invokevirtual 84, 3) := by decide +kernel
theorem dM_delete_125 : decode cM_delete 125 = .ok (.goto (-28), 3) := by decide +kernel
theorem dM_delete_128 : decode cM_delete 128 = .ok (.iinc 3 1, 3) := by decide +kernel
theorem dM_delete_131 : decode cM_delete 131 = .ok (.goto (-34), 3) := by decide +kernel
theorem dM_delete_134 : decode cM_delete 134 = .ok (.iconst 1, 1) := by decide +kernel
theorem dM_delete_135 : decode cM_delete 135 = .ok (.ireturn, 1) := by decide +kernel
theorem dM_times_0 : decode cM_times 0 = .ok (.aload_n 0, 1) := by decide +kernel
theorem dM_times_1 : decode cM_times 1 = .ok (.iconst 0, 1) := by decide +kernel
theorem dM_times_2 : decode cM_times 2 = .ok (.putfield 38, 3) := by decide +kernel
theorem dM_times_5 : decode cM_times 5 = .ok (.iload_n 1, 1) := by decide +kernel
theorem dM_times_6 : decode cM_times 6 = .ok (.iconst 1, 1) := by decide +kernel
theorem dM_times_7 : decode cM_times 7 = .ok (.if_icmp .lt 25, 3) := by decide +kernel
theorem dM_times_10 : decode cM_times 10 = .ok (.iload_n 1, 1) := by decide +kernel
theorem dM_times_11 : decode cM_times 11 = .ok (.aload_n 0, 1) := by decide +kernel
theorem dM_times_12 : decode cM_times 12 = .ok (.getfield 42, 3) := by decide +kernel
theorem dM_times_15 : decode cM_times 15 = .ok (.if_icmp .gt 17, 3) := by decide +kernel
theorem dM_times_18 : decode cM_times 18 = .ok (.iload_n 2, 1) := by decide +kernel
theorem dM_times_19 : decode cM_times 19 = .ok (.ifCond .lt 13, 3) := by decide +kernel
theorem dM_times_22 : decode cM_times 22 = .ok (.iload_n 2, 1) := by decide +kernel
theorem dM_times_23 : decode cM_times 23 = .ok (.aload_n 0, 1) := by decide +kernel
theorem dM_times_24 : decode cM_times 24 = .ok (.getfield 23, 3) := by decide +kernel
theorem dM_times_27 : decode cM_times 27 = .ok (.iload_n 1, 1) := by decide +kernel
theorem dM_times_28 : decode cM_times 28 = .ok (.iaload, 1) := by decide +kernel
theorem dM_times_29 : decode cM_times 29 = .ok (.if_icmp .lt 7, 3) := by decide +kernel
theorem dM_times_32 : decode cM_times 32 = .ok (.iconst 0, 1) := by decide +kernel
theorem dM_times_33 : decode cM_times 33 = .ok (.goto 14, 3) := by decide +kernel
theorem dM_times_36 : decode cM_times 36 = .ok (.aload_n 0, 1) := by decide +kernel
theorem dM_times_37 : decode cM_times 37 = .ok (.getfield 20, 3) := by decide +kernel
theorem dM_times_40 : decode cM_times 40 = .ok (.bipush 40, 2) := by decide +kernel
theorem dM_times_42 : decode cM_times 42 = .ok (.iload_n 1, 1) := by decide +kernel
theorem dM_times_43 : decode cM_times 43 = .ok (.imul, 1) := by decide +kernel
theorem dM_times_44 : decode cM_times 44 = .ok (.iload_n 2, 1) := by decide +kernel
theorem dM_times_45 : decode cM_times 45 = .ok (.iadd, 1) := by decide +kernel
theorem dM_times_46 : decode cM_times 46 = .ok (.iaload, 1) := by decide +kernel
theorem dM_times_47 : decode cM_times 47 = .ok (.ireturn, 1) := by decide +kernel
theorem dM_orphan_0 : decode cM_orphan 0 = .ok (.aload_n 0, 1) := by decide +kernel
theorem dM_orphan_1 : decode cM_orphan 1 = .ok (.iconst 0, 1) := by decide +kernel
theorem dM_orphan_2 : decode cM_orphan 2 = .ok (.putfield 38, 3) := by decide +kernel
theorem dM_orphan_5 : decode cM_orphan 5 = .ok (.iconst 0, 1) := by decide +kernel
theorem dM_orphan_6 : decode cM_orphan 6 = .ok (.istore_n 2, 1) := by decide +kernel
theorem dM_orphan_7 : decode cM_orphan 7 = .ok (.iconst 1, 1) := by decide +kernel
theorem dM_orphan_8 : decode cM_orphan 8 = .ok (.istore_n 3, 1) := by decide +kernel
theorem dM_orphan_9 : decode cM_orphan 9 = .ok (.iload_n 3, 1) := by decide +kernel
theorem dM_orphan_10 : decode cM_orphan 10 = .ok (.aload_n 0, 1) := by decide +kernel
theorem dM_orphan_11 : decode cM_orphan 11 = .ok (.getfield 42, 3) := by decide +kernel
theorem dM_orphan_14 : decode cM_orphan 14 = .ok (.if_icmp .gt 99, 3) := by decide +kernel
theorem dM_orphan_17 : decode cM_orphan 17 = .ok (.iload_n 1, 1) := by decide +kernel
theorem dM_orphan_18 : decode cM_orphan 18 = .ok (.ifCond .lt 95, 3) := by decide +kernel
theorem dM_orphan_21 : decode cM_orphan 21 = .ok (.aload_n 0, 1) := by decide +kernel
theorem dM_orphan_22 : decode cM_orphan 22 = .ok (.getfield 7, 3) := by decide +kernel
theorem dM_orphan_25 : decode cM_orphan 25 = .ok (.iload_n 3, 1) := by decide +kernel
theorem dM_orphan_26 : decode cM_orphan 26 = .ok (.baload, 1) := by decide +kernel
theorem dM_orphan_27 : decode cM_orphan 27 = .ok (.istore 4, 2) := by decide +kernel
theorem dM_orphan_29 : decode cM_orphan 29 = .ok (.iconst 0, 1) := by decide +kernel
theorem dM_orphan_30 : decode cM_orphan 30 = .ok (.istore 5, 2) := by decide +kernel
theorem dM_orphan_32 : decode cM_orphan 32 = .ok (.iload 5, 2) := by decide +kernel
theorem dM_orphan_34 : decode cM_orphan 34 = .ok (.aload_n 0, 1) := by decide +kernel
theorem dM_orphan_35 : decode cM_orphan 35 = .ok (.getfield 48, 3) := by decide +kernel
theorem dM_orphan_38 : decode cM_orphan 38 = .ok (.if_icmp .ge 54, 3) := by decide +kernel
theorem dM_orphan_41 : decode cM_orphan 41 = .ok (.iload 4, 2) := by decide +kernel
theorem dM_orphan_43 : decode cM_orphan 43 = .ok (.ifCond .eq 40, 3) := by decide +kernel
theorem dM_orphan_46 : decode cM_orphan 46 = .ok (.aload_n 0, 1) := by decide +kernel
theorem dM_orphan_47 : decode cM_orphan 47 = .ok (.getfield 26, 3) := by decide +kernel
theorem dM_orphan_50 : decode cM_orphan 50 = .ok (.iload 5, 2) := by decide +kernel
theorem dM_orphan_52 : decode cM_orphan 52 = .ok (.iaload, 1) := by decide +kernel
theorem dM_orphan_53 : decode cM_orphan 53 = .ok (.iload_n 3, 1) := by decide +kernel
theorem dM_orphan_54 : decode cM_orphan 54 = .ok (.if_icmp .eq 29, 3) := by decide +kernel
theorem dM_orphan_57 : decode cM_orphan 57 = .ok (.aload_n 0, 1) := by decide +kernel
theorem dM_orphan_58 : decode cM_orphan 58 = .ok (.getfield 29, 3) := by decide +kernel
theorem dM_orphan_61 : decode cM_orphan 61 = .ok (.iload 5, 2) := by decide +kernel
theorem dM_orphan_63 : decode cM_orphan 63 = .ok (.iaload, 1) := by decide +kernel
theorem dM_orphan_64 : decode cM_orphan 64 = .ok (.iconst 3, 1) := by decide +kernel
theorem dM_orphan_65 : decode cM_orphan 65 = .ok (.if_icmp .gt 14, 3) := by decide +kernel
theorem dM_orphan_68 : decode cM_orphan 68 = .ok (.aload_n 0, 1) := by decide +kernel
theorem dM_orphan_69 : decode cM_orphan 69 = .ok (.getfield 32, 3) := by decide +kernel
theorem dM_orphan_72 : decode cM_orphan 72 = .ok (.iload 5, 2) := by decide +kernel
theorem dM_orphan_74 : decode cM_orphan 74 = .ok (.iaload, 1) := by decide +kernel
theorem dM_orphan_75 : decode cM_orphan 75 = .ok (.iload_n 3, 1) := by decide +kernel
theorem dM_orphan_76 : decode cM_orphan 76 = .ok (.if_icmp .eq 7, 3) := by decide +kernel
theorem dM_orphan_79 : decode cM_orphan 79 = .ok (.iconst 1, 1) := by decide +kernel
theorem dM_orphan_80 : decode cM_orphan 80 = .ok (.goto 4, 3) := by decide +kernel
theorem dM_orphan_83 : decode cM_orphan 83 = .ok (.iconst 0, 1) := by decide +kernel
theorem dM_orphan_84 : decode cM_orphan 84 = .ok (.istore 4, 2) := by decide +kernel
theorem dM_orphan_86 : decode cM_orphan 86 = .ok (.iinc 5 1, 3) := by decide +kernel
theorem dM_orphan_89 : decode cM_orphan 89 = .ok (.goto (-57), 3) := by decide +kernel
theorem dM_orphan_92 : decode cM_orphan 92 = .ok (.iload 4, 2) := by decide +kernel
theorem dM_orphan_94 : decode cM_orphan 94 = .ok (.ifCond .eq 13, 3) := by decide +kernel
theorem dM_orphan_97 : decode cM_orphan 97 = .ok (.iload_n 2, 1) := by decide +kernel
theorem dM_orphan_98 : decode cM_orphan 98 = .ok (.iload_n 1, 1) := by decide +kernel
theorem dM_orphan_99 : decode cM_orphan 99 = .ok (.if_icmp .ne 5, 3) := by decide +kernel
theorem dM_orphan_102 : decode cM_orphan 102 = .ok (.iload_n 3, 1) := by decide +kernel
theorem dM_orphan_103 : decode cM_orphan 103 = .ok (.ireturn, 1) := by decide +kernel
theorem dM_orphan_104 : decode cM_orphan 104 = .ok (.iinc 2 1, 3) := by decide +kernel
theorem dM_orphan_107 : decode cM_orphan 107 = .ok (.iinc 3 1, 3) := by decide +kernel
theorem dM_orphan_110 : decode cM_orphan 110 = .ok (.goto (-101), 3) := by decide +kernel
theorem dM_orphan_113 : decode cM_orphan 113 = .ok (.iconst 0, 1) := by decide +kernel
theorem dM_orphan_114 : decode cM_orphan 114 = .ok (.ireturn, 1) := by decide +kernel
theorem dM_house_0 : decode cM_house 0 = .ok (.aload_n 0, 1) := by decide +kernel
theorem dM_house_1 : decode cM_house 1 = .ok (.iconst 0, 1) := by decide +kernel
theorem dM_house_2 : decode cM_house 2 = .ok (.putfield 38, 3) := by decide +kernel
theorem dM_house_5 : decode cM_house 5 = .ok (.iload_n 1, 1) := by decide +kernel
theorem dM_house_6 : decode cM_house 6 = .ok (.iconst 1, 1) := by decide +kernel
theorem dM_house_7 : decode cM_house 7 = .ok (.if_icmp .lt 11, 3) := by decide +kernel
theorem dM_house_10 : decode cM_house 10 = .ok (.iload_n 1, 1) := by decide +kernel
theorem dM_house_11 : decode cM_house 11 = .ok (.aload_n 0, 1) := by decide +kernel
theorem dM_house_12 : decode cM_house 12 = .ok (.getfield 42, 3) := by decide +kernel
theorem dM_house_15 : decode cM_house 15 = .ok (.if_icmp .le 7, 3) := by decide +kernel
theorem dM_house_18 : decode cM_house 18 = .ok (.iconst (-1), 1) := by decide +kernel
theorem dM_house_19 : decode cM_house 19 = .ok (.goto 9, 3) := by decide +kernel
theorem dM_house_22 : decode cM_house 22 = .ok (.aload_n 0, 1) := by decide +kernel
theorem dM_house_23 : decode cM_house 23 = .ok (.getfield 13, 3) := by decide +kernel
theorem dM_house_26 : decode cM_house 26 = .ok (.iload_n 1, 1) := by decide +kernel
theorem dM_house_27 : decode cM_house 27 = .ok (.iaload, 1) := by decide +kernel
theorem dM_house_28 : decode cM_house 28 = .ok (.ireturn, 1) := by decide +kernel
theorem dM_goes_0 : decode cM_goes 0 = .ok (.aload_n 0, 1) := by decide +kernel
theorem dM_goes_1 : decode cM_goes 1 = .ok (.iconst 0, 1) := by decide +kernel
theorem dM_goes_2 : decode cM_goes 2 = .ok (.putfield 38, 3) := by decide +kernel
theorem dM_goes_5 : decode cM_goes 5 = .ok (.iconst 0, 1) := by decide +kernel
theorem dM_goes_6 : decode cM_goes 6 = .ok (.istore 4, 2) := by decide +kernel
theorem dM_goes_8 : decode cM_goes 8 = .ok (.iconst 0, 1) := by decide +kernel
theorem dM_goes_9 : decode cM_goes 9 = .ok (.istore 5, 2) := by decide +kernel
theorem dM_goes_11 : decode cM_goes 11 = .ok (.iload 5, 2) := by decide +kernel
theorem dM_goes_13 : decode cM_goes 13 = .ok (.aload_n 0, 1) := by decide +kernel
theorem dM_goes_14 : decode cM_goes 14 = .ok (.getfield 48, 3) := by decide +kernel
theorem dM_goes_17 : decode cM_goes 17 = .ok (.if_icmp .ge 52, 3) := by decide +kernel
theorem dM_goes_20 : decode cM_goes 20 = .ok (.iload_n 3, 1) := by decide +kernel
theorem dM_goes_21 : decode cM_goes 21 = .ok (.ifCond .lt 48, 3) := by decide +kernel
theorem dM_goes_24 : decode cM_goes 24 = .ok (.aload_n 0, 1) := by decide +kernel
theorem dM_goes_25 : decode cM_goes 25 = .ok (.getfield 26, 3) := by decide +kernel
theorem dM_goes_28 : decode cM_goes 28 = .ok (.iload 5, 2) := by decide +kernel
theorem dM_goes_30 : decode cM_goes 30 = .ok (.iaload, 1) := by decide +kernel
theorem dM_goes_31 : decode cM_goes 31 = .ok (.iload_n 1, 1) := by decide +kernel
theorem dM_goes_32 : decode cM_goes 32 = .ok (.if_icmp .ne 31, 3) := by decide +kernel
theorem dM_goes_35 : decode cM_goes 35 = .ok (.aload_n 0, 1) := by decide +kernel
theorem dM_goes_36 : decode cM_goes 36 = .ok (.getfield 29, 3) := by decide +kernel
theorem dM_goes_39 : decode cM_goes 39 = .ok (.iload 5, 2) := by decide +kernel
theorem dM_goes_41 : decode cM_goes 41 = .ok (.iaload, 1) := by decide +kernel
theorem dM_goes_42 : decode cM_goes 42 = .ok (.iload_n 2, 1) := by decide +kernel
theorem dM_goes_43 : decode cM_goes 43 = .ok (.if_icmp .ne 20, 3) := by decide +kernel
theorem dM_goes_46 : decode cM_goes 46 = .ok (.iload 4, 2) := by decide +kernel
theorem dM_goes_48 : decode cM_goes 48 = .ok (.iload_n 3, 1) := by decide +kernel
theorem dM_goes_49 : decode cM_goes 49 = .ok (.if_icmp .ne 11, 3) := by decide +kernel
theorem dM_goes_52 : decode cM_goes 52 = .ok (.aload_n 0, 1) := by decide +kernel
theorem dM_goes_53 : decode cM_goes 53 = .ok (.getfield 32, 3) := by decide +kernel
theorem dM_goes_56 : decode cM_goes 56 = .ok (.iload 5, 2) := by decide +kernel
theorem dM_goes_58 : decode cM_goes 58 = .ok (.iaload, 1) := by decide +kernel
theorem dM_goes_59 : decode cM_goes 59 = .ok (.ireturn, 1) := by decide +kernel
theorem dM_goes_60 : decode cM_goes 60 = .ok (.iinc 4 1, 3) := by decide +kernel
theorem dM_goes_63 : decode cM_goes 63 = .ok (.iinc 5 1, 3) := by decide +kernel
theorem dM_goes_66 : decode cM_goes 66 = .ok (.goto (-55), 3) := by decide +kernel
theorem dM_goes_69 : decode cM_goes 69 = .ok (.iconst 0, 1) := by decide +kernel
theorem dM_goes_70 : decode cM_goes 70 = .ok (.ireturn, 1) := by decide +kernel
end
section
theorem dL_0 : decode code 0 = .ok (.new 7, 3) := by decide +kernel
theorem dL_3 : decode code 3 = .ok (.dup, 1) := by decide +kernel
theorem dL_4 : decode code 4 = .ok (.invokespecial 9, 3) := by decide +kernel
theorem dL_7 : decode code 7 = .ok (.astore_n 1, 1) := by decide +kernel
theorem dL_8 : decode code 8 = .ok (.new 10, 3) := by decide +kernel
theorem dL_11 : decode code 11 = .ok (.dup, 1) := by decide +kernel
theorem dL_12 : decode code 12 = .ok (.invokespecial 12, 3) := by decide +kernel
theorem dL_15 : decode code 15 = .ok (.astore_n 2, 1) := by decide +kernel
theorem dL_16 : decode code 16 = .ok (.iconst 0, 1) := by decide +kernel
theorem dL_17 : decode code 17 = .ok (.istore_n 3, 1) := by decide +kernel
theorem dL_18 : decode code 18 = .ok (.iload_n 3, 1) := by decide +kernel
theorem dL_19 : decode code 19 = .ok (.aload_n 0, 1) := by decide +kernel
theorem dL_20 : decode code 20 = .ok (.arraylength, 1) := by decide +kernel
theorem dL_21 : decode code 21 = .ok (.iconst 4, 1) := by decide +kernel
theorem dL_22 : decode code 22 = .ok (.isub, 1) := by decide +kernel
theorem dL_23 : decode code 23 = .ok (.if_icmp .gt 489, 3) := by decide +kernel
theorem dL_26 : decode code 26 = .ok (.aload_n 0, 1) := by decide +kernel
theorem dL_27 : decode code 27 = .ok (.iload_n 3, 1) := by decide +kernel
theorem dL_28 : decode code 28 = .ok (.iaload, 1) := by decide +kernel
theorem dL_29 : decode code 29 = .ok (.bipush 15, 2) := by decide +kernel
theorem dL_31 : decode code 31 = .ok (.iand, 1) := by decide +kernel
theorem dL_32 : decode code 32 = .ok (.tableswitch 474 0 13 #[72, 85, 128, 161, 194, 217, 250, 273, 296, 329, 352, 385, 408, 431], 72) := by decide +kernel
theorem dL_104 : decode code 104 = .ok (.aload_n 1, 1) := by decide +kernel
theorem dL_105 : decode code 105 = .ok (.invokevirtual 13, 3) := by decide +kernel
theorem dL_108 : decode code 108 = .ok (.aload_n 2, 1) := by decide +kernel
theorem dL_109 : decode code 109 = .ok (.invokevirtual 17, 3) := by decide +kernel
theorem dL_112 : decode code 112 = .ok (.if_icmp .eq 394, 3) := by decide +kernel
theorem dL_115 : decode code 115 = .ok (.iconst 0, 1) := by decide +kernel
theorem dL_116 : decode code 116 = .ok (.ireturn, 1) := by decide +kernel
theorem dL_117 : decode code 117 = .ok (.aload_n 1, 1) := by decide +kernel
theorem dL_118 : decode code 118 = .ok (.aload_n 0, 1) := by decide +kernel
theorem dL_119 : decode code 119 = .ok (.iload_n 3, 1) := by decide +kernel
theorem dL_120 : decode code 120 = .ok (.iconst 1, 1) := by decide +kernel
theorem dL_121 : decode code 121 = .ok (.iadd, 1) := by decide +kernel
theorem dL_122 : decode code 122 = .ok (.iaload, 1) := by decide +kernel
theorem dL_123 : decode code 123 = .ok (.aload_n 0, 1) := by decide +kernel
theorem dL_124 : decode code 124 = .ok (.iload_n 3, 1) := by decide +kernel
theorem dL_125 : decode code 125 = .ok (.iconst 2, 1) := by decide +kernel
theorem dL_126 : decode code 126 = .ok (.iadd, 1) := by decide +kernel
theorem dL_127 : decode code 127 = .ok (.iaload, 1) := by decide +kernel
theorem dL_128 : decode code 128 = .ok (.aload_n 0, 1) := by decide +kernel
theorem dL_129 : decode code 129 = .ok (.iload_n 3, 1) := by decide +kernel
theorem dL_130 : decode code 130 = .ok (.iconst 3, 1) := by decide +kernel
theorem dL_131 : decode code 131 = .ok (.iadd, 1) := by decide +kernel
theorem dL_132 : decode code 132 = .ok (.iaload, 1) := by decide +kernel
theorem dL_133 : decode code 133 = .ok (.invokevirtual 18, 3) := by decide +kernel
theorem dL_136 : decode code 136 = .ok (.aload_n 2, 1) := by decide +kernel
theorem dL_137 : decode code 137 = .ok (.aload_n 0, 1) := by decide +kernel
theorem dL_138 : decode code 138 = .ok (.iload_n 3, 1) := by decide +kernel
theorem dL_139 : decode code 139 = .ok (.iconst 1, 1) := by decide +kernel
theorem dL_140 : decode code 140 = .ok (.iadd, 1) := by decide +kernel
theorem dL_141 : decode code 141 = .ok (.iaload, 1) := by decide +kernel
theorem dL_142 : decode code 142 = .ok (.aload_n 0, 1) := by decide +kernel
theorem dL_143 : decode code 143 = .ok (.iload_n 3, 1) := by decide +kernel
theorem dL_144 : decode code 144 = .ok (.iconst 2, 1) := by decide +kernel
theorem dL_145 : decode code 145 = .ok (.iadd, 1) := by decide +kernel
theorem dL_146 : decode code 146 = .ok (.iaload, 1) := by decide +kernel
theorem dL_147 : decode code 147 = .ok (.aload_n 0, 1) := by decide +kernel
theorem dL_148 : decode code 148 = .ok (.iload_n 3, 1) := by decide +kernel
theorem dL_149 : decode code 149 = .ok (.iconst 3, 1) := by decide +kernel
theorem dL_150 : decode code 150 = .ok (.iadd, 1) := by decide +kernel
theorem dL_151 : decode code 151 = .ok (.iaload, 1) := by decide +kernel
theorem dL_152 : decode code 152 = .ok (.invokevirtual 22, 3) := by decide +kernel
theorem dL_155 : decode code 155 = .ok (.if_icmp .eq 351, 3) := by decide +kernel
theorem dL_158 : decode code 158 = .ok (.iconst 0, 1) := by decide +kernel
theorem dL_159 : decode code 159 = .ok (.ireturn, 1) := by decide +kernel
theorem dL_160 : decode code 160 = .ok (.aload_n 1, 1) := by decide +kernel
theorem dL_161 : decode code 161 = .ok (.aload_n 0, 1) := by decide +kernel
theorem dL_162 : decode code 162 = .ok (.iload_n 3, 1) := by decide +kernel
theorem dL_163 : decode code 163 = .ok (.iconst 1, 1) := by decide +kernel
theorem dL_164 : decode code 164 = .ok (.iadd, 1) := by decide +kernel
theorem dL_165 : decode code 165 = .ok (.iaload, 1) := by decide +kernel
theorem dL_166 : decode code 166 = .ok (.aload_n 0, 1) := by decide +kernel
theorem dL_167 : decode code 167 = .ok (.iload_n 3, 1) := by decide +kernel
theorem dL_168 : decode code 168 = .ok (.iconst 2, 1) := by decide +kernel
theorem dL_169 : decode code 169 = .ok (.iadd, 1) := by decide +kernel
theorem dL_170 : decode code 170 = .ok (.iaload, 1) := by decide +kernel
theorem dL_171 : decode code 171 = .ok (.invokevirtual 23, 3) := by decide +kernel
theorem dL_174 : decode code 174 = .ok (.aload_n 2, 1) := by decide +kernel
theorem dL_175 : decode code 175 = .ok (.aload_n 0, 1) := by decide +kernel
theorem dL_176 : decode code 176 = .ok (.iload_n 3, 1) := by decide +kernel
theorem dL_177 : decode code 177 = .ok (.iconst 1, 1) := by decide +kernel
theorem dL_178 : decode code 178 = .ok (.iadd, 1) := by decide +kernel
theorem dL_179 : decode code 179 = .ok (.iaload, 1) := by decide +kernel
theorem dL_180 : decode code 180 = .ok (.aload_n 0, 1) := by decide +kernel
theorem dL_181 : decode code 181 = .ok (.iload_n 3, 1) := by decide +kernel
theorem dL_182 : decode code 182 = .ok (.iconst 2, 1) := by decide +kernel
theorem dL_183 : decode code 183 = .ok (.iadd, 1) := by decide +kernel
theorem dL_184 : decode code 184 = .ok (.iaload, 1) := by decide +kernel
theorem dL_185 : decode code 185 = .ok (.invokevirtual 27, 3) := by decide +kernel
theorem dL_188 : decode code 188 = .ok (.if_icmp .eq 318, 3) := by decide +kernel
theorem dL_191 : decode code 191 = .ok (.iconst 0, 1) := by decide +kernel
theorem dL_192 : decode code 192 = .ok (.ireturn, 1) := by decide +kernel
theorem dL_193 : decode code 193 = .ok (.aload_n 1, 1) := by decide +kernel
theorem dL_194 : decode code 194 = .ok (.aload_n 0, 1) := by decide +kernel
theorem dL_195 : decode code 195 = .ok (.iload_n 3, 1) := by decide +kernel
theorem dL_196 : decode code 196 = .ok (.iconst 1, 1) := by decide +kernel
theorem dL_197 : decode code 197 = .ok (.iadd, 1) := by decide +kernel
theorem dL_198 : decode code 198 = .ok (.iaload, 1) := by decide +kernel
theorem dL_199 : decode code 199 = .ok (.aload_n 0, 1) := by decide +kernel
theorem dL_200 : decode code 200 = .ok (.iload_n 3, 1) := by decide +kernel
theorem dL_201 : decode code 201 = .ok (.iconst 2, 1) := by decide +kernel
theorem dL_202 : decode code 202 = .ok (.iadd, 1) := by decide +kernel
theorem dL_203 : decode code 203 = .ok (.iaload, 1) := by decide +kernel
theorem dL_204 : decode code 204 = .ok (.invokevirtual 28, 3) := by decide +kernel
theorem dL_207 : decode code 207 = .ok (.aload_n 2, 1) := by decide +kernel
theorem dL_208 : decode code 208 = .ok (.aload_n 0, 1) := by decide +kernel
theorem dL_209 : decode code 209 = .ok (.iload_n 3, 1) := by decide +kernel
theorem dL_210 : decode code 210 = .ok (.iconst 1, 1) := by decide +kernel
theorem dL_211 : decode code 211 = .ok (.iadd, 1) := by decide +kernel
theorem dL_212 : decode code 212 = .ok (.iaload, 1) := by decide +kernel
theorem dL_213 : decode code 213 = .ok (.aload_n 0, 1) := by decide +kernel
theorem dL_214 : decode code 214 = .ok (.iload_n 3, 1) := by decide +kernel
theorem dL_215 : decode code 215 = .ok (.iconst 2, 1) := by decide +kernel
theorem dL_216 : decode code 216 = .ok (.iadd, 1) := by decide +kernel
theorem dL_217 : decode code 217 = .ok (.iaload, 1) := by decide +kernel
theorem dL_218 : decode code 218 = .ok (.invokevirtual 31, 3) := by decide +kernel
theorem dL_221 : decode code 221 = .ok (.if_icmp .eq 285, 3) := by decide +kernel
theorem dL_224 : decode code 224 = .ok (.iconst 0, 1) := by decide +kernel
theorem dL_225 : decode code 225 = .ok (.ireturn, 1) := by decide +kernel
theorem dL_226 : decode code 226 = .ok (.aload_n 1, 1) := by decide +kernel
theorem dL_227 : decode code 227 = .ok (.aload_n 0, 1) := by decide +kernel
theorem dL_228 : decode code 228 = .ok (.iload_n 3, 1) := by decide +kernel
theorem dL_229 : decode code 229 = .ok (.iconst 1, 1) := by decide +kernel
theorem dL_230 : decode code 230 = .ok (.iadd, 1) := by decide +kernel
theorem dL_231 : decode code 231 = .ok (.iaload, 1) := by decide +kernel
theorem dL_232 : decode code 232 = .ok (.invokevirtual 32, 3) := by decide +kernel
theorem dL_235 : decode code 235 = .ok (.aload_n 2, 1) := by decide +kernel
theorem dL_236 : decode code 236 = .ok (.aload_n 0, 1) := by decide +kernel
theorem dL_237 : decode code 237 = .ok (.iload_n 3, 1) := by decide +kernel
theorem dL_238 : decode code 238 = .ok (.iconst 1, 1) := by decide +kernel
theorem dL_239 : decode code 239 = .ok (.iadd, 1) := by decide +kernel
theorem dL_240 : decode code 240 = .ok (.iaload, 1) := by decide +kernel
theorem dL_241 : decode code 241 = .ok (.invokevirtual 36, 3) := by decide +kernel
theorem dL_244 : decode code 244 = .ok (.if_icmp .eq 262, 3) := by decide +kernel
theorem dL_247 : decode code 247 = .ok (.iconst 0, 1) := by decide +kernel
theorem dL_248 : decode code 248 = .ok (.ireturn, 1) := by decide +kernel
theorem dL_249 : decode code 249 = .ok (.aload_n 1, 1) := by decide +kernel
theorem dL_250 : decode code 250 = .ok (.aload_n 0, 1) := by decide +kernel
theorem dL_251 : decode code 251 = .ok (.iload_n 3, 1) := by decide +kernel
theorem dL_252 : decode code 252 = .ok (.iconst 1, 1) := by decide +kernel
theorem dL_253 : decode code 253 = .ok (.iadd, 1) := by decide +kernel
theorem dL_254 : decode code 254 = .ok (.iaload, 1) := by decide +kernel
theorem dL_255 : decode code 255 = .ok (.aload_n 0, 1) := by decide +kernel
theorem dL_256 : decode code 256 = .ok (.iload_n 3, 1) := by decide +kernel
theorem dL_257 : decode code 257 = .ok (.iconst 2, 1) := by decide +kernel
theorem dL_258 : decode code 258 = .ok (.iadd, 1) := by decide +kernel
theorem dL_259 : decode code 259 = .ok (.iaload, 1) := by decide +kernel
theorem dL_260 : decode code 260 = .ok (.invokevirtual 37, 3) := by decide +kernel
theorem dL_263 : decode code 263 = .ok (.aload_n 2, 1) := by decide +kernel
theorem dL_264 : decode code 264 = .ok (.aload_n 0, 1) := by decide +kernel
theorem dL_265 : decode code 265 = .ok (.iload_n 3, 1) := by decide +kernel
theorem dL_266 : decode code 266 = .ok (.iconst 1, 1) := by decide +kernel
theorem dL_267 : decode code 267 = .ok (.iadd, 1) := by decide +kernel
theorem dL_268 : decode code 268 = .ok (.iaload, 1) := by decide +kernel
theorem dL_269 : decode code 269 = .ok (.aload_n 0, 1) := by decide +kernel
theorem dL_270 : decode code 270 = .ok (.iload_n 3, 1) := by decide +kernel
theorem dL_271 : decode code 271 = .ok (.iconst 2, 1) := by decide +kernel
theorem dL_272 : decode code 272 = .ok (.iadd, 1) := by decide +kernel
theorem dL_273 : decode code 273 = .ok (.iaload, 1) := by decide +kernel
theorem dL_274 : decode code 274 = .ok (.invokevirtual 40, 3) := by decide +kernel
theorem dL_277 : decode code 277 = .ok (.if_icmp .eq 229, 3) := by decide +kernel
theorem dL_280 : decode code 280 = .ok (.iconst 0, 1) := by decide +kernel
theorem dL_281 : decode code 281 = .ok (.ireturn, 1) := by decide +kernel
theorem dL_282 : decode code 282 = .ok (.aload_n 1, 1) := by decide +kernel
theorem dL_283 : decode code 283 = .ok (.aload_n 0, 1) := by decide +kernel
theorem dL_284 : decode code 284 = .ok (.iload_n 3, 1) := by decide +kernel
theorem dL_285 : decode code 285 = .ok (.iconst 1, 1) := by decide +kernel
theorem dL_286 : decode code 286 = .ok (.iadd, 1) := by decide +kernel
theorem dL_287 : decode code 287 = .ok (.iaload, 1) := by decide +kernel
theorem dL_288 : decode code 288 = .ok (.invokevirtual 41, 3) := by decide +kernel
theorem dL_291 : decode code 291 = .ok (.aload_n 2, 1) := by decide +kernel
theorem dL_292 : decode code 292 = .ok (.aload_n 0, 1) := by decide +kernel
theorem dL_293 : decode code 293 = .ok (.iload_n 3, 1) := by decide +kernel
theorem dL_294 : decode code 294 = .ok (.iconst 1, 1) := by decide +kernel
theorem dL_295 : decode code 295 = .ok (.iadd, 1) := by decide +kernel
theorem dL_296 : decode code 296 = .ok (.iaload, 1) := by decide +kernel
theorem dL_297 : decode code 297 = .ok (.invokevirtual 44, 3) := by decide +kernel
theorem dL_300 : decode code 300 = .ok (.if_icmp .eq 206, 3) := by decide +kernel
theorem dL_303 : decode code 303 = .ok (.iconst 0, 1) := by decide +kernel
theorem dL_304 : decode code 304 = .ok (.ireturn, 1) := by decide +kernel
theorem dL_305 : decode code 305 = .ok (.aload_n 1, 1) := by decide +kernel
theorem dL_306 : decode code 306 = .ok (.aload_n 0, 1) := by decide +kernel
theorem dL_307 : decode code 307 = .ok (.iload_n 3, 1) := by decide +kernel
theorem dL_308 : decode code 308 = .ok (.iconst 1, 1) := by decide +kernel
theorem dL_309 : decode code 309 = .ok (.iadd, 1) := by decide +kernel
theorem dL_310 : decode code 310 = .ok (.iaload, 1) := by decide +kernel
theorem dL_311 : decode code 311 = .ok (.invokevirtual 45, 3) := by decide +kernel
theorem dL_314 : decode code 314 = .ok (.aload_n 2, 1) := by decide +kernel
theorem dL_315 : decode code 315 = .ok (.aload_n 0, 1) := by decide +kernel
theorem dL_316 : decode code 316 = .ok (.iload_n 3, 1) := by decide +kernel
theorem dL_317 : decode code 317 = .ok (.iconst 1, 1) := by decide +kernel
theorem dL_318 : decode code 318 = .ok (.iadd, 1) := by decide +kernel
theorem dL_319 : decode code 319 = .ok (.iaload, 1) := by decide +kernel
theorem dL_320 : decode code 320 = .ok (.invokevirtual 48, 3) := by decide +kernel
theorem dL_323 : decode code 323 = .ok (.if_icmp .eq 183, 3) := by decide +kernel
theorem dL_326 : decode code 326 = .ok (.iconst 0, 1) := by decide +kernel
theorem dL_327 : decode code 327 = .ok (.ireturn, 1) := by decide +kernel
theorem dL_328 : decode code 328 = .ok (.aload_n 1, 1) := by decide +kernel
theorem dL_329 : decode code 329 = .ok (.aload_n 0, 1) := by decide +kernel
theorem dL_330 : decode code 330 = .ok (.iload_n 3, 1) := by decide +kernel
theorem dL_331 : decode code 331 = .ok (.iconst 1, 1) := by decide +kernel
theorem dL_332 : decode code 332 = .ok (.iadd, 1) := by decide +kernel
theorem dL_333 : decode code 333 = .ok (.iaload, 1) := by decide +kernel
theorem dL_334 : decode code 334 = .ok (.aload_n 0, 1) := by decide +kernel
theorem dL_335 : decode code 335 = .ok (.iload_n 3, 1) := by decide +kernel
theorem dL_336 : decode code 336 = .ok (.iconst 2, 1) := by decide +kernel
theorem dL_337 : decode code 337 = .ok (.iadd, 1) := by decide +kernel
theorem dL_338 : decode code 338 = .ok (.iaload, 1) := by decide +kernel
theorem dL_339 : decode code 339 = .ok (.invokevirtual 49, 3) := by decide +kernel
theorem dL_342 : decode code 342 = .ok (.aload_n 2, 1) := by decide +kernel
theorem dL_343 : decode code 343 = .ok (.aload_n 0, 1) := by decide +kernel
theorem dL_344 : decode code 344 = .ok (.iload_n 3, 1) := by decide +kernel
theorem dL_345 : decode code 345 = .ok (.iconst 1, 1) := by decide +kernel
theorem dL_346 : decode code 346 = .ok (.iadd, 1) := by decide +kernel
theorem dL_347 : decode code 347 = .ok (.iaload, 1) := by decide +kernel
theorem dL_348 : decode code 348 = .ok (.aload_n 0, 1) := by decide +kernel
theorem dL_349 : decode code 349 = .ok (.iload_n 3, 1) := by decide +kernel
theorem dL_350 : decode code 350 = .ok (.iconst 2, 1) := by decide +kernel
theorem dL_351 : decode code 351 = .ok (.iadd, 1) := by decide +kernel
theorem dL_352 : decode code 352 = .ok (.iaload, 1) := by decide +kernel
theorem dL_353 : decode code 353 = .ok (.invokevirtual 52, 3) := by decide +kernel
theorem dL_356 : decode code 356 = .ok (.if_icmp .eq 150, 3) := by decide +kernel
theorem dL_359 : decode code 359 = .ok (.iconst 0, 1) := by decide +kernel
theorem dL_360 : decode code 360 = .ok (.ireturn, 1) := by decide +kernel
theorem dL_361 : decode code 361 = .ok (.aload_n 1, 1) := by decide +kernel
theorem dL_362 : decode code 362 = .ok (.aload_n 0, 1) := by decide +kernel
theorem dL_363 : decode code 363 = .ok (.iload_n 3, 1) := by decide +kernel
theorem dL_364 : decode code 364 = .ok (.iconst 1, 1) := by decide +kernel
theorem dL_365 : decode code 365 = .ok (.iadd, 1) := by decide +kernel
theorem dL_366 : decode code 366 = .ok (.iaload, 1) := by decide +kernel
theorem dL_367 : decode code 367 = .ok (.invokevirtual 53, 3) := by decide +kernel
theorem dL_370 : decode code 370 = .ok (.aload_n 2, 1) := by decide +kernel
theorem dL_371 : decode code 371 = .ok (.aload_n 0, 1) := by decide +kernel
theorem dL_372 : decode code 372 = .ok (.iload_n 3, 1) := by decide +kernel
theorem dL_373 : decode code 373 = .ok (.iconst 1, 1) := by decide +kernel
theorem dL_374 : decode code 374 = .ok (.iadd, 1) := by decide +kernel
theorem dL_375 : decode code 375 = .ok (.iaload, 1) := by decide +kernel
theorem dL_376 : decode code 376 = .ok (.invokevirtual 56, 3) := by decide +kernel
theorem dL_379 : decode code 379 = .ok (.if_icmp .eq 127, 3) := by decide +kernel
theorem dL_382 : decode code 382 = .ok (.iconst 0, 1) := by decide +kernel
theorem dL_383 : decode code 383 = .ok (.ireturn, 1) := by decide +kernel
theorem dL_384 : decode code 384 = .ok (.aload_n 1, 1) := by decide +kernel
theorem dL_385 : decode code 385 = .ok (.aload_n 0, 1) := by decide +kernel
theorem dL_386 : decode code 386 = .ok (.iload_n 3, 1) := by decide +kernel
theorem dL_387 : decode code 387 = .ok (.iconst 1, 1) := by decide +kernel
theorem dL_388 : decode code 388 = .ok (.iadd, 1) := by decide +kernel
theorem dL_389 : decode code 389 = .ok (.iaload, 1) := by decide +kernel
theorem dL_390 : decode code 390 = .ok (.aload_n 0, 1) := by decide +kernel
theorem dL_391 : decode code 391 = .ok (.iload_n 3, 1) := by decide +kernel
theorem dL_392 : decode code 392 = .ok (.iconst 2, 1) := by decide +kernel
theorem dL_393 : decode code 393 = .ok (.iadd, 1) := by decide +kernel
theorem dL_394 : decode code 394 = .ok (.iaload, 1) := by decide +kernel
theorem dL_395 : decode code 395 = .ok (.invokevirtual 57, 3) := by decide +kernel
theorem dL_398 : decode code 398 = .ok (.aload_n 2, 1) := by decide +kernel
theorem dL_399 : decode code 399 = .ok (.aload_n 0, 1) := by decide +kernel
theorem dL_400 : decode code 400 = .ok (.iload_n 3, 1) := by decide +kernel
theorem dL_401 : decode code 401 = .ok (.iconst 1, 1) := by decide +kernel
theorem dL_402 : decode code 402 = .ok (.iadd, 1) := by decide +kernel
theorem dL_403 : decode code 403 = .ok (.iaload, 1) := by decide +kernel
theorem dL_404 : decode code 404 = .ok (.aload_n 0, 1) := by decide +kernel
theorem dL_405 : decode code 405 = .ok (.iload_n 3, 1) := by decide +kernel
theorem dL_406 : decode code 406 = .ok (.iconst 2, 1) := by decide +kernel
theorem dL_407 : decode code 407 = .ok (.iadd, 1) := by decide +kernel
theorem dL_408 : decode code 408 = .ok (.iaload, 1) := by decide +kernel
theorem dL_409 : decode code 409 = .ok (.invokevirtual 60, 3) := by decide +kernel
theorem dL_412 : decode code 412 = .ok (.if_icmp .eq 94, 3) := by decide +kernel
theorem dL_415 : decode code 415 = .ok (.iconst 0, 1) := by decide +kernel
theorem dL_416 : decode code 416 = .ok (.ireturn, 1) := by decide +kernel
theorem dL_417 : decode code 417 = .ok (.aload_n 1, 1) := by decide +kernel
theorem dL_418 : decode code 418 = .ok (.aload_n 0, 1) := by decide +kernel
theorem dL_419 : decode code 419 = .ok (.iload_n 3, 1) := by decide +kernel
theorem dL_420 : decode code 420 = .ok (.iconst 1, 1) := by decide +kernel
theorem dL_421 : decode code 421 = .ok (.iadd, 1) := by decide +kernel
theorem dL_422 : decode code 422 = .ok (.iaload, 1) := by decide +kernel
theorem dL_423 : decode code 423 = .ok (.invokevirtual 61, 3) := by decide +kernel
theorem dL_426 : decode code 426 = .ok (.aload_n 2, 1) := by decide +kernel
theorem dL_427 : decode code 427 = .ok (.aload_n 0, 1) := by decide +kernel
theorem dL_428 : decode code 428 = .ok (.iload_n 3, 1) := by decide +kernel
theorem dL_429 : decode code 429 = .ok (.iconst 1, 1) := by decide +kernel
theorem dL_430 : decode code 430 = .ok (.iadd, 1) := by decide +kernel
theorem dL_431 : decode code 431 = .ok (.iaload, 1) := by decide +kernel
theorem dL_432 : decode code 432 = .ok (.invokevirtual 64, 3) := by decide +kernel
theorem dL_435 : decode code 435 = .ok (.if_icmp .eq 71, 3) := by decide +kernel
theorem dL_438 : decode code 438 = .ok (.iconst 0, 1) := by decide +kernel
theorem dL_439 : decode code 439 = .ok (.ireturn, 1) := by decide +kernel
theorem dL_440 : decode code 440 = .ok (.aload_n 1, 1) := by decide +kernel
theorem dL_441 : decode code 441 = .ok (.aload_n 0, 1) := by decide +kernel
theorem dL_442 : decode code 442 = .ok (.iload_n 3, 1) := by decide +kernel
theorem dL_443 : decode code 443 = .ok (.iconst 1, 1) := by decide +kernel
theorem dL_444 : decode code 444 = .ok (.iadd, 1) := by decide +kernel
theorem dL_445 : decode code 445 = .ok (.iaload, 1) := by decide +kernel
theorem dL_446 : decode code 446 = .ok (.invokevirtual 65, 3) := by decide +kernel
theorem dL_449 : decode code 449 = .ok (.aload_n 2, 1) := by decide +kernel
theorem dL_450 : decode code 450 = .ok (.aload_n 0, 1) := by decide +kernel
theorem dL_451 : decode code 451 = .ok (.iload_n 3, 1) := by decide +kernel
theorem dL_452 : decode code 452 = .ok (.iconst 1, 1) := by decide +kernel
theorem dL_453 : decode code 453 = .ok (.iadd, 1) := by decide +kernel
theorem dL_454 : decode code 454 = .ok (.iaload, 1) := by decide +kernel
theorem dL_455 : decode code 455 = .ok (.invokevirtual 68, 3) := by decide +kernel
theorem dL_458 : decode code 458 = .ok (.if_icmp .eq 48, 3) := by decide +kernel
theorem dL_461 : decode code 461 = .ok (.iconst 0, 1) := by decide +kernel
theorem dL_462 : decode code 462 = .ok (.ireturn, 1) := by decide +kernel
theorem dL_463 : decode code 463 = .ok (.aload_n 1, 1) := by decide +kernel
theorem dL_464 : decode code 464 = .ok (.aload_n 0, 1) := by decide +kernel
theorem dL_465 : decode code 465 = .ok (.iload_n 3, 1) := by decide +kernel
theorem dL_466 : decode code 466 = .ok (.iconst 1, 1) := by decide +kernel
theorem dL_467 : decode code 467 = .ok (.iadd, 1) := by decide +kernel
theorem dL_468 : decode code 468 = .ok (.iaload, 1) := by decide +kernel
theorem dL_469 : decode code 469 = .ok (.aload_n 0, 1) := by decide +kernel
theorem dL_470 : decode code 470 = .ok (.iload_n 3, 1) := by decide +kernel
theorem dL_471 : decode code 471 = .ok (.iconst 2, 1) := by decide +kernel
theorem dL_472 : decode code 472 = .ok (.iadd, 1) := by decide +kernel
theorem dL_473 : decode code 473 = .ok (.iaload, 1) := by decide +kernel
theorem dL_474 : decode code 474 = .ok (.aload_n 0, 1) := by decide +kernel
theorem dL_475 : decode code 475 = .ok (.iload_n 3, 1) := by decide +kernel
theorem dL_476 : decode code 476 = .ok (.iconst 3, 1) := by decide +kernel
theorem dL_477 : decode code 477 = .ok (.iadd, 1) := by decide +kernel
theorem dL_478 : decode code 478 = .ok (.iaload, 1) := by decide +kernel
theorem dL_479 : decode code 479 = .ok (.invokevirtual 69, 3) := by decide +kernel
theorem dL_482 : decode code 482 = .ok (.aload_n 2, 1) := by decide +kernel
theorem dL_483 : decode code 483 = .ok (.aload_n 0, 1) := by decide +kernel
theorem dL_484 : decode code 484 = .ok (.iload_n 3, 1) := by decide +kernel
theorem dL_485 : decode code 485 = .ok (.iconst 1, 1) := by decide +kernel
theorem dL_486 : decode code 486 = .ok (.iadd, 1) := by decide +kernel
theorem dL_487 : decode code 487 = .ok (.iaload, 1) := by decide +kernel
theorem dL_488 : decode code 488 = .ok (.aload_n 0, 1) := by decide +kernel
theorem dL_489 : decode code 489 = .ok (.iload_n 3, 1) := by decide +kernel
theorem dL_490 : decode code 490 = .ok (.iconst 2, 1) := by decide +kernel
theorem dL_491 : decode code 491 = .ok (.iadd, 1) := by decide +kernel
theorem dL_492 : decode code 492 = .ok (.iaload, 1) := by decide +kernel
theorem dL_493 : decode code 493 = .ok (.aload_n 0, 1) := by decide +kernel
theorem dL_494 : decode code 494 = .ok (.iload_n 3, 1) := by decide +kernel
theorem dL_495 : decode code 495 = .ok (.iconst 3, 1) := by decide +kernel
theorem dL_496 : decode code 496 = .ok (.iadd, 1) := by decide +kernel
theorem dL_497 : decode code 497 = .ok (.iaload, 1) := by decide +kernel
theorem dL_498 : decode code 498 = .ok (.invokevirtual 72, 3) := by decide +kernel
theorem dL_501 : decode code 501 = .ok (.if_icmp .eq 5, 3) := by decide +kernel
theorem dL_504 : decode code 504 = .ok (.iconst 0, 1) := by decide +kernel
theorem dL_505 : decode code 505 = .ok (.ireturn, 1) := by decide +kernel
theorem dL_506 : decode code 506 = .ok (.iinc 3 4, 3) := by decide +kernel
theorem dL_509 : decode code 509 = .ok (.goto (-491), 3) := by decide +kernel
theorem dL_512 : decode code 512 = .ok (.iconst 1, 1) := by decide +kernel
theorem dL_513 : decode code 513 = .ok (.ireturn, 1) := by decide +kernel
end
section
/-! base: one object's world, tables, contracts in one shape, calls in one row -/
/-- static tables of ints: class, name, address, length, content -/
abbrev zt_T : Type := List (String × String × Nat × Nat × (Nat → Int32))
def zt_ok (Z : zt_T) (A : Nat → Prop) (U : State) (H : Heap) : Prop := ∀ (k : Nat) (q : String × String × Nat × Nat × (Nat → Int32)), Z[k]? = some q → va_Z q.1 q.2.1 "[I" (.ref q.2.2.1) A U H ∧ va_T .int q.2.2.1 q.2.2.2.1 (fun j => .int (q.2.2.2.2 j)) A U H
theorem zt_ok.moved {Z : zt_T} {A : Nat → Prop} {u U : State} {H : Heap} (hvm : u.vm.Alike U.vm) (h : zt_ok Z A u H) : zt_ok Z A U H := fun k q hk => ⟨(h k q hk).1.moved hvm, (h k q hk).2.moved hvm⟩
theorem zt_ok.kept {Z : zt_T} {A : Nat → Prop} {U : State} {H H1 : Heap} (h : zt_ok Z A U H) (hq : ∀ a : Nat, a < H.size → ¬ A a → H1[a]? = H[a]?) : zt_ok Z A U H1 := fun k q hk => ⟨(h k q hk).1.kept hq, (h k q hk).2.kept hq⟩
theorem zt_ok.narrow {Z : zt_T} {A B : Nat → Prop} {U : State} {H : Heap} (h : zt_ok Z A U H) (hAB : ∀ q, B q → A q) : zt_ok Z B U H := fun k q hk => ⟨(h k q hk).1.narrow hAB, (h k q hk).2.narrow hAB⟩
def xw_Pc (D : va_G) (cl : List vw_C) (tys : List (ClassId × FieldType)) (Z : zt_T) (ws : va_W) (sz : Nat) (U : State) : Prop :=
  U.heap.size = sz ∧ va_P D cl ws U.heap ∧ va_K D cl tys U ∧ va_D (fun _ => True) ws ∧ zt_ok Z (va_A ws sz) U U.heap
def xw_B (D : va_G) (cl : List vw_C) (tys : List (ClassId × FieldType)) (A : Nat → Prop) (ws : va_W) (t : State) : Prop := va_P D cl ws t.heap ∧ va_K D cl tys t ∧ va_D A ws
theorem xw_blind {D : va_G} {cl : List vw_C} {tys : List (ClassId × FieldType)} {Z : zt_T} {ws : va_W} {sz : Nat} {av : List Value} : FrameBlind (va_Pc av (xw_Pc D cl tys Z ws sz)) := by
  intro a U g mk q
  obtain ⟨q0, q1, qP, qK, qD, qZ⟩ := q
  exact ⟨q0, q1, qP, va_K.moved (u := U) (U := U.calling g mk a) (Vm.Alike.refl U.vm) qK, qD, zt_ok.moved (u := U) (U := U.calling g mk a) (Vm.Alike.refl U.vm) qZ⟩
/-- a contract: an int comes back, the state goes from u to u' -/
def xw_Ct (l : Launch) (y : MethodName) (wds : List Cond) (rm : Room) (D : va_G) (cl : List vw_C) (tys : List (ClassId × FieldType)) (Z : zt_T) (ws ws' : va_W) (av : List Value) (r : Int32) : Prop :=
  ∀ sz : Nat, Met l y wds rm (va_Pc av (xw_Pc D cl tys Z ws sz)) (va_Qi (fun (r2 : Int32) (_ : Unit) => r2 = r) (fun _ t => xw_B D cl tys (va_A ws sz) ws' t) (va_A ws sz)) 0 0 (va_A ws sz)
def xw_Cv (l : Launch) (y : MethodName) (wds : List Cond) (rm : Room) (D : va_G) (cl : List vw_C) (tys : List (ClassId × FieldType)) (Z : zt_T) (ws ws' : va_W) (av : List Value) : Prop :=
  ∀ sz : Nat, Met l y wds rm (va_Pc av (xw_Pc D cl tys Z ws sz)) (va_Qv (fun (_ : Unit) => True) (fun _ t => xw_B D cl tys (va_A ws sz) ws' t) (va_A ws sz)) 0 0 (va_A ws sz)
/-- what stands at a method's entry -/
abbrev xw_At (p : Program) (s : State) (m : MethodId) (meth : Method) (c : Code) (cc : ByteArray) (maxL : Nat) (ret : Option FieldType) (own : String) (wds : List Cond) (av : List Value) (D : va_G) (cl : List vw_C) (tys : List (ClassId × FieldType)) (Z : zt_T) (A : Nat → Prop) : Prop :=
  p.tables.exec = Jvm.exec ∧ c.code = cc ∧ meth.sig.returnType = ret ∧ c.maxLocals = maxL ∧ s.vm.findClass own = some m.cls ∧ (∀ w ∈ wds, w.before av.toArray s = true) ∧ meth.locks = false ∧ va_K D cl tys s ∧ zt_ok Z A s s.heap ∧ (∀ q : Nat, s.heap.size ≤ q → A q)
theorem xw_ofW {l : Launch} {y : MethodName} {wds ws0 : List Cond} {rm : Room} {D : va_G} {cl : List vw_C} {tys : List (ClassId × FieldType)} {Z : zt_T} {ws ws' : va_W} {av : List Value} {r : Int32} {cc : ByteArray} {maxL : Nat} {ret : Option FieldType} {lv : List (Nat × Value)}
    (hy : plainName y.cls = true) (hw : wds = Cond.code y cc maxL ret :: ws0) (hl0 : (lg_sl av).length ≤ maxL) (hlv : lv_args 0 av = lv)
    (body : ∀ (p : Program) (e : Env) (s : State) (m : MethodId) (below : List Frame) (meth : Method) (c : Code) (A : Nat → Prop), xw_At p s m meth c cc maxL ret y.cls wds av D cl tys Z A → va_P D cl ws s.heap → va_D A ws → va_S A s.heap s.heap [] → ∀ ls : Array Slot, lv_has ls maxL lv →
      W p l e rm s m av.toArray below meth c s.heap [] 0 0 (MQ below (va_Qi (fun (r2 : Int32) (_ : Unit) => r2 = r) (fun _ t => xw_B D cl tys A ws' t) A) av.toArray s 0 0 A) (F0 m 0 ls [])) : xw_Ct l y wds rm D cl tys Z ws ws' av r := by
  intro sz
  refine Met.ofW (cc := cc) (maxL := maxL) (ret := ret) hy hw ?_
  intro p e s m args below meth c s₁ B hml hv
  obtain ⟨rfl, hsz, hP, hK, hD0, hZ⟩ := hv
  subst hsz
  have hl := lv_entry av (n := maxL) hl0
  rw [lg_entry_eq]
  rw [hlv] at hl
  exact body p e s m below meth c (va_A ws s.heap.size) ⟨B.exec, B.bytes, B.returns, hml, findClass_of_methodNamed B.named, atoms_spec (ws := wds) B.pre, B.notSynchronized, hK, hZ, fun q h => Or.inr h⟩ hP hD0.self va_S.rf _ hl
theorem xw_ofWv {l : Launch} {y : MethodName} {wds ws0 : List Cond} {rm : Room} {D : va_G} {cl : List vw_C} {tys : List (ClassId × FieldType)} {Z : zt_T} {ws ws' : va_W} {av : List Value} {cc : ByteArray} {maxL : Nat} {ret : Option FieldType} {lv : List (Nat × Value)}
    (hy : plainName y.cls = true) (hw : wds = Cond.code y cc maxL ret :: ws0) (hl0 : (lg_sl av).length ≤ maxL) (hlv : lv_args 0 av = lv)
    (body : ∀ (p : Program) (e : Env) (s : State) (m : MethodId) (below : List Frame) (meth : Method) (c : Code) (A : Nat → Prop), xw_At p s m meth c cc maxL ret y.cls wds av D cl tys Z A → va_P D cl ws s.heap → va_D A ws → va_S A s.heap s.heap [] → ∀ ls : Array Slot, lv_has ls maxL lv →
      W p l e rm s m av.toArray below meth c s.heap [] 0 0 (MQ below (va_Qv (fun (_ : Unit) => True) (fun _ t => xw_B D cl tys A ws' t) A) av.toArray s 0 0 A) (F0 m 0 ls [])) : xw_Cv l y wds rm D cl tys Z ws ws' av := by
  intro sz
  refine Met.ofW (cc := cc) (maxL := maxL) (ret := ret) hy hw ?_
  intro p e s m args below meth c s₁ B hml hv
  obtain ⟨rfl, hsz, hP, hK, hD0, hZ⟩ := hv
  subst hsz
  have hl := lv_entry av (n := maxL) hl0
  rw [lg_entry_eq]
  rw [hlv] at hl
  exact body p e s m below meth c (va_A ws s.heap.size) ⟨B.exec, B.bytes, B.returns, hml, findClass_of_methodNamed B.named, atoms_spec (ws := wds) B.pre, B.notSynchronized, hK, hZ, fun q h => Or.inr h⟩ hP hD0.self va_S.rf _ hl
-- pure rows
theorem it_t {α : Type} {c : Prop} {hd : Decidable c} {a b o : α} (h : (if c then a else b) = o) (hc : c) : a = o := by rw [if_pos hc] at h; exact h
theorem it_f {α : Type} {c : Prop} {hd : Decidable c} {a b o : α} (h : (if c then a else b) = o) (hc : ¬ c) : b = o := by rw [if_neg hc] at h; exact h
theorem gd_f {α : Type} {c : Prop} {hd : Decidable c} {a : Option α} {o : α} (h : (if c then none else a) = some o) : ¬ c ∧ a = some o := by
  by_cases hc : c
  · rw [if_pos hc] at h; cases h
  · rw [if_neg hc] at h; exact ⟨hc, h⟩
theorem bd_s {α β : Type} {x : Option α} {f : α → Option β} {o : β} (h : x.bind f = some o) : ∃ q, x = some q ∧ f q = some o := by
  cases x with
  | none => cases h
  | some q => exact ⟨q, rfl, h⟩
theorem nb_01 {v : Int32} (h : ¬ ¬ (v = 0 ∨ v = 1)) : narrow .boolean (.int v) = .int v := by
  rcases Classical.not_not.mp h with rfl | rfl <;> rfl
section XWR
variable {p : Program} {l : Launch} {e : Env} {R : Room} {s : State} {m : MethodId} {args : Array Value} {below : List Frame} {meth : Method} {c : Code} {H : Heap} {locs : List Loc} {Q : State → Prop}
variable {cc : ByteArray} {pc : Nat} {ls : Array Slot} {rest : List Value} {D : va_G} {cl : List vw_C} {A : Nat → Prop} {tys : List (ClassId × FieldType)} {Z : zt_T}
/-- an answer -/
theorem xw_iret {S : Type} {wf : S → va_W} {v r : Int32} {u u' : S} {ty : FieldType} (hx : p.tables.exec = Jvm.exec) (hb : c.code = cc) (hr : meth.sig.returnType = some ty) (hlocks : meth.locks = false) (hn : narrow ty (.int v) = .int v) (hK : va_K D cl tys s) (hP : va_P D cl (wf u) H) (hD : va_D A (wf u)) (hS : va_S A s.heap H locs) (hf : some (v, u) = some (r, u')) (hdg : decode cc pc = .ok (.ireturn, 1)) :
    W p l e R s m args below meth c H locs 0 0 (MQ below (va_Qi (fun (r2 : Int32) (_ : Unit) => r2 = r) (fun _ t => xw_B D cl tys A (wf u') t) A) args s 0 0 A) (F0 m pc ls [.int v]) := by
  cases hf
  exact W.zret hx hb hr hn (fun t ht hW => ⟨⟨v, (), rfl, rfl, by rw [ht]; exact hP, va_K.moved hW.alike hK, hD⟩, hS.F ht⟩) hS.2.2 hdg
theorem xw_vret {S : Type} {wf : S → va_W} {v r : Int32} {u u' : S} (hx : p.tables.exec = Jvm.exec) (hb : c.code = cc) (hr : meth.sig.returnType = none) (hlocks : meth.locks = false) (hK : va_K D cl tys s) (hP : va_P D cl (wf u) H) (hD : va_D A (wf u)) (hS : va_S A s.heap H locs) (hf : some (v, u) = some (r, u')) (hdg : decode cc pc = .ok (.return_, 1)) :
    W p l e R s m args below meth c H locs 0 0 (MQ below (va_Qv (fun (_ : Unit) => True) (fun _ t => xw_B D cl tys A (wf u') t) A) args s 0 0 A) (F0 m pc ls []) := by
  cases hf
  exact W.vret hx hb hr (fun t ht hW => ⟨⟨(), rfl, trivial, by rw [ht]; exact hP, va_K.moved hW.alike hK, hD⟩, hS.F ht⟩) hS.2.2 hdg
theorem xw_free {ws : va_W} {H0 : Heap} (hD : va_D A ws) (hS : va_S A H0 H locs) (hA : ∀ q, H0.size ≤ q → A q) : ∀ q, va_A ws H.size q → A q := by
  intro q h
  rcases h with ⟨k, e, h⟩ | h
  · exact hD.2 k (q, e) h
  · exact hA q (Nat.le_trans hS.1 h)
theorem xw_pre {ws : va_W} {av : List Value} (hK : va_K D cl tys s) (hP : va_P D cl ws H) (hD : va_D A ws) (hS : va_S A s.heap H locs) (hA : ∀ q, s.heap.size ≤ q → A q) (hZ : zt_ok Z A s s.heap) : ∀ U : State, U.heap = H → s.WarmedH U.vm → va_Pc av (xw_Pc D cl tys Z ws H.size) av.toArray U := by
  intro U hU hW
  refine ⟨rfl, by rw [hU], by rw [hU]; exact hP, va_K.moved hW.alike hK, hD.weaken (fun _ _ _ _ => trivial), ?_⟩
  rw [hU]
  exact ((hZ.kept hS.2.1).narrow (xw_free hD hS hA)).moved hW.alike
variable {nL index n maxL : Nat} {own C : String} {y : MethodName} {bytes : ByteArray} {ret : Option FieldType} {wds : List Cond} {Ts : List Cond} {rm : Room} {As : List Value} {b : Nat} {st : List Value} {ws ws' : va_W}
/-- an own instance method, the whole world goes in -/
theorem xw_callV {r : Int32} {ci q0 : Nat} {fs : List Value} {q : vw_C} {cells slots : Nat} (hM : xw_Ct l y wds rm D cl tys Z ws ws' (.ref b :: As) r) (S : CallFix p m c cc nL s args Ts own) (cw : CallW R s args own q.1 index y bytes maxL ret wds rm 0 0 n)
    (hK : va_K D cl tys s) (hP : va_P D cl ws H) (hD : va_D A ws) (hS : va_S A s.heap H locs) (hA : ∀ q, s.heap.size ≤ q → A q) (hZ : zt_ok Z A s s.heap) (hc : cl[ci]? = some q) (he : ws[q0]? = some (b, .inr (ci, fs)))
    (hn : As.length = n) (hsize : ls.size = nL) (hst : st = As.reverse ++ .ref b :: rest) (hW : (rest.map fun v => v.category).sum ≤ 8) (hdg : decode cc pc = .ok (.invokevirtual index, 3)) (hf : cells ≤ R.cells ∧ slots ≤ R.slots)
    (kk : ∀ (H1 : Heap) (locs1 : List Loc), va_P D cl ws' H1 → va_D A ws' → va_S A s.heap H1 locs1 → W p l e R s m args below meth c H1 locs1 cells slots Q (F0 m (pc + 3) ls (.int r :: rest))) : W p l e R s m args below meth c H locs cells slots Q (F0 m pc ls st) := by
  have hF := xw_free hD hS hA
  refine va_calli (va_runV S (hM H.size) cw ⟨xw_blind, va_recv hK hP hc he, xw_pre hK hP hD hS hA hZ⟩ rfl hn hsize hst (lv_room hW) hdg hf) hS (fun q _ h => hF q h) hF (fun r2 u t H1 locs1 ht hvm hw hB hz1 hk1 hS1 => ?_)
  obtain ⟨hP1, hK1, hD1⟩ := hB
  subst hw
  rw [ht] at hP1
  exact kk H1 locs1 hP1 (hD1.weaken fun _ q _ h => hF q.1 h) hS1
theorem xw_callVv {ci q0 : Nat} {fs : List Value} {q : vw_C} {cells slots : Nat} (hM : xw_Cv l y wds rm D cl tys Z ws ws' (.ref b :: As)) (S : CallFix p m c cc nL s args Ts own) (cw : CallW R s args own q.1 index y bytes maxL ret wds rm 0 0 n)
    (hK : va_K D cl tys s) (hP : va_P D cl ws H) (hD : va_D A ws) (hS : va_S A s.heap H locs) (hA : ∀ q, s.heap.size ≤ q → A q) (hZ : zt_ok Z A s s.heap) (hc : cl[ci]? = some q) (he : ws[q0]? = some (b, .inr (ci, fs)))
    (hn : As.length = n) (hsize : ls.size = nL) (hst : st = As.reverse ++ .ref b :: rest) (hW : (rest.map fun v => v.category).sum ≤ 8) (hdg : decode cc pc = .ok (.invokevirtual index, 3)) (hf : cells ≤ R.cells ∧ slots ≤ R.slots)
    (kk : ∀ (H1 : Heap) (locs1 : List Loc), va_P D cl ws' H1 → va_D A ws' → va_S A s.heap H1 locs1 → W p l e R s m args below meth c H1 locs1 cells slots Q (F0 m (pc + 3) ls rest)) : W p l e R s m args below meth c H locs cells slots Q (F0 m pc ls st) := by
  have hF := xw_free hD hS hA
  refine va_callv (va_runV S (hM H.size) cw ⟨xw_blind, va_recv hK hP hc he, xw_pre hK hP hD hS hA hZ⟩ rfl hn hsize hst (lv_room hW) hdg hf) hS (fun q _ h => hF q h) hF (fun u t H1 locs1 ht hvm hw hB hz1 hk1 hS1 => ?_)
  obtain ⟨hP1, hK1, hD1⟩ := hB
  rw [ht] at hP1
  exact kk H1 locs1 hP1 (hD1.weaken fun _ q _ h => hF q.1 h) hS1
theorem xw_callS {r : Int32} {cells slots : Nat} (hM : xw_Ct l y wds rm D cl tys Z ws ws' As r) (S : CallFix p m c cc nL s args Ts own) (cw : CallB R s args own index y bytes maxL ret wds rm 0 0 n ∧ (Cond.static y).before args s = true)
    (hK : va_K D cl tys s) (hP : va_P D cl ws H) (hD : va_D A ws) (hS : va_S A s.heap H locs) (hA : ∀ q, s.heap.size ≤ q → A q) (hZ : zt_ok Z A s s.heap)
    (hn : As.length = n) (hsize : ls.size = nL) (hst : st = As.reverse ++ rest) (hW : (rest.map fun v => v.category).sum ≤ 8) (hdg : decode cc pc = .ok (.invokestatic index, 3)) (hf : cells ≤ R.cells ∧ slots ≤ R.slots)
    (kk : ∀ (H1 : Heap) (locs1 : List Loc), va_P D cl ws' H1 → va_D A ws' → va_S A s.heap H1 locs1 → W p l e R s m args below meth c H1 locs1 cells slots Q (F0 m (pc + 3) ls (.int r :: rest))) : W p l e R s m args below meth c H locs cells slots Q (F0 m pc ls st) := by
  have hF := xw_free hD hS hA
  refine va_calli (va_runS S (hM H.size) cw ⟨xw_blind, xw_pre hK hP hD hS hA hZ⟩ rfl hn hsize hst (lv_room hW) hdg hf) hS (fun q _ h => hF q h) hF (fun r2 u t H1 locs1 ht hvm hw hB hz1 hk1 hS1 => ?_)
  obtain ⟨hP1, hK1, hD1⟩ := hB
  subst hw
  rw [ht] at hP1
  exact kk H1 locs1 hP1 (hD1.weaken fun _ q _ h => hF q.1 h) hS1
end XWR

/-! two objects side by side: a call on the left one, on the right one -/
theorem vp_left {D : va_G} {cl : List vw_C} {w1 w2 : va_W} {H : Heap} (h : va_P D cl (w1 ++ w2) H) : va_P D cl w1 H := fun k q hk => h k q (by rw [List.getElem?_append_left (List.getElem?_eq_some_iff.mp hk).1]; exact hk)
theorem vp_right {D : va_G} {cl : List vw_C} {w1 w2 : va_W} {H : Heap} (h : va_P D cl (w1 ++ w2) H) : va_P D cl w2 H := fun k q hk => h (w1.length + k) q (by rw [List.getElem?_append_right (Nat.le_add_right _ _), Nat.add_sub_cancel_left]; exact hk)
theorem vd_left {A : Nat → Prop} {w1 w2 : va_W} (h : va_D A (w1 ++ w2)) : va_D A w1 := by
  have up : ∀ (k : Nat) (q : Nat × va_E), w1[k]? = some q → (w1 ++ w2)[k]? = some q := fun k q hk => by rw [List.getElem?_append_left (List.getElem?_eq_some_iff.mp hk).1]; exact hk
  exact ⟨fun i j p q hi hj e => h.1 i j p q (up i p hi) (up j q hj) e, fun k q hk => h.2 k q (up k q hk)⟩
theorem vd_right {A : Nat → Prop} {w1 w2 : va_W} (h : va_D A (w1 ++ w2)) : va_D A w2 := by
  have up : ∀ (k : Nat) (q : Nat × va_E), w2[k]? = some q → (w1 ++ w2)[w1.length + k]? = some q := fun k q hk => by rw [List.getElem?_append_right (Nat.le_add_right _ _), Nat.add_sub_cancel_left]; exact hk
  exact ⟨fun i j p q hi hj e => Nat.add_left_cancel (h.1 _ _ p q (up i p hi) (up j q hj) e), fun k q hk => h.2 _ q (up k q hk)⟩
theorem vd_apart {A : Nat → Prop} {w1 w2 : va_W} (h : va_D A (w1 ++ w2)) {i j : Nat} {x y : Nat × va_E} (hx : w1[i]? = some x) (hy : w2[j]? = some y) : x.1 ≠ y.1 := by
  intro e
  have hl := (List.getElem?_eq_some_iff.mp hx).1
  have h1 : (w1 ++ w2)[i]? = some x := by rw [List.getElem?_append_left hl]; exact hx
  have h2 : (w1 ++ w2)[w1.length + j]? = some y := by rw [List.getElem?_append_right (Nat.le_add_right _ _), Nat.add_sub_cancel_left]; exact hy
  have := h.1 i (w1.length + j) x y h1 h2 e
  omega
theorem vj_left {A : Nat → Prop} {D : va_G} {cl : List vw_C} {w1 w2 w3 : va_W} {H H1 : Heap} (hP : va_P D cl (w1 ++ w2) H) (hD : va_D A (w1 ++ w2)) (hF : ∀ q, va_A w1 H.size q → A q) (hk : ∀ q : Nat, q < H.size → ¬ va_A w1 H.size q → H1[q]? = H[q]?) (hP1 : va_P D cl w3 H1) (hD1 : va_D (va_A w1 H.size) w3) : va_P D cl (w3 ++ w2) H1 ∧ va_D A (w3 ++ w2) := by
  have ap : ∀ (k : Nat) (q : Nat × va_E), w2[k]? = some q → q.1 < H.size ∧ ¬ va_A w1 H.size q.1 := by
    intro k q hq
    have hl := (vp_right hP k q hq).lt
    refine ⟨hl, fun h => ?_⟩
    rcases h with ⟨k2, e, h⟩ | h
    · exact vd_apart hD h hq rfl
    · omega
  refine ⟨hP1.app (fun k q hq => (vp_right hP k q hq).kept (hk q.1 (ap k q hq).1 (ap k q hq).2)), va_D.app (hD1.weaken (fun k q _ h => hF q.1 h)) (vd_right hD) (fun i j x y hx hy hxy => ?_)⟩
  exact (ap j y hy).2 (by rw [← hxy]; exact hD1.2 i x hx)
theorem vj_right {A : Nat → Prop} {D : va_G} {cl : List vw_C} {w1 w2 w3 : va_W} {H H1 : Heap} (hP : va_P D cl (w1 ++ w2) H) (hD : va_D A (w1 ++ w2)) (hF : ∀ q, va_A w2 H.size q → A q) (hk : ∀ q : Nat, q < H.size → ¬ va_A w2 H.size q → H1[q]? = H[q]?) (hP1 : va_P D cl w3 H1) (hD1 : va_D (va_A w2 H.size) w3) : va_P D cl (w1 ++ w3) H1 ∧ va_D A (w1 ++ w3) := by
  have ap : ∀ (k : Nat) (q : Nat × va_E), w1[k]? = some q → q.1 < H.size ∧ ¬ va_A w2 H.size q.1 := by
    intro k q hq
    have hl := (vp_left hP k q hq).lt
    refine ⟨hl, fun h => ?_⟩
    rcases h with ⟨k2, e, h⟩ | h
    · exact vd_apart hD hq h rfl
    · omega
  refine ⟨va_P.app (fun k q hq => (vp_left hP k q hq).kept (hk q.1 (ap k q hq).1 (ap k q hq).2)) hP1, va_D.app (vd_left hD) (hD1.weaken (fun k q _ h => hF q.1 h)) (fun i j x y hx hy hxy => ?_)⟩
  exact (ap i x hx).2 (by rw [hxy]; exact hD1.2 j y hy)
section XWL
variable {p : Program} {l : Launch} {e : Env} {R : Room} {s : State} {m : MethodId} {args : Array Value} {below : List Frame} {meth : Method} {c : Code} {H : Heap} {locs : List Loc} {Q : State → Prop}
variable {cc : ByteArray} {pc : Nat} {ls : Array Slot} {rest : List Value} {D : va_G} {cl : List vw_C} {A : Nat → Prop} {tys : List (ClassId × FieldType)} {Z : zt_T}
variable {nL index n maxL : Nat} {own C : String} {y : MethodName} {bytes : ByteArray} {ret : Option FieldType} {wds : List Cond} {Ts : List Cond} {rm : Room} {As : List Value} {b : Nat} {st : List Value} {w1 w2 w3 : va_W}
theorem xw_callL {r : Int32} {ci q0 : Nat} {fs : List Value} {q : vw_C} {cells slots : Nat} (hM : xw_Ct l y wds rm D cl tys Z w1 w3 (.ref b :: As) r) (S : CallFix p m c cc nL s args Ts own) (cw : CallW R s args own q.1 index y bytes maxL ret wds rm 0 0 n)
    (hK : va_K D cl tys s) (hP : va_P D cl (w1 ++ w2) H) (hD : va_D A (w1 ++ w2)) (hS : va_S A s.heap H locs) (hA : ∀ q, s.heap.size ≤ q → A q) (hZ : zt_ok Z A s s.heap) (hc : cl[ci]? = some q) (he : w1[q0]? = some (b, .inr (ci, fs)))
    (hn : As.length = n) (hsize : ls.size = nL) (hst : st = As.reverse ++ .ref b :: rest) (hW : (rest.map fun v => v.category).sum ≤ 8) (hdg : decode cc pc = .ok (.invokevirtual index, 3)) (hf : cells ≤ R.cells ∧ slots ≤ R.slots)
    (kk : ∀ (H1 : Heap) (locs1 : List Loc), va_P D cl (w3 ++ w2) H1 → va_D A (w3 ++ w2) → va_S A s.heap H1 locs1 → W p l e R s m args below meth c H1 locs1 cells slots Q (F0 m (pc + 3) ls (.int r :: rest))) : W p l e R s m args below meth c H locs cells slots Q (F0 m pc ls st) := by
  have hPl := vp_left hP
  have hDl := vd_left hD
  have hF := xw_free hDl hS hA
  refine va_calli (va_runV S (hM H.size) cw ⟨xw_blind, va_recv hK hPl hc he, xw_pre hK hPl hDl hS hA hZ⟩ rfl hn hsize hst (lv_room hW) hdg hf) hS (fun q _ h => hF q h) hF (fun r2 u t H1 locs1 ht hvm hw hB hz1 hk1 hS1 => ?_)
  obtain ⟨hP1, hK1, hD1⟩ := hB
  subst hw
  rw [ht] at hP1
  obtain ⟨g1, g2⟩ := vj_left hP hD hF hk1 hP1 hD1
  exact kk H1 locs1 g1 g2 hS1
theorem xw_callR {r : Int32} {ci q0 : Nat} {fs : List Value} {q : vw_C} {cells slots : Nat} (hM : xw_Ct l y wds rm D cl tys Z w2 w3 (.ref b :: As) r) (S : CallFix p m c cc nL s args Ts own) (cw : CallW R s args own q.1 index y bytes maxL ret wds rm 0 0 n)
    (hK : va_K D cl tys s) (hP : va_P D cl (w1 ++ w2) H) (hD : va_D A (w1 ++ w2)) (hS : va_S A s.heap H locs) (hA : ∀ q, s.heap.size ≤ q → A q) (hZ : zt_ok Z A s s.heap) (hc : cl[ci]? = some q) (he : w2[q0]? = some (b, .inr (ci, fs)))
    (hn : As.length = n) (hsize : ls.size = nL) (hst : st = As.reverse ++ .ref b :: rest) (hW : (rest.map fun v => v.category).sum ≤ 8) (hdg : decode cc pc = .ok (.invokevirtual index, 3)) (hf : cells ≤ R.cells ∧ slots ≤ R.slots)
    (kk : ∀ (H1 : Heap) (locs1 : List Loc), va_P D cl (w1 ++ w3) H1 → va_D A (w1 ++ w3) → va_S A s.heap H1 locs1 → W p l e R s m args below meth c H1 locs1 cells slots Q (F0 m (pc + 3) ls (.int r :: rest))) : W p l e R s m args below meth c H locs cells slots Q (F0 m pc ls st) := by
  have hPr := vp_right hP
  have hDr := vd_right hD
  have hF := xw_free hDr hS hA
  refine va_calli (va_runV S (hM H.size) cw ⟨xw_blind, va_recv hK hPr hc he, xw_pre hK hPr hDr hS hA hZ⟩ rfl hn hsize hst (lv_room hW) hdg hf) hS (fun q _ h => hF q h) hF (fun r2 u t H1 locs1 ht hvm hw hB hz1 hk1 hS1 => ?_)
  obtain ⟨hP1, hK1, hD1⟩ := hB
  subst hw
  rw [ht] at hP1
  obtain ⟨g1, g2⟩ := vj_right hP hD hF hk1 hP1 hD1
  exact kk H1 locs1 g1 g2 hS1
end XWL

/-! the states and their worlds -/
abbrev XSt : Type := (Nat → Int32) × (Nat → Int32) × (Nat → Int32) × (Nat → Int32) × (Nat → Int32) × Int32 × (Nat → Int32) × (Nat → Int32) × (Nat → Int32) × Int32 × (Nat → Int32) × Int32 × Int32
def x_live (s : XSt) : (Nat → Int32) := s.1
def x_houses (s : XSt) : (Nat → Int32) := s.2.1
def x_hosts (s : XSt) : (Nat → Int32) := s.2.2.1
def x_changeCounts (s : XSt) : (Nat → Int32) := s.2.2.2.1
def x_changeMoments (s : XSt) : (Nat → Int32) := s.2.2.2.2.1
def x_records (s : XSt) : Int32 := s.2.2.2.2.2.1
def x_linkFrom (s : XSt) : (Nat → Int32) := s.2.2.2.2.2.2.1
def x_linkField (s : XSt) : (Nat → Int32) := s.2.2.2.2.2.2.2.1
def x_linkTo (s : XSt) : (Nat → Int32) := s.2.2.2.2.2.2.2.2.1
def x_links (s : XSt) : Int32 := s.2.2.2.2.2.2.2.2.2.1
def x_refusedWay (s : XSt) : (Nat → Int32) := s.2.2.2.2.2.2.2.2.2.2.1
def x_refusedWayLength (s : XSt) : Int32 := s.2.2.2.2.2.2.2.2.2.2.2.1
def x_moment (s : XSt) : Int32 := s.2.2.2.2.2.2.2.2.2.2.2.2
def x_plive (s : XSt) (v : (Nat → Int32)) : XSt := (v, s.2.1, s.2.2.1, s.2.2.2.1, s.2.2.2.2.1, s.2.2.2.2.2.1, s.2.2.2.2.2.2.1, s.2.2.2.2.2.2.2.1, s.2.2.2.2.2.2.2.2.1, s.2.2.2.2.2.2.2.2.2.1, s.2.2.2.2.2.2.2.2.2.2.1, s.2.2.2.2.2.2.2.2.2.2.2.1, s.2.2.2.2.2.2.2.2.2.2.2.2)
def x_phouses (s : XSt) (v : (Nat → Int32)) : XSt := (s.1, v, s.2.2.1, s.2.2.2.1, s.2.2.2.2.1, s.2.2.2.2.2.1, s.2.2.2.2.2.2.1, s.2.2.2.2.2.2.2.1, s.2.2.2.2.2.2.2.2.1, s.2.2.2.2.2.2.2.2.2.1, s.2.2.2.2.2.2.2.2.2.2.1, s.2.2.2.2.2.2.2.2.2.2.2.1, s.2.2.2.2.2.2.2.2.2.2.2.2)
def x_phosts (s : XSt) (v : (Nat → Int32)) : XSt := (s.1, s.2.1, v, s.2.2.2.1, s.2.2.2.2.1, s.2.2.2.2.2.1, s.2.2.2.2.2.2.1, s.2.2.2.2.2.2.2.1, s.2.2.2.2.2.2.2.2.1, s.2.2.2.2.2.2.2.2.2.1, s.2.2.2.2.2.2.2.2.2.2.1, s.2.2.2.2.2.2.2.2.2.2.2.1, s.2.2.2.2.2.2.2.2.2.2.2.2)
def x_pchangeCounts (s : XSt) (v : (Nat → Int32)) : XSt := (s.1, s.2.1, s.2.2.1, v, s.2.2.2.2.1, s.2.2.2.2.2.1, s.2.2.2.2.2.2.1, s.2.2.2.2.2.2.2.1, s.2.2.2.2.2.2.2.2.1, s.2.2.2.2.2.2.2.2.2.1, s.2.2.2.2.2.2.2.2.2.2.1, s.2.2.2.2.2.2.2.2.2.2.2.1, s.2.2.2.2.2.2.2.2.2.2.2.2)
def x_pchangeMoments (s : XSt) (v : (Nat → Int32)) : XSt := (s.1, s.2.1, s.2.2.1, s.2.2.2.1, v, s.2.2.2.2.2.1, s.2.2.2.2.2.2.1, s.2.2.2.2.2.2.2.1, s.2.2.2.2.2.2.2.2.1, s.2.2.2.2.2.2.2.2.2.1, s.2.2.2.2.2.2.2.2.2.2.1, s.2.2.2.2.2.2.2.2.2.2.2.1, s.2.2.2.2.2.2.2.2.2.2.2.2)
def x_precords (s : XSt) (v : Int32) : XSt := (s.1, s.2.1, s.2.2.1, s.2.2.2.1, s.2.2.2.2.1, v, s.2.2.2.2.2.2.1, s.2.2.2.2.2.2.2.1, s.2.2.2.2.2.2.2.2.1, s.2.2.2.2.2.2.2.2.2.1, s.2.2.2.2.2.2.2.2.2.2.1, s.2.2.2.2.2.2.2.2.2.2.2.1, s.2.2.2.2.2.2.2.2.2.2.2.2)
def x_plinkFrom (s : XSt) (v : (Nat → Int32)) : XSt := (s.1, s.2.1, s.2.2.1, s.2.2.2.1, s.2.2.2.2.1, s.2.2.2.2.2.1, v, s.2.2.2.2.2.2.2.1, s.2.2.2.2.2.2.2.2.1, s.2.2.2.2.2.2.2.2.2.1, s.2.2.2.2.2.2.2.2.2.2.1, s.2.2.2.2.2.2.2.2.2.2.2.1, s.2.2.2.2.2.2.2.2.2.2.2.2)
def x_plinkField (s : XSt) (v : (Nat → Int32)) : XSt := (s.1, s.2.1, s.2.2.1, s.2.2.2.1, s.2.2.2.2.1, s.2.2.2.2.2.1, s.2.2.2.2.2.2.1, v, s.2.2.2.2.2.2.2.2.1, s.2.2.2.2.2.2.2.2.2.1, s.2.2.2.2.2.2.2.2.2.2.1, s.2.2.2.2.2.2.2.2.2.2.2.1, s.2.2.2.2.2.2.2.2.2.2.2.2)
def x_plinkTo (s : XSt) (v : (Nat → Int32)) : XSt := (s.1, s.2.1, s.2.2.1, s.2.2.2.1, s.2.2.2.2.1, s.2.2.2.2.2.1, s.2.2.2.2.2.2.1, s.2.2.2.2.2.2.2.1, v, s.2.2.2.2.2.2.2.2.2.1, s.2.2.2.2.2.2.2.2.2.2.1, s.2.2.2.2.2.2.2.2.2.2.2.1, s.2.2.2.2.2.2.2.2.2.2.2.2)
def x_plinks (s : XSt) (v : Int32) : XSt := (s.1, s.2.1, s.2.2.1, s.2.2.2.1, s.2.2.2.2.1, s.2.2.2.2.2.1, s.2.2.2.2.2.2.1, s.2.2.2.2.2.2.2.1, s.2.2.2.2.2.2.2.2.1, v, s.2.2.2.2.2.2.2.2.2.2.1, s.2.2.2.2.2.2.2.2.2.2.2.1, s.2.2.2.2.2.2.2.2.2.2.2.2)
def x_prefusedWay (s : XSt) (v : (Nat → Int32)) : XSt := (s.1, s.2.1, s.2.2.1, s.2.2.2.1, s.2.2.2.2.1, s.2.2.2.2.2.1, s.2.2.2.2.2.2.1, s.2.2.2.2.2.2.2.1, s.2.2.2.2.2.2.2.2.1, s.2.2.2.2.2.2.2.2.2.1, v, s.2.2.2.2.2.2.2.2.2.2.2.1, s.2.2.2.2.2.2.2.2.2.2.2.2)
def x_prefusedWayLength (s : XSt) (v : Int32) : XSt := (s.1, s.2.1, s.2.2.1, s.2.2.2.1, s.2.2.2.2.1, s.2.2.2.2.2.1, s.2.2.2.2.2.2.1, s.2.2.2.2.2.2.2.1, s.2.2.2.2.2.2.2.2.1, s.2.2.2.2.2.2.2.2.2.1, s.2.2.2.2.2.2.2.2.2.2.1, v, s.2.2.2.2.2.2.2.2.2.2.2.2)
def x_pmoment (s : XSt) (v : Int32) : XSt := (s.1, s.2.1, s.2.2.1, s.2.2.2.1, s.2.2.2.2.1, s.2.2.2.2.2.1, s.2.2.2.2.2.2.1, s.2.2.2.2.2.2.2.1, s.2.2.2.2.2.2.2.2.1, s.2.2.2.2.2.2.2.2.2.1, s.2.2.2.2.2.2.2.2.2.2.1, s.2.2.2.2.2.2.2.2.2.2.2.1, v)
abbrev w_X (a : Nat → Nat) (cI cZ : ClassId) (s : XSt) : va_W := [(a 0, .inr (0, [.ref (a 1), .ref (a 2), .ref (a 3), .ref (a 4), .ref (a 5), .int (x_records s), .ref (a 6), .ref (a 7), .ref (a 8), .int (x_links s), .ref (a 9), .int (x_refusedWayLength s), .int (x_moment s)])), (a 1, .inl (cZ, 61, .inl (x_live s))), (a 2, .inl (cI, 61, .inl (x_houses s))), (a 3, .inl (cI, 61, .inl (x_hosts s))), (a 4, .inl (cI, 61, .inl (x_changeCounts s))), (a 5, .inl (cI, 2440, .inl (x_changeMoments s))), (a 6, .inl (cI, 200, .inl (x_linkFrom s))), (a 7, .inl (cI, 200, .inl (x_linkField s))), (a 8, .inl (cI, 200, .inl (x_linkTo s))), (a 9, .inl (cI, 60, .inl (x_refusedWay s)))]
abbrev MSt : Type := Int32 × Int32 × (Nat → Int32) × (Nat → Int32) × (Nat → Int32) × (Nat → Int32) × (Nat → Int32) × Int32 × Int32 × (Nat → Int32) × (Nat → Int32) × (Nat → Int32) × (Nat → Int32) × Int32
def m_thrown (s : MSt) : Int32 := s.1
def m_records (s : MSt) : Int32 := s.2.1
def m_live (s : MSt) : (Nat → Int32) := s.2.2.1
def m_houses (s : MSt) : (Nat → Int32) := s.2.2.2.1
def m_hadHost (s : MSt) : (Nat → Int32) := s.2.2.2.2.1
def m_times (s : MSt) : (Nat → Int32) := s.2.2.2.2.2.1
def m_timeCount (s : MSt) : (Nat → Int32) := s.2.2.2.2.2.2.1
def m_moment (s : MSt) : Int32 := s.2.2.2.2.2.2.2.1
def m_links (s : MSt) : Int32 := s.2.2.2.2.2.2.2.2.1
def m_from (s : MSt) : (Nat → Int32) := s.2.2.2.2.2.2.2.2.2.1
def m_field (s : MSt) : (Nat → Int32) := s.2.2.2.2.2.2.2.2.2.2.1
def m_to (s : MSt) : (Nat → Int32) := s.2.2.2.2.2.2.2.2.2.2.2.1
def m_ring (s : MSt) : (Nat → Int32) := s.2.2.2.2.2.2.2.2.2.2.2.2.1
def m_ringLength (s : MSt) : Int32 := s.2.2.2.2.2.2.2.2.2.2.2.2.2
def m_pthrown (s : MSt) (v : Int32) : MSt := (v, s.2.1, s.2.2.1, s.2.2.2.1, s.2.2.2.2.1, s.2.2.2.2.2.1, s.2.2.2.2.2.2.1, s.2.2.2.2.2.2.2.1, s.2.2.2.2.2.2.2.2.1, s.2.2.2.2.2.2.2.2.2.1, s.2.2.2.2.2.2.2.2.2.2.1, s.2.2.2.2.2.2.2.2.2.2.2.1, s.2.2.2.2.2.2.2.2.2.2.2.2.1, s.2.2.2.2.2.2.2.2.2.2.2.2.2)
def m_precords (s : MSt) (v : Int32) : MSt := (s.1, v, s.2.2.1, s.2.2.2.1, s.2.2.2.2.1, s.2.2.2.2.2.1, s.2.2.2.2.2.2.1, s.2.2.2.2.2.2.2.1, s.2.2.2.2.2.2.2.2.1, s.2.2.2.2.2.2.2.2.2.1, s.2.2.2.2.2.2.2.2.2.2.1, s.2.2.2.2.2.2.2.2.2.2.2.1, s.2.2.2.2.2.2.2.2.2.2.2.2.1, s.2.2.2.2.2.2.2.2.2.2.2.2.2)
def m_plive (s : MSt) (v : (Nat → Int32)) : MSt := (s.1, s.2.1, v, s.2.2.2.1, s.2.2.2.2.1, s.2.2.2.2.2.1, s.2.2.2.2.2.2.1, s.2.2.2.2.2.2.2.1, s.2.2.2.2.2.2.2.2.1, s.2.2.2.2.2.2.2.2.2.1, s.2.2.2.2.2.2.2.2.2.2.1, s.2.2.2.2.2.2.2.2.2.2.2.1, s.2.2.2.2.2.2.2.2.2.2.2.2.1, s.2.2.2.2.2.2.2.2.2.2.2.2.2)
def m_phouses (s : MSt) (v : (Nat → Int32)) : MSt := (s.1, s.2.1, s.2.2.1, v, s.2.2.2.2.1, s.2.2.2.2.2.1, s.2.2.2.2.2.2.1, s.2.2.2.2.2.2.2.1, s.2.2.2.2.2.2.2.2.1, s.2.2.2.2.2.2.2.2.2.1, s.2.2.2.2.2.2.2.2.2.2.1, s.2.2.2.2.2.2.2.2.2.2.2.1, s.2.2.2.2.2.2.2.2.2.2.2.2.1, s.2.2.2.2.2.2.2.2.2.2.2.2.2)
def m_phadHost (s : MSt) (v : (Nat → Int32)) : MSt := (s.1, s.2.1, s.2.2.1, s.2.2.2.1, v, s.2.2.2.2.2.1, s.2.2.2.2.2.2.1, s.2.2.2.2.2.2.2.1, s.2.2.2.2.2.2.2.2.1, s.2.2.2.2.2.2.2.2.2.1, s.2.2.2.2.2.2.2.2.2.2.1, s.2.2.2.2.2.2.2.2.2.2.2.1, s.2.2.2.2.2.2.2.2.2.2.2.2.1, s.2.2.2.2.2.2.2.2.2.2.2.2.2)
def m_ptimes (s : MSt) (v : (Nat → Int32)) : MSt := (s.1, s.2.1, s.2.2.1, s.2.2.2.1, s.2.2.2.2.1, v, s.2.2.2.2.2.2.1, s.2.2.2.2.2.2.2.1, s.2.2.2.2.2.2.2.2.1, s.2.2.2.2.2.2.2.2.2.1, s.2.2.2.2.2.2.2.2.2.2.1, s.2.2.2.2.2.2.2.2.2.2.2.1, s.2.2.2.2.2.2.2.2.2.2.2.2.1, s.2.2.2.2.2.2.2.2.2.2.2.2.2)
def m_ptimeCount (s : MSt) (v : (Nat → Int32)) : MSt := (s.1, s.2.1, s.2.2.1, s.2.2.2.1, s.2.2.2.2.1, s.2.2.2.2.2.1, v, s.2.2.2.2.2.2.2.1, s.2.2.2.2.2.2.2.2.1, s.2.2.2.2.2.2.2.2.2.1, s.2.2.2.2.2.2.2.2.2.2.1, s.2.2.2.2.2.2.2.2.2.2.2.1, s.2.2.2.2.2.2.2.2.2.2.2.2.1, s.2.2.2.2.2.2.2.2.2.2.2.2.2)
def m_pmoment (s : MSt) (v : Int32) : MSt := (s.1, s.2.1, s.2.2.1, s.2.2.2.1, s.2.2.2.2.1, s.2.2.2.2.2.1, s.2.2.2.2.2.2.1, v, s.2.2.2.2.2.2.2.2.1, s.2.2.2.2.2.2.2.2.2.1, s.2.2.2.2.2.2.2.2.2.2.1, s.2.2.2.2.2.2.2.2.2.2.2.1, s.2.2.2.2.2.2.2.2.2.2.2.2.1, s.2.2.2.2.2.2.2.2.2.2.2.2.2)
def m_plinks (s : MSt) (v : Int32) : MSt := (s.1, s.2.1, s.2.2.1, s.2.2.2.1, s.2.2.2.2.1, s.2.2.2.2.2.1, s.2.2.2.2.2.2.1, s.2.2.2.2.2.2.2.1, v, s.2.2.2.2.2.2.2.2.2.1, s.2.2.2.2.2.2.2.2.2.2.1, s.2.2.2.2.2.2.2.2.2.2.2.1, s.2.2.2.2.2.2.2.2.2.2.2.2.1, s.2.2.2.2.2.2.2.2.2.2.2.2.2)
def m_pfrom (s : MSt) (v : (Nat → Int32)) : MSt := (s.1, s.2.1, s.2.2.1, s.2.2.2.1, s.2.2.2.2.1, s.2.2.2.2.2.1, s.2.2.2.2.2.2.1, s.2.2.2.2.2.2.2.1, s.2.2.2.2.2.2.2.2.1, v, s.2.2.2.2.2.2.2.2.2.2.1, s.2.2.2.2.2.2.2.2.2.2.2.1, s.2.2.2.2.2.2.2.2.2.2.2.2.1, s.2.2.2.2.2.2.2.2.2.2.2.2.2)
def m_pfield (s : MSt) (v : (Nat → Int32)) : MSt := (s.1, s.2.1, s.2.2.1, s.2.2.2.1, s.2.2.2.2.1, s.2.2.2.2.2.1, s.2.2.2.2.2.2.1, s.2.2.2.2.2.2.2.1, s.2.2.2.2.2.2.2.2.1, s.2.2.2.2.2.2.2.2.2.1, v, s.2.2.2.2.2.2.2.2.2.2.2.1, s.2.2.2.2.2.2.2.2.2.2.2.2.1, s.2.2.2.2.2.2.2.2.2.2.2.2.2)
def m_pto (s : MSt) (v : (Nat → Int32)) : MSt := (s.1, s.2.1, s.2.2.1, s.2.2.2.1, s.2.2.2.2.1, s.2.2.2.2.2.1, s.2.2.2.2.2.2.1, s.2.2.2.2.2.2.2.1, s.2.2.2.2.2.2.2.2.1, s.2.2.2.2.2.2.2.2.2.1, s.2.2.2.2.2.2.2.2.2.2.1, v, s.2.2.2.2.2.2.2.2.2.2.2.2.1, s.2.2.2.2.2.2.2.2.2.2.2.2.2)
def m_pring (s : MSt) (v : (Nat → Int32)) : MSt := (s.1, s.2.1, s.2.2.1, s.2.2.2.1, s.2.2.2.2.1, s.2.2.2.2.2.1, s.2.2.2.2.2.2.1, s.2.2.2.2.2.2.2.1, s.2.2.2.2.2.2.2.2.1, s.2.2.2.2.2.2.2.2.2.1, s.2.2.2.2.2.2.2.2.2.2.1, s.2.2.2.2.2.2.2.2.2.2.2.1, v, s.2.2.2.2.2.2.2.2.2.2.2.2.2)
def m_pringLength (s : MSt) (v : Int32) : MSt := (s.1, s.2.1, s.2.2.1, s.2.2.2.1, s.2.2.2.2.1, s.2.2.2.2.2.1, s.2.2.2.2.2.2.1, s.2.2.2.2.2.2.2.1, s.2.2.2.2.2.2.2.2.1, s.2.2.2.2.2.2.2.2.2.1, s.2.2.2.2.2.2.2.2.2.2.1, s.2.2.2.2.2.2.2.2.2.2.2.1, s.2.2.2.2.2.2.2.2.2.2.2.2.1, v)
abbrev w_M (a : Nat → Nat) (cI cZ : ClassId) (s : MSt) : va_W := [(a 0, .inr (1, [.int (m_thrown s), .int (m_records s), .ref (a 1), .ref (a 2), .ref (a 3), .ref (a 4), .ref (a 5), .int (m_moment s), .int (m_links s), .ref (a 6), .ref (a 7), .ref (a 8), .ref (a 9), .int (m_ringLength s)])), (a 1, .inl (cZ, 61, .inl (m_live s))), (a 2, .inl (cI, 61, .inl (m_houses s))), (a 3, .inl (cI, 61, .inl (m_hadHost s))), (a 4, .inl (cI, 2440, .inl (m_times s))), (a 5, .inl (cI, 61, .inl (m_timeCount s))), (a 6, .inl (cI, 200, .inl (m_from s))), (a 7, .inl (cI, 200, .inl (m_field s))), (a 8, .inl (cI, 200, .inl (m_to s))), (a 9, .inl (cI, 61, .inl (m_ring s)))]
def most_f : Nat → Int32 := fun k => match k with
  | 0 => 1
  | 1 => 2
  | 2 => 5
  | 3 => 5
  | _ => 3
abbrev zz (tb : Nat) : zt_T := [("LinkKeeper", "MOST_OF_FIELD", tb, 10, most_f)]
end
section
section ACCX
variable {p : Program} {l : Launch} {e : Env} {R : Room} {s : State} {m : MethodId} {args : Array Value} {below : List Frame} {meth : Method} {c : Code} {H : Heap} {locs : List Loc} {cells slots : Nat} {Q : State → Prop}
variable {cc : ByteArray} {pc : Nat} {ls : Array Slot} {rest : List Value} {A : Nat → Prop} {H0 : Heap} {dC : Nat → ClassId} {dI : Nat → Nat → Nat} {a : Nat → Nat} {cI cZ : ClassId} {σ τ : XSt}
theorem aX_get_live (hx : p.tables.exec = Jvm.exec) (hb : c.code = cc) (hts : ∀ w ∈ lw_g, w.before args s = true) (hown : s.vm.findClass RX = some m.cls) (hK : va_K (dC, dI) vwCl [(cI, .int), (cZ, .boolean)] s) (hP : va_P (dC, dI) vwCl (w_X a cI cZ σ) H) (hdg : decode cc pc = .ok (.getfield 9, 3)) (kk : W p l e R s m args below meth c H locs cells slots Q (F0 m (pc + 3) ls (.ref (a 1) :: rest))) : W p l e R s m args below meth c H locs cells slots Q (F0 m pc ls (.ref (a 0) :: rest)) := by
  exact va_get (D := (dC, dI)) (ci := 0) (C := RX) (T := TX) (N := 13) hx hb hts inX hown hK hP 0 rfl rfl 0 (by decide) (hts _ mt_37) (fun _ h9 => h9) rfl hdg kk
theorem aX_ld_live {f : Nat → Int32} (hfe : x_live σ = f) (hx : p.tables.exec = Jvm.exec) (hb : c.code = cc) (hK : va_K (dC, dI) vwCl [(cI, .int), (cZ, .boolean)] s) (hP : va_P (dC, dI) vwCl (w_X a cI cZ σ) H) {i : Int32} (hin : vp_in i 61) (hdg : decode cc pc = .ok (.baload, 1)) (kk : W p l e R s m args below meth c H locs cells slots Q (F0 m (pc + 1) ls (.int (f i.toNatClampNeg) :: rest))) : W p l e R s m args below meth c H locs cells slots Q (F0 m pc ls (.int i :: .ref (a 1) :: rest)) := by
  subst hfe
  exact va_zald (f := x_live σ) hx hb hK hP 1 1 rfl rfl hin hdg kk
theorem aX_st_live {f : Nat → Int32} {i x : Int32} (hfe : x_live σ = f) (hτ : x_plive σ (upd f i.toNatClampNeg (vp_nar .boolean x)) = τ) (hx : p.tables.exec = Jvm.exec) (hb : c.code = cc) (hK : va_K (dC, dI) vwCl [(cI, .int), (cZ, .boolean)] s) (hP : va_P (dC, dI) vwCl (w_X a cI cZ σ) H) (hD : va_D A (w_X a cI cZ σ)) (hS : va_S A H0 H locs) (hin : vp_in i 61) (hdg : decode cc pc = .ok (.bastore, 1)) (kk : ∀ (H1 : Heap) (locs1 : List Loc), va_P (dC, dI) vwCl (w_X a cI cZ τ) H1 → va_D A (w_X a cI cZ τ) → va_S A H0 H1 locs1 → W p l e R s m args below meth c H1 locs1 cells slots Q (F0 m (pc + 1) ls rest)) : W p l e R s m args below meth c H locs cells slots Q (F0 m pc ls (.int x :: .int i :: .ref (a 1) :: rest)) := by
  subst hfe
  subst hτ
  exact va_zast (f := x_live σ) (x := x) hx hb hK hP hD hS 1 1 rfl rfl hin hdg kk
theorem aX_get_houses (hx : p.tables.exec = Jvm.exec) (hb : c.code = cc) (hts : ∀ w ∈ lw_g, w.before args s = true) (hown : s.vm.findClass RX = some m.cls) (hK : va_K (dC, dI) vwCl [(cI, .int), (cZ, .boolean)] s) (hP : va_P (dC, dI) vwCl (w_X a cI cZ σ) H) (hdg : decode cc pc = .ok (.getfield 13, 3)) (kk : W p l e R s m args below meth c H locs cells slots Q (F0 m (pc + 3) ls (.ref (a 2) :: rest))) : W p l e R s m args below meth c H locs cells slots Q (F0 m pc ls (.ref (a 0) :: rest)) := by
  exact va_get (D := (dC, dI)) (ci := 0) (C := RX) (T := TX) (N := 13) hx hb hts inX hown hK hP 0 rfl rfl 1 (by decide) (hts _ mt_38) (fun _ h9 => h9) rfl hdg kk
theorem aX_ld_houses {f : Nat → Int32} (hfe : x_houses σ = f) (hx : p.tables.exec = Jvm.exec) (hb : c.code = cc) (hK : va_K (dC, dI) vwCl [(cI, .int), (cZ, .boolean)] s) (hP : va_P (dC, dI) vwCl (w_X a cI cZ σ) H) {i : Int32} (hin : vp_in i 61) (hdg : decode cc pc = .ok (.iaload, 1)) (kk : W p l e R s m args below meth c H locs cells slots Q (F0 m (pc + 1) ls (.int (f i.toNatClampNeg) :: rest))) : W p l e R s m args below meth c H locs cells slots Q (F0 m pc ls (.int i :: .ref (a 2) :: rest)) := by
  subst hfe
  exact va_iald (f := x_houses σ) hx hb hK hP 2 0 rfl rfl hin hdg kk
theorem aX_st_houses {f : Nat → Int32} {i x : Int32} (hfe : x_houses σ = f) (hτ : x_phouses σ (upd f i.toNatClampNeg x) = τ) (hx : p.tables.exec = Jvm.exec) (hb : c.code = cc) (hK : va_K (dC, dI) vwCl [(cI, .int), (cZ, .boolean)] s) (hP : va_P (dC, dI) vwCl (w_X a cI cZ σ) H) (hD : va_D A (w_X a cI cZ σ)) (hS : va_S A H0 H locs) (hin : vp_in i 61) (hdg : decode cc pc = .ok (.iastore, 1)) (kk : ∀ (H1 : Heap) (locs1 : List Loc), va_P (dC, dI) vwCl (w_X a cI cZ τ) H1 → va_D A (w_X a cI cZ τ) → va_S A H0 H1 locs1 → W p l e R s m args below meth c H1 locs1 cells slots Q (F0 m (pc + 1) ls rest)) : W p l e R s m args below meth c H locs cells slots Q (F0 m pc ls (.int x :: .int i :: .ref (a 2) :: rest)) := by
  subst hfe
  subst hτ
  exact va_iast (f := x_houses σ) (x := x) hx hb hK hP hD hS 2 0 rfl rfl hin hdg kk
theorem aX_get_hosts (hx : p.tables.exec = Jvm.exec) (hb : c.code = cc) (hts : ∀ w ∈ lw_g, w.before args s = true) (hown : s.vm.findClass RX = some m.cls) (hK : va_K (dC, dI) vwCl [(cI, .int), (cZ, .boolean)] s) (hP : va_P (dC, dI) vwCl (w_X a cI cZ σ) H) (hdg : decode cc pc = .ok (.getfield 17, 3)) (kk : W p l e R s m args below meth c H locs cells slots Q (F0 m (pc + 3) ls (.ref (a 3) :: rest))) : W p l e R s m args below meth c H locs cells slots Q (F0 m pc ls (.ref (a 0) :: rest)) := by
  exact va_get (D := (dC, dI)) (ci := 0) (C := RX) (T := TX) (N := 13) hx hb hts inX hown hK hP 0 rfl rfl 2 (by decide) (hts _ mt_39) (fun _ h9 => h9) rfl hdg kk
theorem aX_ld_hosts {f : Nat → Int32} (hfe : x_hosts σ = f) (hx : p.tables.exec = Jvm.exec) (hb : c.code = cc) (hK : va_K (dC, dI) vwCl [(cI, .int), (cZ, .boolean)] s) (hP : va_P (dC, dI) vwCl (w_X a cI cZ σ) H) {i : Int32} (hin : vp_in i 61) (hdg : decode cc pc = .ok (.iaload, 1)) (kk : W p l e R s m args below meth c H locs cells slots Q (F0 m (pc + 1) ls (.int (f i.toNatClampNeg) :: rest))) : W p l e R s m args below meth c H locs cells slots Q (F0 m pc ls (.int i :: .ref (a 3) :: rest)) := by
  subst hfe
  exact va_iald (f := x_hosts σ) hx hb hK hP 3 0 rfl rfl hin hdg kk
theorem aX_st_hosts {f : Nat → Int32} {i x : Int32} (hfe : x_hosts σ = f) (hτ : x_phosts σ (upd f i.toNatClampNeg x) = τ) (hx : p.tables.exec = Jvm.exec) (hb : c.code = cc) (hK : va_K (dC, dI) vwCl [(cI, .int), (cZ, .boolean)] s) (hP : va_P (dC, dI) vwCl (w_X a cI cZ σ) H) (hD : va_D A (w_X a cI cZ σ)) (hS : va_S A H0 H locs) (hin : vp_in i 61) (hdg : decode cc pc = .ok (.iastore, 1)) (kk : ∀ (H1 : Heap) (locs1 : List Loc), va_P (dC, dI) vwCl (w_X a cI cZ τ) H1 → va_D A (w_X a cI cZ τ) → va_S A H0 H1 locs1 → W p l e R s m args below meth c H1 locs1 cells slots Q (F0 m (pc + 1) ls rest)) : W p l e R s m args below meth c H locs cells slots Q (F0 m pc ls (.int x :: .int i :: .ref (a 3) :: rest)) := by
  subst hfe
  subst hτ
  exact va_iast (f := x_hosts σ) (x := x) hx hb hK hP hD hS 3 0 rfl rfl hin hdg kk
theorem aX_get_changeCounts (hx : p.tables.exec = Jvm.exec) (hb : c.code = cc) (hts : ∀ w ∈ lw_g, w.before args s = true) (hown : s.vm.findClass RX = some m.cls) (hK : va_K (dC, dI) vwCl [(cI, .int), (cZ, .boolean)] s) (hP : va_P (dC, dI) vwCl (w_X a cI cZ σ) H) (hdg : decode cc pc = .ok (.getfield 20, 3)) (kk : W p l e R s m args below meth c H locs cells slots Q (F0 m (pc + 3) ls (.ref (a 4) :: rest))) : W p l e R s m args below meth c H locs cells slots Q (F0 m pc ls (.ref (a 0) :: rest)) := by
  exact va_get (D := (dC, dI)) (ci := 0) (C := RX) (T := TX) (N := 13) hx hb hts inX hown hK hP 0 rfl rfl 3 (by decide) (hts _ mt_40) (fun _ h9 => h9) rfl hdg kk
theorem aX_ld_changeCounts {f : Nat → Int32} (hfe : x_changeCounts σ = f) (hx : p.tables.exec = Jvm.exec) (hb : c.code = cc) (hK : va_K (dC, dI) vwCl [(cI, .int), (cZ, .boolean)] s) (hP : va_P (dC, dI) vwCl (w_X a cI cZ σ) H) {i : Int32} (hin : vp_in i 61) (hdg : decode cc pc = .ok (.iaload, 1)) (kk : W p l e R s m args below meth c H locs cells slots Q (F0 m (pc + 1) ls (.int (f i.toNatClampNeg) :: rest))) : W p l e R s m args below meth c H locs cells slots Q (F0 m pc ls (.int i :: .ref (a 4) :: rest)) := by
  subst hfe
  exact va_iald (f := x_changeCounts σ) hx hb hK hP 4 0 rfl rfl hin hdg kk
theorem aX_st_changeCounts {f : Nat → Int32} {i x : Int32} (hfe : x_changeCounts σ = f) (hτ : x_pchangeCounts σ (upd f i.toNatClampNeg x) = τ) (hx : p.tables.exec = Jvm.exec) (hb : c.code = cc) (hK : va_K (dC, dI) vwCl [(cI, .int), (cZ, .boolean)] s) (hP : va_P (dC, dI) vwCl (w_X a cI cZ σ) H) (hD : va_D A (w_X a cI cZ σ)) (hS : va_S A H0 H locs) (hin : vp_in i 61) (hdg : decode cc pc = .ok (.iastore, 1)) (kk : ∀ (H1 : Heap) (locs1 : List Loc), va_P (dC, dI) vwCl (w_X a cI cZ τ) H1 → va_D A (w_X a cI cZ τ) → va_S A H0 H1 locs1 → W p l e R s m args below meth c H1 locs1 cells slots Q (F0 m (pc + 1) ls rest)) : W p l e R s m args below meth c H locs cells slots Q (F0 m pc ls (.int x :: .int i :: .ref (a 4) :: rest)) := by
  subst hfe
  subst hτ
  exact va_iast (f := x_changeCounts σ) (x := x) hx hb hK hP hD hS 4 0 rfl rfl hin hdg kk
theorem aX_get_changeMoments (hx : p.tables.exec = Jvm.exec) (hb : c.code = cc) (hts : ∀ w ∈ lw_g, w.before args s = true) (hown : s.vm.findClass RX = some m.cls) (hK : va_K (dC, dI) vwCl [(cI, .int), (cZ, .boolean)] s) (hP : va_P (dC, dI) vwCl (w_X a cI cZ σ) H) (hdg : decode cc pc = .ok (.getfield 23, 3)) (kk : W p l e R s m args below meth c H locs cells slots Q (F0 m (pc + 3) ls (.ref (a 5) :: rest))) : W p l e R s m args below meth c H locs cells slots Q (F0 m pc ls (.ref (a 0) :: rest)) := by
  exact va_get (D := (dC, dI)) (ci := 0) (C := RX) (T := TX) (N := 13) hx hb hts inX hown hK hP 0 rfl rfl 4 (by decide) (hts _ mt_41) (fun _ h9 => h9) rfl hdg kk
theorem aX_ld_changeMoments {f : Nat → Int32} (hfe : x_changeMoments σ = f) (hx : p.tables.exec = Jvm.exec) (hb : c.code = cc) (hK : va_K (dC, dI) vwCl [(cI, .int), (cZ, .boolean)] s) (hP : va_P (dC, dI) vwCl (w_X a cI cZ σ) H) {i : Int32} (hin : vp_in i 2440) (hdg : decode cc pc = .ok (.iaload, 1)) (kk : W p l e R s m args below meth c H locs cells slots Q (F0 m (pc + 1) ls (.int (f i.toNatClampNeg) :: rest))) : W p l e R s m args below meth c H locs cells slots Q (F0 m pc ls (.int i :: .ref (a 5) :: rest)) := by
  subst hfe
  exact va_iald (f := x_changeMoments σ) hx hb hK hP 5 0 rfl rfl hin hdg kk
theorem aX_st_changeMoments {f : Nat → Int32} {i x : Int32} (hfe : x_changeMoments σ = f) (hτ : x_pchangeMoments σ (upd f i.toNatClampNeg x) = τ) (hx : p.tables.exec = Jvm.exec) (hb : c.code = cc) (hK : va_K (dC, dI) vwCl [(cI, .int), (cZ, .boolean)] s) (hP : va_P (dC, dI) vwCl (w_X a cI cZ σ) H) (hD : va_D A (w_X a cI cZ σ)) (hS : va_S A H0 H locs) (hin : vp_in i 2440) (hdg : decode cc pc = .ok (.iastore, 1)) (kk : ∀ (H1 : Heap) (locs1 : List Loc), va_P (dC, dI) vwCl (w_X a cI cZ τ) H1 → va_D A (w_X a cI cZ τ) → va_S A H0 H1 locs1 → W p l e R s m args below meth c H1 locs1 cells slots Q (F0 m (pc + 1) ls rest)) : W p l e R s m args below meth c H locs cells slots Q (F0 m pc ls (.int x :: .int i :: .ref (a 5) :: rest)) := by
  subst hfe
  subst hτ
  exact va_iast (f := x_changeMoments σ) (x := x) hx hb hK hP hD hS 5 0 rfl rfl hin hdg kk
theorem aX_get_records {v : Int32} (hv : x_records σ = v) (hx : p.tables.exec = Jvm.exec) (hb : c.code = cc) (hts : ∀ w ∈ lw_g, w.before args s = true) (hown : s.vm.findClass RX = some m.cls) (hK : va_K (dC, dI) vwCl [(cI, .int), (cZ, .boolean)] s) (hP : va_P (dC, dI) vwCl (w_X a cI cZ σ) H) (hdg : decode cc pc = .ok (.getfield 26, 3)) (kk : W p l e R s m args below meth c H locs cells slots Q (F0 m (pc + 3) ls (.int v :: rest))) : W p l e R s m args below meth c H locs cells slots Q (F0 m pc ls (.ref (a 0) :: rest)) := by
  subst hv
  exact va_get (D := (dC, dI)) (ci := 0) (C := RX) (T := TX) (N := 13) hx hb hts inX hown hK hP 0 rfl rfl 5 (by decide) (hts _ mt_42) (fun _ h9 => h9) rfl hdg kk
theorem aX_put_records {v : Int32} (hτ : x_precords σ v = τ) (hx : p.tables.exec = Jvm.exec) (hb : c.code = cc) (hts : ∀ w ∈ lw_g, w.before args s = true) (hown : s.vm.findClass RX = some m.cls) (hK : va_K (dC, dI) vwCl [(cI, .int), (cZ, .boolean)] s) (hP : va_P (dC, dI) vwCl (w_X a cI cZ σ) H) (hD : va_D A (w_X a cI cZ σ)) (hS : va_S A H0 H locs) (hdg : decode cc pc = .ok (.putfield 26, 3)) (kk : ∀ (H1 : Heap) (locs1 : List Loc), va_P (dC, dI) vwCl (w_X a cI cZ τ) H1 → va_D A (w_X a cI cZ τ) → va_S A H0 H1 locs1 → W p l e R s m args below meth c H1 locs1 cells slots Q (F0 m (pc + 3) ls rest)) : W p l e R s m args below meth c H locs cells slots Q (F0 m pc ls (.int v :: .ref (a 0) :: rest)) := by
  subst hτ
  exact va_put (D := (dC, dI)) (ci := 0) (v := .int v) (ty := .int) (C := RX) (T := TX) (N := 13) hx hb hts inX tyX tyX_ok nmX hown hK hP hD hS 0 rfl rfl 5 (by decide) (hts _ mt_42) (fun _ h9 => h9) rfl (by decide +kernel) rfl rfl (Nat.le_of_ble_eq_true rfl) hdg kk
theorem aX_get_linkFrom (hx : p.tables.exec = Jvm.exec) (hb : c.code = cc) (hts : ∀ w ∈ lw_g, w.before args s = true) (hown : s.vm.findClass RX = some m.cls) (hK : va_K (dC, dI) vwCl [(cI, .int), (cZ, .boolean)] s) (hP : va_P (dC, dI) vwCl (w_X a cI cZ σ) H) (hdg : decode cc pc = .ok (.getfield 30, 3)) (kk : W p l e R s m args below meth c H locs cells slots Q (F0 m (pc + 3) ls (.ref (a 6) :: rest))) : W p l e R s m args below meth c H locs cells slots Q (F0 m pc ls (.ref (a 0) :: rest)) := by
  exact va_get (D := (dC, dI)) (ci := 0) (C := RX) (T := TX) (N := 13) hx hb hts inX hown hK hP 0 rfl rfl 6 (by decide) (hts _ mt_43) (fun _ h9 => h9) rfl hdg kk
theorem aX_ld_linkFrom {f : Nat → Int32} (hfe : x_linkFrom σ = f) (hx : p.tables.exec = Jvm.exec) (hb : c.code = cc) (hK : va_K (dC, dI) vwCl [(cI, .int), (cZ, .boolean)] s) (hP : va_P (dC, dI) vwCl (w_X a cI cZ σ) H) {i : Int32} (hin : vp_in i 200) (hdg : decode cc pc = .ok (.iaload, 1)) (kk : W p l e R s m args below meth c H locs cells slots Q (F0 m (pc + 1) ls (.int (f i.toNatClampNeg) :: rest))) : W p l e R s m args below meth c H locs cells slots Q (F0 m pc ls (.int i :: .ref (a 6) :: rest)) := by
  subst hfe
  exact va_iald (f := x_linkFrom σ) hx hb hK hP 6 0 rfl rfl hin hdg kk
theorem aX_st_linkFrom {f : Nat → Int32} {i x : Int32} (hfe : x_linkFrom σ = f) (hτ : x_plinkFrom σ (upd f i.toNatClampNeg x) = τ) (hx : p.tables.exec = Jvm.exec) (hb : c.code = cc) (hK : va_K (dC, dI) vwCl [(cI, .int), (cZ, .boolean)] s) (hP : va_P (dC, dI) vwCl (w_X a cI cZ σ) H) (hD : va_D A (w_X a cI cZ σ)) (hS : va_S A H0 H locs) (hin : vp_in i 200) (hdg : decode cc pc = .ok (.iastore, 1)) (kk : ∀ (H1 : Heap) (locs1 : List Loc), va_P (dC, dI) vwCl (w_X a cI cZ τ) H1 → va_D A (w_X a cI cZ τ) → va_S A H0 H1 locs1 → W p l e R s m args below meth c H1 locs1 cells slots Q (F0 m (pc + 1) ls rest)) : W p l e R s m args below meth c H locs cells slots Q (F0 m pc ls (.int x :: .int i :: .ref (a 6) :: rest)) := by
  subst hfe
  subst hτ
  exact va_iast (f := x_linkFrom σ) (x := x) hx hb hK hP hD hS 6 0 rfl rfl hin hdg kk
theorem aX_get_linkField (hx : p.tables.exec = Jvm.exec) (hb : c.code = cc) (hts : ∀ w ∈ lw_g, w.before args s = true) (hown : s.vm.findClass RX = some m.cls) (hK : va_K (dC, dI) vwCl [(cI, .int), (cZ, .boolean)] s) (hP : va_P (dC, dI) vwCl (w_X a cI cZ σ) H) (hdg : decode cc pc = .ok (.getfield 33, 3)) (kk : W p l e R s m args below meth c H locs cells slots Q (F0 m (pc + 3) ls (.ref (a 7) :: rest))) : W p l e R s m args below meth c H locs cells slots Q (F0 m pc ls (.ref (a 0) :: rest)) := by
  exact va_get (D := (dC, dI)) (ci := 0) (C := RX) (T := TX) (N := 13) hx hb hts inX hown hK hP 0 rfl rfl 7 (by decide) (hts _ mt_44) (fun _ h9 => h9) rfl hdg kk
theorem aX_ld_linkField {f : Nat → Int32} (hfe : x_linkField σ = f) (hx : p.tables.exec = Jvm.exec) (hb : c.code = cc) (hK : va_K (dC, dI) vwCl [(cI, .int), (cZ, .boolean)] s) (hP : va_P (dC, dI) vwCl (w_X a cI cZ σ) H) {i : Int32} (hin : vp_in i 200) (hdg : decode cc pc = .ok (.iaload, 1)) (kk : W p l e R s m args below meth c H locs cells slots Q (F0 m (pc + 1) ls (.int (f i.toNatClampNeg) :: rest))) : W p l e R s m args below meth c H locs cells slots Q (F0 m pc ls (.int i :: .ref (a 7) :: rest)) := by
  subst hfe
  exact va_iald (f := x_linkField σ) hx hb hK hP 7 0 rfl rfl hin hdg kk
theorem aX_st_linkField {f : Nat → Int32} {i x : Int32} (hfe : x_linkField σ = f) (hτ : x_plinkField σ (upd f i.toNatClampNeg x) = τ) (hx : p.tables.exec = Jvm.exec) (hb : c.code = cc) (hK : va_K (dC, dI) vwCl [(cI, .int), (cZ, .boolean)] s) (hP : va_P (dC, dI) vwCl (w_X a cI cZ σ) H) (hD : va_D A (w_X a cI cZ σ)) (hS : va_S A H0 H locs) (hin : vp_in i 200) (hdg : decode cc pc = .ok (.iastore, 1)) (kk : ∀ (H1 : Heap) (locs1 : List Loc), va_P (dC, dI) vwCl (w_X a cI cZ τ) H1 → va_D A (w_X a cI cZ τ) → va_S A H0 H1 locs1 → W p l e R s m args below meth c H1 locs1 cells slots Q (F0 m (pc + 1) ls rest)) : W p l e R s m args below meth c H locs cells slots Q (F0 m pc ls (.int x :: .int i :: .ref (a 7) :: rest)) := by
  subst hfe
  subst hτ
  exact va_iast (f := x_linkField σ) (x := x) hx hb hK hP hD hS 7 0 rfl rfl hin hdg kk
theorem aX_get_linkTo (hx : p.tables.exec = Jvm.exec) (hb : c.code = cc) (hts : ∀ w ∈ lw_g, w.before args s = true) (hown : s.vm.findClass RX = some m.cls) (hK : va_K (dC, dI) vwCl [(cI, .int), (cZ, .boolean)] s) (hP : va_P (dC, dI) vwCl (w_X a cI cZ σ) H) (hdg : decode cc pc = .ok (.getfield 36, 3)) (kk : W p l e R s m args below meth c H locs cells slots Q (F0 m (pc + 3) ls (.ref (a 8) :: rest))) : W p l e R s m args below meth c H locs cells slots Q (F0 m pc ls (.ref (a 0) :: rest)) := by
  exact va_get (D := (dC, dI)) (ci := 0) (C := RX) (T := TX) (N := 13) hx hb hts inX hown hK hP 0 rfl rfl 8 (by decide) (hts _ mt_45) (fun _ h9 => h9) rfl hdg kk
theorem aX_ld_linkTo {f : Nat → Int32} (hfe : x_linkTo σ = f) (hx : p.tables.exec = Jvm.exec) (hb : c.code = cc) (hK : va_K (dC, dI) vwCl [(cI, .int), (cZ, .boolean)] s) (hP : va_P (dC, dI) vwCl (w_X a cI cZ σ) H) {i : Int32} (hin : vp_in i 200) (hdg : decode cc pc = .ok (.iaload, 1)) (kk : W p l e R s m args below meth c H locs cells slots Q (F0 m (pc + 1) ls (.int (f i.toNatClampNeg) :: rest))) : W p l e R s m args below meth c H locs cells slots Q (F0 m pc ls (.int i :: .ref (a 8) :: rest)) := by
  subst hfe
  exact va_iald (f := x_linkTo σ) hx hb hK hP 8 0 rfl rfl hin hdg kk
theorem aX_st_linkTo {f : Nat → Int32} {i x : Int32} (hfe : x_linkTo σ = f) (hτ : x_plinkTo σ (upd f i.toNatClampNeg x) = τ) (hx : p.tables.exec = Jvm.exec) (hb : c.code = cc) (hK : va_K (dC, dI) vwCl [(cI, .int), (cZ, .boolean)] s) (hP : va_P (dC, dI) vwCl (w_X a cI cZ σ) H) (hD : va_D A (w_X a cI cZ σ)) (hS : va_S A H0 H locs) (hin : vp_in i 200) (hdg : decode cc pc = .ok (.iastore, 1)) (kk : ∀ (H1 : Heap) (locs1 : List Loc), va_P (dC, dI) vwCl (w_X a cI cZ τ) H1 → va_D A (w_X a cI cZ τ) → va_S A H0 H1 locs1 → W p l e R s m args below meth c H1 locs1 cells slots Q (F0 m (pc + 1) ls rest)) : W p l e R s m args below meth c H locs cells slots Q (F0 m pc ls (.int x :: .int i :: .ref (a 8) :: rest)) := by
  subst hfe
  subst hτ
  exact va_iast (f := x_linkTo σ) (x := x) hx hb hK hP hD hS 8 0 rfl rfl hin hdg kk
theorem aX_get_links {v : Int32} (hv : x_links σ = v) (hx : p.tables.exec = Jvm.exec) (hb : c.code = cc) (hts : ∀ w ∈ lw_g, w.before args s = true) (hown : s.vm.findClass RX = some m.cls) (hK : va_K (dC, dI) vwCl [(cI, .int), (cZ, .boolean)] s) (hP : va_P (dC, dI) vwCl (w_X a cI cZ σ) H) (hdg : decode cc pc = .ok (.getfield 39, 3)) (kk : W p l e R s m args below meth c H locs cells slots Q (F0 m (pc + 3) ls (.int v :: rest))) : W p l e R s m args below meth c H locs cells slots Q (F0 m pc ls (.ref (a 0) :: rest)) := by
  subst hv
  exact va_get (D := (dC, dI)) (ci := 0) (C := RX) (T := TX) (N := 13) hx hb hts inX hown hK hP 0 rfl rfl 9 (by decide) (hts _ mt_46) (fun _ h9 => h9) rfl hdg kk
theorem aX_put_links {v : Int32} (hτ : x_plinks σ v = τ) (hx : p.tables.exec = Jvm.exec) (hb : c.code = cc) (hts : ∀ w ∈ lw_g, w.before args s = true) (hown : s.vm.findClass RX = some m.cls) (hK : va_K (dC, dI) vwCl [(cI, .int), (cZ, .boolean)] s) (hP : va_P (dC, dI) vwCl (w_X a cI cZ σ) H) (hD : va_D A (w_X a cI cZ σ)) (hS : va_S A H0 H locs) (hdg : decode cc pc = .ok (.putfield 39, 3)) (kk : ∀ (H1 : Heap) (locs1 : List Loc), va_P (dC, dI) vwCl (w_X a cI cZ τ) H1 → va_D A (w_X a cI cZ τ) → va_S A H0 H1 locs1 → W p l e R s m args below meth c H1 locs1 cells slots Q (F0 m (pc + 3) ls rest)) : W p l e R s m args below meth c H locs cells slots Q (F0 m pc ls (.int v :: .ref (a 0) :: rest)) := by
  subst hτ
  exact va_put (D := (dC, dI)) (ci := 0) (v := .int v) (ty := .int) (C := RX) (T := TX) (N := 13) hx hb hts inX tyX tyX_ok nmX hown hK hP hD hS 0 rfl rfl 9 (by decide) (hts _ mt_46) (fun _ h9 => h9) rfl (by decide +kernel) rfl rfl (Nat.le_of_ble_eq_true rfl) hdg kk
theorem aX_get_refusedWay (hx : p.tables.exec = Jvm.exec) (hb : c.code = cc) (hts : ∀ w ∈ lw_g, w.before args s = true) (hown : s.vm.findClass RX = some m.cls) (hK : va_K (dC, dI) vwCl [(cI, .int), (cZ, .boolean)] s) (hP : va_P (dC, dI) vwCl (w_X a cI cZ σ) H) (hdg : decode cc pc = .ok (.getfield 42, 3)) (kk : W p l e R s m args below meth c H locs cells slots Q (F0 m (pc + 3) ls (.ref (a 9) :: rest))) : W p l e R s m args below meth c H locs cells slots Q (F0 m pc ls (.ref (a 0) :: rest)) := by
  exact va_get (D := (dC, dI)) (ci := 0) (C := RX) (T := TX) (N := 13) hx hb hts inX hown hK hP 0 rfl rfl 10 (by decide) (hts _ mt_47) (fun _ h9 => h9) rfl hdg kk
theorem aX_ld_refusedWay {f : Nat → Int32} (hfe : x_refusedWay σ = f) (hx : p.tables.exec = Jvm.exec) (hb : c.code = cc) (hK : va_K (dC, dI) vwCl [(cI, .int), (cZ, .boolean)] s) (hP : va_P (dC, dI) vwCl (w_X a cI cZ σ) H) {i : Int32} (hin : vp_in i 60) (hdg : decode cc pc = .ok (.iaload, 1)) (kk : W p l e R s m args below meth c H locs cells slots Q (F0 m (pc + 1) ls (.int (f i.toNatClampNeg) :: rest))) : W p l e R s m args below meth c H locs cells slots Q (F0 m pc ls (.int i :: .ref (a 9) :: rest)) := by
  subst hfe
  exact va_iald (f := x_refusedWay σ) hx hb hK hP 9 0 rfl rfl hin hdg kk
theorem aX_st_refusedWay {f : Nat → Int32} {i x : Int32} (hfe : x_refusedWay σ = f) (hτ : x_prefusedWay σ (upd f i.toNatClampNeg x) = τ) (hx : p.tables.exec = Jvm.exec) (hb : c.code = cc) (hK : va_K (dC, dI) vwCl [(cI, .int), (cZ, .boolean)] s) (hP : va_P (dC, dI) vwCl (w_X a cI cZ σ) H) (hD : va_D A (w_X a cI cZ σ)) (hS : va_S A H0 H locs) (hin : vp_in i 60) (hdg : decode cc pc = .ok (.iastore, 1)) (kk : ∀ (H1 : Heap) (locs1 : List Loc), va_P (dC, dI) vwCl (w_X a cI cZ τ) H1 → va_D A (w_X a cI cZ τ) → va_S A H0 H1 locs1 → W p l e R s m args below meth c H1 locs1 cells slots Q (F0 m (pc + 1) ls rest)) : W p l e R s m args below meth c H locs cells slots Q (F0 m pc ls (.int x :: .int i :: .ref (a 9) :: rest)) := by
  subst hfe
  subst hτ
  exact va_iast (f := x_refusedWay σ) (x := x) hx hb hK hP hD hS 9 0 rfl rfl hin hdg kk
theorem aX_get_refusedWayLength {v : Int32} (hv : x_refusedWayLength σ = v) (hx : p.tables.exec = Jvm.exec) (hb : c.code = cc) (hts : ∀ w ∈ lw_g, w.before args s = true) (hown : s.vm.findClass RX = some m.cls) (hK : va_K (dC, dI) vwCl [(cI, .int), (cZ, .boolean)] s) (hP : va_P (dC, dI) vwCl (w_X a cI cZ σ) H) (hdg : decode cc pc = .ok (.getfield 45, 3)) (kk : W p l e R s m args below meth c H locs cells slots Q (F0 m (pc + 3) ls (.int v :: rest))) : W p l e R s m args below meth c H locs cells slots Q (F0 m pc ls (.ref (a 0) :: rest)) := by
  subst hv
  exact va_get (D := (dC, dI)) (ci := 0) (C := RX) (T := TX) (N := 13) hx hb hts inX hown hK hP 0 rfl rfl 11 (by decide) (hts _ mt_48) (fun _ h9 => h9) rfl hdg kk
theorem aX_put_refusedWayLength {v : Int32} (hτ : x_prefusedWayLength σ v = τ) (hx : p.tables.exec = Jvm.exec) (hb : c.code = cc) (hts : ∀ w ∈ lw_g, w.before args s = true) (hown : s.vm.findClass RX = some m.cls) (hK : va_K (dC, dI) vwCl [(cI, .int), (cZ, .boolean)] s) (hP : va_P (dC, dI) vwCl (w_X a cI cZ σ) H) (hD : va_D A (w_X a cI cZ σ)) (hS : va_S A H0 H locs) (hdg : decode cc pc = .ok (.putfield 45, 3)) (kk : ∀ (H1 : Heap) (locs1 : List Loc), va_P (dC, dI) vwCl (w_X a cI cZ τ) H1 → va_D A (w_X a cI cZ τ) → va_S A H0 H1 locs1 → W p l e R s m args below meth c H1 locs1 cells slots Q (F0 m (pc + 3) ls rest)) : W p l e R s m args below meth c H locs cells slots Q (F0 m pc ls (.int v :: .ref (a 0) :: rest)) := by
  subst hτ
  exact va_put (D := (dC, dI)) (ci := 0) (v := .int v) (ty := .int) (C := RX) (T := TX) (N := 13) hx hb hts inX tyX tyX_ok nmX hown hK hP hD hS 0 rfl rfl 11 (by decide) (hts _ mt_48) (fun _ h9 => h9) rfl (by decide +kernel) rfl rfl (Nat.le_of_ble_eq_true rfl) hdg kk
theorem aX_get_moment {v : Int32} (hv : x_moment σ = v) (hx : p.tables.exec = Jvm.exec) (hb : c.code = cc) (hts : ∀ w ∈ lw_g, w.before args s = true) (hown : s.vm.findClass RX = some m.cls) (hK : va_K (dC, dI) vwCl [(cI, .int), (cZ, .boolean)] s) (hP : va_P (dC, dI) vwCl (w_X a cI cZ σ) H) (hdg : decode cc pc = .ok (.getfield 48, 3)) (kk : W p l e R s m args below meth c H locs cells slots Q (F0 m (pc + 3) ls (.int v :: rest))) : W p l e R s m args below meth c H locs cells slots Q (F0 m pc ls (.ref (a 0) :: rest)) := by
  subst hv
  exact va_get (D := (dC, dI)) (ci := 0) (C := RX) (T := TX) (N := 13) hx hb hts inX hown hK hP 0 rfl rfl 12 (by decide) (hts _ mt_49) (fun _ h9 => h9) rfl hdg kk
theorem aX_put_moment {v : Int32} (hτ : x_pmoment σ v = τ) (hx : p.tables.exec = Jvm.exec) (hb : c.code = cc) (hts : ∀ w ∈ lw_g, w.before args s = true) (hown : s.vm.findClass RX = some m.cls) (hK : va_K (dC, dI) vwCl [(cI, .int), (cZ, .boolean)] s) (hP : va_P (dC, dI) vwCl (w_X a cI cZ σ) H) (hD : va_D A (w_X a cI cZ σ)) (hS : va_S A H0 H locs) (hdg : decode cc pc = .ok (.putfield 48, 3)) (kk : ∀ (H1 : Heap) (locs1 : List Loc), va_P (dC, dI) vwCl (w_X a cI cZ τ) H1 → va_D A (w_X a cI cZ τ) → va_S A H0 H1 locs1 → W p l e R s m args below meth c H1 locs1 cells slots Q (F0 m (pc + 3) ls rest)) : W p l e R s m args below meth c H locs cells slots Q (F0 m pc ls (.int v :: .ref (a 0) :: rest)) := by
  subst hτ
  exact va_put (D := (dC, dI)) (ci := 0) (v := .int v) (ty := .int) (C := RX) (T := TX) (N := 13) hx hb hts inX tyX tyX_ok nmX hown hK hP hD hS 0 rfl rfl 12 (by decide) (hts _ mt_49) (fun _ h9 => h9) rfl (by decide +kernel) rfl rfl (Nat.le_of_ble_eq_true rfl) hdg kk
end ACCX
section ACCM
variable {p : Program} {l : Launch} {e : Env} {R : Room} {s : State} {m : MethodId} {args : Array Value} {below : List Frame} {meth : Method} {c : Code} {H : Heap} {locs : List Loc} {cells slots : Nat} {Q : State → Prop}
variable {cc : ByteArray} {pc : Nat} {ls : Array Slot} {rest : List Value} {A : Nat → Prop} {H0 : Heap} {dC : Nat → ClassId} {dI : Nat → Nat → Nat} {a : Nat → Nat} {cI cZ : ClassId} {σ τ : MSt}
theorem aM_get_thrown {v : Int32} (hv : m_thrown σ = v) (hx : p.tables.exec = Jvm.exec) (hb : c.code = cc) (hts : ∀ w ∈ lw_g, w.before args s = true) (hown : s.vm.findClass RM = some m.cls) (hK : va_K (dC, dI) vwCl [(cI, .int), (cZ, .boolean)] s) (hP : va_P (dC, dI) vwCl (w_M a cI cZ σ) H) (hdg : decode cc pc = .ok (.getfield 38, 3)) (kk : W p l e R s m args below meth c H locs cells slots Q (F0 m (pc + 3) ls (.int v :: rest))) : W p l e R s m args below meth c H locs cells slots Q (F0 m pc ls (.ref (a 0) :: rest)) := by
  subst hv
  exact va_get (D := (dC, dI)) (ci := 1) (C := RM) (T := TM) (N := 14) hx hb hts inM hown hK hP 0 rfl rfl 0 (by decide) (hts _ mt_212) (fun _ h9 => h9) rfl hdg kk
theorem aM_put_thrown {v : Int32} (hτ : m_pthrown σ v = τ) (hx : p.tables.exec = Jvm.exec) (hb : c.code = cc) (hts : ∀ w ∈ lw_g, w.before args s = true) (hown : s.vm.findClass RM = some m.cls) (hK : va_K (dC, dI) vwCl [(cI, .int), (cZ, .boolean)] s) (hP : va_P (dC, dI) vwCl (w_M a cI cZ σ) H) (hD : va_D A (w_M a cI cZ σ)) (hS : va_S A H0 H locs) (hdg : decode cc pc = .ok (.putfield 38, 3)) (kk : ∀ (H1 : Heap) (locs1 : List Loc), va_P (dC, dI) vwCl (w_M a cI cZ τ) H1 → va_D A (w_M a cI cZ τ) → va_S A H0 H1 locs1 → W p l e R s m args below meth c H1 locs1 cells slots Q (F0 m (pc + 3) ls rest)) : W p l e R s m args below meth c H locs cells slots Q (F0 m pc ls (.int v :: .ref (a 0) :: rest)) := by
  subst hτ
  exact va_put (D := (dC, dI)) (ci := 1) (v := .int v) (ty := .int) (C := RM) (T := TM) (N := 14) hx hb hts inM tyM tyM_ok nmM hown hK hP hD hS 0 rfl rfl 0 (by decide) (hts _ mt_212) (fun _ h9 => h9) rfl (by decide +kernel) rfl rfl (Nat.le_of_ble_eq_true rfl) hdg kk
theorem aM_get_records {v : Int32} (hv : m_records σ = v) (hx : p.tables.exec = Jvm.exec) (hb : c.code = cc) (hts : ∀ w ∈ lw_g, w.before args s = true) (hown : s.vm.findClass RM = some m.cls) (hK : va_K (dC, dI) vwCl [(cI, .int), (cZ, .boolean)] s) (hP : va_P (dC, dI) vwCl (w_M a cI cZ σ) H) (hdg : decode cc pc = .ok (.getfield 42, 3)) (kk : W p l e R s m args below meth c H locs cells slots Q (F0 m (pc + 3) ls (.int v :: rest))) : W p l e R s m args below meth c H locs cells slots Q (F0 m pc ls (.ref (a 0) :: rest)) := by
  subst hv
  exact va_get (D := (dC, dI)) (ci := 1) (C := RM) (T := TM) (N := 14) hx hb hts inM hown hK hP 0 rfl rfl 1 (by decide) (hts _ mt_213) (fun _ h9 => h9) rfl hdg kk
theorem aM_put_records {v : Int32} (hτ : m_precords σ v = τ) (hx : p.tables.exec = Jvm.exec) (hb : c.code = cc) (hts : ∀ w ∈ lw_g, w.before args s = true) (hown : s.vm.findClass RM = some m.cls) (hK : va_K (dC, dI) vwCl [(cI, .int), (cZ, .boolean)] s) (hP : va_P (dC, dI) vwCl (w_M a cI cZ σ) H) (hD : va_D A (w_M a cI cZ σ)) (hS : va_S A H0 H locs) (hdg : decode cc pc = .ok (.putfield 42, 3)) (kk : ∀ (H1 : Heap) (locs1 : List Loc), va_P (dC, dI) vwCl (w_M a cI cZ τ) H1 → va_D A (w_M a cI cZ τ) → va_S A H0 H1 locs1 → W p l e R s m args below meth c H1 locs1 cells slots Q (F0 m (pc + 3) ls rest)) : W p l e R s m args below meth c H locs cells slots Q (F0 m pc ls (.int v :: .ref (a 0) :: rest)) := by
  subst hτ
  exact va_put (D := (dC, dI)) (ci := 1) (v := .int v) (ty := .int) (C := RM) (T := TM) (N := 14) hx hb hts inM tyM tyM_ok nmM hown hK hP hD hS 0 rfl rfl 1 (by decide) (hts _ mt_213) (fun _ h9 => h9) rfl (by decide +kernel) rfl rfl (Nat.le_of_ble_eq_true rfl) hdg kk
theorem aM_get_live (hx : p.tables.exec = Jvm.exec) (hb : c.code = cc) (hts : ∀ w ∈ lw_g, w.before args s = true) (hown : s.vm.findClass RM = some m.cls) (hK : va_K (dC, dI) vwCl [(cI, .int), (cZ, .boolean)] s) (hP : va_P (dC, dI) vwCl (w_M a cI cZ σ) H) (hdg : decode cc pc = .ok (.getfield 7, 3)) (kk : W p l e R s m args below meth c H locs cells slots Q (F0 m (pc + 3) ls (.ref (a 1) :: rest))) : W p l e R s m args below meth c H locs cells slots Q (F0 m pc ls (.ref (a 0) :: rest)) := by
  exact va_get (D := (dC, dI)) (ci := 1) (C := RM) (T := TM) (N := 14) hx hb hts inM hown hK hP 0 rfl rfl 2 (by decide) (hts _ mt_214) (fun _ h9 => h9) rfl hdg kk
theorem aM_ld_live {f : Nat → Int32} (hfe : m_live σ = f) (hx : p.tables.exec = Jvm.exec) (hb : c.code = cc) (hK : va_K (dC, dI) vwCl [(cI, .int), (cZ, .boolean)] s) (hP : va_P (dC, dI) vwCl (w_M a cI cZ σ) H) {i : Int32} (hin : vp_in i 61) (hdg : decode cc pc = .ok (.baload, 1)) (kk : W p l e R s m args below meth c H locs cells slots Q (F0 m (pc + 1) ls (.int (f i.toNatClampNeg) :: rest))) : W p l e R s m args below meth c H locs cells slots Q (F0 m pc ls (.int i :: .ref (a 1) :: rest)) := by
  subst hfe
  exact va_zald (f := m_live σ) hx hb hK hP 1 1 rfl rfl hin hdg kk
theorem aM_st_live {f : Nat → Int32} {i x : Int32} (hfe : m_live σ = f) (hτ : m_plive σ (upd f i.toNatClampNeg (vp_nar .boolean x)) = τ) (hx : p.tables.exec = Jvm.exec) (hb : c.code = cc) (hK : va_K (dC, dI) vwCl [(cI, .int), (cZ, .boolean)] s) (hP : va_P (dC, dI) vwCl (w_M a cI cZ σ) H) (hD : va_D A (w_M a cI cZ σ)) (hS : va_S A H0 H locs) (hin : vp_in i 61) (hdg : decode cc pc = .ok (.bastore, 1)) (kk : ∀ (H1 : Heap) (locs1 : List Loc), va_P (dC, dI) vwCl (w_M a cI cZ τ) H1 → va_D A (w_M a cI cZ τ) → va_S A H0 H1 locs1 → W p l e R s m args below meth c H1 locs1 cells slots Q (F0 m (pc + 1) ls rest)) : W p l e R s m args below meth c H locs cells slots Q (F0 m pc ls (.int x :: .int i :: .ref (a 1) :: rest)) := by
  subst hfe
  subst hτ
  exact va_zast (f := m_live σ) (x := x) hx hb hK hP hD hS 1 1 rfl rfl hin hdg kk
theorem aM_get_houses (hx : p.tables.exec = Jvm.exec) (hb : c.code = cc) (hts : ∀ w ∈ lw_g, w.before args s = true) (hown : s.vm.findClass RM = some m.cls) (hK : va_K (dC, dI) vwCl [(cI, .int), (cZ, .boolean)] s) (hP : va_P (dC, dI) vwCl (w_M a cI cZ σ) H) (hdg : decode cc pc = .ok (.getfield 13, 3)) (kk : W p l e R s m args below meth c H locs cells slots Q (F0 m (pc + 3) ls (.ref (a 2) :: rest))) : W p l e R s m args below meth c H locs cells slots Q (F0 m pc ls (.ref (a 0) :: rest)) := by
  exact va_get (D := (dC, dI)) (ci := 1) (C := RM) (T := TM) (N := 14) hx hb hts inM hown hK hP 0 rfl rfl 3 (by decide) (hts _ mt_215) (fun _ h9 => h9) rfl hdg kk
theorem aM_ld_houses {f : Nat → Int32} (hfe : m_houses σ = f) (hx : p.tables.exec = Jvm.exec) (hb : c.code = cc) (hK : va_K (dC, dI) vwCl [(cI, .int), (cZ, .boolean)] s) (hP : va_P (dC, dI) vwCl (w_M a cI cZ σ) H) {i : Int32} (hin : vp_in i 61) (hdg : decode cc pc = .ok (.iaload, 1)) (kk : W p l e R s m args below meth c H locs cells slots Q (F0 m (pc + 1) ls (.int (f i.toNatClampNeg) :: rest))) : W p l e R s m args below meth c H locs cells slots Q (F0 m pc ls (.int i :: .ref (a 2) :: rest)) := by
  subst hfe
  exact va_iald (f := m_houses σ) hx hb hK hP 2 0 rfl rfl hin hdg kk
theorem aM_st_houses {f : Nat → Int32} {i x : Int32} (hfe : m_houses σ = f) (hτ : m_phouses σ (upd f i.toNatClampNeg x) = τ) (hx : p.tables.exec = Jvm.exec) (hb : c.code = cc) (hK : va_K (dC, dI) vwCl [(cI, .int), (cZ, .boolean)] s) (hP : va_P (dC, dI) vwCl (w_M a cI cZ σ) H) (hD : va_D A (w_M a cI cZ σ)) (hS : va_S A H0 H locs) (hin : vp_in i 61) (hdg : decode cc pc = .ok (.iastore, 1)) (kk : ∀ (H1 : Heap) (locs1 : List Loc), va_P (dC, dI) vwCl (w_M a cI cZ τ) H1 → va_D A (w_M a cI cZ τ) → va_S A H0 H1 locs1 → W p l e R s m args below meth c H1 locs1 cells slots Q (F0 m (pc + 1) ls rest)) : W p l e R s m args below meth c H locs cells slots Q (F0 m pc ls (.int x :: .int i :: .ref (a 2) :: rest)) := by
  subst hfe
  subst hτ
  exact va_iast (f := m_houses σ) (x := x) hx hb hK hP hD hS 2 0 rfl rfl hin hdg kk
theorem aM_get_hadHost (hx : p.tables.exec = Jvm.exec) (hb : c.code = cc) (hts : ∀ w ∈ lw_g, w.before args s = true) (hown : s.vm.findClass RM = some m.cls) (hK : va_K (dC, dI) vwCl [(cI, .int), (cZ, .boolean)] s) (hP : va_P (dC, dI) vwCl (w_M a cI cZ σ) H) (hdg : decode cc pc = .ok (.getfield 17, 3)) (kk : W p l e R s m args below meth c H locs cells slots Q (F0 m (pc + 3) ls (.ref (a 3) :: rest))) : W p l e R s m args below meth c H locs cells slots Q (F0 m pc ls (.ref (a 0) :: rest)) := by
  exact va_get (D := (dC, dI)) (ci := 1) (C := RM) (T := TM) (N := 14) hx hb hts inM hown hK hP 0 rfl rfl 4 (by decide) (hts _ mt_216) (fun _ h9 => h9) rfl hdg kk
theorem aM_ld_hadHost {f : Nat → Int32} (hfe : m_hadHost σ = f) (hx : p.tables.exec = Jvm.exec) (hb : c.code = cc) (hK : va_K (dC, dI) vwCl [(cI, .int), (cZ, .boolean)] s) (hP : va_P (dC, dI) vwCl (w_M a cI cZ σ) H) {i : Int32} (hin : vp_in i 61) (hdg : decode cc pc = .ok (.iaload, 1)) (kk : W p l e R s m args below meth c H locs cells slots Q (F0 m (pc + 1) ls (.int (f i.toNatClampNeg) :: rest))) : W p l e R s m args below meth c H locs cells slots Q (F0 m pc ls (.int i :: .ref (a 3) :: rest)) := by
  subst hfe
  exact va_iald (f := m_hadHost σ) hx hb hK hP 3 0 rfl rfl hin hdg kk
theorem aM_st_hadHost {f : Nat → Int32} {i x : Int32} (hfe : m_hadHost σ = f) (hτ : m_phadHost σ (upd f i.toNatClampNeg x) = τ) (hx : p.tables.exec = Jvm.exec) (hb : c.code = cc) (hK : va_K (dC, dI) vwCl [(cI, .int), (cZ, .boolean)] s) (hP : va_P (dC, dI) vwCl (w_M a cI cZ σ) H) (hD : va_D A (w_M a cI cZ σ)) (hS : va_S A H0 H locs) (hin : vp_in i 61) (hdg : decode cc pc = .ok (.iastore, 1)) (kk : ∀ (H1 : Heap) (locs1 : List Loc), va_P (dC, dI) vwCl (w_M a cI cZ τ) H1 → va_D A (w_M a cI cZ τ) → va_S A H0 H1 locs1 → W p l e R s m args below meth c H1 locs1 cells slots Q (F0 m (pc + 1) ls rest)) : W p l e R s m args below meth c H locs cells slots Q (F0 m pc ls (.int x :: .int i :: .ref (a 3) :: rest)) := by
  subst hfe
  subst hτ
  exact va_iast (f := m_hadHost σ) (x := x) hx hb hK hP hD hS 3 0 rfl rfl hin hdg kk
theorem aM_get_times (hx : p.tables.exec = Jvm.exec) (hb : c.code = cc) (hts : ∀ w ∈ lw_g, w.before args s = true) (hown : s.vm.findClass RM = some m.cls) (hK : va_K (dC, dI) vwCl [(cI, .int), (cZ, .boolean)] s) (hP : va_P (dC, dI) vwCl (w_M a cI cZ σ) H) (hdg : decode cc pc = .ok (.getfield 20, 3)) (kk : W p l e R s m args below meth c H locs cells slots Q (F0 m (pc + 3) ls (.ref (a 4) :: rest))) : W p l e R s m args below meth c H locs cells slots Q (F0 m pc ls (.ref (a 0) :: rest)) := by
  exact va_get (D := (dC, dI)) (ci := 1) (C := RM) (T := TM) (N := 14) hx hb hts inM hown hK hP 0 rfl rfl 5 (by decide) (hts _ mt_217) (fun _ h9 => h9) rfl hdg kk
theorem aM_ld_times {f : Nat → Int32} (hfe : m_times σ = f) (hx : p.tables.exec = Jvm.exec) (hb : c.code = cc) (hK : va_K (dC, dI) vwCl [(cI, .int), (cZ, .boolean)] s) (hP : va_P (dC, dI) vwCl (w_M a cI cZ σ) H) {i : Int32} (hin : vp_in i 2440) (hdg : decode cc pc = .ok (.iaload, 1)) (kk : W p l e R s m args below meth c H locs cells slots Q (F0 m (pc + 1) ls (.int (f i.toNatClampNeg) :: rest))) : W p l e R s m args below meth c H locs cells slots Q (F0 m pc ls (.int i :: .ref (a 4) :: rest)) := by
  subst hfe
  exact va_iald (f := m_times σ) hx hb hK hP 4 0 rfl rfl hin hdg kk
theorem aM_st_times {f : Nat → Int32} {i x : Int32} (hfe : m_times σ = f) (hτ : m_ptimes σ (upd f i.toNatClampNeg x) = τ) (hx : p.tables.exec = Jvm.exec) (hb : c.code = cc) (hK : va_K (dC, dI) vwCl [(cI, .int), (cZ, .boolean)] s) (hP : va_P (dC, dI) vwCl (w_M a cI cZ σ) H) (hD : va_D A (w_M a cI cZ σ)) (hS : va_S A H0 H locs) (hin : vp_in i 2440) (hdg : decode cc pc = .ok (.iastore, 1)) (kk : ∀ (H1 : Heap) (locs1 : List Loc), va_P (dC, dI) vwCl (w_M a cI cZ τ) H1 → va_D A (w_M a cI cZ τ) → va_S A H0 H1 locs1 → W p l e R s m args below meth c H1 locs1 cells slots Q (F0 m (pc + 1) ls rest)) : W p l e R s m args below meth c H locs cells slots Q (F0 m pc ls (.int x :: .int i :: .ref (a 4) :: rest)) := by
  subst hfe
  subst hτ
  exact va_iast (f := m_times σ) (x := x) hx hb hK hP hD hS 4 0 rfl rfl hin hdg kk
theorem aM_get_timeCount (hx : p.tables.exec = Jvm.exec) (hb : c.code = cc) (hts : ∀ w ∈ lw_g, w.before args s = true) (hown : s.vm.findClass RM = some m.cls) (hK : va_K (dC, dI) vwCl [(cI, .int), (cZ, .boolean)] s) (hP : va_P (dC, dI) vwCl (w_M a cI cZ σ) H) (hdg : decode cc pc = .ok (.getfield 23, 3)) (kk : W p l e R s m args below meth c H locs cells slots Q (F0 m (pc + 3) ls (.ref (a 5) :: rest))) : W p l e R s m args below meth c H locs cells slots Q (F0 m pc ls (.ref (a 0) :: rest)) := by
  exact va_get (D := (dC, dI)) (ci := 1) (C := RM) (T := TM) (N := 14) hx hb hts inM hown hK hP 0 rfl rfl 6 (by decide) (hts _ mt_218) (fun _ h9 => h9) rfl hdg kk
theorem aM_ld_timeCount {f : Nat → Int32} (hfe : m_timeCount σ = f) (hx : p.tables.exec = Jvm.exec) (hb : c.code = cc) (hK : va_K (dC, dI) vwCl [(cI, .int), (cZ, .boolean)] s) (hP : va_P (dC, dI) vwCl (w_M a cI cZ σ) H) {i : Int32} (hin : vp_in i 61) (hdg : decode cc pc = .ok (.iaload, 1)) (kk : W p l e R s m args below meth c H locs cells slots Q (F0 m (pc + 1) ls (.int (f i.toNatClampNeg) :: rest))) : W p l e R s m args below meth c H locs cells slots Q (F0 m pc ls (.int i :: .ref (a 5) :: rest)) := by
  subst hfe
  exact va_iald (f := m_timeCount σ) hx hb hK hP 5 0 rfl rfl hin hdg kk
theorem aM_st_timeCount {f : Nat → Int32} {i x : Int32} (hfe : m_timeCount σ = f) (hτ : m_ptimeCount σ (upd f i.toNatClampNeg x) = τ) (hx : p.tables.exec = Jvm.exec) (hb : c.code = cc) (hK : va_K (dC, dI) vwCl [(cI, .int), (cZ, .boolean)] s) (hP : va_P (dC, dI) vwCl (w_M a cI cZ σ) H) (hD : va_D A (w_M a cI cZ σ)) (hS : va_S A H0 H locs) (hin : vp_in i 61) (hdg : decode cc pc = .ok (.iastore, 1)) (kk : ∀ (H1 : Heap) (locs1 : List Loc), va_P (dC, dI) vwCl (w_M a cI cZ τ) H1 → va_D A (w_M a cI cZ τ) → va_S A H0 H1 locs1 → W p l e R s m args below meth c H1 locs1 cells slots Q (F0 m (pc + 1) ls rest)) : W p l e R s m args below meth c H locs cells slots Q (F0 m pc ls (.int x :: .int i :: .ref (a 5) :: rest)) := by
  subst hfe
  subst hτ
  exact va_iast (f := m_timeCount σ) (x := x) hx hb hK hP hD hS 5 0 rfl rfl hin hdg kk
theorem aM_get_moment {v : Int32} (hv : m_moment σ = v) (hx : p.tables.exec = Jvm.exec) (hb : c.code = cc) (hts : ∀ w ∈ lw_g, w.before args s = true) (hown : s.vm.findClass RM = some m.cls) (hK : va_K (dC, dI) vwCl [(cI, .int), (cZ, .boolean)] s) (hP : va_P (dC, dI) vwCl (w_M a cI cZ σ) H) (hdg : decode cc pc = .ok (.getfield 45, 3)) (kk : W p l e R s m args below meth c H locs cells slots Q (F0 m (pc + 3) ls (.int v :: rest))) : W p l e R s m args below meth c H locs cells slots Q (F0 m pc ls (.ref (a 0) :: rest)) := by
  subst hv
  exact va_get (D := (dC, dI)) (ci := 1) (C := RM) (T := TM) (N := 14) hx hb hts inM hown hK hP 0 rfl rfl 7 (by decide) (hts _ mt_219) (fun _ h9 => h9) rfl hdg kk
theorem aM_put_moment {v : Int32} (hτ : m_pmoment σ v = τ) (hx : p.tables.exec = Jvm.exec) (hb : c.code = cc) (hts : ∀ w ∈ lw_g, w.before args s = true) (hown : s.vm.findClass RM = some m.cls) (hK : va_K (dC, dI) vwCl [(cI, .int), (cZ, .boolean)] s) (hP : va_P (dC, dI) vwCl (w_M a cI cZ σ) H) (hD : va_D A (w_M a cI cZ σ)) (hS : va_S A H0 H locs) (hdg : decode cc pc = .ok (.putfield 45, 3)) (kk : ∀ (H1 : Heap) (locs1 : List Loc), va_P (dC, dI) vwCl (w_M a cI cZ τ) H1 → va_D A (w_M a cI cZ τ) → va_S A H0 H1 locs1 → W p l e R s m args below meth c H1 locs1 cells slots Q (F0 m (pc + 3) ls rest)) : W p l e R s m args below meth c H locs cells slots Q (F0 m pc ls (.int v :: .ref (a 0) :: rest)) := by
  subst hτ
  exact va_put (D := (dC, dI)) (ci := 1) (v := .int v) (ty := .int) (C := RM) (T := TM) (N := 14) hx hb hts inM tyM tyM_ok nmM hown hK hP hD hS 0 rfl rfl 7 (by decide) (hts _ mt_219) (fun _ h9 => h9) rfl (by decide +kernel) rfl rfl (Nat.le_of_ble_eq_true rfl) hdg kk
theorem aM_get_links {v : Int32} (hv : m_links σ = v) (hx : p.tables.exec = Jvm.exec) (hb : c.code = cc) (hts : ∀ w ∈ lw_g, w.before args s = true) (hown : s.vm.findClass RM = some m.cls) (hK : va_K (dC, dI) vwCl [(cI, .int), (cZ, .boolean)] s) (hP : va_P (dC, dI) vwCl (w_M a cI cZ σ) H) (hdg : decode cc pc = .ok (.getfield 48, 3)) (kk : W p l e R s m args below meth c H locs cells slots Q (F0 m (pc + 3) ls (.int v :: rest))) : W p l e R s m args below meth c H locs cells slots Q (F0 m pc ls (.ref (a 0) :: rest)) := by
  subst hv
  exact va_get (D := (dC, dI)) (ci := 1) (C := RM) (T := TM) (N := 14) hx hb hts inM hown hK hP 0 rfl rfl 8 (by decide) (hts _ mt_220) (fun _ h9 => h9) rfl hdg kk
theorem aM_put_links {v : Int32} (hτ : m_plinks σ v = τ) (hx : p.tables.exec = Jvm.exec) (hb : c.code = cc) (hts : ∀ w ∈ lw_g, w.before args s = true) (hown : s.vm.findClass RM = some m.cls) (hK : va_K (dC, dI) vwCl [(cI, .int), (cZ, .boolean)] s) (hP : va_P (dC, dI) vwCl (w_M a cI cZ σ) H) (hD : va_D A (w_M a cI cZ σ)) (hS : va_S A H0 H locs) (hdg : decode cc pc = .ok (.putfield 48, 3)) (kk : ∀ (H1 : Heap) (locs1 : List Loc), va_P (dC, dI) vwCl (w_M a cI cZ τ) H1 → va_D A (w_M a cI cZ τ) → va_S A H0 H1 locs1 → W p l e R s m args below meth c H1 locs1 cells slots Q (F0 m (pc + 3) ls rest)) : W p l e R s m args below meth c H locs cells slots Q (F0 m pc ls (.int v :: .ref (a 0) :: rest)) := by
  subst hτ
  exact va_put (D := (dC, dI)) (ci := 1) (v := .int v) (ty := .int) (C := RM) (T := TM) (N := 14) hx hb hts inM tyM tyM_ok nmM hown hK hP hD hS 0 rfl rfl 8 (by decide) (hts _ mt_220) (fun _ h9 => h9) rfl (by decide +kernel) rfl rfl (Nat.le_of_ble_eq_true rfl) hdg kk
theorem aM_get_from (hx : p.tables.exec = Jvm.exec) (hb : c.code = cc) (hts : ∀ w ∈ lw_g, w.before args s = true) (hown : s.vm.findClass RM = some m.cls) (hK : va_K (dC, dI) vwCl [(cI, .int), (cZ, .boolean)] s) (hP : va_P (dC, dI) vwCl (w_M a cI cZ σ) H) (hdg : decode cc pc = .ok (.getfield 26, 3)) (kk : W p l e R s m args below meth c H locs cells slots Q (F0 m (pc + 3) ls (.ref (a 6) :: rest))) : W p l e R s m args below meth c H locs cells slots Q (F0 m pc ls (.ref (a 0) :: rest)) := by
  exact va_get (D := (dC, dI)) (ci := 1) (C := RM) (T := TM) (N := 14) hx hb hts inM hown hK hP 0 rfl rfl 9 (by decide) (hts _ mt_221) (fun _ h9 => h9) rfl hdg kk
theorem aM_ld_from {f : Nat → Int32} (hfe : m_from σ = f) (hx : p.tables.exec = Jvm.exec) (hb : c.code = cc) (hK : va_K (dC, dI) vwCl [(cI, .int), (cZ, .boolean)] s) (hP : va_P (dC, dI) vwCl (w_M a cI cZ σ) H) {i : Int32} (hin : vp_in i 200) (hdg : decode cc pc = .ok (.iaload, 1)) (kk : W p l e R s m args below meth c H locs cells slots Q (F0 m (pc + 1) ls (.int (f i.toNatClampNeg) :: rest))) : W p l e R s m args below meth c H locs cells slots Q (F0 m pc ls (.int i :: .ref (a 6) :: rest)) := by
  subst hfe
  exact va_iald (f := m_from σ) hx hb hK hP 6 0 rfl rfl hin hdg kk
theorem aM_st_from {f : Nat → Int32} {i x : Int32} (hfe : m_from σ = f) (hτ : m_pfrom σ (upd f i.toNatClampNeg x) = τ) (hx : p.tables.exec = Jvm.exec) (hb : c.code = cc) (hK : va_K (dC, dI) vwCl [(cI, .int), (cZ, .boolean)] s) (hP : va_P (dC, dI) vwCl (w_M a cI cZ σ) H) (hD : va_D A (w_M a cI cZ σ)) (hS : va_S A H0 H locs) (hin : vp_in i 200) (hdg : decode cc pc = .ok (.iastore, 1)) (kk : ∀ (H1 : Heap) (locs1 : List Loc), va_P (dC, dI) vwCl (w_M a cI cZ τ) H1 → va_D A (w_M a cI cZ τ) → va_S A H0 H1 locs1 → W p l e R s m args below meth c H1 locs1 cells slots Q (F0 m (pc + 1) ls rest)) : W p l e R s m args below meth c H locs cells slots Q (F0 m pc ls (.int x :: .int i :: .ref (a 6) :: rest)) := by
  subst hfe
  subst hτ
  exact va_iast (f := m_from σ) (x := x) hx hb hK hP hD hS 6 0 rfl rfl hin hdg kk
theorem aM_get_field (hx : p.tables.exec = Jvm.exec) (hb : c.code = cc) (hts : ∀ w ∈ lw_g, w.before args s = true) (hown : s.vm.findClass RM = some m.cls) (hK : va_K (dC, dI) vwCl [(cI, .int), (cZ, .boolean)] s) (hP : va_P (dC, dI) vwCl (w_M a cI cZ σ) H) (hdg : decode cc pc = .ok (.getfield 29, 3)) (kk : W p l e R s m args below meth c H locs cells slots Q (F0 m (pc + 3) ls (.ref (a 7) :: rest))) : W p l e R s m args below meth c H locs cells slots Q (F0 m pc ls (.ref (a 0) :: rest)) := by
  exact va_get (D := (dC, dI)) (ci := 1) (C := RM) (T := TM) (N := 14) hx hb hts inM hown hK hP 0 rfl rfl 10 (by decide) (hts _ mt_222) (fun _ h9 => h9) rfl hdg kk
theorem aM_ld_field {f : Nat → Int32} (hfe : m_field σ = f) (hx : p.tables.exec = Jvm.exec) (hb : c.code = cc) (hK : va_K (dC, dI) vwCl [(cI, .int), (cZ, .boolean)] s) (hP : va_P (dC, dI) vwCl (w_M a cI cZ σ) H) {i : Int32} (hin : vp_in i 200) (hdg : decode cc pc = .ok (.iaload, 1)) (kk : W p l e R s m args below meth c H locs cells slots Q (F0 m (pc + 1) ls (.int (f i.toNatClampNeg) :: rest))) : W p l e R s m args below meth c H locs cells slots Q (F0 m pc ls (.int i :: .ref (a 7) :: rest)) := by
  subst hfe
  exact va_iald (f := m_field σ) hx hb hK hP 7 0 rfl rfl hin hdg kk
theorem aM_st_field {f : Nat → Int32} {i x : Int32} (hfe : m_field σ = f) (hτ : m_pfield σ (upd f i.toNatClampNeg x) = τ) (hx : p.tables.exec = Jvm.exec) (hb : c.code = cc) (hK : va_K (dC, dI) vwCl [(cI, .int), (cZ, .boolean)] s) (hP : va_P (dC, dI) vwCl (w_M a cI cZ σ) H) (hD : va_D A (w_M a cI cZ σ)) (hS : va_S A H0 H locs) (hin : vp_in i 200) (hdg : decode cc pc = .ok (.iastore, 1)) (kk : ∀ (H1 : Heap) (locs1 : List Loc), va_P (dC, dI) vwCl (w_M a cI cZ τ) H1 → va_D A (w_M a cI cZ τ) → va_S A H0 H1 locs1 → W p l e R s m args below meth c H1 locs1 cells slots Q (F0 m (pc + 1) ls rest)) : W p l e R s m args below meth c H locs cells slots Q (F0 m pc ls (.int x :: .int i :: .ref (a 7) :: rest)) := by
  subst hfe
  subst hτ
  exact va_iast (f := m_field σ) (x := x) hx hb hK hP hD hS 7 0 rfl rfl hin hdg kk
theorem aM_get_to (hx : p.tables.exec = Jvm.exec) (hb : c.code = cc) (hts : ∀ w ∈ lw_g, w.before args s = true) (hown : s.vm.findClass RM = some m.cls) (hK : va_K (dC, dI) vwCl [(cI, .int), (cZ, .boolean)] s) (hP : va_P (dC, dI) vwCl (w_M a cI cZ σ) H) (hdg : decode cc pc = .ok (.getfield 32, 3)) (kk : W p l e R s m args below meth c H locs cells slots Q (F0 m (pc + 3) ls (.ref (a 8) :: rest))) : W p l e R s m args below meth c H locs cells slots Q (F0 m pc ls (.ref (a 0) :: rest)) := by
  exact va_get (D := (dC, dI)) (ci := 1) (C := RM) (T := TM) (N := 14) hx hb hts inM hown hK hP 0 rfl rfl 11 (by decide) (hts _ mt_223) (fun _ h9 => h9) rfl hdg kk
theorem aM_ld_to {f : Nat → Int32} (hfe : m_to σ = f) (hx : p.tables.exec = Jvm.exec) (hb : c.code = cc) (hK : va_K (dC, dI) vwCl [(cI, .int), (cZ, .boolean)] s) (hP : va_P (dC, dI) vwCl (w_M a cI cZ σ) H) {i : Int32} (hin : vp_in i 200) (hdg : decode cc pc = .ok (.iaload, 1)) (kk : W p l e R s m args below meth c H locs cells slots Q (F0 m (pc + 1) ls (.int (f i.toNatClampNeg) :: rest))) : W p l e R s m args below meth c H locs cells slots Q (F0 m pc ls (.int i :: .ref (a 8) :: rest)) := by
  subst hfe
  exact va_iald (f := m_to σ) hx hb hK hP 8 0 rfl rfl hin hdg kk
theorem aM_st_to {f : Nat → Int32} {i x : Int32} (hfe : m_to σ = f) (hτ : m_pto σ (upd f i.toNatClampNeg x) = τ) (hx : p.tables.exec = Jvm.exec) (hb : c.code = cc) (hK : va_K (dC, dI) vwCl [(cI, .int), (cZ, .boolean)] s) (hP : va_P (dC, dI) vwCl (w_M a cI cZ σ) H) (hD : va_D A (w_M a cI cZ σ)) (hS : va_S A H0 H locs) (hin : vp_in i 200) (hdg : decode cc pc = .ok (.iastore, 1)) (kk : ∀ (H1 : Heap) (locs1 : List Loc), va_P (dC, dI) vwCl (w_M a cI cZ τ) H1 → va_D A (w_M a cI cZ τ) → va_S A H0 H1 locs1 → W p l e R s m args below meth c H1 locs1 cells slots Q (F0 m (pc + 1) ls rest)) : W p l e R s m args below meth c H locs cells slots Q (F0 m pc ls (.int x :: .int i :: .ref (a 8) :: rest)) := by
  subst hfe
  subst hτ
  exact va_iast (f := m_to σ) (x := x) hx hb hK hP hD hS 8 0 rfl rfl hin hdg kk
theorem aM_get_ring (hx : p.tables.exec = Jvm.exec) (hb : c.code = cc) (hts : ∀ w ∈ lw_g, w.before args s = true) (hown : s.vm.findClass RM = some m.cls) (hK : va_K (dC, dI) vwCl [(cI, .int), (cZ, .boolean)] s) (hP : va_P (dC, dI) vwCl (w_M a cI cZ σ) H) (hdg : decode cc pc = .ok (.getfield 35, 3)) (kk : W p l e R s m args below meth c H locs cells slots Q (F0 m (pc + 3) ls (.ref (a 9) :: rest))) : W p l e R s m args below meth c H locs cells slots Q (F0 m pc ls (.ref (a 0) :: rest)) := by
  exact va_get (D := (dC, dI)) (ci := 1) (C := RM) (T := TM) (N := 14) hx hb hts inM hown hK hP 0 rfl rfl 12 (by decide) (hts _ mt_224) (fun _ h9 => h9) rfl hdg kk
theorem aM_ld_ring {f : Nat → Int32} (hfe : m_ring σ = f) (hx : p.tables.exec = Jvm.exec) (hb : c.code = cc) (hK : va_K (dC, dI) vwCl [(cI, .int), (cZ, .boolean)] s) (hP : va_P (dC, dI) vwCl (w_M a cI cZ σ) H) {i : Int32} (hin : vp_in i 61) (hdg : decode cc pc = .ok (.iaload, 1)) (kk : W p l e R s m args below meth c H locs cells slots Q (F0 m (pc + 1) ls (.int (f i.toNatClampNeg) :: rest))) : W p l e R s m args below meth c H locs cells slots Q (F0 m pc ls (.int i :: .ref (a 9) :: rest)) := by
  subst hfe
  exact va_iald (f := m_ring σ) hx hb hK hP 9 0 rfl rfl hin hdg kk
theorem aM_st_ring {f : Nat → Int32} {i x : Int32} (hfe : m_ring σ = f) (hτ : m_pring σ (upd f i.toNatClampNeg x) = τ) (hx : p.tables.exec = Jvm.exec) (hb : c.code = cc) (hK : va_K (dC, dI) vwCl [(cI, .int), (cZ, .boolean)] s) (hP : va_P (dC, dI) vwCl (w_M a cI cZ σ) H) (hD : va_D A (w_M a cI cZ σ)) (hS : va_S A H0 H locs) (hin : vp_in i 61) (hdg : decode cc pc = .ok (.iastore, 1)) (kk : ∀ (H1 : Heap) (locs1 : List Loc), va_P (dC, dI) vwCl (w_M a cI cZ τ) H1 → va_D A (w_M a cI cZ τ) → va_S A H0 H1 locs1 → W p l e R s m args below meth c H1 locs1 cells slots Q (F0 m (pc + 1) ls rest)) : W p l e R s m args below meth c H locs cells slots Q (F0 m pc ls (.int x :: .int i :: .ref (a 9) :: rest)) := by
  subst hfe
  subst hτ
  exact va_iast (f := m_ring σ) (x := x) hx hb hK hP hD hS 9 0 rfl rfl hin hdg kk
theorem aM_get_ringLength {v : Int32} (hv : m_ringLength σ = v) (hx : p.tables.exec = Jvm.exec) (hb : c.code = cc) (hts : ∀ w ∈ lw_g, w.before args s = true) (hown : s.vm.findClass RM = some m.cls) (hK : va_K (dC, dI) vwCl [(cI, .int), (cZ, .boolean)] s) (hP : va_P (dC, dI) vwCl (w_M a cI cZ σ) H) (hdg : decode cc pc = .ok (.getfield 77, 3)) (kk : W p l e R s m args below meth c H locs cells slots Q (F0 m (pc + 3) ls (.int v :: rest))) : W p l e R s m args below meth c H locs cells slots Q (F0 m pc ls (.ref (a 0) :: rest)) := by
  subst hv
  exact va_get (D := (dC, dI)) (ci := 1) (C := RM) (T := TM) (N := 14) hx hb hts inM hown hK hP 0 rfl rfl 13 (by decide) (hts _ mt_225) (fun _ h9 => h9) rfl hdg kk
theorem aM_put_ringLength {v : Int32} (hτ : m_pringLength σ v = τ) (hx : p.tables.exec = Jvm.exec) (hb : c.code = cc) (hts : ∀ w ∈ lw_g, w.before args s = true) (hown : s.vm.findClass RM = some m.cls) (hK : va_K (dC, dI) vwCl [(cI, .int), (cZ, .boolean)] s) (hP : va_P (dC, dI) vwCl (w_M a cI cZ σ) H) (hD : va_D A (w_M a cI cZ σ)) (hS : va_S A H0 H locs) (hdg : decode cc pc = .ok (.putfield 77, 3)) (kk : ∀ (H1 : Heap) (locs1 : List Loc), va_P (dC, dI) vwCl (w_M a cI cZ τ) H1 → va_D A (w_M a cI cZ τ) → va_S A H0 H1 locs1 → W p l e R s m args below meth c H1 locs1 cells slots Q (F0 m (pc + 3) ls rest)) : W p l e R s m args below meth c H locs cells slots Q (F0 m pc ls (.int v :: .ref (a 0) :: rest)) := by
  subst hτ
  exact va_put (D := (dC, dI)) (ci := 1) (v := .int v) (ty := .int) (C := RM) (T := TM) (N := 14) hx hb hts inM tyM tyM_ok nmM hown hK hP hD hS 0 rfl rfl 13 (by decide) (hts _ mt_225) (fun _ h9 => h9) rfl (by decide +kernel) rfl rfl (Nat.le_of_ble_eq_true rfl) hdg kk
end ACCM
theorem hdX_record : yX_record.cls = RX ∧ yX_record.cls ≠ "java/lang/invoke/MethodHandle" ∧ yX_record.cls ≠ "java/lang/invoke/VarHandle" ∧ (parseMethodDescriptor yX_record.desc).map (fun d => d.parameters.length) = some 0 := by decide +kernel
theorem hdX_link : yX_link.cls = RX ∧ yX_link.cls ≠ "java/lang/invoke/MethodHandle" ∧ yX_link.cls ≠ "java/lang/invoke/VarHandle" ∧ (parseMethodDescriptor yX_link.desc).map (fun d => d.parameters.length) = some 3 := by decide +kernel
theorem hdX_hasRoomFor : yX_hasRoomFor.cls = RX ∧ yX_hasRoomFor.cls ≠ "java/lang/invoke/MethodHandle" ∧ yX_hasRoomFor.cls ≠ "java/lang/invoke/VarHandle" ∧ (parseMethodDescriptor yX_hasRoomFor.desc).map (fun d => d.parameters.length) = some 4 := by decide +kernel
theorem hdX_isLive : yX_isLive.cls = RX ∧ yX_isLive.cls ≠ "java/lang/invoke/MethodHandle" ∧ yX_isLive.cls ≠ "java/lang/invoke/VarHandle" ∧ (parseMethodDescriptor yX_isLive.desc).map (fun d => d.parameters.length) = some 1 := by decide +kernel
theorem hdX_isRecord : yX_isRecord.cls = RX ∧ yX_isRecord.cls ≠ "java/lang/invoke/MethodHandle" ∧ yX_isRecord.cls ≠ "java/lang/invoke/VarHandle" ∧ (parseMethodDescriptor yX_isRecord.desc).map (fun d => d.parameters.length) = some 1 := by decide +kernel
theorem hdX_mayGoTo : yX_mayGoTo.cls = RX ∧ yX_mayGoTo.cls ≠ "java/lang/invoke/MethodHandle" ∧ yX_mayGoTo.cls ≠ "java/lang/invoke/VarHandle" ∧ (parseMethodDescriptor yX_mayGoTo.desc).map (fun d => d.parameters.length) = some 3 := by decide +kernel
theorem hdX_isHeading : yX_isHeading.cls ≠ "java/lang/invoke/MethodHandle" ∧ yX_isHeading.cls ≠ "java/lang/invoke/VarHandle" ∧ (parseMethodDescriptor yX_isHeading.desc).map (fun d => d.parameters.length) = some 1 := by decide +kernel
theorem hdX_liesIn : yX_liesIn.cls = RX ∧ yX_liesIn.cls ≠ "java/lang/invoke/MethodHandle" ∧ yX_liesIn.cls ≠ "java/lang/invoke/VarHandle" ∧ (parseMethodDescriptor yX_liesIn.desc).map (fun d => d.parameters.length) = some 2 := by decide +kernel
theorem hdX_keepRefusedWay : yX_keepRefusedWay.cls = RX ∧ yX_keepRefusedWay.cls ≠ "java/lang/invoke/MethodHandle" ∧ yX_keepRefusedWay.cls ≠ "java/lang/invoke/VarHandle" ∧ (parseMethodDescriptor yX_keepRefusedWay.desc).map (fun d => d.parameters.length) = some 2 := by decide +kernel
theorem hdX_addLink : yX_addLink.cls = RX ∧ yX_addLink.cls ≠ "java/lang/invoke/MethodHandle" ∧ yX_addLink.cls ≠ "java/lang/invoke/VarHandle" ∧ (parseMethodDescriptor yX_addLink.desc).map (fun d => d.parameters.length) = some 3 := by decide +kernel
theorem hdX_noteChange : yX_noteChange.cls = RX ∧ yX_noteChange.cls ≠ "java/lang/invoke/MethodHandle" ∧ yX_noteChange.cls ≠ "java/lang/invoke/VarHandle" ∧ (parseMethodDescriptor yX_noteChange.desc).map (fun d => d.parameters.length) = some 1 := by decide +kernel
theorem hdX_change : yX_change.cls = RX ∧ yX_change.cls ≠ "java/lang/invoke/MethodHandle" ∧ yX_change.cls ≠ "java/lang/invoke/VarHandle" ∧ (parseMethodDescriptor yX_change.desc).map (fun d => d.parameters.length) = some 2 := by decide +kernel
theorem hdX_sendToHeading : yX_sendToHeading.cls = RX ∧ yX_sendToHeading.cls ≠ "java/lang/invoke/MethodHandle" ∧ yX_sendToHeading.cls ≠ "java/lang/invoke/VarHandle" ∧ (parseMethodDescriptor yX_sendToHeading.desc).map (fun d => d.parameters.length) = some 2 := by decide +kernel
theorem hdX_findLink : yX_findLink.cls = RX ∧ yX_findLink.cls ≠ "java/lang/invoke/MethodHandle" ∧ yX_findLink.cls ≠ "java/lang/invoke/VarHandle" ∧ (parseMethodDescriptor yX_findLink.desc).map (fun d => d.parameters.length) = some 3 := by decide +kernel
theorem hdX_removeLink : yX_removeLink.cls = RX ∧ yX_removeLink.cls ≠ "java/lang/invoke/MethodHandle" ∧ yX_removeLink.cls ≠ "java/lang/invoke/VarHandle" ∧ (parseMethodDescriptor yX_removeLink.desc).map (fun d => d.parameters.length) = some 1 := by decide +kernel
theorem hdX_broken : yX_broken.cls = RX ∧ yX_broken.cls ≠ "java/lang/invoke/MethodHandle" ∧ yX_broken.cls ≠ "java/lang/invoke/VarHandle" ∧ (parseMethodDescriptor yX_broken.desc).map (fun d => d.parameters.length) = some 2 := by decide +kernel
theorem hdX_findBroken : yX_findBroken.cls = RX ∧ yX_findBroken.cls ≠ "java/lang/invoke/MethodHandle" ∧ yX_findBroken.cls ≠ "java/lang/invoke/VarHandle" ∧ (parseMethodDescriptor yX_findBroken.desc).map (fun d => d.parameters.length) = some 1 := by decide +kernel
theorem hdX_repair : yX_repair.cls = RX ∧ yX_repair.cls ≠ "java/lang/invoke/MethodHandle" ∧ yX_repair.cls ≠ "java/lang/invoke/VarHandle" ∧ (parseMethodDescriptor yX_repair.desc).map (fun d => d.parameters.length) = some 1 := by decide +kernel
theorem hdX_chain : yX_chain.cls = RX ∧ yX_chain.cls ≠ "java/lang/invoke/MethodHandle" ∧ yX_chain.cls ≠ "java/lang/invoke/VarHandle" ∧ (parseMethodDescriptor yX_chain.desc).map (fun d => d.parameters.length) = some 2 := by decide +kernel
theorem hdX_ring : yX_ring.cls = RX ∧ yX_ring.cls ≠ "java/lang/invoke/MethodHandle" ∧ yX_ring.cls ≠ "java/lang/invoke/VarHandle" ∧ (parseMethodDescriptor yX_ring.desc).map (fun d => d.parameters.length) = some 1 := by decide +kernel
theorem hdX_host : yX_host.cls = RX ∧ yX_host.cls ≠ "java/lang/invoke/MethodHandle" ∧ yX_host.cls ≠ "java/lang/invoke/VarHandle" ∧ (parseMethodDescriptor yX_host.desc).map (fun d => d.parameters.length) = some 1 := by decide +kernel
theorem hdX_move : yX_move.cls = RX ∧ yX_move.cls ≠ "java/lang/invoke/MethodHandle" ∧ yX_move.cls ≠ "java/lang/invoke/VarHandle" ∧ (parseMethodDescriptor yX_move.desc).map (fun d => d.parameters.length) = some 2 := by decide +kernel
theorem hdX_delete : yX_delete.cls = RX ∧ yX_delete.cls ≠ "java/lang/invoke/MethodHandle" ∧ yX_delete.cls ≠ "java/lang/invoke/VarHandle" ∧ (parseMethodDescriptor yX_delete.desc).map (fun d => d.parameters.length) = some 1 := by decide +kernel
theorem hdX_countHostedBy : yX_countHostedBy.cls = RX ∧ yX_countHostedBy.cls ≠ "java/lang/invoke/MethodHandle" ∧ yX_countHostedBy.cls ≠ "java/lang/invoke/VarHandle" ∧ (parseMethodDescriptor yX_countHostedBy.desc).map (fun d => d.parameters.length) = some 1 := by decide +kernel
theorem hdX_removeLinksOf : yX_removeLinksOf.cls = RX ∧ yX_removeLinksOf.cls ≠ "java/lang/invoke/MethodHandle" ∧ yX_removeLinksOf.cls ≠ "java/lang/invoke/VarHandle" ∧ (parseMethodDescriptor yX_removeLinksOf.desc).map (fun d => d.parameters.length) = some 1 := by decide +kernel
theorem hdX_times : yX_times.cls = RX ∧ yX_times.cls ≠ "java/lang/invoke/MethodHandle" ∧ yX_times.cls ≠ "java/lang/invoke/VarHandle" ∧ (parseMethodDescriptor yX_times.desc).map (fun d => d.parameters.length) = some 2 := by decide +kernel
theorem hdX_orphan : yX_orphan.cls = RX ∧ yX_orphan.cls ≠ "java/lang/invoke/MethodHandle" ∧ yX_orphan.cls ≠ "java/lang/invoke/VarHandle" ∧ (parseMethodDescriptor yX_orphan.desc).map (fun d => d.parameters.length) = some 1 := by decide +kernel
theorem hdX_isLinked : yX_isLinked.cls = RX ∧ yX_isLinked.cls ≠ "java/lang/invoke/MethodHandle" ∧ yX_isLinked.cls ≠ "java/lang/invoke/VarHandle" ∧ (parseMethodDescriptor yX_isLinked.desc).map (fun d => d.parameters.length) = some 1 := by decide +kernel
theorem hdX_house : yX_house.cls = RX ∧ yX_house.cls ≠ "java/lang/invoke/MethodHandle" ∧ yX_house.cls ≠ "java/lang/invoke/VarHandle" ∧ (parseMethodDescriptor yX_house.desc).map (fun d => d.parameters.length) = some 1 := by decide +kernel
theorem hdX_goes : yX_goes.cls = RX ∧ yX_goes.cls ≠ "java/lang/invoke/MethodHandle" ∧ yX_goes.cls ≠ "java/lang/invoke/VarHandle" ∧ (parseMethodDescriptor yX_goes.desc).map (fun d => d.parameters.length) = some 3 := by decide +kernel
theorem hdM_record : yM_record.cls = RM ∧ yM_record.cls ≠ "java/lang/invoke/MethodHandle" ∧ yM_record.cls ≠ "java/lang/invoke/VarHandle" ∧ (parseMethodDescriptor yM_record.desc).map (fun d => d.parameters.length) = some 0 := by decide +kernel
theorem hdM_link : yM_link.cls = RM ∧ yM_link.cls ≠ "java/lang/invoke/MethodHandle" ∧ yM_link.cls ≠ "java/lang/invoke/VarHandle" ∧ (parseMethodDescriptor yM_link.desc).map (fun d => d.parameters.length) = some 3 := by decide +kernel
theorem hdM_isLive : yM_isLive.cls = RM ∧ yM_isLive.cls ≠ "java/lang/invoke/MethodHandle" ∧ yM_isLive.cls ≠ "java/lang/invoke/VarHandle" ∧ (parseMethodDescriptor yM_isLive.desc).map (fun d => d.parameters.length) = some 1 := by decide +kernel
theorem hdM_isHeading : yM_isHeading.cls ≠ "java/lang/invoke/MethodHandle" ∧ yM_isHeading.cls ≠ "java/lang/invoke/VarHandle" ∧ (parseMethodDescriptor yM_isHeading.desc).map (fun d => d.parameters.length) = some 1 := by decide +kernel
theorem hdM_count : yM_count.cls = RM ∧ yM_count.cls ≠ "java/lang/invoke/MethodHandle" ∧ yM_count.cls ≠ "java/lang/invoke/VarHandle" ∧ (parseMethodDescriptor yM_count.desc).map (fun d => d.parameters.length) = some 2 := by decide +kernel
theorem hdM_most : yM_most.cls ≠ "java/lang/invoke/MethodHandle" ∧ yM_most.cls ≠ "java/lang/invoke/VarHandle" ∧ (parseMethodDescriptor yM_most.desc).map (fun d => d.parameters.length) = some 1 := by decide +kernel
theorem hdM_find : yM_find.cls = RM ∧ yM_find.cls ≠ "java/lang/invoke/MethodHandle" ∧ yM_find.cls ≠ "java/lang/invoke/VarHandle" ∧ (parseMethodDescriptor yM_find.desc).map (fun d => d.parameters.length) = some 3 := by decide +kernel
theorem hdM_liesIn : yM_liesIn.cls = RM ∧ yM_liesIn.cls ≠ "java/lang/invoke/MethodHandle" ∧ yM_liesIn.cls ≠ "java/lang/invoke/VarHandle" ∧ (parseMethodDescriptor yM_liesIn.desc).map (fun d => d.parameters.length) = some 2 := by decide +kernel
theorem hdM_hostOf : yM_hostOf.cls = RM ∧ yM_hostOf.cls ≠ "java/lang/invoke/MethodHandle" ∧ yM_hostOf.cls ≠ "java/lang/invoke/VarHandle" ∧ (parseMethodDescriptor yM_hostOf.desc).map (fun d => d.parameters.length) = some 1 := by decide +kernel
theorem hdM_changed : yM_changed.cls = RM ∧ yM_changed.cls ≠ "java/lang/invoke/MethodHandle" ∧ yM_changed.cls ≠ "java/lang/invoke/VarHandle" ∧ (parseMethodDescriptor yM_changed.desc).map (fun d => d.parameters.length) = some 1 := by decide +kernel
theorem hdM_change : yM_change.cls = RM ∧ yM_change.cls ≠ "java/lang/invoke/MethodHandle" ∧ yM_change.cls ≠ "java/lang/invoke/VarHandle" ∧ (parseMethodDescriptor yM_change.desc).map (fun d => d.parameters.length) = some 2 := by decide +kernel
theorem hdM_drop : yM_drop.cls = RM ∧ yM_drop.cls ≠ "java/lang/invoke/MethodHandle" ∧ yM_drop.cls ≠ "java/lang/invoke/VarHandle" ∧ (parseMethodDescriptor yM_drop.desc).map (fun d => d.parameters.length) = some 1 := by decide +kernel
theorem hdM_broken : yM_broken.cls = RM ∧ yM_broken.cls ≠ "java/lang/invoke/MethodHandle" ∧ yM_broken.cls ≠ "java/lang/invoke/VarHandle" ∧ (parseMethodDescriptor yM_broken.desc).map (fun d => d.parameters.length) = some 2 := by decide +kernel
theorem hdM_brokenAt : yM_brokenAt.cls = RM ∧ yM_brokenAt.cls ≠ "java/lang/invoke/MethodHandle" ∧ yM_brokenAt.cls ≠ "java/lang/invoke/VarHandle" ∧ (parseMethodDescriptor yM_brokenAt.desc).map (fun d => d.parameters.length) = some 1 := by decide +kernel
theorem hdM_isBroken : yM_isBroken.cls = RM ∧ yM_isBroken.cls ≠ "java/lang/invoke/MethodHandle" ∧ yM_isBroken.cls ≠ "java/lang/invoke/VarHandle" ∧ (parseMethodDescriptor yM_isBroken.desc).map (fun d => d.parameters.length) = some 1 := by decide +kernel
theorem hdM_repair : yM_repair.cls = RM ∧ yM_repair.cls ≠ "java/lang/invoke/MethodHandle" ∧ yM_repair.cls ≠ "java/lang/invoke/VarHandle" ∧ (parseMethodDescriptor yM_repair.desc).map (fun d => d.parameters.length) = some 1 := by decide +kernel
theorem hdM_chain : yM_chain.cls = RM ∧ yM_chain.cls ≠ "java/lang/invoke/MethodHandle" ∧ yM_chain.cls ≠ "java/lang/invoke/VarHandle" ∧ (parseMethodDescriptor yM_chain.desc).map (fun d => d.parameters.length) = some 2 := by decide +kernel
theorem hdM_ring : yM_ring.cls = RM ∧ yM_ring.cls ≠ "java/lang/invoke/MethodHandle" ∧ yM_ring.cls ≠ "java/lang/invoke/VarHandle" ∧ (parseMethodDescriptor yM_ring.desc).map (fun d => d.parameters.length) = some 1 := by decide +kernel
theorem hdM_host : yM_host.cls = RM ∧ yM_host.cls ≠ "java/lang/invoke/MethodHandle" ∧ yM_host.cls ≠ "java/lang/invoke/VarHandle" ∧ (parseMethodDescriptor yM_host.desc).map (fun d => d.parameters.length) = some 1 := by decide +kernel
theorem hdM_move : yM_move.cls = RM ∧ yM_move.cls ≠ "java/lang/invoke/MethodHandle" ∧ yM_move.cls ≠ "java/lang/invoke/VarHandle" ∧ (parseMethodDescriptor yM_move.desc).map (fun d => d.parameters.length) = some 2 := by decide +kernel
theorem hdM_delete : yM_delete.cls = RM ∧ yM_delete.cls ≠ "java/lang/invoke/MethodHandle" ∧ yM_delete.cls ≠ "java/lang/invoke/VarHandle" ∧ (parseMethodDescriptor yM_delete.desc).map (fun d => d.parameters.length) = some 1 := by decide +kernel
theorem hdM_times : yM_times.cls = RM ∧ yM_times.cls ≠ "java/lang/invoke/MethodHandle" ∧ yM_times.cls ≠ "java/lang/invoke/VarHandle" ∧ (parseMethodDescriptor yM_times.desc).map (fun d => d.parameters.length) = some 2 := by decide +kernel
theorem hdM_orphan : yM_orphan.cls = RM ∧ yM_orphan.cls ≠ "java/lang/invoke/MethodHandle" ∧ yM_orphan.cls ≠ "java/lang/invoke/VarHandle" ∧ (parseMethodDescriptor yM_orphan.desc).map (fun d => d.parameters.length) = some 1 := by decide +kernel
theorem hdM_house : yM_house.cls = RM ∧ yM_house.cls ≠ "java/lang/invoke/MethodHandle" ∧ yM_house.cls ≠ "java/lang/invoke/VarHandle" ∧ (parseMethodDescriptor yM_house.desc).map (fun d => d.parameters.length) = some 1 := by decide +kernel
theorem hdM_goes : yM_goes.cls = RM ∧ yM_goes.cls ≠ "java/lang/invoke/MethodHandle" ∧ yM_goes.cls ≠ "java/lang/invoke/VarHandle" ∧ (parseMethodDescriptor yM_goes.desc).map (fun d => d.parameters.length) = some 3 := by decide +kernel
end
section
def fX_record (K : Nat) (σ : XSt) : Option (Int32 × XSt) := (if (x_records σ) < (60 : Int32) then (if ((x_records σ) + (1 : Int32)) < 0 ∨ 61 ≤ ((x_records σ) + (1 : Int32)).toNatClampNeg then none else some (((x_records σ) + (1 : Int32)), (x_precords (x_plive σ (upd (x_live σ) ((x_records σ) + (1 : Int32)).toNatClampNeg (vp_nar .boolean (1 : Int32)))) ((x_records σ) + (1 : Int32))))) else some ((0 : Int32), σ))
set_option maxHeartbeats 4000000 in
set_option maxRecDepth 100000 in
theorem kX_record (l : Launch) (dC : Nat → ClassId) (dI : Nat → Nat → Nat) (a : Nat → Nat) (cI cZ : ClassId) (tb : Nat) (K : Nat) (σ σ' : XSt) (r : Int32) (hf : fX_record K  σ = some (r, σ')) : xw_Ct l yX_record wdX_record ({ frames := 0, cells := 0, slots := 0, locals := 0 } : Room) (dC, dI) vwCl [(cI, .int), (cZ, .boolean)] (zz tb) ((w_X a cI cZ) σ) ((w_X a cI cZ) σ') [.ref (a 0)] r := by
  refine xw_ofW (cc := cX_record) (maxL := 1) (ret := (some .int)) (lv := [(0, .ref (a 0))]) (by decide) rfl (Nat.le_of_ble_eq_true rfl) rfl ?_
  intro p e s m below meth c A hAt hP hD hS ls hl
  obtain ⟨hx, hb, hr, hml, hown, hts, hlocks, hK, hZ, hA⟩ := hAt
  replace hts : ∀ w ∈ lw_g, w.before _ s = true := fun w h => hts w (List.mem_cons_of_mem _ h)
  unfold fX_record at hf
  refine lv_aload_n hx hb dX_record_0 rfl (lv_at hl 0 rfl) ?_
  refine aX_get_records (σ := σ) (v := (x_records σ)) rfl hx hb hts hown hK hP dX_record_1 ?_
  refine lv_bipush (v := (60 : Int32)) hx hb dX_record_4 (by decide) ?_
  refine lv_icmp_lt (tgt := 11) hx hb dX_record_6 (by decide) (fun c_1 => ?_) (fun c_1 => ?_)
  · replace hf := it_t hf c_1
    refine lv_aload_n hx hb dX_record_11 rfl (lv_at hl 0 rfl) ?_
    refine lv_dup hx hb dX_record_12 rfl ?_
    refine aX_get_records (σ := σ) (v := (x_records σ)) rfl hx hb hts hown hK hP dX_record_13 ?_
    refine lv_iconst (v := (1 : Int32)) hx hb dX_record_16 (by decide) ?_
    refine lv_iadd hx hb dX_record_17 ?_
    refine aX_put_records (σ := σ) (v := ((x_records σ) + (1 : Int32))) (τ := (x_precords σ ((x_records σ) + (1 : Int32)))) rfl hx hb hts hown hK hP hD hS dX_record_18 (fun H locs hP hD hS => ?_)
    refine lv_aload_n hx hb dX_record_21 rfl (lv_at hl 0 rfl) ?_
    refine aX_get_live hx hb hts hown hK hP dX_record_22 ?_
    refine lv_aload_n hx hb dX_record_25 rfl (lv_at hl 0 rfl) ?_
    refine aX_get_records (σ := (x_precords σ ((x_records σ) + (1 : Int32)))) (v := ((x_records σ) + (1 : Int32))) rfl hx hb hts hown hK hP dX_record_26 ?_
    refine lv_iconst (v := (1 : Int32)) hx hb dX_record_29 (by decide) ?_
    obtain ⟨g_2, hf⟩ := gd_f hf
    refine aX_st_live (σ := (x_precords σ ((x_records σ) + (1 : Int32)))) (f := (x_live σ)) (x := (1 : Int32)) (τ := (x_precords (x_plive σ (upd (x_live σ) ((x_records σ) + (1 : Int32)).toNatClampNeg (vp_nar .boolean (1 : Int32)))) ((x_records σ) + (1 : Int32)))) rfl rfl hx hb hK hP hD hS g_2 dX_record_30 (fun H locs hP hD hS => ?_)
    refine lv_aload_n hx hb dX_record_31 rfl (lv_at hl 0 rfl) ?_
    refine aX_get_records (σ := (x_precords (x_plive σ (upd (x_live σ) ((x_records σ) + (1 : Int32)).toNatClampNeg (vp_nar .boolean (1 : Int32)))) ((x_records σ) + (1 : Int32)))) (v := ((x_records σ) + (1 : Int32))) rfl hx hb hts hown hK hP dX_record_32 ?_
    exact xw_iret (wf := (w_X a cI cZ)) hx hb hr hlocks rfl hK hP hD hS hf dX_record_35
  · replace hf := it_f hf c_1
    refine lv_iconst (v := (0 : Int32)) hx hb dX_record_9 (by decide) ?_
    exact xw_iret (wf := (w_X a cI cZ)) hx hb hr hlocks rfl hK hP hD hS hf dX_record_10
def fX_isRecord (K : Nat) (p1 : Int32) (σ : XSt) : Option (Int32 × XSt) := (if p1 < (1 : Int32) then some ((0 : Int32), σ) else (if (x_records σ) < p1 then some ((0 : Int32), σ) else some ((1 : Int32), σ)))
set_option maxHeartbeats 4000000 in
set_option maxRecDepth 100000 in
theorem kX_isRecord (l : Launch) (dC : Nat → ClassId) (dI : Nat → Nat → Nat) (a : Nat → Nat) (cI cZ : ClassId) (tb : Nat) (K : Nat) (p1 : Int32) (σ σ' : XSt) (r : Int32) (hf : fX_isRecord K p1 σ = some (r, σ')) : xw_Ct l yX_isRecord wdX_isRecord ({ frames := 0, cells := 0, slots := 0, locals := 0 } : Room) (dC, dI) vwCl [(cI, .int), (cZ, .boolean)] (zz tb) ((w_X a cI cZ) σ) ((w_X a cI cZ) σ') [.ref (a 0), .int p1] r := by
  refine xw_ofW (cc := cX_isRecord) (maxL := 2) (ret := (some .boolean)) (lv := [(0, .ref (a 0)), (1, .int p1)]) (by decide) rfl (Nat.le_of_ble_eq_true rfl) rfl ?_
  intro p e s m below meth c A hAt hP hD hS ls hl
  obtain ⟨hx, hb, hr, hml, hown, hts, hlocks, hK, hZ, hA⟩ := hAt
  replace hts : ∀ w ∈ lw_g, w.before _ s = true := fun w h => hts w (List.mem_cons_of_mem _ h)
  unfold fX_isRecord at hf
  refine lv_iload_n hx hb dX_isRecord_0 rfl (lv_at hl 1 rfl) ?_
  refine lv_iconst (v := (1 : Int32)) hx hb dX_isRecord_1 (by decide) ?_
  refine lv_icmp_lt (tgt := 17) hx hb dX_isRecord_2 (by decide) (fun c_1 => ?_) (fun c_1 => ?_)
  · replace hf := it_t hf c_1
    refine lv_iconst (v := (0 : Int32)) hx hb dX_isRecord_17 (by decide) ?_
    exact xw_iret (wf := (w_X a cI cZ)) hx hb hr hlocks rfl hK hP hD hS hf dX_isRecord_18
  · replace hf := it_f hf c_1
    refine lv_iload_n hx hb dX_isRecord_5 rfl (lv_at hl 1 rfl) ?_
    refine lv_aload_n hx hb dX_isRecord_6 rfl (lv_at hl 0 rfl) ?_
    refine aX_get_records (σ := σ) (v := (x_records σ)) rfl hx hb hts hown hK hP dX_isRecord_7 ?_
    refine lv_icmp_gt (tgt := 17) hx hb dX_isRecord_10 (by decide) (fun c_2 => ?_) (fun c_2 => ?_)
    · replace hf := it_t hf c_2
      refine lv_iconst (v := (0 : Int32)) hx hb dX_isRecord_17 (by decide) ?_
      exact xw_iret (wf := (w_X a cI cZ)) hx hb hr hlocks rfl hK hP hD hS hf dX_isRecord_18
    · replace hf := it_f hf c_2
      refine lv_iconst (v := (1 : Int32)) hx hb dX_isRecord_13 (by decide) ?_
      refine lv_goto (tgt := 18) hx hb dX_isRecord_14 (by decide) ?_
      exact xw_iret (wf := (w_X a cI cZ)) hx hb hr hlocks rfl hK hP hD hS hf dX_isRecord_18
def fX_isLive (K : Nat) (p1 : Int32) (σ : XSt) : Option (Int32 × XSt) := ((fX_isRecord K p1 σ).bind fun q_1 => (if q_1.1 = 0 then some ((0 : Int32), q_1.2) else (if p1 < 0 ∨ 61 ≤ p1.toNatClampNeg then none else (if ((x_live q_1.2) p1.toNatClampNeg) = 0 then some ((0 : Int32), q_1.2) else some ((1 : Int32), q_1.2)))))
set_option maxHeartbeats 4000000 in
set_option maxRecDepth 100000 in
theorem kX_isLive (l : Launch) (dC : Nat → ClassId) (dI : Nat → Nat → Nat) (a : Nat → Nat) (cI cZ : ClassId) (tb : Nat) (K : Nat) (p1 : Int32) (σ σ' : XSt) (r : Int32) (hf : fX_isLive K p1 σ = some (r, σ')) : xw_Ct l yX_isLive wdX_isLive ({ frames := 1, cells := 0, slots := 0, locals := 21 } : Room) (dC, dI) vwCl [(cI, .int), (cZ, .boolean)] (zz tb) ((w_X a cI cZ) σ) ((w_X a cI cZ) σ') [.ref (a 0), .int p1] r := by
  refine xw_ofW (cc := cX_isLive) (maxL := 2) (ret := (some .boolean)) (lv := [(0, .ref (a 0)), (1, .int p1)]) (by decide) rfl (Nat.le_of_ble_eq_true rfl) rfl ?_
  intro p e s m below meth c A hAt hP hD hS ls hl
  obtain ⟨hx, hb, hr, hml, hown, hts, hlocks, hK, hZ, hA⟩ := hAt
  replace hts : ∀ w ∈ lw_g, w.before _ s = true := fun w h => hts w (List.mem_cons_of_mem _ h)
  unfold fX_isLive at hf
  refine lv_aload_n hx hb dX_isLive_0 rfl (lv_at hl 0 rfl) ?_
  refine lv_iload_n hx hb dX_isLive_1 rfl (lv_at hl 1 rfl) ?_
  obtain ⟨q_1, hq_1, hf⟩ := bd_s hf
  refine xw_callV (kX_isRecord l dC dI a cI cZ tb K p1 σ q_1.2 q_1.1 hq_1) ⟨hx, hb, hml, hown, hts⟩ (cwV 1 hts (gw_V mt_95 mt_97 mt_2 mt_25 mt_98) rfl rfl rfl hdX_isRecord ⟨Nat.le_of_ble_eq_true rfl, Nat.le_of_ble_eq_true rfl⟩) hK hP hD hS hA hZ (q0 := 0) (ci := 0) rfl rfl rfl hl.1 rfl (Nat.le_of_ble_eq_true rfl) dX_isLive_2 ⟨Nat.zero_le _, Nat.zero_le _⟩ (fun H locs hP hD hS => ?_)
  refine lv_if_eq (tgt := 21) hx hb dX_isLive_5 (by decide) (fun c_2 => ?_) (fun c_2 => ?_)
  · replace hf := it_t hf c_2
    refine lv_iconst (v := (0 : Int32)) hx hb dX_isLive_21 (by decide) ?_
    exact xw_iret (wf := (w_X a cI cZ)) hx hb hr hlocks rfl hK hP hD hS hf dX_isLive_22
  · replace hf := it_f hf c_2
    refine lv_aload_n hx hb dX_isLive_8 rfl (lv_at hl 0 rfl) ?_
    refine aX_get_live hx hb hts hown hK hP dX_isLive_9 ?_
    refine lv_iload_n hx hb dX_isLive_12 rfl (lv_at hl 1 rfl) ?_
    obtain ⟨g_3, hf⟩ := gd_f hf
    refine aX_ld_live (σ := q_1.2) (f := (x_live q_1.2)) rfl hx hb hK hP g_3 dX_isLive_13 ?_
    refine lv_if_eq (tgt := 21) hx hb dX_isLive_14 (by decide) (fun c_4 => ?_) (fun c_4 => ?_)
    · replace hf := it_t hf c_4
      refine lv_iconst (v := (0 : Int32)) hx hb dX_isLive_21 (by decide) ?_
      exact xw_iret (wf := (w_X a cI cZ)) hx hb hr hlocks rfl hK hP hD hS hf dX_isLive_22
    · replace hf := it_f hf c_4
      refine lv_iconst (v := (1 : Int32)) hx hb dX_isLive_17 (by decide) ?_
      refine lv_goto (tgt := 22) hx hb dX_isLive_18 (by decide) ?_
      exact xw_iret (wf := (w_X a cI cZ)) hx hb hr hlocks rfl hK hP hD hS hf dX_isLive_22
def fX_isHeading (K : Nat) (p1 : Int32) (σ : XSt) : Option (Int32 × XSt) := (if p1 < (1 : Int32) then some ((0 : Int32), σ) else (if (99 : Int32) < p1 then some ((0 : Int32), σ) else some ((1 : Int32), σ)))
set_option maxHeartbeats 4000000 in
set_option maxRecDepth 100000 in
theorem kX_isHeading (l : Launch) (dC : Nat → ClassId) (dI : Nat → Nat → Nat) (a : Nat → Nat) (cI cZ : ClassId) (tb : Nat) (K : Nat) (p1 : Int32) (σ σ' : XSt) (r : Int32) (hf : fX_isHeading K p1 σ = some (r, σ')) : xw_Ct l yX_isHeading wdX_isHeading ({ frames := 0, cells := 0, slots := 0, locals := 0 } : Room) (dC, dI) vwCl [(cI, .int), (cZ, .boolean)] (zz tb) ((w_X a cI cZ) σ) ((w_X a cI cZ) σ') [.int p1] r := by
  refine xw_ofW (cc := cX_isHeading) (maxL := 1) (ret := (some .boolean)) (lv := [(0, .int p1)]) (by decide) rfl (Nat.le_of_ble_eq_true rfl) rfl ?_
  intro p e s m below meth c A hAt hP hD hS ls hl
  obtain ⟨hx, hb, hr, hml, hown, hts, hlocks, hK, hZ, hA⟩ := hAt
  replace hts : ∀ w ∈ lw_g, w.before _ s = true := fun w h => hts w (List.mem_cons_of_mem _ h)
  unfold fX_isHeading at hf
  refine lv_iload_n hx hb dX_isHeading_0 rfl (lv_at hl 0 rfl) ?_
  refine lv_iconst (v := (1 : Int32)) hx hb dX_isHeading_1 (by decide) ?_
  refine lv_icmp_lt (tgt := 15) hx hb dX_isHeading_2 (by decide) (fun c_1 => ?_) (fun c_1 => ?_)
  · replace hf := it_t hf c_1
    refine lv_iconst (v := (0 : Int32)) hx hb dX_isHeading_15 (by decide) ?_
    exact xw_iret (wf := (w_X a cI cZ)) hx hb hr hlocks rfl hK hP hD hS hf dX_isHeading_16
  · replace hf := it_f hf c_1
    refine lv_iload_n hx hb dX_isHeading_5 rfl (lv_at hl 0 rfl) ?_
    refine lv_bipush (v := (99 : Int32)) hx hb dX_isHeading_6 (by decide) ?_
    refine lv_icmp_gt (tgt := 15) hx hb dX_isHeading_8 (by decide) (fun c_2 => ?_) (fun c_2 => ?_)
    · replace hf := it_t hf c_2
      refine lv_iconst (v := (0 : Int32)) hx hb dX_isHeading_15 (by decide) ?_
      exact xw_iret (wf := (w_X a cI cZ)) hx hb hr hlocks rfl hK hP hD hS hf dX_isHeading_16
    · replace hf := it_f hf c_2
      refine lv_iconst (v := (1 : Int32)) hx hb dX_isHeading_11 (by decide) ?_
      refine lv_goto (tgt := 16) hx hb dX_isHeading_12 (by decide) ?_
      exact xw_iret (wf := (w_X a cI cZ)) hx hb hr hlocks rfl hK hP hD hS hf dX_isHeading_16
def fX_mayGoTo (K : Nat) (p1 p2 p3 : Int32) (σ : XSt) : Option (Int32 × XSt) := (if p2 < (4 : Int32) then ((fX_isLive K p3 σ).bind fun q_2 => (if q_2.1 = 0 then some ((0 : Int32), q_2.2) else (if p3 = p1 then some ((0 : Int32), q_2.2) else some ((1 : Int32), q_2.2)))) else ((fX_isHeading K p3 σ).bind fun q_5 => (if ¬ (q_5.1 = 0 ∨ q_5.1 = 1) then none else some (q_5.1, q_5.2))))
set_option maxHeartbeats 4000000 in
set_option maxRecDepth 100000 in
theorem kX_mayGoTo (l : Launch) (dC : Nat → ClassId) (dI : Nat → Nat → Nat) (a : Nat → Nat) (cI cZ : ClassId) (tb : Nat) (K : Nat) (p1 p2 p3 : Int32) (σ σ' : XSt) (r : Int32) (hf : fX_mayGoTo K p1 p2 p3 σ = some (r, σ')) : xw_Ct l yX_mayGoTo wdX_mayGoTo ({ frames := 2, cells := 0, slots := 0, locals := 42 } : Room) (dC, dI) vwCl [(cI, .int), (cZ, .boolean)] (zz tb) ((w_X a cI cZ) σ) ((w_X a cI cZ) σ') [.ref (a 0), .int p1, .int p2, .int p3] r := by
  refine xw_ofW (cc := cX_mayGoTo) (maxL := 4) (ret := (some .boolean)) (lv := [(0, .ref (a 0)), (1, .int p1), (2, .int p2), (3, .int p3)]) (by decide) rfl (Nat.le_of_ble_eq_true rfl) rfl ?_
  intro p e s m below meth c A hAt hP hD hS ls hl
  obtain ⟨hx, hb, hr, hml, hown, hts, hlocks, hK, hZ, hA⟩ := hAt
  replace hts : ∀ w ∈ lw_g, w.before _ s = true := fun w h => hts w (List.mem_cons_of_mem _ h)
  unfold fX_mayGoTo at hf
  refine lv_iload_n hx hb dX_mayGoTo_0 rfl (lv_at hl 2 rfl) ?_
  refine lv_iconst (v := (4 : Int32)) hx hb dX_mayGoTo_1 (by decide) ?_
  refine lv_icmp_lt (tgt := 10) hx hb dX_mayGoTo_2 (by decide) (fun c_1 => ?_) (fun c_1 => ?_)
  · replace hf := it_t hf c_1
    refine lv_aload_n hx hb dX_mayGoTo_10 rfl (lv_at hl 0 rfl) ?_
    refine lv_iload_n hx hb dX_mayGoTo_11 rfl (lv_at hl 3 rfl) ?_
    obtain ⟨q_2, hq_2, hf⟩ := bd_s hf
    refine xw_callV (kX_isLive l dC dI a cI cZ tb K p3 σ q_2.2 q_2.1 hq_2) ⟨hx, hb, hml, hown, hts⟩ (cwV 1 hts (gw_V mt_91 mt_93 mt_1 mt_25 mt_94) rfl rfl rfl hdX_isLive ⟨Nat.le_of_ble_eq_true rfl, Nat.le_of_ble_eq_true rfl⟩) hK hP hD hS hA hZ (q0 := 0) (ci := 0) rfl rfl rfl hl.1 rfl (Nat.le_of_ble_eq_true rfl) dX_mayGoTo_12 ⟨Nat.zero_le _, Nat.zero_le _⟩ (fun H locs hP hD hS => ?_)
    refine lv_if_eq (tgt := 27) hx hb dX_mayGoTo_15 (by decide) (fun c_3 => ?_) (fun c_3 => ?_)
    · replace hf := it_t hf c_3
      refine lv_iconst (v := (0 : Int32)) hx hb dX_mayGoTo_27 (by decide) ?_
      exact xw_iret (wf := (w_X a cI cZ)) hx hb hr hlocks rfl hK hP hD hS hf dX_mayGoTo_28
    · replace hf := it_f hf c_3
      refine lv_iload_n hx hb dX_mayGoTo_18 rfl (lv_at hl 3 rfl) ?_
      refine lv_iload_n hx hb dX_mayGoTo_19 rfl (lv_at hl 1 rfl) ?_
      refine lv_icmp_eq (tgt := 27) hx hb dX_mayGoTo_20 (by decide) (fun c_4 => ?_) (fun c_4 => ?_)
      · replace hf := it_t hf c_4
        refine lv_iconst (v := (0 : Int32)) hx hb dX_mayGoTo_27 (by decide) ?_
        exact xw_iret (wf := (w_X a cI cZ)) hx hb hr hlocks rfl hK hP hD hS hf dX_mayGoTo_28
      · replace hf := it_f hf c_4
        refine lv_iconst (v := (1 : Int32)) hx hb dX_mayGoTo_23 (by decide) ?_
        refine lv_goto (tgt := 28) hx hb dX_mayGoTo_24 (by decide) ?_
        exact xw_iret (wf := (w_X a cI cZ)) hx hb hr hlocks rfl hK hP hD hS hf dX_mayGoTo_28
  · replace hf := it_f hf c_1
    refine lv_iload_n hx hb dX_mayGoTo_5 rfl (lv_at hl 3 rfl) ?_
    obtain ⟨q_5, hq_5, hf⟩ := bd_s hf
    refine xw_callS (kX_isHeading l dC dI a cI cZ tb K p3 σ q_5.2 q_5.1 hq_5) ⟨hx, hb, hml, hown, hts⟩ (va_cwS 1 hts (gw_S mt_103 mt_104 mt_25 mt_105) rfl rfl rfl hdX_isHeading ⟨Nat.le_of_ble_eq_true rfl, Nat.le_of_ble_eq_true rfl⟩) hK hP hD hS hA hZ rfl hl.1 rfl (Nat.le_of_ble_eq_true rfl) dX_mayGoTo_6 ⟨Nat.zero_le _, Nat.zero_le _⟩ (fun H locs hP hD hS => ?_)
    obtain ⟨g_6, hf⟩ := gd_f hf
    exact xw_iret (wf := (w_X a cI cZ)) hx hb hr hlocks (nb_01 g_6) hK hP hD hS hf dX_mayGoTo_9
def gX_hasRoomFor_39 (K : Nat) : Nat → Int32 → Int32 → Int32 → Int32 → Int32 → Int32 → Int32 → XSt → Option (Int32 × XSt)
  | 0, _, _, _, _, _, _, _, _ => none
  | n + 1, x1, x2, x3, x4, x5, x6, x7, τ => (if (x_links τ) ≤ x7 then (if x2 < 0 ∨ 10 ≤ x2.toNatClampNeg then none else (if (most_f x2.toNatClampNeg) ≤ x5 then some ((0 : Int32), τ) else (if (200 : Int32) ≤ x6 then some ((0 : Int32), τ) else some ((1 : Int32), τ)))) else (if x7 = x4 then (gX_hasRoomFor_39 K n x1 x2 x3 x4 x5 x6 (x7 + 1) τ) else (if x7 < 0 ∨ 200 ≤ x7.toNatClampNeg then none else (if ((x_linkFrom τ) x7.toNatClampNeg) = x1 then (if x7 < 0 ∨ 200 ≤ x7.toNatClampNeg then none else (if ((x_linkField τ) x7.toNatClampNeg) = x2 then (if x7 < 0 ∨ 200 ≤ x7.toNatClampNeg then none else (if ((x_linkTo τ) x7.toNatClampNeg) = x3 then some ((0 : Int32), τ) else (gX_hasRoomFor_39 K n x1 x2 x3 x4 (x5 + 1) (x6 + 1) (x7 + 1) τ))) else (gX_hasRoomFor_39 K n x1 x2 x3 x4 x5 (x6 + 1) (x7 + 1) τ))) else (gX_hasRoomFor_39 K n x1 x2 x3 x4 x5 (x6 + 1) (x7 + 1) τ)))))
def fX_hasRoomFor (K : Nat) (p1 p2 p3 p4 : Int32) (σ : XSt) : Option (Int32 × XSt) := ((fX_isLive K p1 σ).bind fun q_1 => (if q_1.1 = 0 then some ((0 : Int32), q_1.2) else (if p2 < 0 then some ((0 : Int32), q_1.2) else (if (9 : Int32) < p2 then some ((0 : Int32), q_1.2) else ((fX_mayGoTo K p1 p2 p3 q_1.2).bind fun q_5 => (if q_5.1 = 0 then some ((0 : Int32), q_5.2) else (gX_hasRoomFor_39 K K p1 p2 p3 p4 (0 : Int32) (0 : Int32) (0 : Int32) q_5.2)))))))
set_option maxHeartbeats 4000000 in
set_option maxRecDepth 100000 in
theorem kX_hasRoomFor (l : Launch) (dC : Nat → ClassId) (dI : Nat → Nat → Nat) (a : Nat → Nat) (cI cZ : ClassId) (tb : Nat) (K : Nat) (p1 p2 p3 p4 : Int32) (σ σ' : XSt) (r : Int32) (hf : fX_hasRoomFor K p1 p2 p3 p4 σ = some (r, σ')) : xw_Ct l yX_hasRoomFor wdX_hasRoomFor ({ frames := 3, cells := 0, slots := 0, locals := 65 } : Room) (dC, dI) vwCl [(cI, .int), (cZ, .boolean)] (zz tb) ((w_X a cI cZ) σ) ((w_X a cI cZ) σ') [.ref (a 0), .int p1, .int p2, .int p3, .int p4] r := by
  refine xw_ofW (cc := cX_hasRoomFor) (maxL := 8) (ret := (some .boolean)) (lv := [(0, .ref (a 0)), (1, .int p1), (2, .int p2), (3, .int p3), (4, .int p4)]) (by decide) rfl (Nat.le_of_ble_eq_true rfl) rfl ?_
  intro p e s m below meth c A hAt hP hD hS ls hl
  obtain ⟨hx, hb, hr, hml, hown, hts, hlocks, hK, hZ, hA⟩ := hAt
  replace hts : ∀ w ∈ lw_g, w.before _ s = true := fun w h => hts w (List.mem_cons_of_mem _ h)
  have kz_MOST_OF_FIELD := hts _ mt_106
  have L_39 : ∀ (n : Nat) (x1 x2 x3 x4 x5 x6 x7 : Int32) (τ : XSt), gX_hasRoomFor_39 K n x1 x2 x3 x4 x5 x6 x7 τ = some (r, σ') → ∀ (H : Heap) (locs : List Loc), va_P (dC, dI) vwCl ((w_X a cI cZ) τ) H → va_D A ((w_X a cI cZ) τ) → va_S A s.heap H locs → ∀ (ls : Array Slot), lv_has ls 8 [(0, .ref (a 0)), (1, .int x1), (2, .int x2), (3, .int x3), (4, .int x4), (5, .int x5), (6, .int x6), (7, .int x7)] → W p l e ({ frames := 3, cells := 0, slots := 0, locals := 65 } : Room) s m ([.ref (a 0), .int p1, .int p2, .int p3, .int p4] : List Value).toArray below meth c H locs 0 0 (MQ below (va_Qi (fun (r2 : Int32) (_ : Unit) => r2 = r) (fun _ t => xw_B (dC, dI) vwCl [(cI, .int), (cZ, .boolean)] A ((w_X a cI cZ) σ') t) A) ([.ref (a 0), .int p1, .int p2, .int p3, .int p4] : List Value).toArray s 0 0 A) (F0 m 39 ls []) := by
    intro n
    induction n with
    | zero =>
      intro x1 x2 x3 x4 x5 x6 x7 τ hf
      rw [gX_hasRoomFor_39] at hf
      cases hf
    | succ n ih =>
      intro x1 x2 x3 x4 x5 x6 x7 τ hf H locs hP hD hS ls hl
      rw [gX_hasRoomFor_39] at hf
      refine lv_iload hx hb dX_hasRoomFor_39 (lv_at hl 7 rfl) ?_
      refine lv_aload_n hx hb dX_hasRoomFor_41 rfl (lv_at hl 0 rfl) ?_
      refine aX_get_links (σ := τ) (v := (x_links τ)) rfl hx hb hts hown hK hP dX_hasRoomFor_42 ?_
      refine lv_icmp_ge (tgt := 105) hx hb dX_hasRoomFor_45 (by decide) (fun c_7 => ?_) (fun c_7 => ?_)
      · replace hf := it_t hf c_7
        refine lv_iload hx hb dX_hasRoomFor_105 (lv_at hl 5 rfl) ?_
        refine va_gets hx hb (hZ 0 _ rfl).1 hS hown kz_MOST_OF_FIELD (fun _ h9 => h9) dX_hasRoomFor_107 ?_
        refine lv_iload_n hx hb dX_hasRoomFor_110 rfl (lv_at hl 2 rfl) ?_
        obtain ⟨g_8, hf⟩ := gd_f hf
        refine va_ti (v := .int (most_f x2.toNatClampNeg)) hx hb (hZ 0 _ rfl).2 hS g_8 rfl dX_hasRoomFor_111 ?_
        refine lv_icmp_ge (tgt := 127) hx hb dX_hasRoomFor_112 (by decide) (fun c_9 => ?_) (fun c_9 => ?_)
        · replace hf := it_t hf c_9
          refine lv_iconst (v := (0 : Int32)) hx hb dX_hasRoomFor_127 (by decide) ?_
          exact xw_iret (wf := (w_X a cI cZ)) hx hb hr hlocks rfl hK hP hD hS hf dX_hasRoomFor_128
        · replace hf := it_f hf c_9
          refine lv_iload hx hb dX_hasRoomFor_115 (lv_at hl 6 rfl) ?_
          refine lv_sipush (v := (200 : Int32)) hx hb dX_hasRoomFor_117 (by decide) ?_
          refine lv_icmp_ge (tgt := 127) hx hb dX_hasRoomFor_120 (by decide) (fun c_10 => ?_) (fun c_10 => ?_)
          · replace hf := it_t hf c_10
            refine lv_iconst (v := (0 : Int32)) hx hb dX_hasRoomFor_127 (by decide) ?_
            exact xw_iret (wf := (w_X a cI cZ)) hx hb hr hlocks rfl hK hP hD hS hf dX_hasRoomFor_128
          · replace hf := it_f hf c_10
            refine lv_iconst (v := (1 : Int32)) hx hb dX_hasRoomFor_123 (by decide) ?_
            refine lv_goto (tgt := 128) hx hb dX_hasRoomFor_124 (by decide) ?_
            exact xw_iret (wf := (w_X a cI cZ)) hx hb hr hlocks rfl hK hP hD hS hf dX_hasRoomFor_128
      · replace hf := it_f hf c_7
        refine lv_iload hx hb dX_hasRoomFor_48 (lv_at hl 7 rfl) ?_
        refine lv_iload hx hb dX_hasRoomFor_50 (lv_at hl 4 rfl) ?_
        refine lv_icmp_ne (tgt := 58) hx hb dX_hasRoomFor_52 (by decide) (fun c_11 => ?_) (fun c_11 => ?_)
        · replace hf := it_f hf c_11
          refine lv_iinc (v := (x6 + 1)) (lv' := [(6, .int (x6 + 1)), (0, .ref (a 0)), (1, .int x1), (2, .int x2), (3, .int x3), (4, .int x4), (5, .int x5), (7, .int x7)]) hx hb dX_hasRoomFor_58 hl (k := 6) rfl (congrArg (HAdd.hAdd _) (by decide : Int32.ofInt (1) = (1 : Int32))) (by decide) rfl (fun ls hl => ?_)
          refine lv_aload_n hx hb dX_hasRoomFor_61 rfl (lv_at hl 1 rfl) ?_
          refine aX_get_linkFrom hx hb hts hown hK hP dX_hasRoomFor_62 ?_
          refine lv_iload hx hb dX_hasRoomFor_65 (lv_at hl 7 rfl) ?_
          obtain ⟨g_12, hf⟩ := gd_f hf
          refine aX_ld_linkFrom (σ := τ) (f := (x_linkFrom τ)) rfl hx hb hK hP g_12 dX_hasRoomFor_67 ?_
          refine lv_iload_n hx hb dX_hasRoomFor_68 rfl (lv_at hl 2 rfl) ?_
          refine lv_icmp_ne (tgt := 99) hx hb dX_hasRoomFor_69 (by decide) (fun c_13 => ?_) (fun c_13 => ?_)
          · replace hf := it_f hf c_13
            refine lv_iinc (v := (x7 + 1)) (lv' := [(7, .int (x7 + 1)), (6, .int (x6 + 1)), (0, .ref (a 0)), (1, .int x1), (2, .int x2), (3, .int x3), (4, .int x4), (5, .int x5)]) hx hb dX_hasRoomFor_99 hl (k := 7) rfl (congrArg (HAdd.hAdd _) (by decide : Int32.ofInt (1) = (1 : Int32))) (by decide) rfl (fun ls hl => ?_)
            refine lv_goto (tgt := 39) hx hb dX_hasRoomFor_102 (by decide) ?_
            exact ih x1 x2 x3 x4 x5 (x6 + 1) (x7 + 1) τ hf _ _ hP hD hS _ (lv_sub hl [2, 3, 4, 5, 6, 7, 1, 0] rfl)
          · replace hf := it_t hf c_13
            refine lv_aload_n hx hb dX_hasRoomFor_72 rfl (lv_at hl 1 rfl) ?_
            refine aX_get_linkField hx hb hts hown hK hP dX_hasRoomFor_73 ?_
            refine lv_iload hx hb dX_hasRoomFor_76 (lv_at hl 7 rfl) ?_
            obtain ⟨g_14, hf⟩ := gd_f hf
            refine aX_ld_linkField (σ := τ) (f := (x_linkField τ)) rfl hx hb hK hP g_14 dX_hasRoomFor_78 ?_
            refine lv_iload_n hx hb dX_hasRoomFor_79 rfl (lv_at hl 3 rfl) ?_
            refine lv_icmp_ne (tgt := 99) hx hb dX_hasRoomFor_80 (by decide) (fun c_15 => ?_) (fun c_15 => ?_)
            · replace hf := it_f hf c_15
              refine lv_iinc (v := (x7 + 1)) (lv' := [(7, .int (x7 + 1)), (6, .int (x6 + 1)), (0, .ref (a 0)), (1, .int x1), (2, .int x2), (3, .int x3), (4, .int x4), (5, .int x5)]) hx hb dX_hasRoomFor_99 hl (k := 7) rfl (congrArg (HAdd.hAdd _) (by decide : Int32.ofInt (1) = (1 : Int32))) (by decide) rfl (fun ls hl => ?_)
              refine lv_goto (tgt := 39) hx hb dX_hasRoomFor_102 (by decide) ?_
              exact ih x1 x2 x3 x4 x5 (x6 + 1) (x7 + 1) τ hf _ _ hP hD hS _ (lv_sub hl [2, 3, 4, 5, 6, 7, 1, 0] rfl)
            · replace hf := it_t hf c_15
              refine lv_iinc (v := (x5 + 1)) (lv' := [(5, .int (x5 + 1)), (6, .int (x6 + 1)), (0, .ref (a 0)), (1, .int x1), (2, .int x2), (3, .int x3), (4, .int x4), (7, .int x7)]) hx hb dX_hasRoomFor_83 hl (k := 6) rfl (congrArg (HAdd.hAdd _) (by decide : Int32.ofInt (1) = (1 : Int32))) (by decide) rfl (fun ls hl => ?_)
              refine lv_aload_n hx hb dX_hasRoomFor_86 rfl (lv_at hl 2 rfl) ?_
              refine aX_get_linkTo hx hb hts hown hK hP dX_hasRoomFor_87 ?_
              refine lv_iload hx hb dX_hasRoomFor_90 (lv_at hl 7 rfl) ?_
              obtain ⟨g_16, hf⟩ := gd_f hf
              refine aX_ld_linkTo (σ := τ) (f := (x_linkTo τ)) rfl hx hb hK hP g_16 dX_hasRoomFor_92 ?_
              refine lv_iload_n hx hb dX_hasRoomFor_93 rfl (lv_at hl 5 rfl) ?_
              refine lv_icmp_ne (tgt := 99) hx hb dX_hasRoomFor_94 (by decide) (fun c_17 => ?_) (fun c_17 => ?_)
              · replace hf := it_f hf c_17
                refine lv_iinc (v := (x7 + 1)) (lv' := [(7, .int (x7 + 1)), (5, .int (x5 + 1)), (6, .int (x6 + 1)), (0, .ref (a 0)), (1, .int x1), (2, .int x2), (3, .int x3), (4, .int x4)]) hx hb dX_hasRoomFor_99 hl (k := 7) rfl (congrArg (HAdd.hAdd _) (by decide : Int32.ofInt (1) = (1 : Int32))) (by decide) rfl (fun ls hl => ?_)
                refine lv_goto (tgt := 39) hx hb dX_hasRoomFor_102 (by decide) ?_
                exact ih x1 x2 x3 x4 (x5 + 1) (x6 + 1) (x7 + 1) τ hf _ _ hP hD hS _ (lv_sub hl [3, 4, 5, 6, 7, 1, 2, 0] rfl)
              · replace hf := it_t hf c_17
                refine lv_iconst (v := (0 : Int32)) hx hb dX_hasRoomFor_97 (by decide) ?_
                exact xw_iret (wf := (w_X a cI cZ)) hx hb hr hlocks rfl hK hP hD hS hf dX_hasRoomFor_98
        · replace hf := it_t hf c_11
          refine lv_goto (tgt := 99) hx hb dX_hasRoomFor_55 (by decide) ?_
          refine lv_iinc (v := (x7 + 1)) (lv' := [(7, .int (x7 + 1)), (0, .ref (a 0)), (1, .int x1), (2, .int x2), (3, .int x3), (4, .int x4), (5, .int x5), (6, .int x6)]) hx hb dX_hasRoomFor_99 hl (k := 7) rfl (congrArg (HAdd.hAdd _) (by decide : Int32.ofInt (1) = (1 : Int32))) (by decide) rfl (fun ls hl => ?_)
          refine lv_goto (tgt := 39) hx hb dX_hasRoomFor_102 (by decide) ?_
          exact ih x1 x2 x3 x4 x5 x6 (x7 + 1) τ hf _ _ hP hD hS _ (lv_sub hl [1, 2, 3, 4, 5, 6, 7, 0] rfl)
  unfold fX_hasRoomFor at hf
  refine lv_aload_n hx hb dX_hasRoomFor_0 rfl (lv_at hl 0 rfl) ?_
  refine lv_iload_n hx hb dX_hasRoomFor_1 rfl (lv_at hl 1 rfl) ?_
  obtain ⟨q_1, hq_1, hf⟩ := bd_s hf
  refine xw_callV (kX_isLive l dC dI a cI cZ tb K p1 σ q_1.2 q_1.1 hq_1) ⟨hx, hb, hml, hown, hts⟩ (cwV 1 hts (gw_V mt_91 mt_93 mt_1 mt_25 mt_94) rfl rfl rfl hdX_isLive ⟨Nat.le_of_ble_eq_true rfl, Nat.le_of_ble_eq_true rfl⟩) hK hP hD hS hA hZ (q0 := 0) (ci := 0) rfl rfl rfl hl.1 rfl (Nat.le_of_ble_eq_true rfl) dX_hasRoomFor_2 ⟨Nat.zero_le _, Nat.zero_le _⟩ (fun H locs hP hD hS => ?_)
  refine lv_if_eq (tgt := 28) hx hb dX_hasRoomFor_5 (by decide) (fun c_2 => ?_) (fun c_2 => ?_)
  · replace hf := it_t hf c_2
    refine lv_iconst (v := (0 : Int32)) hx hb dX_hasRoomFor_28 (by decide) ?_
    exact xw_iret (wf := (w_X a cI cZ)) hx hb hr hlocks rfl hK hP hD hS hf dX_hasRoomFor_29
  · replace hf := it_f hf c_2
    refine lv_iload_n hx hb dX_hasRoomFor_8 rfl (lv_at hl 2 rfl) ?_
    refine lv_if_lt (tgt := 28) hx hb dX_hasRoomFor_9 (by decide) (fun c_3 => ?_) (fun c_3 => ?_)
    · replace hf := it_t hf c_3
      refine lv_iconst (v := (0 : Int32)) hx hb dX_hasRoomFor_28 (by decide) ?_
      exact xw_iret (wf := (w_X a cI cZ)) hx hb hr hlocks rfl hK hP hD hS hf dX_hasRoomFor_29
    · replace hf := it_f hf c_3
      refine lv_iload_n hx hb dX_hasRoomFor_12 rfl (lv_at hl 2 rfl) ?_
      refine lv_bipush (v := (9 : Int32)) hx hb dX_hasRoomFor_13 (by decide) ?_
      refine lv_icmp_gt (tgt := 28) hx hb dX_hasRoomFor_15 (by decide) (fun c_4 => ?_) (fun c_4 => ?_)
      · replace hf := it_t hf c_4
        refine lv_iconst (v := (0 : Int32)) hx hb dX_hasRoomFor_28 (by decide) ?_
        exact xw_iret (wf := (w_X a cI cZ)) hx hb hr hlocks rfl hK hP hD hS hf dX_hasRoomFor_29
      · replace hf := it_f hf c_4
        refine lv_aload_n hx hb dX_hasRoomFor_18 rfl (lv_at hl 0 rfl) ?_
        refine lv_iload_n hx hb dX_hasRoomFor_19 rfl (lv_at hl 1 rfl) ?_
        refine lv_iload_n hx hb dX_hasRoomFor_20 rfl (lv_at hl 2 rfl) ?_
        refine lv_iload_n hx hb dX_hasRoomFor_21 rfl (lv_at hl 3 rfl) ?_
        obtain ⟨q_5, hq_5, hf⟩ := bd_s hf
        refine xw_callV (kX_mayGoTo l dC dI a cI cZ tb K p1 p2 p3 q_1.2 q_5.2 q_5.1 hq_5) ⟨hx, hb, hml, hown, hts⟩ (cwV 3 hts (gw_V mt_99 mt_101 mt_3 mt_25 mt_102) rfl rfl rfl hdX_mayGoTo ⟨Nat.le_of_ble_eq_true rfl, Nat.le_of_ble_eq_true rfl⟩) hK hP hD hS hA hZ (q0 := 0) (ci := 0) rfl rfl rfl hl.1 rfl (Nat.le_of_ble_eq_true rfl) dX_hasRoomFor_22 ⟨Nat.zero_le _, Nat.zero_le _⟩ (fun H locs hP hD hS => ?_)
        refine lv_if_ne (tgt := 30) hx hb dX_hasRoomFor_25 (by decide) (fun c_6 => ?_) (fun c_6 => ?_)
        · replace hf := it_f hf c_6
          refine lv_iconst (v := (0 : Int32)) hx hb dX_hasRoomFor_30 (by decide) ?_
          refine lv_istore (lv' := [(5, .int (0 : Int32)), (0, .ref (a 0)), (1, .int p1), (2, .int p2), (3, .int p3), (4, .int p4)]) hx hb dX_hasRoomFor_31 hl (by decide) rfl (fun ls hl => ?_)
          refine lv_iconst (v := (0 : Int32)) hx hb dX_hasRoomFor_33 (by decide) ?_
          refine lv_istore (lv' := [(6, .int (0 : Int32)), (5, .int (0 : Int32)), (0, .ref (a 0)), (1, .int p1), (2, .int p2), (3, .int p3), (4, .int p4)]) hx hb dX_hasRoomFor_34 hl (by decide) rfl (fun ls hl => ?_)
          refine lv_iconst (v := (0 : Int32)) hx hb dX_hasRoomFor_36 (by decide) ?_
          refine lv_istore (lv' := [(7, .int (0 : Int32)), (6, .int (0 : Int32)), (5, .int (0 : Int32)), (0, .ref (a 0)), (1, .int p1), (2, .int p2), (3, .int p3), (4, .int p4)]) hx hb dX_hasRoomFor_37 hl (by decide) rfl (fun ls hl => ?_)
          exact L_39 K p1 p2 p3 p4 (0 : Int32) (0 : Int32) (0 : Int32) q_5.2 hf _ _ hP hD hS _ (lv_sub hl [3, 4, 5, 6, 7, 2, 1, 0] rfl)
        · replace hf := it_t hf c_6
          refine lv_iconst (v := (0 : Int32)) hx hb dX_hasRoomFor_28 (by decide) ?_
          exact xw_iret (wf := (w_X a cI cZ)) hx hb hr hlocks rfl hK hP hD hS hf dX_hasRoomFor_29
def gX_liesIn_10 (K : Nat) : Nat → Int32 → Int32 → Int32 → Int32 → XSt → Option (Int32 × XSt)
  | 0, _, _, _, _, _ => none
  | n + 1, x1, x2, x3, x4, τ => (if (60 : Int32) ≤ x4 then some ((0 : Int32), τ) else (if x3 = 0 then some ((0 : Int32), τ) else (if x3 = x2 then some ((1 : Int32), τ) else (if x3 < 0 ∨ 61 ≤ x3.toNatClampNeg then none else (gX_liesIn_10 K n x1 x2 ((x_hosts τ) x3.toNatClampNeg) (x4 + 1) τ)))))
def fX_liesIn (K : Nat) (p1 p2 : Int32) (σ : XSt) : Option (Int32 × XSt) := (if p1 < 0 ∨ 61 ≤ p1.toNatClampNeg then none else (gX_liesIn_10 K K p1 p2 ((x_hosts σ) p1.toNatClampNeg) (0 : Int32) σ))
set_option maxHeartbeats 4000000 in
set_option maxRecDepth 100000 in
theorem kX_liesIn (l : Launch) (dC : Nat → ClassId) (dI : Nat → Nat → Nat) (a : Nat → Nat) (cI cZ : ClassId) (tb : Nat) (K : Nat) (p1 p2 : Int32) (σ σ' : XSt) (r : Int32) (hf : fX_liesIn K p1 p2 σ = some (r, σ')) : xw_Ct l yX_liesIn wdX_liesIn ({ frames := 0, cells := 0, slots := 0, locals := 0 } : Room) (dC, dI) vwCl [(cI, .int), (cZ, .boolean)] (zz tb) ((w_X a cI cZ) σ) ((w_X a cI cZ) σ') [.ref (a 0), .int p1, .int p2] r := by
  refine xw_ofW (cc := cX_liesIn) (maxL := 5) (ret := (some .boolean)) (lv := [(0, .ref (a 0)), (1, .int p1), (2, .int p2)]) (by decide) rfl (Nat.le_of_ble_eq_true rfl) rfl ?_
  intro p e s m below meth c A hAt hP hD hS ls hl
  obtain ⟨hx, hb, hr, hml, hown, hts, hlocks, hK, hZ, hA⟩ := hAt
  replace hts : ∀ w ∈ lw_g, w.before _ s = true := fun w h => hts w (List.mem_cons_of_mem _ h)
  have L_10 : ∀ (n : Nat) (x1 x2 x3 x4 : Int32) (τ : XSt), gX_liesIn_10 K n x1 x2 x3 x4 τ = some (r, σ') → ∀ (H : Heap) (locs : List Loc), va_P (dC, dI) vwCl ((w_X a cI cZ) τ) H → va_D A ((w_X a cI cZ) τ) → va_S A s.heap H locs → ∀ (ls : Array Slot), lv_has ls 5 [(0, .ref (a 0)), (1, .int x1), (2, .int x2), (3, .int x3), (4, .int x4)] → W p l e ({ frames := 0, cells := 0, slots := 0, locals := 0 } : Room) s m ([.ref (a 0), .int p1, .int p2] : List Value).toArray below meth c H locs 0 0 (MQ below (va_Qi (fun (r2 : Int32) (_ : Unit) => r2 = r) (fun _ t => xw_B (dC, dI) vwCl [(cI, .int), (cZ, .boolean)] A ((w_X a cI cZ) σ') t) A) ([.ref (a 0), .int p1, .int p2] : List Value).toArray s 0 0 A) (F0 m 10 ls []) := by
    intro n
    induction n with
    | zero =>
      intro x1 x2 x3 x4 τ hf
      rw [gX_liesIn_10] at hf
      cases hf
    | succ n ih =>
      intro x1 x2 x3 x4 τ hf H locs hP hD hS ls hl
      rw [gX_liesIn_10] at hf
      refine lv_iload hx hb dX_liesIn_10 (lv_at hl 4 rfl) ?_
      refine lv_bipush (v := (60 : Int32)) hx hb dX_liesIn_12 (by decide) ?_
      refine lv_icmp_ge (tgt := 41) hx hb dX_liesIn_14 (by decide) (fun c_2 => ?_) (fun c_2 => ?_)
      · replace hf := it_t hf c_2
        refine lv_iconst (v := (0 : Int32)) hx hb dX_liesIn_41 (by decide) ?_
        exact xw_iret (wf := (w_X a cI cZ)) hx hb hr hlocks rfl hK hP hD hS hf dX_liesIn_42
      · replace hf := it_f hf c_2
        refine lv_iload_n hx hb dX_liesIn_17 rfl (lv_at hl 3 rfl) ?_
        refine lv_if_eq (tgt := 41) hx hb dX_liesIn_18 (by decide) (fun c_3 => ?_) (fun c_3 => ?_)
        · replace hf := it_t hf c_3
          refine lv_iconst (v := (0 : Int32)) hx hb dX_liesIn_41 (by decide) ?_
          exact xw_iret (wf := (w_X a cI cZ)) hx hb hr hlocks rfl hK hP hD hS hf dX_liesIn_42
        · replace hf := it_f hf c_3
          refine lv_iload_n hx hb dX_liesIn_21 rfl (lv_at hl 3 rfl) ?_
          refine lv_iload_n hx hb dX_liesIn_22 rfl (lv_at hl 2 rfl) ?_
          refine lv_icmp_ne (tgt := 28) hx hb dX_liesIn_23 (by decide) (fun c_4 => ?_) (fun c_4 => ?_)
          · replace hf := it_f hf c_4
            refine lv_aload_n hx hb dX_liesIn_28 rfl (lv_at hl 0 rfl) ?_
            refine aX_get_hosts hx hb hts hown hK hP dX_liesIn_29 ?_
            refine lv_iload_n hx hb dX_liesIn_32 rfl (lv_at hl 3 rfl) ?_
            obtain ⟨g_5, hf⟩ := gd_f hf
            refine aX_ld_hosts (σ := τ) (f := (x_hosts τ)) rfl hx hb hK hP g_5 dX_liesIn_33 ?_
            refine lv_istore_n (lv' := [(3, .int ((x_hosts τ) x3.toNatClampNeg)), (0, .ref (a 0)), (1, .int x1), (2, .int x2), (4, .int x4)]) hx hb dX_liesIn_34 rfl hl (by decide) rfl (fun ls hl => ?_)
            refine lv_iinc (v := (x4 + 1)) (lv' := [(4, .int (x4 + 1)), (3, .int ((x_hosts τ) x3.toNatClampNeg)), (0, .ref (a 0)), (1, .int x1), (2, .int x2)]) hx hb dX_liesIn_35 hl (k := 4) rfl (congrArg (HAdd.hAdd _) (by decide : Int32.ofInt (1) = (1 : Int32))) (by decide) rfl (fun ls hl => ?_)
            refine lv_goto (tgt := 10) hx hb dX_liesIn_38 (by decide) ?_
            exact ih x1 x2 ((x_hosts τ) x3.toNatClampNeg) (x4 + 1) τ hf _ _ hP hD hS _ (lv_sub hl [2, 3, 4, 1, 0] rfl)
          · replace hf := it_t hf c_4
            refine lv_iconst (v := (1 : Int32)) hx hb dX_liesIn_26 (by decide) ?_
            exact xw_iret (wf := (w_X a cI cZ)) hx hb hr hlocks rfl hK hP hD hS hf dX_liesIn_27
  unfold fX_liesIn at hf
  refine lv_aload_n hx hb dX_liesIn_0 rfl (lv_at hl 0 rfl) ?_
  refine aX_get_hosts hx hb hts hown hK hP dX_liesIn_1 ?_
  refine lv_iload_n hx hb dX_liesIn_4 rfl (lv_at hl 1 rfl) ?_
  obtain ⟨g_1, hf⟩ := gd_f hf
  refine aX_ld_hosts (σ := σ) (f := (x_hosts σ)) rfl hx hb hK hP g_1 dX_liesIn_5 ?_
  refine lv_istore_n (lv' := [(3, .int ((x_hosts σ) p1.toNatClampNeg)), (0, .ref (a 0)), (1, .int p1), (2, .int p2)]) hx hb dX_liesIn_6 rfl hl (by decide) rfl (fun ls hl => ?_)
  refine lv_iconst (v := (0 : Int32)) hx hb dX_liesIn_7 (by decide) ?_
  refine lv_istore (lv' := [(4, .int (0 : Int32)), (3, .int ((x_hosts σ) p1.toNatClampNeg)), (0, .ref (a 0)), (1, .int p1), (2, .int p2)]) hx hb dX_liesIn_8 hl (by decide) rfl (fun ls hl => ?_)
  exact L_10 K p1 p2 ((x_hosts σ) p1.toNatClampNeg) (0 : Int32) σ hf _ _ hP hD hS _ (lv_sub hl [2, 3, 4, 1, 0] rfl)
def gX_keepRefusedWay_7 (K : Nat) : Nat → Int32 → Int32 → Int32 → XSt → Option (Int32 × XSt)
  | 0, _, _, _, _ => none
  | n + 1, x1, x2, x3, τ => (if (60 : Int32) ≤ (x_refusedWayLength τ) then some ((0 : Int32), τ) else (if x3 = 0 then some ((0 : Int32), τ) else (if (x_refusedWayLength τ) < 0 ∨ 60 ≤ (x_refusedWayLength τ).toNatClampNeg then none else (if x3 = x2 then (gX_keepRefusedWay_7 K n x1 x2 (0 : Int32) (x_prefusedWayLength (x_prefusedWay τ (upd (x_refusedWay τ) (x_refusedWayLength τ).toNatClampNeg x3)) ((x_refusedWayLength τ) + (1 : Int32)))) else (if x3 < 0 ∨ 61 ≤ x3.toNatClampNeg then none else (gX_keepRefusedWay_7 K n x1 x2 ((x_hosts τ) x3.toNatClampNeg) (x_prefusedWayLength (x_prefusedWay τ (upd (x_refusedWay τ) (x_refusedWayLength τ).toNatClampNeg x3)) ((x_refusedWayLength τ) + (1 : Int32)))))))))
def fX_keepRefusedWay (K : Nat) (p1 p2 : Int32) (σ : XSt) : Option (Int32 × XSt) := (gX_keepRefusedWay_7 K K p1 p2 p1 (x_prefusedWayLength σ (0 : Int32)))
set_option maxHeartbeats 4000000 in
set_option maxRecDepth 100000 in
theorem kX_keepRefusedWay (l : Launch) (dC : Nat → ClassId) (dI : Nat → Nat → Nat) (a : Nat → Nat) (cI cZ : ClassId) (tb : Nat) (K : Nat) (p1 p2 : Int32) (σ σ' : XSt) (r : Int32) (hf : fX_keepRefusedWay K p1 p2 σ = some (r, σ')) : xw_Cv l yX_keepRefusedWay wdX_keepRefusedWay ({ frames := 0, cells := 0, slots := 0, locals := 0 } : Room) (dC, dI) vwCl [(cI, .int), (cZ, .boolean)] (zz tb) ((w_X a cI cZ) σ) ((w_X a cI cZ) σ') [.ref (a 0), .int p1, .int p2] := by
  refine xw_ofWv (cc := cX_keepRefusedWay) (maxL := 4) (ret := none) (lv := [(0, .ref (a 0)), (1, .int p1), (2, .int p2)]) (by decide) rfl (Nat.le_of_ble_eq_true rfl) rfl ?_
  intro p e s m below meth c A hAt hP hD hS ls hl
  obtain ⟨hx, hb, hr, hml, hown, hts, hlocks, hK, hZ, hA⟩ := hAt
  replace hts : ∀ w ∈ lw_g, w.before _ s = true := fun w h => hts w (List.mem_cons_of_mem _ h)
  have L_7 : ∀ (n : Nat) (x1 x2 x3 : Int32) (τ : XSt), gX_keepRefusedWay_7 K n x1 x2 x3 τ = some (r, σ') → ∀ (H : Heap) (locs : List Loc), va_P (dC, dI) vwCl ((w_X a cI cZ) τ) H → va_D A ((w_X a cI cZ) τ) → va_S A s.heap H locs → ∀ (ls : Array Slot), lv_has ls 4 [(0, .ref (a 0)), (1, .int x1), (2, .int x2), (3, .int x3)] → W p l e ({ frames := 0, cells := 0, slots := 0, locals := 0 } : Room) s m ([.ref (a 0), .int p1, .int p2] : List Value).toArray below meth c H locs 0 0 (MQ below (va_Qv (fun (_ : Unit) => True) (fun _ t => xw_B (dC, dI) vwCl [(cI, .int), (cZ, .boolean)] A ((w_X a cI cZ) σ') t) A) ([.ref (a 0), .int p1, .int p2] : List Value).toArray s 0 0 A) (F0 m 7 ls []) := by
    intro n
    induction n with
    | zero =>
      intro x1 x2 x3 τ hf
      rw [gX_keepRefusedWay_7] at hf
      cases hf
    | succ n ih =>
      intro x1 x2 x3 τ hf H locs hP hD hS ls hl
      rw [gX_keepRefusedWay_7] at hf
      refine lv_aload_n hx hb dX_keepRefusedWay_7 rfl (lv_at hl 0 rfl) ?_
      refine aX_get_refusedWayLength (σ := τ) (v := (x_refusedWayLength τ)) rfl hx hb hts hown hK hP dX_keepRefusedWay_8 ?_
      refine lv_bipush (v := (60 : Int32)) hx hb dX_keepRefusedWay_11 (by decide) ?_
      refine lv_icmp_ge (tgt := 59) hx hb dX_keepRefusedWay_13 (by decide) (fun c_1 => ?_) (fun c_1 => ?_)
      · replace hf := it_t hf c_1
        exact xw_vret (wf := (w_X a cI cZ)) hx hb hr hlocks hK hP hD hS hf dX_keepRefusedWay_59
      · replace hf := it_f hf c_1
        refine lv_iload_n hx hb dX_keepRefusedWay_16 rfl (lv_at hl 3 rfl) ?_
        refine lv_if_eq (tgt := 59) hx hb dX_keepRefusedWay_17 (by decide) (fun c_2 => ?_) (fun c_2 => ?_)
        · replace hf := it_t hf c_2
          exact xw_vret (wf := (w_X a cI cZ)) hx hb hr hlocks hK hP hD hS hf dX_keepRefusedWay_59
        · replace hf := it_f hf c_2
          refine lv_aload_n hx hb dX_keepRefusedWay_20 rfl (lv_at hl 0 rfl) ?_
          refine aX_get_refusedWay hx hb hts hown hK hP dX_keepRefusedWay_21 ?_
          refine lv_aload_n hx hb dX_keepRefusedWay_24 rfl (lv_at hl 0 rfl) ?_
          refine aX_get_refusedWayLength (σ := τ) (v := (x_refusedWayLength τ)) rfl hx hb hts hown hK hP dX_keepRefusedWay_25 ?_
          refine lv_iload_n hx hb dX_keepRefusedWay_28 rfl (lv_at hl 3 rfl) ?_
          obtain ⟨g_3, hf⟩ := gd_f hf
          refine aX_st_refusedWay (σ := τ) (f := (x_refusedWay τ)) (x := x3) (τ := (x_prefusedWay τ (upd (x_refusedWay τ) (x_refusedWayLength τ).toNatClampNeg x3))) rfl rfl hx hb hK hP hD hS g_3 dX_keepRefusedWay_29 (fun H locs hP hD hS => ?_)
          refine lv_aload_n hx hb dX_keepRefusedWay_30 rfl (lv_at hl 0 rfl) ?_
          refine lv_dup hx hb dX_keepRefusedWay_31 rfl ?_
          refine aX_get_refusedWayLength (σ := (x_prefusedWay τ (upd (x_refusedWay τ) (x_refusedWayLength τ).toNatClampNeg x3))) (v := (x_refusedWayLength τ)) rfl hx hb hts hown hK hP dX_keepRefusedWay_32 ?_
          refine lv_iconst (v := (1 : Int32)) hx hb dX_keepRefusedWay_35 (by decide) ?_
          refine lv_iadd hx hb dX_keepRefusedWay_36 ?_
          refine aX_put_refusedWayLength (σ := (x_prefusedWay τ (upd (x_refusedWay τ) (x_refusedWayLength τ).toNatClampNeg x3))) (v := ((x_refusedWayLength τ) + (1 : Int32))) (τ := (x_prefusedWayLength (x_prefusedWay τ (upd (x_refusedWay τ) (x_refusedWayLength τ).toNatClampNeg x3)) ((x_refusedWayLength τ) + (1 : Int32)))) rfl hx hb hts hown hK hP hD hS dX_keepRefusedWay_37 (fun H locs hP hD hS => ?_)
          refine lv_iload_n hx hb dX_keepRefusedWay_40 rfl (lv_at hl 3 rfl) ?_
          refine lv_iload_n hx hb dX_keepRefusedWay_41 rfl (lv_at hl 2 rfl) ?_
          refine lv_icmp_ne (tgt := 49) hx hb dX_keepRefusedWay_42 (by decide) (fun c_4 => ?_) (fun c_4 => ?_)
          · replace hf := it_f hf c_4
            refine lv_aload_n hx hb dX_keepRefusedWay_49 rfl (lv_at hl 0 rfl) ?_
            refine aX_get_hosts hx hb hts hown hK hP dX_keepRefusedWay_50 ?_
            refine lv_iload_n hx hb dX_keepRefusedWay_53 rfl (lv_at hl 3 rfl) ?_
            obtain ⟨g_5, hf⟩ := gd_f hf
            refine aX_ld_hosts (σ := (x_prefusedWayLength (x_prefusedWay τ (upd (x_refusedWay τ) (x_refusedWayLength τ).toNatClampNeg x3)) ((x_refusedWayLength τ) + (1 : Int32)))) (f := (x_hosts τ)) rfl hx hb hK hP g_5 dX_keepRefusedWay_54 ?_
            refine lv_istore_n (lv' := [(3, .int ((x_hosts τ) x3.toNatClampNeg)), (0, .ref (a 0)), (1, .int x1), (2, .int x2)]) hx hb dX_keepRefusedWay_55 rfl hl (by decide) rfl (fun ls hl => ?_)
            refine lv_goto (tgt := 7) hx hb dX_keepRefusedWay_56 (by decide) ?_
            exact ih x1 x2 ((x_hosts τ) x3.toNatClampNeg) (x_prefusedWayLength (x_prefusedWay τ (upd (x_refusedWay τ) (x_refusedWayLength τ).toNatClampNeg x3)) ((x_refusedWayLength τ) + (1 : Int32))) hf _ _ hP hD hS _ (lv_sub hl [1, 2, 3, 0] rfl)
          · replace hf := it_t hf c_4
            refine lv_iconst (v := (0 : Int32)) hx hb dX_keepRefusedWay_45 (by decide) ?_
            refine lv_goto (tgt := 55) hx hb dX_keepRefusedWay_46 (by decide) ?_
            refine lv_istore_n (lv' := [(3, .int (0 : Int32)), (0, .ref (a 0)), (1, .int x1), (2, .int x2)]) hx hb dX_keepRefusedWay_55 rfl hl (by decide) rfl (fun ls hl => ?_)
            refine lv_goto (tgt := 7) hx hb dX_keepRefusedWay_56 (by decide) ?_
            exact ih x1 x2 (0 : Int32) (x_prefusedWayLength (x_prefusedWay τ (upd (x_refusedWay τ) (x_refusedWayLength τ).toNatClampNeg x3)) ((x_refusedWayLength τ) + (1 : Int32))) hf _ _ hP hD hS _ (lv_sub hl [1, 2, 3, 0] rfl)
  unfold fX_keepRefusedWay at hf
  refine lv_aload_n hx hb dX_keepRefusedWay_0 rfl (lv_at hl 0 rfl) ?_
  refine lv_iconst (v := (0 : Int32)) hx hb dX_keepRefusedWay_1 (by decide) ?_
  refine aX_put_refusedWayLength (σ := σ) (v := (0 : Int32)) (τ := (x_prefusedWayLength σ (0 : Int32))) rfl hx hb hts hown hK hP hD hS dX_keepRefusedWay_2 (fun H locs hP hD hS => ?_)
  refine lv_iload_n hx hb dX_keepRefusedWay_5 rfl (lv_at hl 1 rfl) ?_
  refine lv_istore_n (lv' := [(3, .int p1), (0, .ref (a 0)), (1, .int p1), (2, .int p2)]) hx hb dX_keepRefusedWay_6 rfl hl (by decide) rfl (fun ls hl => ?_)
  exact L_7 K p1 p2 p1 (x_prefusedWayLength σ (0 : Int32)) hf _ _ hP hD hS _ (lv_sub hl [1, 2, 3, 0] rfl)
def fX_addLink (K : Nat) (p1 p2 p3 : Int32) (σ : XSt) : Option (Int32 × XSt) := (if (x_links σ) < 0 ∨ 200 ≤ (x_links σ).toNatClampNeg then none else (if (x_links σ) < 0 ∨ 200 ≤ (x_links σ).toNatClampNeg then none else (if (x_links σ) < 0 ∨ 200 ≤ (x_links σ).toNatClampNeg then none else (if p2 = 0 then (if p1 < 0 ∨ 61 ≤ p1.toNatClampNeg then none else some ((0 : Int32), (x_plinks (x_plinkTo (x_plinkField (x_plinkFrom (x_phosts σ (upd (x_hosts σ) p1.toNatClampNeg p3)) (upd (x_linkFrom σ) (x_links σ).toNatClampNeg p1)) (upd (x_linkField σ) (x_links σ).toNatClampNeg p2)) (upd (x_linkTo σ) (x_links σ).toNatClampNeg p3)) ((x_links σ) + (1 : Int32))))) else some ((0 : Int32), (x_plinks (x_plinkTo (x_plinkField (x_plinkFrom σ (upd (x_linkFrom σ) (x_links σ).toNatClampNeg p1)) (upd (x_linkField σ) (x_links σ).toNatClampNeg p2)) (upd (x_linkTo σ) (x_links σ).toNatClampNeg p3)) ((x_links σ) + (1 : Int32))))))))
set_option maxHeartbeats 4000000 in
set_option maxRecDepth 100000 in
theorem kX_addLink (l : Launch) (dC : Nat → ClassId) (dI : Nat → Nat → Nat) (a : Nat → Nat) (cI cZ : ClassId) (tb : Nat) (K : Nat) (p1 p2 p3 : Int32) (σ σ' : XSt) (r : Int32) (hf : fX_addLink K p1 p2 p3 σ = some (r, σ')) : xw_Cv l yX_addLink wdX_addLink ({ frames := 0, cells := 0, slots := 0, locals := 0 } : Room) (dC, dI) vwCl [(cI, .int), (cZ, .boolean)] (zz tb) ((w_X a cI cZ) σ) ((w_X a cI cZ) σ') [.ref (a 0), .int p1, .int p2, .int p3] := by
  refine xw_ofWv (cc := cX_addLink) (maxL := 4) (ret := none) (lv := [(0, .ref (a 0)), (1, .int p1), (2, .int p2), (3, .int p3)]) (by decide) rfl (Nat.le_of_ble_eq_true rfl) rfl ?_
  intro p e s m below meth c A hAt hP hD hS ls hl
  obtain ⟨hx, hb, hr, hml, hown, hts, hlocks, hK, hZ, hA⟩ := hAt
  replace hts : ∀ w ∈ lw_g, w.before _ s = true := fun w h => hts w (List.mem_cons_of_mem _ h)
  unfold fX_addLink at hf
  refine lv_aload_n hx hb dX_addLink_0 rfl (lv_at hl 0 rfl) ?_
  refine aX_get_linkFrom hx hb hts hown hK hP dX_addLink_1 ?_
  refine lv_aload_n hx hb dX_addLink_4 rfl (lv_at hl 0 rfl) ?_
  refine aX_get_links (σ := σ) (v := (x_links σ)) rfl hx hb hts hown hK hP dX_addLink_5 ?_
  refine lv_iload_n hx hb dX_addLink_8 rfl (lv_at hl 1 rfl) ?_
  obtain ⟨g_1, hf⟩ := gd_f hf
  refine aX_st_linkFrom (σ := σ) (f := (x_linkFrom σ)) (x := p1) (τ := (x_plinkFrom σ (upd (x_linkFrom σ) (x_links σ).toNatClampNeg p1))) rfl rfl hx hb hK hP hD hS g_1 dX_addLink_9 (fun H locs hP hD hS => ?_)
  refine lv_aload_n hx hb dX_addLink_10 rfl (lv_at hl 0 rfl) ?_
  refine aX_get_linkField hx hb hts hown hK hP dX_addLink_11 ?_
  refine lv_aload_n hx hb dX_addLink_14 rfl (lv_at hl 0 rfl) ?_
  refine aX_get_links (σ := (x_plinkFrom σ (upd (x_linkFrom σ) (x_links σ).toNatClampNeg p1))) (v := (x_links σ)) rfl hx hb hts hown hK hP dX_addLink_15 ?_
  refine lv_iload_n hx hb dX_addLink_18 rfl (lv_at hl 2 rfl) ?_
  obtain ⟨g_2, hf⟩ := gd_f hf
  refine aX_st_linkField (σ := (x_plinkFrom σ (upd (x_linkFrom σ) (x_links σ).toNatClampNeg p1))) (f := (x_linkField σ)) (x := p2) (τ := (x_plinkField (x_plinkFrom σ (upd (x_linkFrom σ) (x_links σ).toNatClampNeg p1)) (upd (x_linkField σ) (x_links σ).toNatClampNeg p2))) rfl rfl hx hb hK hP hD hS g_2 dX_addLink_19 (fun H locs hP hD hS => ?_)
  refine lv_aload_n hx hb dX_addLink_20 rfl (lv_at hl 0 rfl) ?_
  refine aX_get_linkTo hx hb hts hown hK hP dX_addLink_21 ?_
  refine lv_aload_n hx hb dX_addLink_24 rfl (lv_at hl 0 rfl) ?_
  refine aX_get_links (σ := (x_plinkField (x_plinkFrom σ (upd (x_linkFrom σ) (x_links σ).toNatClampNeg p1)) (upd (x_linkField σ) (x_links σ).toNatClampNeg p2))) (v := (x_links σ)) rfl hx hb hts hown hK hP dX_addLink_25 ?_
  refine lv_iload_n hx hb dX_addLink_28 rfl (lv_at hl 3 rfl) ?_
  obtain ⟨g_3, hf⟩ := gd_f hf
  refine aX_st_linkTo (σ := (x_plinkField (x_plinkFrom σ (upd (x_linkFrom σ) (x_links σ).toNatClampNeg p1)) (upd (x_linkField σ) (x_links σ).toNatClampNeg p2))) (f := (x_linkTo σ)) (x := p3) (τ := (x_plinkTo (x_plinkField (x_plinkFrom σ (upd (x_linkFrom σ) (x_links σ).toNatClampNeg p1)) (upd (x_linkField σ) (x_links σ).toNatClampNeg p2)) (upd (x_linkTo σ) (x_links σ).toNatClampNeg p3))) rfl rfl hx hb hK hP hD hS g_3 dX_addLink_29 (fun H locs hP hD hS => ?_)
  refine lv_aload_n hx hb dX_addLink_30 rfl (lv_at hl 0 rfl) ?_
  refine lv_dup hx hb dX_addLink_31 rfl ?_
  refine aX_get_links (σ := (x_plinkTo (x_plinkField (x_plinkFrom σ (upd (x_linkFrom σ) (x_links σ).toNatClampNeg p1)) (upd (x_linkField σ) (x_links σ).toNatClampNeg p2)) (upd (x_linkTo σ) (x_links σ).toNatClampNeg p3))) (v := (x_links σ)) rfl hx hb hts hown hK hP dX_addLink_32 ?_
  refine lv_iconst (v := (1 : Int32)) hx hb dX_addLink_35 (by decide) ?_
  refine lv_iadd hx hb dX_addLink_36 ?_
  refine aX_put_links (σ := (x_plinkTo (x_plinkField (x_plinkFrom σ (upd (x_linkFrom σ) (x_links σ).toNatClampNeg p1)) (upd (x_linkField σ) (x_links σ).toNatClampNeg p2)) (upd (x_linkTo σ) (x_links σ).toNatClampNeg p3))) (v := ((x_links σ) + (1 : Int32))) (τ := (x_plinks (x_plinkTo (x_plinkField (x_plinkFrom σ (upd (x_linkFrom σ) (x_links σ).toNatClampNeg p1)) (upd (x_linkField σ) (x_links σ).toNatClampNeg p2)) (upd (x_linkTo σ) (x_links σ).toNatClampNeg p3)) ((x_links σ) + (1 : Int32)))) rfl hx hb hts hown hK hP hD hS dX_addLink_37 (fun H locs hP hD hS => ?_)
  refine lv_iload_n hx hb dX_addLink_40 rfl (lv_at hl 2 rfl) ?_
  refine lv_if_ne (tgt := 51) hx hb dX_addLink_41 (by decide) (fun c_4 => ?_) (fun c_4 => ?_)
  · replace hf := it_f hf c_4
    exact xw_vret (wf := (w_X a cI cZ)) hx hb hr hlocks hK hP hD hS hf dX_addLink_51
  · replace hf := it_t hf c_4
    refine lv_aload_n hx hb dX_addLink_44 rfl (lv_at hl 0 rfl) ?_
    refine aX_get_hosts hx hb hts hown hK hP dX_addLink_45 ?_
    refine lv_iload_n hx hb dX_addLink_48 rfl (lv_at hl 1 rfl) ?_
    refine lv_iload_n hx hb dX_addLink_49 rfl (lv_at hl 3 rfl) ?_
    obtain ⟨g_5, hf⟩ := gd_f hf
    refine aX_st_hosts (σ := (x_plinks (x_plinkTo (x_plinkField (x_plinkFrom σ (upd (x_linkFrom σ) (x_links σ).toNatClampNeg p1)) (upd (x_linkField σ) (x_links σ).toNatClampNeg p2)) (upd (x_linkTo σ) (x_links σ).toNatClampNeg p3)) ((x_links σ) + (1 : Int32)))) (f := (x_hosts σ)) (x := p3) (τ := (x_plinks (x_plinkTo (x_plinkField (x_plinkFrom (x_phosts σ (upd (x_hosts σ) p1.toNatClampNeg p3)) (upd (x_linkFrom σ) (x_links σ).toNatClampNeg p1)) (upd (x_linkField σ) (x_links σ).toNatClampNeg p2)) (upd (x_linkTo σ) (x_links σ).toNatClampNeg p3)) ((x_links σ) + (1 : Int32)))) rfl rfl hx hb hK hP hD hS g_5 dX_addLink_50 (fun H locs hP hD hS => ?_)
    exact xw_vret (wf := (w_X a cI cZ)) hx hb hr hlocks hK hP hD hS hf dX_addLink_51
def fX_noteChange (K : Nat) (p1 : Int32) (σ : XSt) : Option (Int32 × XSt) := (if p1 < 0 ∨ 61 ≤ p1.toNatClampNeg then none else (if ((x_changeCounts σ) p1.toNatClampNeg) < (40 : Int32) then (if ((x_changeCounts σ) p1.toNatClampNeg) ≤ 0 then (if ((p1 * (40 : Int32)) + ((x_changeCounts σ) p1.toNatClampNeg)) < 0 ∨ 2440 ≤ ((p1 * (40 : Int32)) + ((x_changeCounts σ) p1.toNatClampNeg)).toNatClampNeg then none else (if p1 < 0 ∨ 61 ≤ p1.toNatClampNeg then none else some ((0 : Int32), (x_pchangeMoments (x_pchangeCounts σ (upd (x_changeCounts σ) p1.toNatClampNeg (((x_changeCounts σ) p1.toNatClampNeg) + (1 : Int32)))) (upd (x_changeMoments σ) ((p1 * (40 : Int32)) + ((x_changeCounts σ) p1.toNatClampNeg)).toNatClampNeg (x_moment σ)))))) else (if (((p1 * (40 : Int32)) + ((x_changeCounts σ) p1.toNatClampNeg)) - (1 : Int32)) < 0 ∨ 2440 ≤ (((p1 * (40 : Int32)) + ((x_changeCounts σ) p1.toNatClampNeg)) - (1 : Int32)).toNatClampNeg then none else (if ((x_changeMoments σ) (((p1 * (40 : Int32)) + ((x_changeCounts σ) p1.toNatClampNeg)) - (1 : Int32)).toNatClampNeg) = (x_moment σ) then some ((0 : Int32), σ) else (if ((p1 * (40 : Int32)) + ((x_changeCounts σ) p1.toNatClampNeg)) < 0 ∨ 2440 ≤ ((p1 * (40 : Int32)) + ((x_changeCounts σ) p1.toNatClampNeg)).toNatClampNeg then none else (if p1 < 0 ∨ 61 ≤ p1.toNatClampNeg then none else some ((0 : Int32), (x_pchangeMoments (x_pchangeCounts σ (upd (x_changeCounts σ) p1.toNatClampNeg (((x_changeCounts σ) p1.toNatClampNeg) + (1 : Int32)))) (upd (x_changeMoments σ) ((p1 * (40 : Int32)) + ((x_changeCounts σ) p1.toNatClampNeg)).toNatClampNeg (x_moment σ))))))))) else some ((0 : Int32), σ)))
set_option maxHeartbeats 4000000 in
set_option maxRecDepth 100000 in
theorem kX_noteChange (l : Launch) (dC : Nat → ClassId) (dI : Nat → Nat → Nat) (a : Nat → Nat) (cI cZ : ClassId) (tb : Nat) (K : Nat) (p1 : Int32) (σ σ' : XSt) (r : Int32) (hf : fX_noteChange K p1 σ = some (r, σ')) : xw_Cv l yX_noteChange wdX_noteChange ({ frames := 0, cells := 0, slots := 0, locals := 0 } : Room) (dC, dI) vwCl [(cI, .int), (cZ, .boolean)] (zz tb) ((w_X a cI cZ) σ) ((w_X a cI cZ) σ') [.ref (a 0), .int p1] := by
  refine xw_ofWv (cc := cX_noteChange) (maxL := 4) (ret := none) (lv := [(0, .ref (a 0)), (1, .int p1)]) (by decide) rfl (Nat.le_of_ble_eq_true rfl) rfl ?_
  intro p e s m below meth c A hAt hP hD hS ls hl
  obtain ⟨hx, hb, hr, hml, hown, hts, hlocks, hK, hZ, hA⟩ := hAt
  replace hts : ∀ w ∈ lw_g, w.before _ s = true := fun w h => hts w (List.mem_cons_of_mem _ h)
  unfold fX_noteChange at hf
  refine lv_aload_n hx hb dX_noteChange_0 rfl (lv_at hl 0 rfl) ?_
  refine aX_get_changeCounts hx hb hts hown hK hP dX_noteChange_1 ?_
  refine lv_iload_n hx hb dX_noteChange_4 rfl (lv_at hl 1 rfl) ?_
  obtain ⟨g_1, hf⟩ := gd_f hf
  refine aX_ld_changeCounts (σ := σ) (f := (x_changeCounts σ)) rfl hx hb hK hP g_1 dX_noteChange_5 ?_
  refine lv_istore_n (lv' := [(2, .int ((x_changeCounts σ) p1.toNatClampNeg)), (0, .ref (a 0)), (1, .int p1)]) hx hb dX_noteChange_6 rfl hl (by decide) rfl (fun ls hl => ?_)
  refine lv_iload_n hx hb dX_noteChange_7 rfl (lv_at hl 0 rfl) ?_
  refine lv_bipush (v := (40 : Int32)) hx hb dX_noteChange_8 (by decide) ?_
  refine lv_icmp_lt (tgt := 14) hx hb dX_noteChange_10 (by decide) (fun c_2 => ?_) (fun c_2 => ?_)
  · replace hf := it_t hf c_2
    refine lv_iload_n hx hb dX_noteChange_14 rfl (lv_at hl 2 rfl) ?_
    refine lv_bipush (v := (40 : Int32)) hx hb dX_noteChange_15 (by decide) ?_
    refine lv_imul hx hb dX_noteChange_17 ?_
    refine lv_iload_n hx hb dX_noteChange_18 rfl (lv_at hl 0 rfl) ?_
    refine lv_iadd hx hb dX_noteChange_19 ?_
    refine lv_istore_n (lv' := [(3, .int ((p1 * (40 : Int32)) + ((x_changeCounts σ) p1.toNatClampNeg))), (2, .int ((x_changeCounts σ) p1.toNatClampNeg)), (0, .ref (a 0)), (1, .int p1)]) hx hb dX_noteChange_20 rfl hl (by decide) rfl (fun ls hl => ?_)
    refine lv_iload_n hx hb dX_noteChange_21 rfl (lv_at hl 1 rfl) ?_
    refine lv_if_le (tgt := 41) hx hb dX_noteChange_22 (by decide) (fun c_3 => ?_) (fun c_3 => ?_)
    · replace hf := it_t hf c_3
      refine lv_aload_n hx hb dX_noteChange_41 rfl (lv_at hl 2 rfl) ?_
      refine aX_get_changeMoments hx hb hts hown hK hP dX_noteChange_42 ?_
      refine lv_iload_n hx hb dX_noteChange_45 rfl (lv_at hl 0 rfl) ?_
      refine lv_aload_n hx hb dX_noteChange_46 rfl (lv_at hl 2 rfl) ?_
      refine aX_get_moment (σ := σ) (v := (x_moment σ)) rfl hx hb hts hown hK hP dX_noteChange_47 ?_
      obtain ⟨g_4, hf⟩ := gd_f hf
      refine aX_st_changeMoments (σ := σ) (f := (x_changeMoments σ)) (x := (x_moment σ)) (τ := (x_pchangeMoments σ (upd (x_changeMoments σ) ((p1 * (40 : Int32)) + ((x_changeCounts σ) p1.toNatClampNeg)).toNatClampNeg (x_moment σ)))) rfl rfl hx hb hK hP hD hS g_4 dX_noteChange_50 (fun H locs hP hD hS => ?_)
      refine lv_aload_n hx hb dX_noteChange_51 rfl (lv_at hl 2 rfl) ?_
      refine aX_get_changeCounts hx hb hts hown hK hP dX_noteChange_52 ?_
      refine lv_iload_n hx hb dX_noteChange_55 rfl (lv_at hl 3 rfl) ?_
      refine lv_iload_n hx hb dX_noteChange_56 rfl (lv_at hl 1 rfl) ?_
      refine lv_iconst (v := (1 : Int32)) hx hb dX_noteChange_57 (by decide) ?_
      refine lv_iadd hx hb dX_noteChange_58 ?_
      obtain ⟨g_5, hf⟩ := gd_f hf
      refine aX_st_changeCounts (σ := (x_pchangeMoments σ (upd (x_changeMoments σ) ((p1 * (40 : Int32)) + ((x_changeCounts σ) p1.toNatClampNeg)).toNatClampNeg (x_moment σ)))) (f := (x_changeCounts σ)) (x := (((x_changeCounts σ) p1.toNatClampNeg) + (1 : Int32))) (τ := (x_pchangeMoments (x_pchangeCounts σ (upd (x_changeCounts σ) p1.toNatClampNeg (((x_changeCounts σ) p1.toNatClampNeg) + (1 : Int32)))) (upd (x_changeMoments σ) ((p1 * (40 : Int32)) + ((x_changeCounts σ) p1.toNatClampNeg)).toNatClampNeg (x_moment σ)))) rfl rfl hx hb hK hP hD hS g_5 dX_noteChange_59 (fun H locs hP hD hS => ?_)
      exact xw_vret (wf := (w_X a cI cZ)) hx hb hr hlocks hK hP hD hS hf dX_noteChange_60
    · replace hf := it_f hf c_3
      refine lv_aload_n hx hb dX_noteChange_25 rfl (lv_at hl 2 rfl) ?_
      refine aX_get_changeMoments hx hb hts hown hK hP dX_noteChange_26 ?_
      refine lv_iload_n hx hb dX_noteChange_29 rfl (lv_at hl 0 rfl) ?_
      refine lv_iconst (v := (1 : Int32)) hx hb dX_noteChange_30 (by decide) ?_
      refine lv_isub hx hb dX_noteChange_31 ?_
      obtain ⟨g_6, hf⟩ := gd_f hf
      refine aX_ld_changeMoments (σ := σ) (f := (x_changeMoments σ)) rfl hx hb hK hP g_6 dX_noteChange_32 ?_
      refine lv_aload_n hx hb dX_noteChange_33 rfl (lv_at hl 2 rfl) ?_
      refine aX_get_moment (σ := σ) (v := (x_moment σ)) rfl hx hb hts hown hK hP dX_noteChange_34 ?_
      refine lv_icmp_ne (tgt := 41) hx hb dX_noteChange_37 (by decide) (fun c_7 => ?_) (fun c_7 => ?_)
      · replace hf := it_f hf c_7
        refine lv_aload_n hx hb dX_noteChange_41 rfl (lv_at hl 2 rfl) ?_
        refine aX_get_changeMoments hx hb hts hown hK hP dX_noteChange_42 ?_
        refine lv_iload_n hx hb dX_noteChange_45 rfl (lv_at hl 0 rfl) ?_
        refine lv_aload_n hx hb dX_noteChange_46 rfl (lv_at hl 2 rfl) ?_
        refine aX_get_moment (σ := σ) (v := (x_moment σ)) rfl hx hb hts hown hK hP dX_noteChange_47 ?_
        obtain ⟨g_8, hf⟩ := gd_f hf
        refine aX_st_changeMoments (σ := σ) (f := (x_changeMoments σ)) (x := (x_moment σ)) (τ := (x_pchangeMoments σ (upd (x_changeMoments σ) ((p1 * (40 : Int32)) + ((x_changeCounts σ) p1.toNatClampNeg)).toNatClampNeg (x_moment σ)))) rfl rfl hx hb hK hP hD hS g_8 dX_noteChange_50 (fun H locs hP hD hS => ?_)
        refine lv_aload_n hx hb dX_noteChange_51 rfl (lv_at hl 2 rfl) ?_
        refine aX_get_changeCounts hx hb hts hown hK hP dX_noteChange_52 ?_
        refine lv_iload_n hx hb dX_noteChange_55 rfl (lv_at hl 3 rfl) ?_
        refine lv_iload_n hx hb dX_noteChange_56 rfl (lv_at hl 1 rfl) ?_
        refine lv_iconst (v := (1 : Int32)) hx hb dX_noteChange_57 (by decide) ?_
        refine lv_iadd hx hb dX_noteChange_58 ?_
        obtain ⟨g_9, hf⟩ := gd_f hf
        refine aX_st_changeCounts (σ := (x_pchangeMoments σ (upd (x_changeMoments σ) ((p1 * (40 : Int32)) + ((x_changeCounts σ) p1.toNatClampNeg)).toNatClampNeg (x_moment σ)))) (f := (x_changeCounts σ)) (x := (((x_changeCounts σ) p1.toNatClampNeg) + (1 : Int32))) (τ := (x_pchangeMoments (x_pchangeCounts σ (upd (x_changeCounts σ) p1.toNatClampNeg (((x_changeCounts σ) p1.toNatClampNeg) + (1 : Int32)))) (upd (x_changeMoments σ) ((p1 * (40 : Int32)) + ((x_changeCounts σ) p1.toNatClampNeg)).toNatClampNeg (x_moment σ)))) rfl rfl hx hb hK hP hD hS g_9 dX_noteChange_59 (fun H locs hP hD hS => ?_)
        exact xw_vret (wf := (w_X a cI cZ)) hx hb hr hlocks hK hP hD hS hf dX_noteChange_60
      · replace hf := it_t hf c_7
        exact xw_vret (wf := (w_X a cI cZ)) hx hb hr hlocks hK hP hD hS hf dX_noteChange_40
  · replace hf := it_f hf c_2
    exact xw_vret (wf := (w_X a cI cZ)) hx hb hr hlocks hK hP hD hS hf dX_noteChange_13
def fX_link (K : Nat) (p1 p2 p3 : Int32) (σ : XSt) : Option (Int32 × XSt) := ((fX_hasRoomFor K p1 p2 p3 (-1 : Int32) (x_pmoment σ ((x_moment σ) + (1 : Int32)))).bind fun q_1 => (if q_1.1 = 0 then some ((0 : Int32), q_1.2) else (if p2 = 0 then ((fX_liesIn K p3 p1 q_1.2).bind fun q_6 => (if q_6.1 = 0 then ((fX_addLink K p1 p2 p3 q_6.2).bind fun q_8 => ((fX_noteChange K p1 q_8.2).bind fun q_9 => some ((1 : Int32), q_9.2))) else ((fX_keepRefusedWay K p3 p1 q_6.2).bind fun q_10 => some ((0 : Int32), q_10.2)))) else ((fX_addLink K p1 p2 p3 q_1.2).bind fun q_4 => ((fX_noteChange K p1 q_4.2).bind fun q_5 => some ((1 : Int32), q_5.2))))))
set_option maxHeartbeats 4000000 in
set_option maxRecDepth 100000 in
theorem kX_link (l : Launch) (dC : Nat → ClassId) (dI : Nat → Nat → Nat) (a : Nat → Nat) (cI cZ : ClassId) (tb : Nat) (K : Nat) (p1 p2 p3 : Int32) (σ σ' : XSt) (r : Int32) (hf : fX_link K p1 p2 p3 σ = some (r, σ')) : xw_Ct l yX_link wdX_link ({ frames := 4, cells := 0, slots := 0, locals := 92 } : Room) (dC, dI) vwCl [(cI, .int), (cZ, .boolean)] (zz tb) ((w_X a cI cZ) σ) ((w_X a cI cZ) σ') [.ref (a 0), .int p1, .int p2, .int p3] r := by
  refine xw_ofW (cc := cX_link) (maxL := 4) (ret := (some .int)) (lv := [(0, .ref (a 0)), (1, .int p1), (2, .int p2), (3, .int p3)]) (by decide) rfl (Nat.le_of_ble_eq_true rfl) rfl ?_
  intro p e s m below meth c A hAt hP hD hS ls hl
  obtain ⟨hx, hb, hr, hml, hown, hts, hlocks, hK, hZ, hA⟩ := hAt
  replace hts : ∀ w ∈ lw_g, w.before _ s = true := fun w h => hts w (List.mem_cons_of_mem _ h)
  unfold fX_link at hf
  refine lv_aload_n hx hb dX_link_0 rfl (lv_at hl 0 rfl) ?_
  refine lv_dup hx hb dX_link_1 rfl ?_
  refine aX_get_moment (σ := σ) (v := (x_moment σ)) rfl hx hb hts hown hK hP dX_link_2 ?_
  refine lv_iconst (v := (1 : Int32)) hx hb dX_link_5 (by decide) ?_
  refine lv_iadd hx hb dX_link_6 ?_
  refine aX_put_moment (σ := σ) (v := ((x_moment σ) + (1 : Int32))) (τ := (x_pmoment σ ((x_moment σ) + (1 : Int32)))) rfl hx hb hts hown hK hP hD hS dX_link_7 (fun H locs hP hD hS => ?_)
  refine lv_aload_n hx hb dX_link_10 rfl (lv_at hl 0 rfl) ?_
  refine lv_iload_n hx hb dX_link_11 rfl (lv_at hl 1 rfl) ?_
  refine lv_iload_n hx hb dX_link_12 rfl (lv_at hl 2 rfl) ?_
  refine lv_iload_n hx hb dX_link_13 rfl (lv_at hl 3 rfl) ?_
  refine lv_iconst (v := (-1 : Int32)) hx hb dX_link_14 (by decide) ?_
  obtain ⟨q_1, hq_1, hf⟩ := bd_s hf
  refine xw_callV (kX_hasRoomFor l dC dI a cI cZ tb K p1 p2 p3 (-1 : Int32) (x_pmoment σ ((x_moment σ) + (1 : Int32))) q_1.2 q_1.1 hq_1) ⟨hx, hb, hml, hown, hts⟩ (cwV 4 hts (gw_V mt_87 mt_89 mt_0 mt_25 mt_90) rfl rfl rfl hdX_hasRoomFor ⟨Nat.le_of_ble_eq_true rfl, Nat.le_of_ble_eq_true rfl⟩) hK hP hD hS hA hZ (q0 := 0) (ci := 0) rfl rfl rfl hl.1 rfl (Nat.le_of_ble_eq_true rfl) dX_link_15 ⟨Nat.zero_le _, Nat.zero_le _⟩ (fun H locs hP hD hS => ?_)
  refine lv_if_ne (tgt := 23) hx hb dX_link_18 (by decide) (fun c_2 => ?_) (fun c_2 => ?_)
  · replace hf := it_f hf c_2
    refine lv_iload_n hx hb dX_link_23 rfl (lv_at hl 2 rfl) ?_
    refine lv_if_ne (tgt := 44) hx hb dX_link_24 (by decide) (fun c_3 => ?_) (fun c_3 => ?_)
    · replace hf := it_f hf c_3
      refine lv_aload_n hx hb dX_link_44 rfl (lv_at hl 0 rfl) ?_
      refine lv_iload_n hx hb dX_link_45 rfl (lv_at hl 1 rfl) ?_
      refine lv_iload_n hx hb dX_link_46 rfl (lv_at hl 2 rfl) ?_
      refine lv_iload_n hx hb dX_link_47 rfl (lv_at hl 3 rfl) ?_
      obtain ⟨q_4, hq_4, hf⟩ := bd_s hf
      refine xw_callVv (kX_addLink l dC dI a cI cZ tb K p1 p2 p3 q_1.2 q_4.2 q_4.1 hq_4) ⟨hx, hb, hml, hown, hts⟩ (cwV 3 hts (gw_V mt_116 mt_118 mt_6 mt_25 mt_119) rfl rfl rfl hdX_addLink ⟨Nat.le_of_ble_eq_true rfl, Nat.le_of_ble_eq_true rfl⟩) hK hP hD hS hA hZ (q0 := 0) (ci := 0) rfl rfl rfl hl.1 rfl (Nat.le_of_ble_eq_true rfl) dX_link_48 ⟨Nat.zero_le _, Nat.zero_le _⟩ (fun H locs hP hD hS => ?_)
      refine lv_aload_n hx hb dX_link_51 rfl (lv_at hl 0 rfl) ?_
      refine lv_iload_n hx hb dX_link_52 rfl (lv_at hl 1 rfl) ?_
      obtain ⟨q_5, hq_5, hf⟩ := bd_s hf
      refine xw_callVv (kX_noteChange l dC dI a cI cZ tb K p1 q_4.2 q_5.2 q_5.1 hq_5) ⟨hx, hb, hml, hown, hts⟩ (cwV 1 hts (gw_V mt_120 mt_122 mt_7 mt_25 mt_123) rfl rfl rfl hdX_noteChange ⟨Nat.le_of_ble_eq_true rfl, Nat.le_of_ble_eq_true rfl⟩) hK hP hD hS hA hZ (q0 := 0) (ci := 0) rfl rfl rfl hl.1 rfl (Nat.le_of_ble_eq_true rfl) dX_link_53 ⟨Nat.zero_le _, Nat.zero_le _⟩ (fun H locs hP hD hS => ?_)
      refine lv_iconst (v := (1 : Int32)) hx hb dX_link_56 (by decide) ?_
      exact xw_iret (wf := (w_X a cI cZ)) hx hb hr hlocks rfl hK hP hD hS hf dX_link_57
    · replace hf := it_t hf c_3
      refine lv_aload_n hx hb dX_link_27 rfl (lv_at hl 0 rfl) ?_
      refine lv_iload_n hx hb dX_link_28 rfl (lv_at hl 3 rfl) ?_
      refine lv_iload_n hx hb dX_link_29 rfl (lv_at hl 1 rfl) ?_
      obtain ⟨q_6, hq_6, hf⟩ := bd_s hf
      refine xw_callV (kX_liesIn l dC dI a cI cZ tb K p3 p1 q_1.2 q_6.2 q_6.1 hq_6) ⟨hx, hb, hml, hown, hts⟩ (cwV 2 hts (gw_V mt_108 mt_110 mt_4 mt_25 mt_111) rfl rfl rfl hdX_liesIn ⟨Nat.le_of_ble_eq_true rfl, Nat.le_of_ble_eq_true rfl⟩) hK hP hD hS hA hZ (q0 := 0) (ci := 0) rfl rfl rfl hl.1 rfl (Nat.le_of_ble_eq_true rfl) dX_link_30 ⟨Nat.zero_le _, Nat.zero_le _⟩ (fun H locs hP hD hS => ?_)
      refine lv_if_eq (tgt := 44) hx hb dX_link_33 (by decide) (fun c_7 => ?_) (fun c_7 => ?_)
      · replace hf := it_t hf c_7
        refine lv_aload_n hx hb dX_link_44 rfl (lv_at hl 0 rfl) ?_
        refine lv_iload_n hx hb dX_link_45 rfl (lv_at hl 1 rfl) ?_
        refine lv_iload_n hx hb dX_link_46 rfl (lv_at hl 2 rfl) ?_
        refine lv_iload_n hx hb dX_link_47 rfl (lv_at hl 3 rfl) ?_
        obtain ⟨q_8, hq_8, hf⟩ := bd_s hf
        refine xw_callVv (kX_addLink l dC dI a cI cZ tb K p1 p2 p3 q_6.2 q_8.2 q_8.1 hq_8) ⟨hx, hb, hml, hown, hts⟩ (cwV 3 hts (gw_V mt_116 mt_118 mt_6 mt_25 mt_119) rfl rfl rfl hdX_addLink ⟨Nat.le_of_ble_eq_true rfl, Nat.le_of_ble_eq_true rfl⟩) hK hP hD hS hA hZ (q0 := 0) (ci := 0) rfl rfl rfl hl.1 rfl (Nat.le_of_ble_eq_true rfl) dX_link_48 ⟨Nat.zero_le _, Nat.zero_le _⟩ (fun H locs hP hD hS => ?_)
        refine lv_aload_n hx hb dX_link_51 rfl (lv_at hl 0 rfl) ?_
        refine lv_iload_n hx hb dX_link_52 rfl (lv_at hl 1 rfl) ?_
        obtain ⟨q_9, hq_9, hf⟩ := bd_s hf
        refine xw_callVv (kX_noteChange l dC dI a cI cZ tb K p1 q_8.2 q_9.2 q_9.1 hq_9) ⟨hx, hb, hml, hown, hts⟩ (cwV 1 hts (gw_V mt_120 mt_122 mt_7 mt_25 mt_123) rfl rfl rfl hdX_noteChange ⟨Nat.le_of_ble_eq_true rfl, Nat.le_of_ble_eq_true rfl⟩) hK hP hD hS hA hZ (q0 := 0) (ci := 0) rfl rfl rfl hl.1 rfl (Nat.le_of_ble_eq_true rfl) dX_link_53 ⟨Nat.zero_le _, Nat.zero_le _⟩ (fun H locs hP hD hS => ?_)
        refine lv_iconst (v := (1 : Int32)) hx hb dX_link_56 (by decide) ?_
        exact xw_iret (wf := (w_X a cI cZ)) hx hb hr hlocks rfl hK hP hD hS hf dX_link_57
      · replace hf := it_f hf c_7
        refine lv_aload_n hx hb dX_link_36 rfl (lv_at hl 0 rfl) ?_
        refine lv_iload_n hx hb dX_link_37 rfl (lv_at hl 3 rfl) ?_
        refine lv_iload_n hx hb dX_link_38 rfl (lv_at hl 1 rfl) ?_
        obtain ⟨q_10, hq_10, hf⟩ := bd_s hf
        refine xw_callVv (kX_keepRefusedWay l dC dI a cI cZ tb K p3 p1 q_6.2 q_10.2 q_10.1 hq_10) ⟨hx, hb, hml, hown, hts⟩ (cwV 2 hts (gw_V mt_112 mt_114 mt_5 mt_25 mt_115) rfl rfl rfl hdX_keepRefusedWay ⟨Nat.le_of_ble_eq_true rfl, Nat.le_of_ble_eq_true rfl⟩) hK hP hD hS hA hZ (q0 := 0) (ci := 0) rfl rfl rfl hl.1 rfl (Nat.le_of_ble_eq_true rfl) dX_link_39 ⟨Nat.zero_le _, Nat.zero_le _⟩ (fun H locs hP hD hS => ?_)
        refine lv_iconst (v := (0 : Int32)) hx hb dX_link_42 (by decide) ?_
        exact xw_iret (wf := (w_X a cI cZ)) hx hb hr hlocks rfl hK hP hD hS hf dX_link_43
  · replace hf := it_t hf c_2
    refine lv_iconst (v := (0 : Int32)) hx hb dX_link_21 (by decide) ?_
    exact xw_iret (wf := (w_X a cI cZ)) hx hb hr hlocks rfl hK hP hD hS hf dX_link_22
end
section
def gX_findLink_3 (K : Nat) : Nat → Int32 → Int32 → Int32 → Int32 → XSt → Option (Int32 × XSt)
  | 0, _, _, _, _, _ => none
  | n + 1, x1, x2, x3, x4, τ => (if (x_links τ) ≤ x4 then some ((-1 : Int32), τ) else (if x4 < 0 ∨ 200 ≤ x4.toNatClampNeg then none else (if ((x_linkFrom τ) x4.toNatClampNeg) = x1 then (if x4 < 0 ∨ 200 ≤ x4.toNatClampNeg then none else (if ((x_linkField τ) x4.toNatClampNeg) = x2 then (if x4 < 0 ∨ 200 ≤ x4.toNatClampNeg then none else (if ((x_linkTo τ) x4.toNatClampNeg) = x3 then some (x4, τ) else (gX_findLink_3 K n x1 x2 x3 (x4 + 1) τ))) else (gX_findLink_3 K n x1 x2 x3 (x4 + 1) τ))) else (gX_findLink_3 K n x1 x2 x3 (x4 + 1) τ))))
def fX_findLink (K : Nat) (p1 p2 p3 : Int32) (σ : XSt) : Option (Int32 × XSt) := (gX_findLink_3 K K p1 p2 p3 (0 : Int32) σ)
set_option maxHeartbeats 4000000 in
set_option maxRecDepth 100000 in
theorem kX_findLink (l : Launch) (dC : Nat → ClassId) (dI : Nat → Nat → Nat) (a : Nat → Nat) (cI cZ : ClassId) (tb : Nat) (K : Nat) (p1 p2 p3 : Int32) (σ σ' : XSt) (r : Int32) (hf : fX_findLink K p1 p2 p3 σ = some (r, σ')) : xw_Ct l yX_findLink wdX_findLink ({ frames := 0, cells := 0, slots := 0, locals := 0 } : Room) (dC, dI) vwCl [(cI, .int), (cZ, .boolean)] (zz tb) ((w_X a cI cZ) σ) ((w_X a cI cZ) σ') [.ref (a 0), .int p1, .int p2, .int p3] r := by
  refine xw_ofW (cc := cX_findLink) (maxL := 5) (ret := (some .int)) (lv := [(0, .ref (a 0)), (1, .int p1), (2, .int p2), (3, .int p3)]) (by decide) rfl (Nat.le_of_ble_eq_true rfl) rfl ?_
  intro p e s m below meth c A hAt hP hD hS ls hl
  obtain ⟨hx, hb, hr, hml, hown, hts, hlocks, hK, hZ, hA⟩ := hAt
  replace hts : ∀ w ∈ lw_g, w.before _ s = true := fun w h => hts w (List.mem_cons_of_mem _ h)
  have L_3 : ∀ (n : Nat) (x1 x2 x3 x4 : Int32) (τ : XSt), gX_findLink_3 K n x1 x2 x3 x4 τ = some (r, σ') → ∀ (H : Heap) (locs : List Loc), va_P (dC, dI) vwCl ((w_X a cI cZ) τ) H → va_D A ((w_X a cI cZ) τ) → va_S A s.heap H locs → ∀ (ls : Array Slot), lv_has ls 5 [(0, .ref (a 0)), (1, .int x1), (2, .int x2), (3, .int x3), (4, .int x4)] → W p l e ({ frames := 0, cells := 0, slots := 0, locals := 0 } : Room) s m ([.ref (a 0), .int p1, .int p2, .int p3] : List Value).toArray below meth c H locs 0 0 (MQ below (va_Qi (fun (r2 : Int32) (_ : Unit) => r2 = r) (fun _ t => xw_B (dC, dI) vwCl [(cI, .int), (cZ, .boolean)] A ((w_X a cI cZ) σ') t) A) ([.ref (a 0), .int p1, .int p2, .int p3] : List Value).toArray s 0 0 A) (F0 m 3 ls []) := by
    intro n
    induction n with
    | zero =>
      intro x1 x2 x3 x4 τ hf
      rw [gX_findLink_3] at hf
      cases hf
    | succ n ih =>
      intro x1 x2 x3 x4 τ hf H locs hP hD hS ls hl
      rw [gX_findLink_3] at hf
      refine lv_iload hx hb dX_findLink_3 (lv_at hl 4 rfl) ?_
      refine lv_aload_n hx hb dX_findLink_5 rfl (lv_at hl 0 rfl) ?_
      refine aX_get_links (σ := τ) (v := (x_links τ)) rfl hx hb hts hown hK hP dX_findLink_6 ?_
      refine lv_icmp_ge (tgt := 54) hx hb dX_findLink_9 (by decide) (fun c_1 => ?_) (fun c_1 => ?_)
      · replace hf := it_t hf c_1
        refine lv_iconst (v := (-1 : Int32)) hx hb dX_findLink_54 (by decide) ?_
        exact xw_iret (wf := (w_X a cI cZ)) hx hb hr hlocks rfl hK hP hD hS hf dX_findLink_55
      · replace hf := it_f hf c_1
        refine lv_aload_n hx hb dX_findLink_12 rfl (lv_at hl 0 rfl) ?_
        refine aX_get_linkFrom hx hb hts hown hK hP dX_findLink_13 ?_
        refine lv_iload hx hb dX_findLink_16 (lv_at hl 4 rfl) ?_
        obtain ⟨g_2, hf⟩ := gd_f hf
        refine aX_ld_linkFrom (σ := τ) (f := (x_linkFrom τ)) rfl hx hb hK hP g_2 dX_findLink_18 ?_
        refine lv_iload_n hx hb dX_findLink_19 rfl (lv_at hl 1 rfl) ?_
        refine lv_icmp_ne (tgt := 48) hx hb dX_findLink_20 (by decide) (fun c_3 => ?_) (fun c_3 => ?_)
        · replace hf := it_f hf c_3
          refine lv_iinc (v := (x4 + 1)) (lv' := [(4, .int (x4 + 1)), (0, .ref (a 0)), (1, .int x1), (2, .int x2), (3, .int x3)]) hx hb dX_findLink_48 hl (k := 4) rfl (congrArg (HAdd.hAdd _) (by decide : Int32.ofInt (1) = (1 : Int32))) (by decide) rfl (fun ls hl => ?_)
          refine lv_goto (tgt := 3) hx hb dX_findLink_51 (by decide) ?_
          exact ih x1 x2 x3 (x4 + 1) τ hf _ _ hP hD hS _ (lv_sub hl [1, 2, 3, 4, 0] rfl)
        · replace hf := it_t hf c_3
          refine lv_aload_n hx hb dX_findLink_23 rfl (lv_at hl 0 rfl) ?_
          refine aX_get_linkField hx hb hts hown hK hP dX_findLink_24 ?_
          refine lv_iload hx hb dX_findLink_27 (lv_at hl 4 rfl) ?_
          obtain ⟨g_4, hf⟩ := gd_f hf
          refine aX_ld_linkField (σ := τ) (f := (x_linkField τ)) rfl hx hb hK hP g_4 dX_findLink_29 ?_
          refine lv_iload_n hx hb dX_findLink_30 rfl (lv_at hl 2 rfl) ?_
          refine lv_icmp_ne (tgt := 48) hx hb dX_findLink_31 (by decide) (fun c_5 => ?_) (fun c_5 => ?_)
          · replace hf := it_f hf c_5
            refine lv_iinc (v := (x4 + 1)) (lv' := [(4, .int (x4 + 1)), (0, .ref (a 0)), (1, .int x1), (2, .int x2), (3, .int x3)]) hx hb dX_findLink_48 hl (k := 4) rfl (congrArg (HAdd.hAdd _) (by decide : Int32.ofInt (1) = (1 : Int32))) (by decide) rfl (fun ls hl => ?_)
            refine lv_goto (tgt := 3) hx hb dX_findLink_51 (by decide) ?_
            exact ih x1 x2 x3 (x4 + 1) τ hf _ _ hP hD hS _ (lv_sub hl [1, 2, 3, 4, 0] rfl)
          · replace hf := it_t hf c_5
            refine lv_aload_n hx hb dX_findLink_34 rfl (lv_at hl 0 rfl) ?_
            refine aX_get_linkTo hx hb hts hown hK hP dX_findLink_35 ?_
            refine lv_iload hx hb dX_findLink_38 (lv_at hl 4 rfl) ?_
            obtain ⟨g_6, hf⟩ := gd_f hf
            refine aX_ld_linkTo (σ := τ) (f := (x_linkTo τ)) rfl hx hb hK hP g_6 dX_findLink_40 ?_
            refine lv_iload_n hx hb dX_findLink_41 rfl (lv_at hl 3 rfl) ?_
            refine lv_icmp_ne (tgt := 48) hx hb dX_findLink_42 (by decide) (fun c_7 => ?_) (fun c_7 => ?_)
            · replace hf := it_f hf c_7
              refine lv_iinc (v := (x4 + 1)) (lv' := [(4, .int (x4 + 1)), (0, .ref (a 0)), (1, .int x1), (2, .int x2), (3, .int x3)]) hx hb dX_findLink_48 hl (k := 4) rfl (congrArg (HAdd.hAdd _) (by decide : Int32.ofInt (1) = (1 : Int32))) (by decide) rfl (fun ls hl => ?_)
              refine lv_goto (tgt := 3) hx hb dX_findLink_51 (by decide) ?_
              exact ih x1 x2 x3 (x4 + 1) τ hf _ _ hP hD hS _ (lv_sub hl [1, 2, 3, 4, 0] rfl)
            · replace hf := it_t hf c_7
              refine lv_iload hx hb dX_findLink_45 (lv_at hl 4 rfl) ?_
              exact xw_iret (wf := (w_X a cI cZ)) hx hb hr hlocks rfl hK hP hD hS hf dX_findLink_47
  unfold fX_findLink at hf
  refine lv_iconst (v := (0 : Int32)) hx hb dX_findLink_0 (by decide) ?_
  refine lv_istore (lv' := [(4, .int (0 : Int32)), (0, .ref (a 0)), (1, .int p1), (2, .int p2), (3, .int p3)]) hx hb dX_findLink_1 hl (by decide) rfl (fun ls hl => ?_)
  exact L_3 K p1 p2 p3 (0 : Int32) σ hf _ _ hP hD hS _ (lv_sub hl [1, 2, 3, 4, 0] rfl)
def fX_removeLink (K : Nat) (p1 : Int32) (σ : XSt) : Option (Int32 × XSt) := (if (p1 + (1 : Int32)) < 0 ∨ p1 < 0 ∨ (((x_links σ) - p1) - (1 : Int32)) < 0 ∨ 200 < (p1 + (1 : Int32)).toNatClampNeg + (((x_links σ) - p1) - (1 : Int32)).toNatClampNeg ∨ 200 < p1.toNatClampNeg + (((x_links σ) - p1) - (1 : Int32)).toNatClampNeg then none else (if (p1 + (1 : Int32)) < 0 ∨ p1 < 0 ∨ (((x_links σ) - p1) - (1 : Int32)) < 0 ∨ 200 < (p1 + (1 : Int32)).toNatClampNeg + (((x_links σ) - p1) - (1 : Int32)).toNatClampNeg ∨ 200 < p1.toNatClampNeg + (((x_links σ) - p1) - (1 : Int32)).toNatClampNeg then none else (if (p1 + (1 : Int32)) < 0 ∨ p1 < 0 ∨ (((x_links σ) - p1) - (1 : Int32)) < 0 ∨ 200 < (p1 + (1 : Int32)).toNatClampNeg + (((x_links σ) - p1) - (1 : Int32)).toNatClampNeg ∨ 200 < p1.toNatClampNeg + (((x_links σ) - p1) - (1 : Int32)).toNatClampNeg then none else some ((0 : Int32), (x_plinks (x_plinkTo (x_plinkField (x_plinkFrom σ (va_cpy (x_linkFrom σ) (x_linkFrom σ) (p1 + (1 : Int32)).toNatClampNeg p1.toNatClampNeg (((x_links σ) - p1) - (1 : Int32)).toNatClampNeg)) (va_cpy (x_linkField σ) (x_linkField σ) (p1 + (1 : Int32)).toNatClampNeg p1.toNatClampNeg (((x_links σ) - p1) - (1 : Int32)).toNatClampNeg)) (va_cpy (x_linkTo σ) (x_linkTo σ) (p1 + (1 : Int32)).toNatClampNeg p1.toNatClampNeg (((x_links σ) - p1) - (1 : Int32)).toNatClampNeg)) ((x_links σ) - (1 : Int32)))))))
set_option maxHeartbeats 4000000 in
set_option maxRecDepth 100000 in
theorem kX_removeLink (l : Launch) (dC : Nat → ClassId) (dI : Nat → Nat → Nat) (a : Nat → Nat) (cI cZ : ClassId) (tb : Nat) (K : Nat) (p1 : Int32) (σ σ' : XSt) (r : Int32) (hf : fX_removeLink K p1 σ = some (r, σ')) : xw_Cv l yX_removeLink wdX_removeLink ({ frames := 1, cells := 0, slots := 0, locals := 31 } : Room) (dC, dI) vwCl [(cI, .int), (cZ, .boolean)] (zz tb) ((w_X a cI cZ) σ) ((w_X a cI cZ) σ') [.ref (a 0), .int p1] := by
  refine xw_ofWv (cc := cX_removeLink) (maxL := 3) (ret := none) (lv := [(0, .ref (a 0)), (1, .int p1)]) (by decide) rfl (Nat.le_of_ble_eq_true rfl) rfl ?_
  intro p e s m below meth c A hAt hP hD hS ls hl
  obtain ⟨hx, hb, hr, hml, hown, hts, hlocks, hK, hZ, hA⟩ := hAt
  replace hts : ∀ w ∈ lw_g, w.before _ s = true := fun w h => hts w (List.mem_cons_of_mem _ h)
  have ka_link_107 := hts _ mt_143
  have ka_nat := hts _ mt_145
  have ka_stat := hts _ mt_144
  have ka_ini := hts _ mt_28
  unfold fX_removeLink at hf
  refine lv_aload_n hx hb dX_removeLink_0 rfl (lv_at hl 0 rfl) ?_
  refine aX_get_links (σ := σ) (v := (x_links σ)) rfl hx hb hts hown hK hP dX_removeLink_1 ?_
  refine lv_iload_n hx hb dX_removeLink_4 rfl (lv_at hl 1 rfl) ?_
  refine lv_isub hx hb dX_removeLink_5 ?_
  refine lv_iconst (v := (1 : Int32)) hx hb dX_removeLink_6 (by decide) ?_
  refine lv_isub hx hb dX_removeLink_7 ?_
  refine lv_istore_n (lv' := [(2, .int (((x_links σ) - p1) - (1 : Int32))), (0, .ref (a 0)), (1, .int p1)]) hx hb dX_removeLink_8 rfl hl (by decide) rfl (fun ls hl => ?_)
  refine lv_aload_n hx hb dX_removeLink_9 rfl (lv_at hl 1 rfl) ?_
  refine aX_get_linkFrom hx hb hts hown hK hP dX_removeLink_10 ?_
  refine lv_iload_n hx hb dX_removeLink_13 rfl (lv_at hl 2 rfl) ?_
  refine lv_iconst (v := (1 : Int32)) hx hb dX_removeLink_14 (by decide) ?_
  refine lv_iadd hx hb dX_removeLink_15 ?_
  refine lv_aload_n hx hb dX_removeLink_16 rfl (lv_at hl 1 rfl) ?_
  refine aX_get_linkFrom hx hb hts hown hK hP dX_removeLink_17 ?_
  refine lv_iload_n hx hb dX_removeLink_20 rfl (lv_at hl 2 rfl) ?_
  refine lv_iload_n hx hb dX_removeLink_21 rfl (lv_at hl 0 rfl) ?_
  obtain ⟨g_1, hf⟩ := gd_f hf
  refine va_copyi (f := (x_linkFrom σ)) (g := (x_linkFrom σ)) (ty := .int) hx hb (hml.trans hl.1.symm) hown ka_link_107 ka_nat ka_stat ka_ini hK hP hD hS 6 6 0 0 rfl rfl rfl rfl rfl (fun q => g_1 (Or.inl q)) (fun q => g_1 (Or.inr (Or.inl q))) (fun q => g_1 (Or.inr (Or.inr (Or.inl q)))) (Nat.not_lt.mp fun q => g_1 (Or.inr (Or.inr (Or.inr (Or.inl q))))) (Nat.not_lt.mp fun q => g_1 (Or.inr (Or.inr (Or.inr (Or.inr q))))) (fun _ _ => rfl) (Nat.le_of_ble_eq_true rfl) (Nat.le_of_ble_eq_true rfl) dX_removeLink_22 (fun H locs hP hD hS => ?_)
  have hP : va_P (dC, dI) vwCl ((w_X a cI cZ) (x_plinkFrom σ (va_cpy (x_linkFrom σ) (x_linkFrom σ) (p1 + (1 : Int32)).toNatClampNeg p1.toNatClampNeg (((x_links σ) - p1) - (1 : Int32)).toNatClampNeg))) H := hP
  have hD : va_D A ((w_X a cI cZ) (x_plinkFrom σ (va_cpy (x_linkFrom σ) (x_linkFrom σ) (p1 + (1 : Int32)).toNatClampNeg p1.toNatClampNeg (((x_links σ) - p1) - (1 : Int32)).toNatClampNeg))) := hD
  refine lv_aload_n hx hb dX_removeLink_25 rfl (lv_at hl 1 rfl) ?_
  refine aX_get_linkField hx hb hts hown hK hP dX_removeLink_26 ?_
  refine lv_iload_n hx hb dX_removeLink_29 rfl (lv_at hl 2 rfl) ?_
  refine lv_iconst (v := (1 : Int32)) hx hb dX_removeLink_30 (by decide) ?_
  refine lv_iadd hx hb dX_removeLink_31 ?_
  refine lv_aload_n hx hb dX_removeLink_32 rfl (lv_at hl 1 rfl) ?_
  refine aX_get_linkField hx hb hts hown hK hP dX_removeLink_33 ?_
  refine lv_iload_n hx hb dX_removeLink_36 rfl (lv_at hl 2 rfl) ?_
  refine lv_iload_n hx hb dX_removeLink_37 rfl (lv_at hl 0 rfl) ?_
  obtain ⟨g_2, hf⟩ := gd_f hf
  refine va_copyi (f := (x_linkField σ)) (g := (x_linkField σ)) (ty := .int) hx hb (hml.trans hl.1.symm) hown ka_link_107 ka_nat ka_stat ka_ini hK hP hD hS 7 7 0 0 rfl rfl rfl rfl rfl (fun q => g_2 (Or.inl q)) (fun q => g_2 (Or.inr (Or.inl q))) (fun q => g_2 (Or.inr (Or.inr (Or.inl q)))) (Nat.not_lt.mp fun q => g_2 (Or.inr (Or.inr (Or.inr (Or.inl q))))) (Nat.not_lt.mp fun q => g_2 (Or.inr (Or.inr (Or.inr (Or.inr q))))) (fun _ _ => rfl) (Nat.le_of_ble_eq_true rfl) (Nat.le_of_ble_eq_true rfl) dX_removeLink_38 (fun H locs hP hD hS => ?_)
  have hP : va_P (dC, dI) vwCl ((w_X a cI cZ) (x_plinkField (x_plinkFrom σ (va_cpy (x_linkFrom σ) (x_linkFrom σ) (p1 + (1 : Int32)).toNatClampNeg p1.toNatClampNeg (((x_links σ) - p1) - (1 : Int32)).toNatClampNeg)) (va_cpy (x_linkField σ) (x_linkField σ) (p1 + (1 : Int32)).toNatClampNeg p1.toNatClampNeg (((x_links σ) - p1) - (1 : Int32)).toNatClampNeg))) H := hP
  have hD : va_D A ((w_X a cI cZ) (x_plinkField (x_plinkFrom σ (va_cpy (x_linkFrom σ) (x_linkFrom σ) (p1 + (1 : Int32)).toNatClampNeg p1.toNatClampNeg (((x_links σ) - p1) - (1 : Int32)).toNatClampNeg)) (va_cpy (x_linkField σ) (x_linkField σ) (p1 + (1 : Int32)).toNatClampNeg p1.toNatClampNeg (((x_links σ) - p1) - (1 : Int32)).toNatClampNeg))) := hD
  refine lv_aload_n hx hb dX_removeLink_41 rfl (lv_at hl 1 rfl) ?_
  refine aX_get_linkTo hx hb hts hown hK hP dX_removeLink_42 ?_
  refine lv_iload_n hx hb dX_removeLink_45 rfl (lv_at hl 2 rfl) ?_
  refine lv_iconst (v := (1 : Int32)) hx hb dX_removeLink_46 (by decide) ?_
  refine lv_iadd hx hb dX_removeLink_47 ?_
  refine lv_aload_n hx hb dX_removeLink_48 rfl (lv_at hl 1 rfl) ?_
  refine aX_get_linkTo hx hb hts hown hK hP dX_removeLink_49 ?_
  refine lv_iload_n hx hb dX_removeLink_52 rfl (lv_at hl 2 rfl) ?_
  refine lv_iload_n hx hb dX_removeLink_53 rfl (lv_at hl 0 rfl) ?_
  obtain ⟨g_3, hf⟩ := gd_f hf
  refine va_copyi (f := (x_linkTo σ)) (g := (x_linkTo σ)) (ty := .int) hx hb (hml.trans hl.1.symm) hown ka_link_107 ka_nat ka_stat ka_ini hK hP hD hS 8 8 0 0 rfl rfl rfl rfl rfl (fun q => g_3 (Or.inl q)) (fun q => g_3 (Or.inr (Or.inl q))) (fun q => g_3 (Or.inr (Or.inr (Or.inl q)))) (Nat.not_lt.mp fun q => g_3 (Or.inr (Or.inr (Or.inr (Or.inl q))))) (Nat.not_lt.mp fun q => g_3 (Or.inr (Or.inr (Or.inr (Or.inr q))))) (fun _ _ => rfl) (Nat.le_of_ble_eq_true rfl) (Nat.le_of_ble_eq_true rfl) dX_removeLink_54 (fun H locs hP hD hS => ?_)
  have hP : va_P (dC, dI) vwCl ((w_X a cI cZ) (x_plinkTo (x_plinkField (x_plinkFrom σ (va_cpy (x_linkFrom σ) (x_linkFrom σ) (p1 + (1 : Int32)).toNatClampNeg p1.toNatClampNeg (((x_links σ) - p1) - (1 : Int32)).toNatClampNeg)) (va_cpy (x_linkField σ) (x_linkField σ) (p1 + (1 : Int32)).toNatClampNeg p1.toNatClampNeg (((x_links σ) - p1) - (1 : Int32)).toNatClampNeg)) (va_cpy (x_linkTo σ) (x_linkTo σ) (p1 + (1 : Int32)).toNatClampNeg p1.toNatClampNeg (((x_links σ) - p1) - (1 : Int32)).toNatClampNeg))) H := hP
  have hD : va_D A ((w_X a cI cZ) (x_plinkTo (x_plinkField (x_plinkFrom σ (va_cpy (x_linkFrom σ) (x_linkFrom σ) (p1 + (1 : Int32)).toNatClampNeg p1.toNatClampNeg (((x_links σ) - p1) - (1 : Int32)).toNatClampNeg)) (va_cpy (x_linkField σ) (x_linkField σ) (p1 + (1 : Int32)).toNatClampNeg p1.toNatClampNeg (((x_links σ) - p1) - (1 : Int32)).toNatClampNeg)) (va_cpy (x_linkTo σ) (x_linkTo σ) (p1 + (1 : Int32)).toNatClampNeg p1.toNatClampNeg (((x_links σ) - p1) - (1 : Int32)).toNatClampNeg))) := hD
  refine lv_aload_n hx hb dX_removeLink_57 rfl (lv_at hl 1 rfl) ?_
  refine lv_dup hx hb dX_removeLink_58 rfl ?_
  refine aX_get_links (σ := (x_plinkTo (x_plinkField (x_plinkFrom σ (va_cpy (x_linkFrom σ) (x_linkFrom σ) (p1 + (1 : Int32)).toNatClampNeg p1.toNatClampNeg (((x_links σ) - p1) - (1 : Int32)).toNatClampNeg)) (va_cpy (x_linkField σ) (x_linkField σ) (p1 + (1 : Int32)).toNatClampNeg p1.toNatClampNeg (((x_links σ) - p1) - (1 : Int32)).toNatClampNeg)) (va_cpy (x_linkTo σ) (x_linkTo σ) (p1 + (1 : Int32)).toNatClampNeg p1.toNatClampNeg (((x_links σ) - p1) - (1 : Int32)).toNatClampNeg))) (v := (x_links σ)) rfl hx hb hts hown hK hP dX_removeLink_59 ?_
  refine lv_iconst (v := (1 : Int32)) hx hb dX_removeLink_62 (by decide) ?_
  refine lv_isub hx hb dX_removeLink_63 ?_
  refine aX_put_links (σ := (x_plinkTo (x_plinkField (x_plinkFrom σ (va_cpy (x_linkFrom σ) (x_linkFrom σ) (p1 + (1 : Int32)).toNatClampNeg p1.toNatClampNeg (((x_links σ) - p1) - (1 : Int32)).toNatClampNeg)) (va_cpy (x_linkField σ) (x_linkField σ) (p1 + (1 : Int32)).toNatClampNeg p1.toNatClampNeg (((x_links σ) - p1) - (1 : Int32)).toNatClampNeg)) (va_cpy (x_linkTo σ) (x_linkTo σ) (p1 + (1 : Int32)).toNatClampNeg p1.toNatClampNeg (((x_links σ) - p1) - (1 : Int32)).toNatClampNeg))) (v := ((x_links σ) - (1 : Int32))) (τ := (x_plinks (x_plinkTo (x_plinkField (x_plinkFrom σ (va_cpy (x_linkFrom σ) (x_linkFrom σ) (p1 + (1 : Int32)).toNatClampNeg p1.toNatClampNeg (((x_links σ) - p1) - (1 : Int32)).toNatClampNeg)) (va_cpy (x_linkField σ) (x_linkField σ) (p1 + (1 : Int32)).toNatClampNeg p1.toNatClampNeg (((x_links σ) - p1) - (1 : Int32)).toNatClampNeg)) (va_cpy (x_linkTo σ) (x_linkTo σ) (p1 + (1 : Int32)).toNatClampNeg p1.toNatClampNeg (((x_links σ) - p1) - (1 : Int32)).toNatClampNeg)) ((x_links σ) - (1 : Int32)))) rfl hx hb hts hown hK hP hD hS dX_removeLink_64 (fun H locs hP hD hS => ?_)
  exact xw_vret (wf := (w_X a cI cZ)) hx hb hr hlocks hK hP hD hS hf dX_removeLink_67
def fX_sendToHeading (K : Nat) (p1 p2 : Int32) (σ : XSt) : Option (Int32 × XSt) := (if p1 < 0 ∨ 200 ≤ p1.toNatClampNeg then none else (if p1 < 0 ∨ 200 ≤ p1.toNatClampNeg then none else ((fX_findLink K ((x_linkFrom σ) p1.toNatClampNeg) ((x_linkField σ) p1.toNatClampNeg) p2 σ).bind fun q_3 => (if p1 < 0 ∨ 200 ≤ p1.toNatClampNeg then none else (if q_3.1 = (-1 : Int32) then some ((0 : Int32), (x_plinkTo q_3.2 (upd (x_linkTo q_3.2) p1.toNatClampNeg p2))) else ((fX_removeLink K (if p1 < q_3.1 then q_3.1 else p1) (x_plinkTo q_3.2 (upd (x_linkTo q_3.2) p1.toNatClampNeg p2))).bind fun q_6 => some ((0 : Int32), q_6.2)))))))
set_option maxHeartbeats 4000000 in
set_option maxRecDepth 100000 in
theorem kX_sendToHeading (l : Launch) (dC : Nat → ClassId) (dI : Nat → Nat → Nat) (a : Nat → Nat) (cI cZ : ClassId) (tb : Nat) (K : Nat) (p1 p2 : Int32) (σ σ' : XSt) (r : Int32) (hf : fX_sendToHeading K p1 p2 σ = some (r, σ')) : xw_Cv l yX_sendToHeading wdX_sendToHeading ({ frames := 2, cells := 0, slots := 0, locals := 53 } : Room) (dC, dI) vwCl [(cI, .int), (cZ, .boolean)] (zz tb) ((w_X a cI cZ) σ) ((w_X a cI cZ) σ') [.ref (a 0), .int p1, .int p2] := by
  refine xw_ofWv (cc := cX_sendToHeading) (maxL := 4) (ret := none) (lv := [(0, .ref (a 0)), (1, .int p1), (2, .int p2)]) (by decide) rfl (Nat.le_of_ble_eq_true rfl) rfl ?_
  intro p e s m below meth c A hAt hP hD hS ls hl
  obtain ⟨hx, hb, hr, hml, hown, hts, hlocks, hK, hZ, hA⟩ := hAt
  replace hts : ∀ w ∈ lw_g, w.before _ s = true := fun w h => hts w (List.mem_cons_of_mem _ h)
  have km_link_max_117 := hts _ mt_136
  have km_stat_max := hts _ mt_137
  have km_ini := hts _ mt_27
  have km_code_max := hts _ mt_138
  unfold fX_sendToHeading at hf
  refine lv_aload_n hx hb dX_sendToHeading_0 rfl (lv_at hl 0 rfl) ?_
  refine lv_aload_n hx hb dX_sendToHeading_1 rfl (lv_at hl 0 rfl) ?_
  refine aX_get_linkFrom hx hb hts hown hK hP dX_sendToHeading_2 ?_
  refine lv_iload_n hx hb dX_sendToHeading_5 rfl (lv_at hl 1 rfl) ?_
  obtain ⟨g_1, hf⟩ := gd_f hf
  refine aX_ld_linkFrom (σ := σ) (f := (x_linkFrom σ)) rfl hx hb hK hP g_1 dX_sendToHeading_6 ?_
  refine lv_aload_n hx hb dX_sendToHeading_7 rfl (lv_at hl 0 rfl) ?_
  refine aX_get_linkField hx hb hts hown hK hP dX_sendToHeading_8 ?_
  refine lv_iload_n hx hb dX_sendToHeading_11 rfl (lv_at hl 1 rfl) ?_
  obtain ⟨g_2, hf⟩ := gd_f hf
  refine aX_ld_linkField (σ := σ) (f := (x_linkField σ)) rfl hx hb hK hP g_2 dX_sendToHeading_12 ?_
  refine lv_iload_n hx hb dX_sendToHeading_13 rfl (lv_at hl 2 rfl) ?_
  obtain ⟨q_3, hq_3, hf⟩ := bd_s hf
  refine xw_callV (kX_findLink l dC dI a cI cZ tb K ((x_linkFrom σ) p1.toNatClampNeg) ((x_linkField σ) p1.toNatClampNeg) p2 σ q_3.2 q_3.1 hq_3) ⟨hx, hb, hml, hown, hts⟩ (cwV 3 hts (gw_V mt_132 mt_134 mt_9 mt_25 mt_135) rfl rfl rfl hdX_findLink ⟨Nat.le_of_ble_eq_true rfl, Nat.le_of_ble_eq_true rfl⟩) hK hP hD hS hA hZ (q0 := 0) (ci := 0) rfl rfl rfl hl.1 rfl (Nat.le_of_ble_eq_true rfl) dX_sendToHeading_14 ⟨Nat.zero_le _, Nat.zero_le _⟩ (fun H locs hP hD hS => ?_)
  refine lv_istore_n (lv' := [(3, .int q_3.1), (0, .ref (a 0)), (1, .int p1), (2, .int p2)]) hx hb dX_sendToHeading_17 rfl hl (by decide) rfl (fun ls hl => ?_)
  refine lv_aload_n hx hb dX_sendToHeading_18 rfl (lv_at hl 1 rfl) ?_
  refine aX_get_linkTo hx hb hts hown hK hP dX_sendToHeading_19 ?_
  refine lv_iload_n hx hb dX_sendToHeading_22 rfl (lv_at hl 2 rfl) ?_
  refine lv_iload_n hx hb dX_sendToHeading_23 rfl (lv_at hl 3 rfl) ?_
  obtain ⟨g_4, hf⟩ := gd_f hf
  refine aX_st_linkTo (σ := q_3.2) (f := (x_linkTo q_3.2)) (x := p2) (τ := (x_plinkTo q_3.2 (upd (x_linkTo q_3.2) p1.toNatClampNeg p2))) rfl rfl hx hb hK hP hD hS g_4 dX_sendToHeading_24 (fun H locs hP hD hS => ?_)
  refine lv_iload_n hx hb dX_sendToHeading_25 rfl (lv_at hl 0 rfl) ?_
  refine lv_iconst (v := (-1 : Int32)) hx hb dX_sendToHeading_26 (by decide) ?_
  refine lv_icmp_eq (tgt := 39) hx hb dX_sendToHeading_27 (by decide) (fun c_5 => ?_) (fun c_5 => ?_)
  · replace hf := it_t hf c_5
    exact xw_vret (wf := (w_X a cI cZ)) hx hb hr hlocks hK hP hD hS hf dX_sendToHeading_39
  · replace hf := it_f hf c_5
    refine lv_aload_n hx hb dX_sendToHeading_30 rfl (lv_at hl 1 rfl) ?_
    refine lv_iload_n hx hb dX_sendToHeading_31 rfl (lv_at hl 2 rfl) ?_
    refine lv_iload_n hx hb dX_sendToHeading_32 rfl (lv_at hl 0 rfl) ?_
    refine va_mmax hx hb (hml.trans hl.1.symm) hown km_link_max_117 km_stat_max km_ini km_code_max (Nat.le_of_ble_eq_true rfl) (Nat.le_of_ble_eq_true rfl) (Nat.zero_le _) (Nat.zero_le _) dX_sendToHeading_33 ?_
    obtain ⟨q_6, hq_6, hf⟩ := bd_s hf
    refine xw_callVv (kX_removeLink l dC dI a cI cZ tb K (if p1 < q_3.1 then q_3.1 else p1) (x_plinkTo q_3.2 (upd (x_linkTo q_3.2) p1.toNatClampNeg p2)) q_6.2 q_6.1 hq_6) ⟨hx, hb, hml, hown, hts⟩ (cwV 1 hts (gw_V mt_139 mt_141 mt_10 mt_25 mt_142) rfl rfl rfl hdX_removeLink ⟨Nat.le_of_ble_eq_true rfl, Nat.le_of_ble_eq_true rfl⟩) hK hP hD hS hA hZ (q0 := 0) (ci := 0) rfl rfl rfl hl.1 rfl (Nat.le_of_ble_eq_true rfl) dX_sendToHeading_36 ⟨Nat.zero_le _, Nat.zero_le _⟩ (fun H locs hP hD hS => ?_)
    exact xw_vret (wf := (w_X a cI cZ)) hx hb hr hlocks hK hP hD hS hf dX_sendToHeading_39
def gX_change_41 (K : Nat) : Nat → Int32 → Int32 → Int32 → Int32 → XSt → Option (Int32 × XSt)
  | 0, _, _, _, _, _ => none
  | n + 1, x1, x2, x3, x4, τ => (if x4 < 0 then some (x3, τ) else (if x4 < 0 ∨ 200 ≤ x4.toNatClampNeg then none else (if ((x_linkField τ) x4.toNatClampNeg) < (4 : Int32) then (gX_change_41 K n x1 x2 x3 (x4 + (-1)) τ) else (if x4 < 0 ∨ 200 ≤ x4.toNatClampNeg then none else (if ((x_linkTo τ) x4.toNatClampNeg) = x1 then (if x4 < 0 ∨ 200 ≤ x4.toNatClampNeg then none else ((fX_noteChange K ((x_linkFrom τ) x4.toNatClampNeg) τ).bind fun q_12 => ((fX_sendToHeading K x4 x2 q_12.2).bind fun q_13 => (gX_change_41 K n x1 x2 (x3 + 1) (x4 + (-1)) q_13.2)))) else (gX_change_41 K n x1 x2 x3 (x4 + (-1)) τ))))))
def fX_change (K : Nat) (p1 p2 : Int32) (σ : XSt) : Option (Int32 × XSt) := ((fX_isHeading K p1 (x_pmoment σ ((x_moment σ) + (1 : Int32)))).bind fun q_1 => (if q_1.1 = 0 then some ((0 : Int32), q_1.2) else ((fX_isHeading K p2 q_1.2).bind fun q_3 => (if q_3.1 = 0 then some ((0 : Int32), q_3.2) else (if p1 = p2 then some ((0 : Int32), q_3.2) else (gX_change_41 K K p1 p2 (0 : Int32) ((x_links q_3.2) - (1 : Int32)) q_3.2))))))
set_option maxHeartbeats 4000000 in
set_option maxRecDepth 100000 in
theorem kX_change (l : Launch) (dC : Nat → ClassId) (dI : Nat → Nat → Nat) (a : Nat → Nat) (cI cZ : ClassId) (tb : Nat) (K : Nat) (p1 p2 : Int32) (σ σ' : XSt) (r : Int32) (hf : fX_change K p1 p2 σ = some (r, σ')) : xw_Ct l yX_change wdX_change ({ frames := 3, cells := 0, slots := 0, locals := 76 } : Room) (dC, dI) vwCl [(cI, .int), (cZ, .boolean)] (zz tb) ((w_X a cI cZ) σ) ((w_X a cI cZ) σ') [.ref (a 0), .int p1, .int p2] r := by
  refine xw_ofW (cc := cX_change) (maxL := 5) (ret := (some .int)) (lv := [(0, .ref (a 0)), (1, .int p1), (2, .int p2)]) (by decide) rfl (Nat.le_of_ble_eq_true rfl) rfl ?_
  intro p e s m below meth c A hAt hP hD hS ls hl
  obtain ⟨hx, hb, hr, hml, hown, hts, hlocks, hK, hZ, hA⟩ := hAt
  replace hts : ∀ w ∈ lw_g, w.before _ s = true := fun w h => hts w (List.mem_cons_of_mem _ h)
  have L_41 : ∀ (n : Nat) (x1 x2 x3 x4 : Int32) (τ : XSt), gX_change_41 K n x1 x2 x3 x4 τ = some (r, σ') → ∀ (H : Heap) (locs : List Loc), va_P (dC, dI) vwCl ((w_X a cI cZ) τ) H → va_D A ((w_X a cI cZ) τ) → va_S A s.heap H locs → ∀ (ls : Array Slot), lv_has ls 5 [(0, .ref (a 0)), (1, .int x1), (2, .int x2), (3, .int x3), (4, .int x4)] → W p l e ({ frames := 3, cells := 0, slots := 0, locals := 76 } : Room) s m ([.ref (a 0), .int p1, .int p2] : List Value).toArray below meth c H locs 0 0 (MQ below (va_Qi (fun (r2 : Int32) (_ : Unit) => r2 = r) (fun _ t => xw_B (dC, dI) vwCl [(cI, .int), (cZ, .boolean)] A ((w_X a cI cZ) σ') t) A) ([.ref (a 0), .int p1, .int p2] : List Value).toArray s 0 0 A) (F0 m 41 ls []) := by
    intro n
    induction n with
    | zero =>
      intro x1 x2 x3 x4 τ hf
      rw [gX_change_41] at hf
      cases hf
    | succ n ih =>
      intro x1 x2 x3 x4 τ hf H locs hP hD hS ls hl
      rw [gX_change_41] at hf
      refine lv_iload hx hb dX_change_41 (lv_at hl 4 rfl) ?_
      refine lv_if_lt (tgt := 95) hx hb dX_change_43 (by decide) (fun c_6 => ?_) (fun c_6 => ?_)
      · replace hf := it_t hf c_6
        refine lv_iload_n hx hb dX_change_95 rfl (lv_at hl 3 rfl) ?_
        exact xw_iret (wf := (w_X a cI cZ)) hx hb hr hlocks rfl hK hP hD hS hf dX_change_96
      · replace hf := it_f hf c_6
        refine lv_aload_n hx hb dX_change_46 rfl (lv_at hl 0 rfl) ?_
        refine aX_get_linkField hx hb hts hown hK hP dX_change_47 ?_
        refine lv_iload hx hb dX_change_50 (lv_at hl 4 rfl) ?_
        obtain ⟨g_7, hf⟩ := gd_f hf
        refine aX_ld_linkField (σ := τ) (f := (x_linkField τ)) rfl hx hb hK hP g_7 dX_change_52 ?_
        refine lv_iconst (v := (4 : Int32)) hx hb dX_change_53 (by decide) ?_
        refine lv_icmp_lt (tgt := 89) hx hb dX_change_54 (by decide) (fun c_8 => ?_) (fun c_8 => ?_)
        · replace hf := it_t hf c_8
          refine lv_iinc (v := (x4 + (-1))) (lv' := [(4, .int (x4 + (-1))), (0, .ref (a 0)), (1, .int x1), (2, .int x2), (3, .int x3)]) hx hb dX_change_89 hl (k := 4) rfl (congrArg (HAdd.hAdd _) (by decide : Int32.ofInt (-1) = (-1 : Int32))) (by decide) rfl (fun ls hl => ?_)
          refine lv_goto (tgt := 41) hx hb dX_change_92 (by decide) ?_
          exact ih x1 x2 x3 (x4 + (-1)) τ hf _ _ hP hD hS _ (lv_sub hl [1, 2, 3, 4, 0] rfl)
        · replace hf := it_f hf c_8
          refine lv_aload_n hx hb dX_change_57 rfl (lv_at hl 0 rfl) ?_
          refine aX_get_linkTo hx hb hts hown hK hP dX_change_58 ?_
          refine lv_iload hx hb dX_change_61 (lv_at hl 4 rfl) ?_
          obtain ⟨g_9, hf⟩ := gd_f hf
          refine aX_ld_linkTo (σ := τ) (f := (x_linkTo τ)) rfl hx hb hK hP g_9 dX_change_63 ?_
          refine lv_iload_n hx hb dX_change_64 rfl (lv_at hl 1 rfl) ?_
          refine lv_icmp_ne (tgt := 89) hx hb dX_change_65 (by decide) (fun c_10 => ?_) (fun c_10 => ?_)
          · replace hf := it_f hf c_10
            refine lv_iinc (v := (x4 + (-1))) (lv' := [(4, .int (x4 + (-1))), (0, .ref (a 0)), (1, .int x1), (2, .int x2), (3, .int x3)]) hx hb dX_change_89 hl (k := 4) rfl (congrArg (HAdd.hAdd _) (by decide : Int32.ofInt (-1) = (-1 : Int32))) (by decide) rfl (fun ls hl => ?_)
            refine lv_goto (tgt := 41) hx hb dX_change_92 (by decide) ?_
            exact ih x1 x2 x3 (x4 + (-1)) τ hf _ _ hP hD hS _ (lv_sub hl [1, 2, 3, 4, 0] rfl)
          · replace hf := it_t hf c_10
            refine lv_iinc (v := (x3 + 1)) (lv' := [(3, .int (x3 + 1)), (0, .ref (a 0)), (1, .int x1), (2, .int x2), (4, .int x4)]) hx hb dX_change_68 hl (k := 3) rfl (congrArg (HAdd.hAdd _) (by decide : Int32.ofInt (1) = (1 : Int32))) (by decide) rfl (fun ls hl => ?_)
            refine lv_aload_n hx hb dX_change_71 rfl (lv_at hl 1 rfl) ?_
            refine lv_aload_n hx hb dX_change_72 rfl (lv_at hl 1 rfl) ?_
            refine aX_get_linkFrom hx hb hts hown hK hP dX_change_73 ?_
            refine lv_iload hx hb dX_change_76 (lv_at hl 4 rfl) ?_
            obtain ⟨g_11, hf⟩ := gd_f hf
            refine aX_ld_linkFrom (σ := τ) (f := (x_linkFrom τ)) rfl hx hb hK hP g_11 dX_change_78 ?_
            obtain ⟨q_12, hq_12, hf⟩ := bd_s hf
            refine xw_callVv (kX_noteChange l dC dI a cI cZ tb K ((x_linkFrom τ) x4.toNatClampNeg) τ q_12.2 q_12.1 hq_12) ⟨hx, hb, hml, hown, hts⟩ (cwV 1 hts (gw_V mt_120 mt_122 mt_7 mt_25 mt_123) rfl rfl rfl hdX_noteChange ⟨Nat.le_of_ble_eq_true rfl, Nat.le_of_ble_eq_true rfl⟩) hK hP hD hS hA hZ (q0 := 0) (ci := 0) rfl rfl rfl hl.1 rfl (Nat.le_of_ble_eq_true rfl) dX_change_79 ⟨Nat.zero_le _, Nat.zero_le _⟩ (fun H locs hP hD hS => ?_)
            refine lv_aload_n hx hb dX_change_82 rfl (lv_at hl 1 rfl) ?_
            refine lv_iload hx hb dX_change_83 (lv_at hl 4 rfl) ?_
            refine lv_iload_n hx hb dX_change_85 rfl (lv_at hl 3 rfl) ?_
            obtain ⟨q_13, hq_13, hf⟩ := bd_s hf
            refine xw_callVv (kX_sendToHeading l dC dI a cI cZ tb K x4 x2 q_12.2 q_13.2 q_13.1 hq_13) ⟨hx, hb, hml, hown, hts⟩ (cwV 2 hts (gw_V mt_128 mt_130 mt_8 mt_25 mt_131) rfl rfl rfl hdX_sendToHeading ⟨Nat.le_of_ble_eq_true rfl, Nat.le_of_ble_eq_true rfl⟩) hK hP hD hS hA hZ (q0 := 0) (ci := 0) rfl rfl rfl hl.1 rfl (Nat.le_of_ble_eq_true rfl) dX_change_86 ⟨Nat.zero_le _, Nat.zero_le _⟩ (fun H locs hP hD hS => ?_)
            refine lv_iinc (v := (x4 + (-1))) (lv' := [(4, .int (x4 + (-1))), (3, .int (x3 + 1)), (0, .ref (a 0)), (1, .int x1), (2, .int x2)]) hx hb dX_change_89 hl (k := 4) rfl (congrArg (HAdd.hAdd _) (by decide : Int32.ofInt (-1) = (-1 : Int32))) (by decide) rfl (fun ls hl => ?_)
            refine lv_goto (tgt := 41) hx hb dX_change_92 (by decide) ?_
            exact ih x1 x2 (x3 + 1) (x4 + (-1)) q_13.2 hf _ _ hP hD hS _ (lv_sub hl [2, 3, 4, 1, 0] rfl)
  unfold fX_change at hf
  refine lv_aload_n hx hb dX_change_0 rfl (lv_at hl 0 rfl) ?_
  refine lv_dup hx hb dX_change_1 rfl ?_
  refine aX_get_moment (σ := σ) (v := (x_moment σ)) rfl hx hb hts hown hK hP dX_change_2 ?_
  refine lv_iconst (v := (1 : Int32)) hx hb dX_change_5 (by decide) ?_
  refine lv_iadd hx hb dX_change_6 ?_
  refine aX_put_moment (σ := σ) (v := ((x_moment σ) + (1 : Int32))) (τ := (x_pmoment σ ((x_moment σ) + (1 : Int32)))) rfl hx hb hts hown hK hP hD hS dX_change_7 (fun H locs hP hD hS => ?_)
  refine lv_iload_n hx hb dX_change_10 rfl (lv_at hl 1 rfl) ?_
  obtain ⟨q_1, hq_1, hf⟩ := bd_s hf
  refine xw_callS (kX_isHeading l dC dI a cI cZ tb K p1 (x_pmoment σ ((x_moment σ) + (1 : Int32))) q_1.2 q_1.1 hq_1) ⟨hx, hb, hml, hown, hts⟩ (va_cwS 1 hts (gw_S mt_103 mt_104 mt_25 mt_105) rfl rfl rfl hdX_isHeading ⟨Nat.le_of_ble_eq_true rfl, Nat.le_of_ble_eq_true rfl⟩) hK hP hD hS hA hZ rfl hl.1 rfl (Nat.le_of_ble_eq_true rfl) dX_change_11 ⟨Nat.zero_le _, Nat.zero_le _⟩ (fun H locs hP hD hS => ?_)
  refine lv_if_eq (tgt := 29) hx hb dX_change_14 (by decide) (fun c_2 => ?_) (fun c_2 => ?_)
  · replace hf := it_t hf c_2
    refine lv_iconst (v := (0 : Int32)) hx hb dX_change_29 (by decide) ?_
    exact xw_iret (wf := (w_X a cI cZ)) hx hb hr hlocks rfl hK hP hD hS hf dX_change_30
  · replace hf := it_f hf c_2
    refine lv_iload_n hx hb dX_change_17 rfl (lv_at hl 2 rfl) ?_
    obtain ⟨q_3, hq_3, hf⟩ := bd_s hf
    refine xw_callS (kX_isHeading l dC dI a cI cZ tb K p2 q_1.2 q_3.2 q_3.1 hq_3) ⟨hx, hb, hml, hown, hts⟩ (va_cwS 1 hts (gw_S mt_103 mt_104 mt_25 mt_105) rfl rfl rfl hdX_isHeading ⟨Nat.le_of_ble_eq_true rfl, Nat.le_of_ble_eq_true rfl⟩) hK hP hD hS hA hZ rfl hl.1 rfl (Nat.le_of_ble_eq_true rfl) dX_change_18 ⟨Nat.zero_le _, Nat.zero_le _⟩ (fun H locs hP hD hS => ?_)
    refine lv_if_eq (tgt := 29) hx hb dX_change_21 (by decide) (fun c_4 => ?_) (fun c_4 => ?_)
    · replace hf := it_t hf c_4
      refine lv_iconst (v := (0 : Int32)) hx hb dX_change_29 (by decide) ?_
      exact xw_iret (wf := (w_X a cI cZ)) hx hb hr hlocks rfl hK hP hD hS hf dX_change_30
    · replace hf := it_f hf c_4
      refine lv_iload_n hx hb dX_change_24 rfl (lv_at hl 1 rfl) ?_
      refine lv_iload_n hx hb dX_change_25 rfl (lv_at hl 2 rfl) ?_
      refine lv_icmp_ne (tgt := 31) hx hb dX_change_26 (by decide) (fun c_5 => ?_) (fun c_5 => ?_)
      · replace hf := it_f hf c_5
        refine lv_iconst (v := (0 : Int32)) hx hb dX_change_31 (by decide) ?_
        refine lv_istore_n (lv' := [(3, .int (0 : Int32)), (0, .ref (a 0)), (1, .int p1), (2, .int p2)]) hx hb dX_change_32 rfl hl (by decide) rfl (fun ls hl => ?_)
        refine lv_aload_n hx hb dX_change_33 rfl (lv_at hl 1 rfl) ?_
        refine aX_get_links (σ := q_3.2) (v := (x_links q_3.2)) rfl hx hb hts hown hK hP dX_change_34 ?_
        refine lv_iconst (v := (1 : Int32)) hx hb dX_change_37 (by decide) ?_
        refine lv_isub hx hb dX_change_38 ?_
        refine lv_istore (lv' := [(4, .int ((x_links q_3.2) - (1 : Int32))), (3, .int (0 : Int32)), (0, .ref (a 0)), (1, .int p1), (2, .int p2)]) hx hb dX_change_39 hl (by decide) rfl (fun ls hl => ?_)
        exact L_41 K p1 p2 (0 : Int32) ((x_links q_3.2) - (1 : Int32)) q_3.2 hf _ _ hP hD hS _ (lv_sub hl [2, 3, 4, 1, 0] rfl)
      · replace hf := it_t hf c_5
        refine lv_iconst (v := (0 : Int32)) hx hb dX_change_29 (by decide) ?_
        exact xw_iret (wf := (w_X a cI cZ)) hx hb hr hlocks rfl hK hP hD hS hf dX_change_30
def gX_findBroken_10 (K : Nat) : Nat → Int32 → Int32 → Int32 → XSt → Option (Int32 × XSt)
  | 0, _, _, _, _ => none
  | n + 1, x1, x2, x3, τ => (if (x_links τ) ≤ x3 then some ((-1 : Int32), τ) else (if x3 < 0 ∨ 200 ≤ x3.toNatClampNeg then none else (if (4 : Int32) ≤ ((x_linkField τ) x3.toNatClampNeg) then (gX_findBroken_10 K n x1 x2 (x3 + 1) τ) else (if x3 < 0 ∨ 200 ≤ x3.toNatClampNeg then none else (if ((x_linkTo τ) x3.toNatClampNeg) < 0 ∨ 61 ≤ ((x_linkTo τ) x3.toNatClampNeg).toNatClampNeg then none else (if ((x_live τ) ((x_linkTo τ) x3.toNatClampNeg).toNatClampNeg) = 0 then (if x2 = x1 then some (x3, τ) else (gX_findBroken_10 K n x1 (x2 + 1) (x3 + 1) τ)) else (gX_findBroken_10 K n x1 x2 (x3 + 1) τ)))))))
def fX_findBroken (K : Nat) (p1 : Int32) (σ : XSt) : Option (Int32 × XSt) := (if 0 ≤ p1 then (gX_findBroken_10 K K p1 (0 : Int32) (0 : Int32) σ) else some ((-1 : Int32), σ))
set_option maxHeartbeats 4000000 in
set_option maxRecDepth 100000 in
theorem kX_findBroken (l : Launch) (dC : Nat → ClassId) (dI : Nat → Nat → Nat) (a : Nat → Nat) (cI cZ : ClassId) (tb : Nat) (K : Nat) (p1 : Int32) (σ σ' : XSt) (r : Int32) (hf : fX_findBroken K p1 σ = some (r, σ')) : xw_Ct l yX_findBroken wdX_findBroken ({ frames := 0, cells := 0, slots := 0, locals := 0 } : Room) (dC, dI) vwCl [(cI, .int), (cZ, .boolean)] (zz tb) ((w_X a cI cZ) σ) ((w_X a cI cZ) σ') [.ref (a 0), .int p1] r := by
  refine xw_ofW (cc := cX_findBroken) (maxL := 4) (ret := (some .int)) (lv := [(0, .ref (a 0)), (1, .int p1)]) (by decide) rfl (Nat.le_of_ble_eq_true rfl) rfl ?_
  intro p e s m below meth c A hAt hP hD hS ls hl
  obtain ⟨hx, hb, hr, hml, hown, hts, hlocks, hK, hZ, hA⟩ := hAt
  replace hts : ∀ w ∈ lw_g, w.before _ s = true := fun w h => hts w (List.mem_cons_of_mem _ h)
  have L_10 : ∀ (n : Nat) (x1 x2 x3 : Int32) (τ : XSt), gX_findBroken_10 K n x1 x2 x3 τ = some (r, σ') → ∀ (H : Heap) (locs : List Loc), va_P (dC, dI) vwCl ((w_X a cI cZ) τ) H → va_D A ((w_X a cI cZ) τ) → va_S A s.heap H locs → ∀ (ls : Array Slot), lv_has ls 4 [(0, .ref (a 0)), (1, .int x1), (2, .int x2), (3, .int x3)] → W p l e ({ frames := 0, cells := 0, slots := 0, locals := 0 } : Room) s m ([.ref (a 0), .int p1] : List Value).toArray below meth c H locs 0 0 (MQ below (va_Qi (fun (r2 : Int32) (_ : Unit) => r2 = r) (fun _ t => xw_B (dC, dI) vwCl [(cI, .int), (cZ, .boolean)] A ((w_X a cI cZ) σ') t) A) ([.ref (a 0), .int p1] : List Value).toArray s 0 0 A) (F0 m 10 ls []) := by
    intro n
    induction n with
    | zero =>
      intro x1 x2 x3 τ hf
      rw [gX_findBroken_10] at hf
      cases hf
    | succ n ih =>
      intro x1 x2 x3 τ hf H locs hP hD hS ls hl
      rw [gX_findBroken_10] at hf
      refine lv_iload_n hx hb dX_findBroken_10 rfl (lv_at hl 3 rfl) ?_
      refine lv_aload_n hx hb dX_findBroken_11 rfl (lv_at hl 0 rfl) ?_
      refine aX_get_links (σ := τ) (v := (x_links τ)) rfl hx hb hts hown hK hP dX_findBroken_12 ?_
      refine lv_icmp_ge (tgt := 58) hx hb dX_findBroken_15 (by decide) (fun c_2 => ?_) (fun c_2 => ?_)
      · replace hf := it_t hf c_2
        refine lv_iconst (v := (-1 : Int32)) hx hb dX_findBroken_58 (by decide) ?_
        exact xw_iret (wf := (w_X a cI cZ)) hx hb hr hlocks rfl hK hP hD hS hf dX_findBroken_59
      · replace hf := it_f hf c_2
        refine lv_aload_n hx hb dX_findBroken_18 rfl (lv_at hl 0 rfl) ?_
        refine aX_get_linkField hx hb hts hown hK hP dX_findBroken_19 ?_
        refine lv_iload_n hx hb dX_findBroken_22 rfl (lv_at hl 3 rfl) ?_
        obtain ⟨g_3, hf⟩ := gd_f hf
        refine aX_ld_linkField (σ := τ) (f := (x_linkField τ)) rfl hx hb hK hP g_3 dX_findBroken_23 ?_
        refine lv_iconst (v := (4 : Int32)) hx hb dX_findBroken_24 (by decide) ?_
        refine lv_icmp_ge (tgt := 52) hx hb dX_findBroken_25 (by decide) (fun c_4 => ?_) (fun c_4 => ?_)
        · replace hf := it_t hf c_4
          refine lv_iinc (v := (x3 + 1)) (lv' := [(3, .int (x3 + 1)), (0, .ref (a 0)), (1, .int x1), (2, .int x2)]) hx hb dX_findBroken_52 hl (k := 3) rfl (congrArg (HAdd.hAdd _) (by decide : Int32.ofInt (1) = (1 : Int32))) (by decide) rfl (fun ls hl => ?_)
          refine lv_goto (tgt := 10) hx hb dX_findBroken_55 (by decide) ?_
          exact ih x1 x2 (x3 + 1) τ hf _ _ hP hD hS _ (lv_sub hl [1, 2, 3, 0] rfl)
        · replace hf := it_f hf c_4
          refine lv_aload_n hx hb dX_findBroken_28 rfl (lv_at hl 0 rfl) ?_
          refine aX_get_live hx hb hts hown hK hP dX_findBroken_29 ?_
          refine lv_aload_n hx hb dX_findBroken_32 rfl (lv_at hl 0 rfl) ?_
          refine aX_get_linkTo hx hb hts hown hK hP dX_findBroken_33 ?_
          refine lv_iload_n hx hb dX_findBroken_36 rfl (lv_at hl 3 rfl) ?_
          obtain ⟨g_5, hf⟩ := gd_f hf
          refine aX_ld_linkTo (σ := τ) (f := (x_linkTo τ)) rfl hx hb hK hP g_5 dX_findBroken_37 ?_
          obtain ⟨g_6, hf⟩ := gd_f hf
          refine aX_ld_live (σ := τ) (f := (x_live τ)) rfl hx hb hK hP g_6 dX_findBroken_38 ?_
          refine lv_if_ne (tgt := 52) hx hb dX_findBroken_39 (by decide) (fun c_7 => ?_) (fun c_7 => ?_)
          · replace hf := it_f hf c_7
            refine lv_iinc (v := (x3 + 1)) (lv' := [(3, .int (x3 + 1)), (0, .ref (a 0)), (1, .int x1), (2, .int x2)]) hx hb dX_findBroken_52 hl (k := 3) rfl (congrArg (HAdd.hAdd _) (by decide : Int32.ofInt (1) = (1 : Int32))) (by decide) rfl (fun ls hl => ?_)
            refine lv_goto (tgt := 10) hx hb dX_findBroken_55 (by decide) ?_
            exact ih x1 x2 (x3 + 1) τ hf _ _ hP hD hS _ (lv_sub hl [1, 2, 3, 0] rfl)
          · replace hf := it_t hf c_7
            refine lv_iload_n hx hb dX_findBroken_42 rfl (lv_at hl 2 rfl) ?_
            refine lv_iload_n hx hb dX_findBroken_43 rfl (lv_at hl 1 rfl) ?_
            refine lv_icmp_ne (tgt := 49) hx hb dX_findBroken_44 (by decide) (fun c_8 => ?_) (fun c_8 => ?_)
            · replace hf := it_f hf c_8
              refine lv_iinc (v := (x2 + 1)) (lv' := [(2, .int (x2 + 1)), (0, .ref (a 0)), (1, .int x1), (3, .int x3)]) hx hb dX_findBroken_49 hl (k := 2) rfl (congrArg (HAdd.hAdd _) (by decide : Int32.ofInt (1) = (1 : Int32))) (by decide) rfl (fun ls hl => ?_)
              refine lv_iinc (v := (x3 + 1)) (lv' := [(3, .int (x3 + 1)), (2, .int (x2 + 1)), (0, .ref (a 0)), (1, .int x1)]) hx hb dX_findBroken_52 hl (k := 3) rfl (congrArg (HAdd.hAdd _) (by decide : Int32.ofInt (1) = (1 : Int32))) (by decide) rfl (fun ls hl => ?_)
              refine lv_goto (tgt := 10) hx hb dX_findBroken_55 (by decide) ?_
              exact ih x1 (x2 + 1) (x3 + 1) τ hf _ _ hP hD hS _ (lv_sub hl [2, 3, 1, 0] rfl)
            · replace hf := it_t hf c_8
              refine lv_iload_n hx hb dX_findBroken_47 rfl (lv_at hl 3 rfl) ?_
              exact xw_iret (wf := (w_X a cI cZ)) hx hb hr hlocks rfl hK hP hD hS hf dX_findBroken_48
  unfold fX_findBroken at hf
  refine lv_iload_n hx hb dX_findBroken_0 rfl (lv_at hl 1 rfl) ?_
  refine lv_if_ge (tgt := 6) hx hb dX_findBroken_1 (by decide) (fun c_1 => ?_) (fun c_1 => ?_)
  · replace hf := it_t hf c_1
    refine lv_iconst (v := (0 : Int32)) hx hb dX_findBroken_6 (by decide) ?_
    refine lv_istore_n (lv' := [(2, .int (0 : Int32)), (0, .ref (a 0)), (1, .int p1)]) hx hb dX_findBroken_7 rfl hl (by decide) rfl (fun ls hl => ?_)
    refine lv_iconst (v := (0 : Int32)) hx hb dX_findBroken_8 (by decide) ?_
    refine lv_istore_n (lv' := [(3, .int (0 : Int32)), (2, .int (0 : Int32)), (0, .ref (a 0)), (1, .int p1)]) hx hb dX_findBroken_9 rfl hl (by decide) rfl (fun ls hl => ?_)
    exact L_10 K p1 (0 : Int32) (0 : Int32) σ hf _ _ hP hD hS _ (lv_sub hl [2, 3, 1, 0] rfl)
  · replace hf := it_f hf c_1
    refine lv_iconst (v := (-1 : Int32)) hx hb dX_findBroken_4 (by decide) ?_
    exact xw_iret (wf := (w_X a cI cZ)) hx hb hr hlocks rfl hK hP hD hS hf dX_findBroken_5
def fX_broken (K : Nat) (p1 p2 : Int32) (σ : XSt) : Option (Int32 × XSt) := ((fX_findBroken K p1 σ).bind fun q_1 => (if q_1.1 = (-1 : Int32) then some ((-1 : Int32), q_1.2) else (if p2 = 0 then (if q_1.1 < 0 ∨ 200 ≤ q_1.1.toNatClampNeg then none else some (((x_linkFrom q_1.2) q_1.1.toNatClampNeg), q_1.2)) else (if p2 = 1 then (if q_1.1 < 0 ∨ 200 ≤ q_1.1.toNatClampNeg then none else some (((x_linkField q_1.2) q_1.1.toNatClampNeg), q_1.2)) else (if p2 = 2 then (if q_1.1 < 0 ∨ 200 ≤ q_1.1.toNatClampNeg then none else some (((x_linkTo q_1.2) q_1.1.toNatClampNeg), q_1.2)) else some ((-1 : Int32), q_1.2))))))
set_option maxHeartbeats 4000000 in
set_option maxRecDepth 100000 in
theorem kX_broken (l : Launch) (dC : Nat → ClassId) (dI : Nat → Nat → Nat) (a : Nat → Nat) (cI cZ : ClassId) (tb : Nat) (K : Nat) (p1 p2 : Int32) (σ σ' : XSt) (r : Int32) (hf : fX_broken K p1 p2 σ = some (r, σ')) : xw_Ct l yX_broken wdX_broken ({ frames := 1, cells := 0, slots := 0, locals := 23 } : Room) (dC, dI) vwCl [(cI, .int), (cZ, .boolean)] (zz tb) ((w_X a cI cZ) σ) ((w_X a cI cZ) σ') [.ref (a 0), .int p1, .int p2] r := by
  refine xw_ofW (cc := cX_broken) (maxL := 4) (ret := (some .int)) (lv := [(0, .ref (a 0)), (1, .int p1), (2, .int p2)]) (by decide) rfl (Nat.le_of_ble_eq_true rfl) rfl ?_
  intro p e s m below meth c A hAt hP hD hS ls hl
  obtain ⟨hx, hb, hr, hml, hown, hts, hlocks, hK, hZ, hA⟩ := hAt
  replace hts : ∀ w ∈ lw_g, w.before _ s = true := fun w h => hts w (List.mem_cons_of_mem _ h)
  unfold fX_broken at hf
  refine lv_aload_n hx hb dX_broken_0 rfl (lv_at hl 0 rfl) ?_
  refine lv_iload_n hx hb dX_broken_1 rfl (lv_at hl 1 rfl) ?_
  obtain ⟨q_1, hq_1, hf⟩ := bd_s hf
  refine xw_callV (kX_findBroken l dC dI a cI cZ tb K p1 σ q_1.2 q_1.1 hq_1) ⟨hx, hb, hml, hown, hts⟩ (cwV 1 hts (gw_V mt_150 mt_152 mt_11 mt_25 mt_153) rfl rfl rfl hdX_findBroken ⟨Nat.le_of_ble_eq_true rfl, Nat.le_of_ble_eq_true rfl⟩) hK hP hD hS hA hZ (q0 := 0) (ci := 0) rfl rfl rfl hl.1 rfl (Nat.le_of_ble_eq_true rfl) dX_broken_2 ⟨Nat.zero_le _, Nat.zero_le _⟩ (fun H locs hP hD hS => ?_)
  refine lv_istore_n (lv' := [(3, .int q_1.1), (0, .ref (a 0)), (1, .int p1), (2, .int p2)]) hx hb dX_broken_5 rfl hl (by decide) rfl (fun ls hl => ?_)
  refine lv_iload_n hx hb dX_broken_6 rfl (lv_at hl 0 rfl) ?_
  refine lv_iconst (v := (-1 : Int32)) hx hb dX_broken_7 (by decide) ?_
  refine lv_icmp_ne (tgt := 13) hx hb dX_broken_8 (by decide) (fun c_2 => ?_) (fun c_2 => ?_)
  · replace hf := it_f hf c_2
    refine lv_iload_n hx hb dX_broken_13 rfl (lv_at hl 3 rfl) ?_
    by_cases c_3 : p2 = 0
    · replace hf := it_t hf c_3
      refine lv_tableIn (off := 26) (tgt := 40) hx hb dX_broken_14 (by rw [c_3]; decide) (by rw [c_3]; decide) (by rw [c_3]; rfl) (by decide) ?_
      refine lv_aload_n hx hb dX_broken_40 rfl (lv_at hl 1 rfl) ?_
      refine aX_get_linkFrom hx hb hts hown hK hP dX_broken_41 ?_
      refine lv_iload_n hx hb dX_broken_44 rfl (lv_at hl 0 rfl) ?_
      obtain ⟨g_4, hf⟩ := gd_f hf
      refine aX_ld_linkFrom (σ := q_1.2) (f := (x_linkFrom q_1.2)) rfl hx hb hK hP g_4 dX_broken_45 ?_
      exact xw_iret (wf := (w_X a cI cZ)) hx hb hr hlocks rfl hK hP hD hS hf dX_broken_46
    · replace hf := it_f hf c_3
      by_cases c_5 : p2 = 1
      · replace hf := it_t hf c_5
        refine lv_tableIn (off := 33) (tgt := 47) hx hb dX_broken_14 (by rw [c_5]; decide) (by rw [c_5]; decide) (by rw [c_5]; rfl) (by decide) ?_
        refine lv_aload_n hx hb dX_broken_47 rfl (lv_at hl 1 rfl) ?_
        refine aX_get_linkField hx hb hts hown hK hP dX_broken_48 ?_
        refine lv_iload_n hx hb dX_broken_51 rfl (lv_at hl 0 rfl) ?_
        obtain ⟨g_6, hf⟩ := gd_f hf
        refine aX_ld_linkField (σ := q_1.2) (f := (x_linkField q_1.2)) rfl hx hb hK hP g_6 dX_broken_52 ?_
        exact xw_iret (wf := (w_X a cI cZ)) hx hb hr hlocks rfl hK hP hD hS hf dX_broken_53
      · replace hf := it_f hf c_5
        by_cases c_7 : p2 = 2
        · replace hf := it_t hf c_7
          refine lv_tableIn (off := 40) (tgt := 54) hx hb dX_broken_14 (by rw [c_7]; decide) (by rw [c_7]; decide) (by rw [c_7]; rfl) (by decide) ?_
          refine lv_aload_n hx hb dX_broken_54 rfl (lv_at hl 1 rfl) ?_
          refine aX_get_linkTo hx hb hts hown hK hP dX_broken_55 ?_
          refine lv_iload_n hx hb dX_broken_58 rfl (lv_at hl 0 rfl) ?_
          obtain ⟨g_8, hf⟩ := gd_f hf
          refine aX_ld_linkTo (σ := q_1.2) (f := (x_linkTo q_1.2)) rfl hx hb hK hP g_8 dX_broken_59 ?_
          exact xw_iret (wf := (w_X a cI cZ)) hx hb hr hlocks rfl hK hP hD hS hf dX_broken_60
        · replace hf := it_f hf c_7
          refine lv_tableOut (tgt := 61) hx hb dX_broken_14 (by have n_0 := lv_neT c_3 (a := 0) (by decide); have n_1 := lv_neT c_5 (a := 1) (by decide); have n_2 := lv_neT c_7 (a := 2) (by decide); omega) (by decide) ?_
          refine lv_iconst (v := (-1 : Int32)) hx hb dX_broken_61 (by decide) ?_
          exact xw_iret (wf := (w_X a cI cZ)) hx hb hr hlocks rfl hK hP hD hS hf dX_broken_62
  · replace hf := it_t hf c_2
    refine lv_iconst (v := (-1 : Int32)) hx hb dX_broken_11 (by decide) ?_
    exact xw_iret (wf := (w_X a cI cZ)) hx hb hr hlocks rfl hK hP hD hS hf dX_broken_12
def fX_repair (K : Nat) (p1 : Int32) (σ : XSt) : Option (Int32 × XSt) := ((fX_findBroken K p1 (x_pmoment σ ((x_moment σ) + (1 : Int32)))).bind fun q_1 => (if q_1.1 = (-1 : Int32) then some ((-1 : Int32), q_1.2) else (if q_1.1 < 0 ∨ 200 ≤ q_1.1.toNatClampNeg then none else ((fX_noteChange K ((x_linkFrom q_1.2) q_1.1.toNatClampNeg) q_1.2).bind fun q_4 => (if q_1.1 < 0 ∨ 200 ≤ q_1.1.toNatClampNeg then none else (if ((x_linkTo q_4.2) q_1.1.toNatClampNeg) < 0 ∨ 61 ≤ ((x_linkTo q_4.2) q_1.1.toNatClampNeg).toNatClampNeg then none else (if q_1.1 < 0 ∨ 200 ≤ q_1.1.toNatClampNeg then none else (if q_1.1 < 0 ∨ 200 ≤ q_1.1.toNatClampNeg then none else ((fX_hasRoomFor K ((x_linkFrom q_4.2) q_1.1.toNatClampNeg) ((x_linkField q_4.2) q_1.1.toNatClampNeg) ((x_hosts q_4.2) ((x_linkTo q_4.2) q_1.1.toNatClampNeg).toNatClampNeg) q_1.1 q_4.2).bind fun q_9 => (if q_9.1 = 0 then ((fX_removeLink K q_1.1 q_9.2).bind fun q_11 => some ((0 : Int32), q_11.2)) else (if q_1.1 < 0 ∨ 200 ≤ q_1.1.toNatClampNeg then none else some ((1 : Int32), (x_plinkTo q_9.2 (upd (x_linkTo q_9.2) q_1.1.toNatClampNeg ((x_hosts q_4.2) ((x_linkTo q_4.2) q_1.1.toNatClampNeg).toNatClampNeg)))))))))))))))
set_option maxHeartbeats 4000000 in
set_option maxRecDepth 100000 in
theorem kX_repair (l : Launch) (dC : Nat → ClassId) (dI : Nat → Nat → Nat) (a : Nat → Nat) (cI cZ : ClassId) (tb : Nat) (K : Nat) (p1 : Int32) (σ σ' : XSt) (r : Int32) (hf : fX_repair K p1 σ = some (r, σ')) : xw_Ct l yX_repair wdX_repair ({ frames := 4, cells := 0, slots := 0, locals := 92 } : Room) (dC, dI) vwCl [(cI, .int), (cZ, .boolean)] (zz tb) ((w_X a cI cZ) σ) ((w_X a cI cZ) σ') [.ref (a 0), .int p1] r := by
  refine xw_ofW (cc := cX_repair) (maxL := 4) (ret := (some .int)) (lv := [(0, .ref (a 0)), (1, .int p1)]) (by decide) rfl (Nat.le_of_ble_eq_true rfl) rfl ?_
  intro p e s m below meth c A hAt hP hD hS ls hl
  obtain ⟨hx, hb, hr, hml, hown, hts, hlocks, hK, hZ, hA⟩ := hAt
  replace hts : ∀ w ∈ lw_g, w.before _ s = true := fun w h => hts w (List.mem_cons_of_mem _ h)
  unfold fX_repair at hf
  refine lv_aload_n hx hb dX_repair_0 rfl (lv_at hl 0 rfl) ?_
  refine lv_dup hx hb dX_repair_1 rfl ?_
  refine aX_get_moment (σ := σ) (v := (x_moment σ)) rfl hx hb hts hown hK hP dX_repair_2 ?_
  refine lv_iconst (v := (1 : Int32)) hx hb dX_repair_5 (by decide) ?_
  refine lv_iadd hx hb dX_repair_6 ?_
  refine aX_put_moment (σ := σ) (v := ((x_moment σ) + (1 : Int32))) (τ := (x_pmoment σ ((x_moment σ) + (1 : Int32)))) rfl hx hb hts hown hK hP hD hS dX_repair_7 (fun H locs hP hD hS => ?_)
  refine lv_aload_n hx hb dX_repair_10 rfl (lv_at hl 0 rfl) ?_
  refine lv_iload_n hx hb dX_repair_11 rfl (lv_at hl 1 rfl) ?_
  obtain ⟨q_1, hq_1, hf⟩ := bd_s hf
  refine xw_callV (kX_findBroken l dC dI a cI cZ tb K p1 (x_pmoment σ ((x_moment σ) + (1 : Int32))) q_1.2 q_1.1 hq_1) ⟨hx, hb, hml, hown, hts⟩ (cwV 1 hts (gw_V mt_150 mt_152 mt_11 mt_25 mt_153) rfl rfl rfl hdX_findBroken ⟨Nat.le_of_ble_eq_true rfl, Nat.le_of_ble_eq_true rfl⟩) hK hP hD hS hA hZ (q0 := 0) (ci := 0) rfl rfl rfl hl.1 rfl (Nat.le_of_ble_eq_true rfl) dX_repair_12 ⟨Nat.zero_le _, Nat.zero_le _⟩ (fun H locs hP hD hS => ?_)
  refine lv_istore_n (lv' := [(2, .int q_1.1), (0, .ref (a 0)), (1, .int p1)]) hx hb dX_repair_15 rfl hl (by decide) rfl (fun ls hl => ?_)
  refine lv_iload_n hx hb dX_repair_16 rfl (lv_at hl 0 rfl) ?_
  refine lv_iconst (v := (-1 : Int32)) hx hb dX_repair_17 (by decide) ?_
  refine lv_icmp_ne (tgt := 23) hx hb dX_repair_18 (by decide) (fun c_2 => ?_) (fun c_2 => ?_)
  · replace hf := it_f hf c_2
    refine lv_aload_n hx hb dX_repair_23 rfl (lv_at hl 1 rfl) ?_
    refine lv_aload_n hx hb dX_repair_24 rfl (lv_at hl 1 rfl) ?_
    refine aX_get_linkFrom hx hb hts hown hK hP dX_repair_25 ?_
    refine lv_iload_n hx hb dX_repair_28 rfl (lv_at hl 0 rfl) ?_
    obtain ⟨g_3, hf⟩ := gd_f hf
    refine aX_ld_linkFrom (σ := q_1.2) (f := (x_linkFrom q_1.2)) rfl hx hb hK hP g_3 dX_repair_29 ?_
    obtain ⟨q_4, hq_4, hf⟩ := bd_s hf
    refine xw_callVv (kX_noteChange l dC dI a cI cZ tb K ((x_linkFrom q_1.2) q_1.1.toNatClampNeg) q_1.2 q_4.2 q_4.1 hq_4) ⟨hx, hb, hml, hown, hts⟩ (cwV 1 hts (gw_V mt_120 mt_122 mt_7 mt_25 mt_123) rfl rfl rfl hdX_noteChange ⟨Nat.le_of_ble_eq_true rfl, Nat.le_of_ble_eq_true rfl⟩) hK hP hD hS hA hZ (q0 := 0) (ci := 0) rfl rfl rfl hl.1 rfl (Nat.le_of_ble_eq_true rfl) dX_repair_30 ⟨Nat.zero_le _, Nat.zero_le _⟩ (fun H locs hP hD hS => ?_)
    refine lv_aload_n hx hb dX_repair_33 rfl (lv_at hl 1 rfl) ?_
    refine aX_get_hosts hx hb hts hown hK hP dX_repair_34 ?_
    refine lv_aload_n hx hb dX_repair_37 rfl (lv_at hl 1 rfl) ?_
    refine aX_get_linkTo hx hb hts hown hK hP dX_repair_38 ?_
    refine lv_iload_n hx hb dX_repair_41 rfl (lv_at hl 0 rfl) ?_
    obtain ⟨g_5, hf⟩ := gd_f hf
    refine aX_ld_linkTo (σ := q_4.2) (f := (x_linkTo q_4.2)) rfl hx hb hK hP g_5 dX_repair_42 ?_
    obtain ⟨g_6, hf⟩ := gd_f hf
    refine aX_ld_hosts (σ := q_4.2) (f := (x_hosts q_4.2)) rfl hx hb hK hP g_6 dX_repair_43 ?_
    refine lv_istore_n (lv' := [(3, .int ((x_hosts q_4.2) ((x_linkTo q_4.2) q_1.1.toNatClampNeg).toNatClampNeg)), (2, .int q_1.1), (0, .ref (a 0)), (1, .int p1)]) hx hb dX_repair_44 rfl hl (by decide) rfl (fun ls hl => ?_)
    refine lv_aload_n hx hb dX_repair_45 rfl (lv_at hl 2 rfl) ?_
    refine lv_aload_n hx hb dX_repair_46 rfl (lv_at hl 2 rfl) ?_
    refine aX_get_linkFrom hx hb hts hown hK hP dX_repair_47 ?_
    refine lv_iload_n hx hb dX_repair_50 rfl (lv_at hl 1 rfl) ?_
    obtain ⟨g_7, hf⟩ := gd_f hf
    refine aX_ld_linkFrom (σ := q_4.2) (f := (x_linkFrom q_4.2)) rfl hx hb hK hP g_7 dX_repair_51 ?_
    refine lv_aload_n hx hb dX_repair_52 rfl (lv_at hl 2 rfl) ?_
    refine aX_get_linkField hx hb hts hown hK hP dX_repair_53 ?_
    refine lv_iload_n hx hb dX_repair_56 rfl (lv_at hl 1 rfl) ?_
    obtain ⟨g_8, hf⟩ := gd_f hf
    refine aX_ld_linkField (σ := q_4.2) (f := (x_linkField q_4.2)) rfl hx hb hK hP g_8 dX_repair_57 ?_
    refine lv_iload_n hx hb dX_repair_58 rfl (lv_at hl 0 rfl) ?_
    refine lv_iload_n hx hb dX_repair_59 rfl (lv_at hl 1 rfl) ?_
    obtain ⟨q_9, hq_9, hf⟩ := bd_s hf
    refine xw_callV (kX_hasRoomFor l dC dI a cI cZ tb K ((x_linkFrom q_4.2) q_1.1.toNatClampNeg) ((x_linkField q_4.2) q_1.1.toNatClampNeg) ((x_hosts q_4.2) ((x_linkTo q_4.2) q_1.1.toNatClampNeg).toNatClampNeg) q_1.1 q_4.2 q_9.2 q_9.1 hq_9) ⟨hx, hb, hml, hown, hts⟩ (cwV 4 hts (gw_V mt_87 mt_89 mt_0 mt_25 mt_90) rfl rfl rfl hdX_hasRoomFor ⟨Nat.le_of_ble_eq_true rfl, Nat.le_of_ble_eq_true rfl⟩) hK hP hD hS hA hZ (q0 := 0) (ci := 0) rfl rfl rfl hl.1 rfl (Nat.le_of_ble_eq_true rfl) dX_repair_60 ⟨Nat.zero_le _, Nat.zero_le _⟩ (fun H locs hP hD hS => ?_)
    refine lv_if_eq (tgt := 75) hx hb dX_repair_63 (by decide) (fun c_10 => ?_) (fun c_10 => ?_)
    · replace hf := it_t hf c_10
      refine lv_aload_n hx hb dX_repair_75 rfl (lv_at hl 2 rfl) ?_
      refine lv_iload_n hx hb dX_repair_76 rfl (lv_at hl 1 rfl) ?_
      obtain ⟨q_11, hq_11, hf⟩ := bd_s hf
      refine xw_callVv (kX_removeLink l dC dI a cI cZ tb K q_1.1 q_9.2 q_11.2 q_11.1 hq_11) ⟨hx, hb, hml, hown, hts⟩ (cwV 1 hts (gw_V mt_139 mt_141 mt_10 mt_25 mt_142) rfl rfl rfl hdX_removeLink ⟨Nat.le_of_ble_eq_true rfl, Nat.le_of_ble_eq_true rfl⟩) hK hP hD hS hA hZ (q0 := 0) (ci := 0) rfl rfl rfl hl.1 rfl (Nat.le_of_ble_eq_true rfl) dX_repair_77 ⟨Nat.zero_le _, Nat.zero_le _⟩ (fun H locs hP hD hS => ?_)
      refine lv_iconst (v := (0 : Int32)) hx hb dX_repair_80 (by decide) ?_
      exact xw_iret (wf := (w_X a cI cZ)) hx hb hr hlocks rfl hK hP hD hS hf dX_repair_81
    · replace hf := it_f hf c_10
      refine lv_aload_n hx hb dX_repair_66 rfl (lv_at hl 2 rfl) ?_
      refine aX_get_linkTo hx hb hts hown hK hP dX_repair_67 ?_
      refine lv_iload_n hx hb dX_repair_70 rfl (lv_at hl 1 rfl) ?_
      refine lv_iload_n hx hb dX_repair_71 rfl (lv_at hl 0 rfl) ?_
      obtain ⟨g_12, hf⟩ := gd_f hf
      refine aX_st_linkTo (σ := q_9.2) (f := (x_linkTo q_9.2)) (x := ((x_hosts q_4.2) ((x_linkTo q_4.2) q_1.1.toNatClampNeg).toNatClampNeg)) (τ := (x_plinkTo q_9.2 (upd (x_linkTo q_9.2) q_1.1.toNatClampNeg ((x_hosts q_4.2) ((x_linkTo q_4.2) q_1.1.toNatClampNeg).toNatClampNeg)))) rfl rfl hx hb hK hP hD hS g_12 dX_repair_72 (fun H locs hP hD hS => ?_)
      refine lv_iconst (v := (1 : Int32)) hx hb dX_repair_73 (by decide) ?_
      exact xw_iret (wf := (w_X a cI cZ)) hx hb hr hlocks rfl hK hP hD hS hf dX_repair_74
  · replace hf := it_t hf c_2
    refine lv_iconst (v := (-1 : Int32)) hx hb dX_repair_21 (by decide) ?_
    exact xw_iret (wf := (w_X a cI cZ)) hx hb hr hlocks rfl hK hP hD hS hf dX_repair_22
def gX_chain_30 (K : Nat) : Nat → Int32 → Int32 → Int32 → Int32 → XSt → Option (Int32 × XSt)
  | 0, _, _, _, _, _ => none
  | n + 1, x1, x2, x3, x4, τ => (if x2 ≤ x4 then some (x3, τ) else (if x3 < 0 ∨ 61 ≤ x3.toNatClampNeg then none else (gX_chain_30 K n x1 x2 ((x_hosts τ) x3.toNatClampNeg) (x4 + 1) τ)))
def fX_chain (K : Nat) (p1 p2 : Int32) (σ : XSt) : Option (Int32 × XSt) := ((fX_isLive K p1 σ).bind fun q_1 => (if q_1.1 = 0 then some ((0 : Int32), q_1.2) else (if p2 < 0 then some ((0 : Int32), q_1.2) else (if p2 < (60 : Int32) then (if p1 < 0 ∨ 61 ≤ p1.toNatClampNeg then none else (gX_chain_30 K K p1 p2 ((x_hosts q_1.2) p1.toNatClampNeg) (0 : Int32) q_1.2)) else some ((0 : Int32), q_1.2)))))
set_option maxHeartbeats 4000000 in
set_option maxRecDepth 100000 in
theorem kX_chain (l : Launch) (dC : Nat → ClassId) (dI : Nat → Nat → Nat) (a : Nat → Nat) (cI cZ : ClassId) (tb : Nat) (K : Nat) (p1 p2 : Int32) (σ σ' : XSt) (r : Int32) (hf : fX_chain K p1 p2 σ = some (r, σ')) : xw_Ct l yX_chain wdX_chain ({ frames := 2, cells := 0, slots := 0, locals := 42 } : Room) (dC, dI) vwCl [(cI, .int), (cZ, .boolean)] (zz tb) ((w_X a cI cZ) σ) ((w_X a cI cZ) σ') [.ref (a 0), .int p1, .int p2] r := by
  refine xw_ofW (cc := cX_chain) (maxL := 5) (ret := (some .int)) (lv := [(0, .ref (a 0)), (1, .int p1), (2, .int p2)]) (by decide) rfl (Nat.le_of_ble_eq_true rfl) rfl ?_
  intro p e s m below meth c A hAt hP hD hS ls hl
  obtain ⟨hx, hb, hr, hml, hown, hts, hlocks, hK, hZ, hA⟩ := hAt
  replace hts : ∀ w ∈ lw_g, w.before _ s = true := fun w h => hts w (List.mem_cons_of_mem _ h)
  have L_30 : ∀ (n : Nat) (x1 x2 x3 x4 : Int32) (τ : XSt), gX_chain_30 K n x1 x2 x3 x4 τ = some (r, σ') → ∀ (H : Heap) (locs : List Loc), va_P (dC, dI) vwCl ((w_X a cI cZ) τ) H → va_D A ((w_X a cI cZ) τ) → va_S A s.heap H locs → ∀ (ls : Array Slot), lv_has ls 5 [(0, .ref (a 0)), (1, .int x1), (2, .int x2), (3, .int x3), (4, .int x4)] → W p l e ({ frames := 2, cells := 0, slots := 0, locals := 42 } : Room) s m ([.ref (a 0), .int p1, .int p2] : List Value).toArray below meth c H locs 0 0 (MQ below (va_Qi (fun (r2 : Int32) (_ : Unit) => r2 = r) (fun _ t => xw_B (dC, dI) vwCl [(cI, .int), (cZ, .boolean)] A ((w_X a cI cZ) σ') t) A) ([.ref (a 0), .int p1, .int p2] : List Value).toArray s 0 0 A) (F0 m 30 ls []) := by
    intro n
    induction n with
    | zero =>
      intro x1 x2 x3 x4 τ hf
      rw [gX_chain_30] at hf
      cases hf
    | succ n ih =>
      intro x1 x2 x3 x4 τ hf H locs hP hD hS ls hl
      rw [gX_chain_30] at hf
      refine lv_iload hx hb dX_chain_30 (lv_at hl 4 rfl) ?_
      refine lv_iload_n hx hb dX_chain_32 rfl (lv_at hl 2 rfl) ?_
      refine lv_icmp_ge (tgt := 49) hx hb dX_chain_33 (by decide) (fun c_6 => ?_) (fun c_6 => ?_)
      · replace hf := it_t hf c_6
        refine lv_iload_n hx hb dX_chain_49 rfl (lv_at hl 3 rfl) ?_
        exact xw_iret (wf := (w_X a cI cZ)) hx hb hr hlocks rfl hK hP hD hS hf dX_chain_50
      · replace hf := it_f hf c_6
        refine lv_aload_n hx hb dX_chain_36 rfl (lv_at hl 0 rfl) ?_
        refine aX_get_hosts hx hb hts hown hK hP dX_chain_37 ?_
        refine lv_iload_n hx hb dX_chain_40 rfl (lv_at hl 3 rfl) ?_
        obtain ⟨g_7, hf⟩ := gd_f hf
        refine aX_ld_hosts (σ := τ) (f := (x_hosts τ)) rfl hx hb hK hP g_7 dX_chain_41 ?_
        refine lv_istore_n (lv' := [(3, .int ((x_hosts τ) x3.toNatClampNeg)), (0, .ref (a 0)), (1, .int x1), (2, .int x2), (4, .int x4)]) hx hb dX_chain_42 rfl hl (by decide) rfl (fun ls hl => ?_)
        refine lv_iinc (v := (x4 + 1)) (lv' := [(4, .int (x4 + 1)), (3, .int ((x_hosts τ) x3.toNatClampNeg)), (0, .ref (a 0)), (1, .int x1), (2, .int x2)]) hx hb dX_chain_43 hl (k := 4) rfl (congrArg (HAdd.hAdd _) (by decide : Int32.ofInt (1) = (1 : Int32))) (by decide) rfl (fun ls hl => ?_)
        refine lv_goto (tgt := 30) hx hb dX_chain_46 (by decide) ?_
        exact ih x1 x2 ((x_hosts τ) x3.toNatClampNeg) (x4 + 1) τ hf _ _ hP hD hS _ (lv_sub hl [2, 3, 4, 1, 0] rfl)
  unfold fX_chain at hf
  refine lv_aload_n hx hb dX_chain_0 rfl (lv_at hl 0 rfl) ?_
  refine lv_iload_n hx hb dX_chain_1 rfl (lv_at hl 1 rfl) ?_
  obtain ⟨q_1, hq_1, hf⟩ := bd_s hf
  refine xw_callV (kX_isLive l dC dI a cI cZ tb K p1 σ q_1.2 q_1.1 hq_1) ⟨hx, hb, hml, hown, hts⟩ (cwV 1 hts (gw_V mt_91 mt_93 mt_1 mt_25 mt_94) rfl rfl rfl hdX_isLive ⟨Nat.le_of_ble_eq_true rfl, Nat.le_of_ble_eq_true rfl⟩) hK hP hD hS hA hZ (q0 := 0) (ci := 0) rfl rfl rfl hl.1 rfl (Nat.le_of_ble_eq_true rfl) dX_chain_2 ⟨Nat.zero_le _, Nat.zero_le _⟩ (fun H locs hP hD hS => ?_)
  refine lv_if_eq (tgt := 18) hx hb dX_chain_5 (by decide) (fun c_2 => ?_) (fun c_2 => ?_)
  · replace hf := it_t hf c_2
    refine lv_iconst (v := (0 : Int32)) hx hb dX_chain_18 (by decide) ?_
    exact xw_iret (wf := (w_X a cI cZ)) hx hb hr hlocks rfl hK hP hD hS hf dX_chain_19
  · replace hf := it_f hf c_2
    refine lv_iload_n hx hb dX_chain_8 rfl (lv_at hl 2 rfl) ?_
    refine lv_if_lt (tgt := 18) hx hb dX_chain_9 (by decide) (fun c_3 => ?_) (fun c_3 => ?_)
    · replace hf := it_t hf c_3
      refine lv_iconst (v := (0 : Int32)) hx hb dX_chain_18 (by decide) ?_
      exact xw_iret (wf := (w_X a cI cZ)) hx hb hr hlocks rfl hK hP hD hS hf dX_chain_19
    · replace hf := it_f hf c_3
      refine lv_iload_n hx hb dX_chain_12 rfl (lv_at hl 2 rfl) ?_
      refine lv_bipush (v := (60 : Int32)) hx hb dX_chain_13 (by decide) ?_
      refine lv_icmp_lt (tgt := 20) hx hb dX_chain_15 (by decide) (fun c_4 => ?_) (fun c_4 => ?_)
      · replace hf := it_t hf c_4
        refine lv_aload_n hx hb dX_chain_20 rfl (lv_at hl 0 rfl) ?_
        refine aX_get_hosts hx hb hts hown hK hP dX_chain_21 ?_
        refine lv_iload_n hx hb dX_chain_24 rfl (lv_at hl 1 rfl) ?_
        obtain ⟨g_5, hf⟩ := gd_f hf
        refine aX_ld_hosts (σ := q_1.2) (f := (x_hosts q_1.2)) rfl hx hb hK hP g_5 dX_chain_25 ?_
        refine lv_istore_n (lv' := [(3, .int ((x_hosts q_1.2) p1.toNatClampNeg)), (0, .ref (a 0)), (1, .int p1), (2, .int p2)]) hx hb dX_chain_26 rfl hl (by decide) rfl (fun ls hl => ?_)
        refine lv_iconst (v := (0 : Int32)) hx hb dX_chain_27 (by decide) ?_
        refine lv_istore (lv' := [(4, .int (0 : Int32)), (3, .int ((x_hosts q_1.2) p1.toNatClampNeg)), (0, .ref (a 0)), (1, .int p1), (2, .int p2)]) hx hb dX_chain_28 hl (by decide) rfl (fun ls hl => ?_)
        exact L_30 K p1 p2 ((x_hosts q_1.2) p1.toNatClampNeg) (0 : Int32) q_1.2 hf _ _ hP hD hS _ (lv_sub hl [2, 3, 4, 1, 0] rfl)
      · replace hf := it_f hf c_4
        refine lv_iconst (v := (0 : Int32)) hx hb dX_chain_18 (by decide) ?_
        exact xw_iret (wf := (w_X a cI cZ)) hx hb hr hlocks rfl hK hP hD hS hf dX_chain_19
end
section
def fX_ring (K : Nat) (p1 : Int32) (σ : XSt) : Option (Int32 × XSt) := (if p1 < 0 then some ((0 : Int32), σ) else (if (x_refusedWayLength σ) ≤ p1 then some ((0 : Int32), σ) else (if p1 < 0 ∨ 60 ≤ p1.toNatClampNeg then none else some (((x_refusedWay σ) p1.toNatClampNeg), σ))))
set_option maxHeartbeats 4000000 in
set_option maxRecDepth 100000 in
theorem kX_ring (l : Launch) (dC : Nat → ClassId) (dI : Nat → Nat → Nat) (a : Nat → Nat) (cI cZ : ClassId) (tb : Nat) (K : Nat) (p1 : Int32) (σ σ' : XSt) (r : Int32) (hf : fX_ring K p1 σ = some (r, σ')) : xw_Ct l yX_ring wdX_ring ({ frames := 0, cells := 0, slots := 0, locals := 0 } : Room) (dC, dI) vwCl [(cI, .int), (cZ, .boolean)] (zz tb) ((w_X a cI cZ) σ) ((w_X a cI cZ) σ') [.ref (a 0), .int p1] r := by
  refine xw_ofW (cc := cX_ring) (maxL := 2) (ret := (some .int)) (lv := [(0, .ref (a 0)), (1, .int p1)]) (by decide) rfl (Nat.le_of_ble_eq_true rfl) rfl ?_
  intro p e s m below meth c A hAt hP hD hS ls hl
  obtain ⟨hx, hb, hr, hml, hown, hts, hlocks, hK, hZ, hA⟩ := hAt
  replace hts : ∀ w ∈ lw_g, w.before _ s = true := fun w h => hts w (List.mem_cons_of_mem _ h)
  unfold fX_ring at hf
  refine lv_iload_n hx hb dX_ring_0 rfl (lv_at hl 1 rfl) ?_
  refine lv_if_lt (tgt := 21) hx hb dX_ring_1 (by decide) (fun c_1 => ?_) (fun c_1 => ?_)
  · replace hf := it_t hf c_1
    refine lv_iconst (v := (0 : Int32)) hx hb dX_ring_21 (by decide) ?_
    exact xw_iret (wf := (w_X a cI cZ)) hx hb hr hlocks rfl hK hP hD hS hf dX_ring_22
  · replace hf := it_f hf c_1
    refine lv_iload_n hx hb dX_ring_4 rfl (lv_at hl 1 rfl) ?_
    refine lv_aload_n hx hb dX_ring_5 rfl (lv_at hl 0 rfl) ?_
    refine aX_get_refusedWayLength (σ := σ) (v := (x_refusedWayLength σ)) rfl hx hb hts hown hK hP dX_ring_6 ?_
    refine lv_icmp_ge (tgt := 21) hx hb dX_ring_9 (by decide) (fun c_2 => ?_) (fun c_2 => ?_)
    · replace hf := it_t hf c_2
      refine lv_iconst (v := (0 : Int32)) hx hb dX_ring_21 (by decide) ?_
      exact xw_iret (wf := (w_X a cI cZ)) hx hb hr hlocks rfl hK hP hD hS hf dX_ring_22
    · replace hf := it_f hf c_2
      refine lv_aload_n hx hb dX_ring_12 rfl (lv_at hl 0 rfl) ?_
      refine aX_get_refusedWay hx hb hts hown hK hP dX_ring_13 ?_
      refine lv_iload_n hx hb dX_ring_16 rfl (lv_at hl 1 rfl) ?_
      obtain ⟨g_3, hf⟩ := gd_f hf
      refine aX_ld_refusedWay (σ := σ) (f := (x_refusedWay σ)) rfl hx hb hK hP g_3 dX_ring_17 ?_
      refine lv_goto (tgt := 22) hx hb dX_ring_18 (by decide) ?_
      exact xw_iret (wf := (w_X a cI cZ)) hx hb hr hlocks rfl hK hP hD hS hf dX_ring_22
def fX_host (K : Nat) (p1 : Int32) (σ : XSt) : Option (Int32 × XSt) := ((fX_isLive K p1 σ).bind fun q_1 => (if q_1.1 = 0 then some ((0 : Int32), q_1.2) else (if p1 < 0 ∨ 61 ≤ p1.toNatClampNeg then none else some (((x_hosts q_1.2) p1.toNatClampNeg), q_1.2))))
set_option maxHeartbeats 4000000 in
set_option maxRecDepth 100000 in
theorem kX_host (l : Launch) (dC : Nat → ClassId) (dI : Nat → Nat → Nat) (a : Nat → Nat) (cI cZ : ClassId) (tb : Nat) (K : Nat) (p1 : Int32) (σ σ' : XSt) (r : Int32) (hf : fX_host K p1 σ = some (r, σ')) : xw_Ct l yX_host wdX_host ({ frames := 2, cells := 0, slots := 0, locals := 42 } : Room) (dC, dI) vwCl [(cI, .int), (cZ, .boolean)] (zz tb) ((w_X a cI cZ) σ) ((w_X a cI cZ) σ') [.ref (a 0), .int p1] r := by
  refine xw_ofW (cc := cX_host) (maxL := 2) (ret := (some .int)) (lv := [(0, .ref (a 0)), (1, .int p1)]) (by decide) rfl (Nat.le_of_ble_eq_true rfl) rfl ?_
  intro p e s m below meth c A hAt hP hD hS ls hl
  obtain ⟨hx, hb, hr, hml, hown, hts, hlocks, hK, hZ, hA⟩ := hAt
  replace hts : ∀ w ∈ lw_g, w.before _ s = true := fun w h => hts w (List.mem_cons_of_mem _ h)
  unfold fX_host at hf
  refine lv_aload_n hx hb dX_host_0 rfl (lv_at hl 0 rfl) ?_
  refine lv_iload_n hx hb dX_host_1 rfl (lv_at hl 1 rfl) ?_
  obtain ⟨q_1, hq_1, hf⟩ := bd_s hf
  refine xw_callV (kX_isLive l dC dI a cI cZ tb K p1 σ q_1.2 q_1.1 hq_1) ⟨hx, hb, hml, hown, hts⟩ (cwV 1 hts (gw_V mt_91 mt_93 mt_1 mt_25 mt_94) rfl rfl rfl hdX_isLive ⟨Nat.le_of_ble_eq_true rfl, Nat.le_of_ble_eq_true rfl⟩) hK hP hD hS hA hZ (q0 := 0) (ci := 0) rfl rfl rfl hl.1 rfl (Nat.le_of_ble_eq_true rfl) dX_host_2 ⟨Nat.zero_le _, Nat.zero_le _⟩ (fun H locs hP hD hS => ?_)
  refine lv_if_eq (tgt := 17) hx hb dX_host_5 (by decide) (fun c_2 => ?_) (fun c_2 => ?_)
  · replace hf := it_t hf c_2
    refine lv_iconst (v := (0 : Int32)) hx hb dX_host_17 (by decide) ?_
    exact xw_iret (wf := (w_X a cI cZ)) hx hb hr hlocks rfl hK hP hD hS hf dX_host_18
  · replace hf := it_f hf c_2
    refine lv_aload_n hx hb dX_host_8 rfl (lv_at hl 0 rfl) ?_
    refine aX_get_hosts hx hb hts hown hK hP dX_host_9 ?_
    refine lv_iload_n hx hb dX_host_12 rfl (lv_at hl 1 rfl) ?_
    obtain ⟨g_3, hf⟩ := gd_f hf
    refine aX_ld_hosts (σ := q_1.2) (f := (x_hosts q_1.2)) rfl hx hb hK hP g_3 dX_host_13 ?_
    refine lv_goto (tgt := 18) hx hb dX_host_14 (by decide) ?_
    exact xw_iret (wf := (w_X a cI cZ)) hx hb hr hlocks rfl hK hP hD hS hf dX_host_18
def gX_move_35 (K : Nat) : Nat → Int32 → Int32 → Int32 → Int32 → XSt → Option (Int32 × XSt)
  | 0, _, _, _, _, _ => none
  | n + 1, x1, x2, x3, x4, τ => (if (x_records τ) < x4 then some (x3, τ) else (if x4 = x1 then (if x4 < 0 ∨ 61 ≤ x4.toNatClampNeg then none else (if ((x_houses τ) x4.toNatClampNeg) = x2 then (gX_move_35 K n x1 x2 x3 (x4 + 1) τ) else (if x4 < 0 ∨ 61 ≤ x4.toNatClampNeg then none else (gX_move_35 K n x1 x2 (x3 + 1) (x4 + 1) (x_phouses τ (upd (x_houses τ) x4.toNatClampNeg x2)))))) else (if x4 < 0 ∨ 61 ≤ x4.toNatClampNeg then none else (if ((x_live τ) x4.toNatClampNeg) = 0 then (gX_move_35 K n x1 x2 x3 (x4 + 1) τ) else ((fX_liesIn K x4 x1 τ).bind fun q_14 => (if q_14.1 = 0 then (gX_move_35 K n x1 x2 x3 (x4 + 1) q_14.2) else (if x4 < 0 ∨ 61 ≤ x4.toNatClampNeg then none else (if ((x_houses q_14.2) x4.toNatClampNeg) = x2 then (gX_move_35 K n x1 x2 x3 (x4 + 1) q_14.2) else (if x4 < 0 ∨ 61 ≤ x4.toNatClampNeg then none else (gX_move_35 K n x1 x2 (x3 + 1) (x4 + 1) (x_phouses q_14.2 (upd (x_houses q_14.2) x4.toNatClampNeg x2))))))))))))
def fX_move (K : Nat) (p1 p2 : Int32) (σ : XSt) : Option (Int32 × XSt) := ((fX_isLive K p1 (x_pmoment σ ((x_moment σ) + (1 : Int32)))).bind fun q_1 => (if q_1.1 = 0 then some ((0 : Int32), q_1.2) else (if p2 < 0 then some ((0 : Int32), q_1.2) else (if p2 ≤ (9 : Int32) then (gX_move_35 K K p1 p2 (0 : Int32) (1 : Int32) q_1.2) else some ((0 : Int32), q_1.2)))))
set_option maxHeartbeats 4000000 in
set_option maxRecDepth 100000 in
theorem kX_move (l : Launch) (dC : Nat → ClassId) (dI : Nat → Nat → Nat) (a : Nat → Nat) (cI cZ : ClassId) (tb : Nat) (K : Nat) (p1 p2 : Int32) (σ σ' : XSt) (r : Int32) (hf : fX_move K p1 p2 σ = some (r, σ')) : xw_Ct l yX_move wdX_move ({ frames := 2, cells := 0, slots := 0, locals := 42 } : Room) (dC, dI) vwCl [(cI, .int), (cZ, .boolean)] (zz tb) ((w_X a cI cZ) σ) ((w_X a cI cZ) σ') [.ref (a 0), .int p1, .int p2] r := by
  refine xw_ofW (cc := cX_move) (maxL := 6) (ret := (some .int)) (lv := [(0, .ref (a 0)), (1, .int p1), (2, .int p2)]) (by decide) rfl (Nat.le_of_ble_eq_true rfl) rfl ?_
  intro p e s m below meth c A hAt hP hD hS ls hl
  obtain ⟨hx, hb, hr, hml, hown, hts, hlocks, hK, hZ, hA⟩ := hAt
  replace hts : ∀ w ∈ lw_g, w.before _ s = true := fun w h => hts w (List.mem_cons_of_mem _ h)
  have L_35 : ∀ (n : Nat) (x1 x2 x3 x4 : Int32) (τ : XSt), gX_move_35 K n x1 x2 x3 x4 τ = some (r, σ') → ∀ (H : Heap) (locs : List Loc), va_P (dC, dI) vwCl ((w_X a cI cZ) τ) H → va_D A ((w_X a cI cZ) τ) → va_S A s.heap H locs → ∀ (ls : Array Slot), lv_has ls 6 [(0, .ref (a 0)), (1, .int x1), (2, .int x2), (3, .int x3), (4, .int x4)] → W p l e ({ frames := 2, cells := 0, slots := 0, locals := 42 } : Room) s m ([.ref (a 0), .int p1, .int p2] : List Value).toArray below meth c H locs 0 0 (MQ below (va_Qi (fun (r2 : Int32) (_ : Unit) => r2 = r) (fun _ t => xw_B (dC, dI) vwCl [(cI, .int), (cZ, .boolean)] A ((w_X a cI cZ) σ') t) A) ([.ref (a 0), .int p1, .int p2] : List Value).toArray s 0 0 A) (F0 m 35 ls []) := by
    intro n
    induction n with
    | zero =>
      intro x1 x2 x3 x4 τ hf
      rw [gX_move_35] at hf
      cases hf
    | succ n ih =>
      intro x1 x2 x3 x4 τ hf H locs hP hD hS ls hl
      rw [gX_move_35] at hf
      refine lv_iload hx hb dX_move_35 (lv_at hl 4 rfl) ?_
      refine lv_aload_n hx hb dX_move_37 rfl (lv_at hl 0 rfl) ?_
      refine aX_get_records (σ := τ) (v := (x_records τ)) rfl hx hb hts hown hK hP dX_move_38 ?_
      refine lv_icmp_gt (tgt := 110) hx hb dX_move_41 (by decide) (fun c_5 => ?_) (fun c_5 => ?_)
      · replace hf := it_t hf c_5
        refine lv_iload_n hx hb dX_move_110 rfl (lv_at hl 3 rfl) ?_
        exact xw_iret (wf := (w_X a cI cZ)) hx hb hr hlocks rfl hK hP hD hS hf dX_move_111
      · replace hf := it_f hf c_5
        refine lv_iload hx hb dX_move_44 (lv_at hl 4 rfl) ?_
        refine lv_iload_n hx hb dX_move_46 rfl (lv_at hl 1 rfl) ?_
        refine lv_icmp_eq (tgt := 70) hx hb dX_move_47 (by decide) (fun c_6 => ?_) (fun c_6 => ?_)
        · replace hf := it_t hf c_6
          refine lv_iconst (v := (1 : Int32)) hx hb dX_move_70 (by decide) ?_
          refine lv_goto (tgt := 75) hx hb dX_move_71 (by decide) ?_
          refine lv_istore (lv' := [(5, .int (1 : Int32)), (0, .ref (a 0)), (1, .int x1), (2, .int x2), (3, .int x3), (4, .int x4)]) hx hb dX_move_75 hl (by decide) rfl (fun ls hl => ?_)
          refine lv_iload hx hb dX_move_77 (lv_at hl 0 rfl) ?_
          refine lv_if_eq (tgt := 104) hx hb dX_move_79 (by decide) (fun c_7 => absurd c_7 (by decide)) (fun c_7 => ?_)
          refine lv_aload_n hx hb dX_move_82 rfl (lv_at hl 1 rfl) ?_
          refine aX_get_houses hx hb hts hown hK hP dX_move_83 ?_
          refine lv_iload hx hb dX_move_86 (lv_at hl 5 rfl) ?_
          obtain ⟨g_8, hf⟩ := gd_f hf
          refine aX_ld_houses (σ := τ) (f := (x_houses τ)) rfl hx hb hK hP g_8 dX_move_88 ?_
          refine lv_iload_n hx hb dX_move_89 rfl (lv_at hl 3 rfl) ?_
          refine lv_icmp_eq (tgt := 104) hx hb dX_move_90 (by decide) (fun c_9 => ?_) (fun c_9 => ?_)
          · replace hf := it_t hf c_9
            refine lv_iinc (v := (x4 + 1)) (lv' := [(4, .int (x4 + 1)), (5, .int (1 : Int32)), (0, .ref (a 0)), (1, .int x1), (2, .int x2), (3, .int x3)]) hx hb dX_move_104 hl (k := 5) rfl (congrArg (HAdd.hAdd _) (by decide : Int32.ofInt (1) = (1 : Int32))) (by decide) rfl (fun ls hl => ?_)
            refine lv_goto (tgt := 35) hx hb dX_move_107 (by decide) ?_
            exact ih x1 x2 x3 (x4 + 1) τ hf _ _ hP hD hS _ (lv_sub hl [2, 3, 4, 5, 0] rfl)
          · replace hf := it_f hf c_9
            refine lv_aload_n hx hb dX_move_93 rfl (lv_at hl 1 rfl) ?_
            refine aX_get_houses hx hb hts hown hK hP dX_move_94 ?_
            refine lv_iload hx hb dX_move_97 (lv_at hl 5 rfl) ?_
            refine lv_iload_n hx hb dX_move_99 rfl (lv_at hl 3 rfl) ?_
            obtain ⟨g_10, hf⟩ := gd_f hf
            refine aX_st_houses (σ := τ) (f := (x_houses τ)) (x := x2) (τ := (x_phouses τ (upd (x_houses τ) x4.toNatClampNeg x2))) rfl rfl hx hb hK hP hD hS g_10 dX_move_100 (fun H locs hP hD hS => ?_)
            refine lv_iinc (v := (x3 + 1)) (lv' := [(3, .int (x3 + 1)), (5, .int (1 : Int32)), (0, .ref (a 0)), (1, .int x1), (2, .int x2), (4, .int x4)]) hx hb dX_move_101 hl (k := 4) rfl (congrArg (HAdd.hAdd _) (by decide : Int32.ofInt (1) = (1 : Int32))) (by decide) rfl (fun ls hl => ?_)
            refine lv_iinc (v := (x4 + 1)) (lv' := [(4, .int (x4 + 1)), (3, .int (x3 + 1)), (5, .int (1 : Int32)), (0, .ref (a 0)), (1, .int x1), (2, .int x2)]) hx hb dX_move_104 hl (k := 5) rfl (congrArg (HAdd.hAdd _) (by decide : Int32.ofInt (1) = (1 : Int32))) (by decide) rfl (fun ls hl => ?_)
            refine lv_goto (tgt := 35) hx hb dX_move_107 (by decide) ?_
            exact ih x1 x2 (x3 + 1) (x4 + 1) (x_phouses τ (upd (x_houses τ) x4.toNatClampNeg x2)) hf _ _ hP hD hS _ (lv_sub hl [3, 4, 5, 1, 0] rfl)
        · replace hf := it_f hf c_6
          refine lv_aload_n hx hb dX_move_50 rfl (lv_at hl 0 rfl) ?_
          refine aX_get_live hx hb hts hown hK hP dX_move_51 ?_
          refine lv_iload hx hb dX_move_54 (lv_at hl 4 rfl) ?_
          obtain ⟨g_11, hf⟩ := gd_f hf
          refine aX_ld_live (σ := τ) (f := (x_live τ)) rfl hx hb hK hP g_11 dX_move_56 ?_
          refine lv_if_eq (tgt := 74) hx hb dX_move_57 (by decide) (fun c_12 => ?_) (fun c_12 => ?_)
          · replace hf := it_t hf c_12
            refine lv_iconst (v := (0 : Int32)) hx hb dX_move_74 (by decide) ?_
            refine lv_istore (lv' := [(5, .int (0 : Int32)), (0, .ref (a 0)), (1, .int x1), (2, .int x2), (3, .int x3), (4, .int x4)]) hx hb dX_move_75 hl (by decide) rfl (fun ls hl => ?_)
            refine lv_iload hx hb dX_move_77 (lv_at hl 0 rfl) ?_
            refine lv_if_eq (tgt := 104) hx hb dX_move_79 (by decide) (fun c_13 => ?_) (fun c_13 => absurd c_13 (by decide))
            refine lv_iinc (v := (x4 + 1)) (lv' := [(4, .int (x4 + 1)), (5, .int (0 : Int32)), (0, .ref (a 0)), (1, .int x1), (2, .int x2), (3, .int x3)]) hx hb dX_move_104 hl (k := 5) rfl (congrArg (HAdd.hAdd _) (by decide : Int32.ofInt (1) = (1 : Int32))) (by decide) rfl (fun ls hl => ?_)
            refine lv_goto (tgt := 35) hx hb dX_move_107 (by decide) ?_
            exact ih x1 x2 x3 (x4 + 1) τ hf _ _ hP hD hS _ (lv_sub hl [2, 3, 4, 5, 0] rfl)
          · replace hf := it_f hf c_12
            refine lv_aload_n hx hb dX_move_60 rfl (lv_at hl 0 rfl) ?_
            refine lv_iload hx hb dX_move_61 (lv_at hl 4 rfl) ?_
            refine lv_iload_n hx hb dX_move_63 rfl (lv_at hl 1 rfl) ?_
            obtain ⟨q_14, hq_14, hf⟩ := bd_s hf
            refine xw_callV (kX_liesIn l dC dI a cI cZ tb K x4 x1 τ q_14.2 q_14.1 hq_14) ⟨hx, hb, hml, hown, hts⟩ (cwV 2 hts (gw_V mt_108 mt_110 mt_4 mt_25 mt_111) rfl rfl rfl hdX_liesIn ⟨Nat.le_of_ble_eq_true rfl, Nat.le_of_ble_eq_true rfl⟩) hK hP hD hS hA hZ (q0 := 0) (ci := 0) rfl rfl rfl hl.1 rfl (Nat.le_of_ble_eq_true rfl) dX_move_64 ⟨Nat.zero_le _, Nat.zero_le _⟩ (fun H locs hP hD hS => ?_)
            refine lv_if_eq (tgt := 74) hx hb dX_move_67 (by decide) (fun c_15 => ?_) (fun c_15 => ?_)
            · replace hf := it_t hf c_15
              refine lv_iconst (v := (0 : Int32)) hx hb dX_move_74 (by decide) ?_
              refine lv_istore (lv' := [(5, .int (0 : Int32)), (0, .ref (a 0)), (1, .int x1), (2, .int x2), (3, .int x3), (4, .int x4)]) hx hb dX_move_75 hl (by decide) rfl (fun ls hl => ?_)
              refine lv_iload hx hb dX_move_77 (lv_at hl 0 rfl) ?_
              refine lv_if_eq (tgt := 104) hx hb dX_move_79 (by decide) (fun c_16 => ?_) (fun c_16 => absurd c_16 (by decide))
              refine lv_iinc (v := (x4 + 1)) (lv' := [(4, .int (x4 + 1)), (5, .int (0 : Int32)), (0, .ref (a 0)), (1, .int x1), (2, .int x2), (3, .int x3)]) hx hb dX_move_104 hl (k := 5) rfl (congrArg (HAdd.hAdd _) (by decide : Int32.ofInt (1) = (1 : Int32))) (by decide) rfl (fun ls hl => ?_)
              refine lv_goto (tgt := 35) hx hb dX_move_107 (by decide) ?_
              exact ih x1 x2 x3 (x4 + 1) q_14.2 hf _ _ hP hD hS _ (lv_sub hl [2, 3, 4, 5, 0] rfl)
            · replace hf := it_f hf c_15
              refine lv_iconst (v := (1 : Int32)) hx hb dX_move_70 (by decide) ?_
              refine lv_goto (tgt := 75) hx hb dX_move_71 (by decide) ?_
              refine lv_istore (lv' := [(5, .int (1 : Int32)), (0, .ref (a 0)), (1, .int x1), (2, .int x2), (3, .int x3), (4, .int x4)]) hx hb dX_move_75 hl (by decide) rfl (fun ls hl => ?_)
              refine lv_iload hx hb dX_move_77 (lv_at hl 0 rfl) ?_
              refine lv_if_eq (tgt := 104) hx hb dX_move_79 (by decide) (fun c_17 => absurd c_17 (by decide)) (fun c_17 => ?_)
              refine lv_aload_n hx hb dX_move_82 rfl (lv_at hl 1 rfl) ?_
              refine aX_get_houses hx hb hts hown hK hP dX_move_83 ?_
              refine lv_iload hx hb dX_move_86 (lv_at hl 5 rfl) ?_
              obtain ⟨g_18, hf⟩ := gd_f hf
              refine aX_ld_houses (σ := q_14.2) (f := (x_houses q_14.2)) rfl hx hb hK hP g_18 dX_move_88 ?_
              refine lv_iload_n hx hb dX_move_89 rfl (lv_at hl 3 rfl) ?_
              refine lv_icmp_eq (tgt := 104) hx hb dX_move_90 (by decide) (fun c_19 => ?_) (fun c_19 => ?_)
              · replace hf := it_t hf c_19
                refine lv_iinc (v := (x4 + 1)) (lv' := [(4, .int (x4 + 1)), (5, .int (1 : Int32)), (0, .ref (a 0)), (1, .int x1), (2, .int x2), (3, .int x3)]) hx hb dX_move_104 hl (k := 5) rfl (congrArg (HAdd.hAdd _) (by decide : Int32.ofInt (1) = (1 : Int32))) (by decide) rfl (fun ls hl => ?_)
                refine lv_goto (tgt := 35) hx hb dX_move_107 (by decide) ?_
                exact ih x1 x2 x3 (x4 + 1) q_14.2 hf _ _ hP hD hS _ (lv_sub hl [2, 3, 4, 5, 0] rfl)
              · replace hf := it_f hf c_19
                refine lv_aload_n hx hb dX_move_93 rfl (lv_at hl 1 rfl) ?_
                refine aX_get_houses hx hb hts hown hK hP dX_move_94 ?_
                refine lv_iload hx hb dX_move_97 (lv_at hl 5 rfl) ?_
                refine lv_iload_n hx hb dX_move_99 rfl (lv_at hl 3 rfl) ?_
                obtain ⟨g_20, hf⟩ := gd_f hf
                refine aX_st_houses (σ := q_14.2) (f := (x_houses q_14.2)) (x := x2) (τ := (x_phouses q_14.2 (upd (x_houses q_14.2) x4.toNatClampNeg x2))) rfl rfl hx hb hK hP hD hS g_20 dX_move_100 (fun H locs hP hD hS => ?_)
                refine lv_iinc (v := (x3 + 1)) (lv' := [(3, .int (x3 + 1)), (5, .int (1 : Int32)), (0, .ref (a 0)), (1, .int x1), (2, .int x2), (4, .int x4)]) hx hb dX_move_101 hl (k := 4) rfl (congrArg (HAdd.hAdd _) (by decide : Int32.ofInt (1) = (1 : Int32))) (by decide) rfl (fun ls hl => ?_)
                refine lv_iinc (v := (x4 + 1)) (lv' := [(4, .int (x4 + 1)), (3, .int (x3 + 1)), (5, .int (1 : Int32)), (0, .ref (a 0)), (1, .int x1), (2, .int x2)]) hx hb dX_move_104 hl (k := 5) rfl (congrArg (HAdd.hAdd _) (by decide : Int32.ofInt (1) = (1 : Int32))) (by decide) rfl (fun ls hl => ?_)
                refine lv_goto (tgt := 35) hx hb dX_move_107 (by decide) ?_
                exact ih x1 x2 (x3 + 1) (x4 + 1) (x_phouses q_14.2 (upd (x_houses q_14.2) x4.toNatClampNeg x2)) hf _ _ hP hD hS _ (lv_sub hl [3, 4, 5, 1, 0] rfl)
  unfold fX_move at hf
  refine lv_aload_n hx hb dX_move_0 rfl (lv_at hl 0 rfl) ?_
  refine lv_dup hx hb dX_move_1 rfl ?_
  refine aX_get_moment (σ := σ) (v := (x_moment σ)) rfl hx hb hts hown hK hP dX_move_2 ?_
  refine lv_iconst (v := (1 : Int32)) hx hb dX_move_5 (by decide) ?_
  refine lv_iadd hx hb dX_move_6 ?_
  refine aX_put_moment (σ := σ) (v := ((x_moment σ) + (1 : Int32))) (τ := (x_pmoment σ ((x_moment σ) + (1 : Int32)))) rfl hx hb hts hown hK hP hD hS dX_move_7 (fun H locs hP hD hS => ?_)
  refine lv_aload_n hx hb dX_move_10 rfl (lv_at hl 0 rfl) ?_
  refine lv_iload_n hx hb dX_move_11 rfl (lv_at hl 1 rfl) ?_
  obtain ⟨q_1, hq_1, hf⟩ := bd_s hf
  refine xw_callV (kX_isLive l dC dI a cI cZ tb K p1 (x_pmoment σ ((x_moment σ) + (1 : Int32))) q_1.2 q_1.1 hq_1) ⟨hx, hb, hml, hown, hts⟩ (cwV 1 hts (gw_V mt_91 mt_93 mt_1 mt_25 mt_94) rfl rfl rfl hdX_isLive ⟨Nat.le_of_ble_eq_true rfl, Nat.le_of_ble_eq_true rfl⟩) hK hP hD hS hA hZ (q0 := 0) (ci := 0) rfl rfl rfl hl.1 rfl (Nat.le_of_ble_eq_true rfl) dX_move_12 ⟨Nat.zero_le _, Nat.zero_le _⟩ (fun H locs hP hD hS => ?_)
  refine lv_if_eq (tgt := 28) hx hb dX_move_15 (by decide) (fun c_2 => ?_) (fun c_2 => ?_)
  · replace hf := it_t hf c_2
    refine lv_iconst (v := (0 : Int32)) hx hb dX_move_28 (by decide) ?_
    exact xw_iret (wf := (w_X a cI cZ)) hx hb hr hlocks rfl hK hP hD hS hf dX_move_29
  · replace hf := it_f hf c_2
    refine lv_iload_n hx hb dX_move_18 rfl (lv_at hl 2 rfl) ?_
    refine lv_if_lt (tgt := 28) hx hb dX_move_19 (by decide) (fun c_3 => ?_) (fun c_3 => ?_)
    · replace hf := it_t hf c_3
      refine lv_iconst (v := (0 : Int32)) hx hb dX_move_28 (by decide) ?_
      exact xw_iret (wf := (w_X a cI cZ)) hx hb hr hlocks rfl hK hP hD hS hf dX_move_29
    · replace hf := it_f hf c_3
      refine lv_iload_n hx hb dX_move_22 rfl (lv_at hl 2 rfl) ?_
      refine lv_bipush (v := (9 : Int32)) hx hb dX_move_23 (by decide) ?_
      refine lv_icmp_le (tgt := 30) hx hb dX_move_25 (by decide) (fun c_4 => ?_) (fun c_4 => ?_)
      · replace hf := it_t hf c_4
        refine lv_iconst (v := (0 : Int32)) hx hb dX_move_30 (by decide) ?_
        refine lv_istore_n (lv' := [(3, .int (0 : Int32)), (0, .ref (a 0)), (1, .int p1), (2, .int p2)]) hx hb dX_move_31 rfl hl (by decide) rfl (fun ls hl => ?_)
        refine lv_iconst (v := (1 : Int32)) hx hb dX_move_32 (by decide) ?_
        refine lv_istore (lv' := [(4, .int (1 : Int32)), (3, .int (0 : Int32)), (0, .ref (a 0)), (1, .int p1), (2, .int p2)]) hx hb dX_move_33 hl (by decide) rfl (fun ls hl => ?_)
        exact L_35 K p1 p2 (0 : Int32) (1 : Int32) q_1.2 hf _ _ hP hD hS _ (lv_sub hl [2, 3, 4, 1, 0] rfl)
      · replace hf := it_f hf c_4
        refine lv_iconst (v := (0 : Int32)) hx hb dX_move_28 (by decide) ?_
        exact xw_iret (wf := (w_X a cI cZ)) hx hb hr hlocks rfl hK hP hD hS hf dX_move_29
def gX_countHostedBy_4 (K : Nat) : Nat → Int32 → Int32 → Int32 → XSt → Option (Int32 × XSt)
  | 0, _, _, _, _ => none
  | n + 1, x1, x2, x3, τ => (if (x_records τ) < x3 then some (x2, τ) else (if x3 < 0 ∨ 61 ≤ x3.toNatClampNeg then none else (if ((x_live τ) x3.toNatClampNeg) = 0 then (gX_countHostedBy_4 K n x1 x2 (x3 + 1) τ) else (if x3 < 0 ∨ 61 ≤ x3.toNatClampNeg then none else (if ((x_hosts τ) x3.toNatClampNeg) = x1 then (gX_countHostedBy_4 K n x1 (x2 + 1) (x3 + 1) τ) else (gX_countHostedBy_4 K n x1 x2 (x3 + 1) τ))))))
def fX_countHostedBy (K : Nat) (p1 : Int32) (σ : XSt) : Option (Int32 × XSt) := (gX_countHostedBy_4 K K p1 (0 : Int32) (1 : Int32) σ)
set_option maxHeartbeats 4000000 in
set_option maxRecDepth 100000 in
theorem kX_countHostedBy (l : Launch) (dC : Nat → ClassId) (dI : Nat → Nat → Nat) (a : Nat → Nat) (cI cZ : ClassId) (tb : Nat) (K : Nat) (p1 : Int32) (σ σ' : XSt) (r : Int32) (hf : fX_countHostedBy K p1 σ = some (r, σ')) : xw_Ct l yX_countHostedBy wdX_countHostedBy ({ frames := 0, cells := 0, slots := 0, locals := 0 } : Room) (dC, dI) vwCl [(cI, .int), (cZ, .boolean)] (zz tb) ((w_X a cI cZ) σ) ((w_X a cI cZ) σ') [.ref (a 0), .int p1] r := by
  refine xw_ofW (cc := cX_countHostedBy) (maxL := 4) (ret := (some .int)) (lv := [(0, .ref (a 0)), (1, .int p1)]) (by decide) rfl (Nat.le_of_ble_eq_true rfl) rfl ?_
  intro p e s m below meth c A hAt hP hD hS ls hl
  obtain ⟨hx, hb, hr, hml, hown, hts, hlocks, hK, hZ, hA⟩ := hAt
  replace hts : ∀ w ∈ lw_g, w.before _ s = true := fun w h => hts w (List.mem_cons_of_mem _ h)
  have L_4 : ∀ (n : Nat) (x1 x2 x3 : Int32) (τ : XSt), gX_countHostedBy_4 K n x1 x2 x3 τ = some (r, σ') → ∀ (H : Heap) (locs : List Loc), va_P (dC, dI) vwCl ((w_X a cI cZ) τ) H → va_D A ((w_X a cI cZ) τ) → va_S A s.heap H locs → ∀ (ls : Array Slot), lv_has ls 4 [(0, .ref (a 0)), (1, .int x1), (2, .int x2), (3, .int x3)] → W p l e ({ frames := 0, cells := 0, slots := 0, locals := 0 } : Room) s m ([.ref (a 0), .int p1] : List Value).toArray below meth c H locs 0 0 (MQ below (va_Qi (fun (r2 : Int32) (_ : Unit) => r2 = r) (fun _ t => xw_B (dC, dI) vwCl [(cI, .int), (cZ, .boolean)] A ((w_X a cI cZ) σ') t) A) ([.ref (a 0), .int p1] : List Value).toArray s 0 0 A) (F0 m 4 ls []) := by
    intro n
    induction n with
    | zero =>
      intro x1 x2 x3 τ hf
      rw [gX_countHostedBy_4] at hf
      cases hf
    | succ n ih =>
      intro x1 x2 x3 τ hf H locs hP hD hS ls hl
      rw [gX_countHostedBy_4] at hf
      refine lv_iload_n hx hb dX_countHostedBy_4 rfl (lv_at hl 3 rfl) ?_
      refine lv_aload_n hx hb dX_countHostedBy_5 rfl (lv_at hl 0 rfl) ?_
      refine aX_get_records (σ := τ) (v := (x_records τ)) rfl hx hb hts hown hK hP dX_countHostedBy_6 ?_
      refine lv_icmp_gt (tgt := 40) hx hb dX_countHostedBy_9 (by decide) (fun c_1 => ?_) (fun c_1 => ?_)
      · replace hf := it_t hf c_1
        refine lv_iload_n hx hb dX_countHostedBy_40 rfl (lv_at hl 2 rfl) ?_
        exact xw_iret (wf := (w_X a cI cZ)) hx hb hr hlocks rfl hK hP hD hS hf dX_countHostedBy_41
      · replace hf := it_f hf c_1
        refine lv_aload_n hx hb dX_countHostedBy_12 rfl (lv_at hl 0 rfl) ?_
        refine aX_get_live hx hb hts hown hK hP dX_countHostedBy_13 ?_
        refine lv_iload_n hx hb dX_countHostedBy_16 rfl (lv_at hl 3 rfl) ?_
        obtain ⟨g_2, hf⟩ := gd_f hf
        refine aX_ld_live (σ := τ) (f := (x_live τ)) rfl hx hb hK hP g_2 dX_countHostedBy_17 ?_
        refine lv_if_eq (tgt := 34) hx hb dX_countHostedBy_18 (by decide) (fun c_3 => ?_) (fun c_3 => ?_)
        · replace hf := it_t hf c_3
          refine lv_iinc (v := (x3 + 1)) (lv' := [(3, .int (x3 + 1)), (0, .ref (a 0)), (1, .int x1), (2, .int x2)]) hx hb dX_countHostedBy_34 hl (k := 3) rfl (congrArg (HAdd.hAdd _) (by decide : Int32.ofInt (1) = (1 : Int32))) (by decide) rfl (fun ls hl => ?_)
          refine lv_goto (tgt := 4) hx hb dX_countHostedBy_37 (by decide) ?_
          exact ih x1 x2 (x3 + 1) τ hf _ _ hP hD hS _ (lv_sub hl [1, 2, 3, 0] rfl)
        · replace hf := it_f hf c_3
          refine lv_aload_n hx hb dX_countHostedBy_21 rfl (lv_at hl 0 rfl) ?_
          refine aX_get_hosts hx hb hts hown hK hP dX_countHostedBy_22 ?_
          refine lv_iload_n hx hb dX_countHostedBy_25 rfl (lv_at hl 3 rfl) ?_
          obtain ⟨g_4, hf⟩ := gd_f hf
          refine aX_ld_hosts (σ := τ) (f := (x_hosts τ)) rfl hx hb hK hP g_4 dX_countHostedBy_26 ?_
          refine lv_iload_n hx hb dX_countHostedBy_27 rfl (lv_at hl 1 rfl) ?_
          refine lv_icmp_ne (tgt := 34) hx hb dX_countHostedBy_28 (by decide) (fun c_5 => ?_) (fun c_5 => ?_)
          · replace hf := it_f hf c_5
            refine lv_iinc (v := (x3 + 1)) (lv' := [(3, .int (x3 + 1)), (0, .ref (a 0)), (1, .int x1), (2, .int x2)]) hx hb dX_countHostedBy_34 hl (k := 3) rfl (congrArg (HAdd.hAdd _) (by decide : Int32.ofInt (1) = (1 : Int32))) (by decide) rfl (fun ls hl => ?_)
            refine lv_goto (tgt := 4) hx hb dX_countHostedBy_37 (by decide) ?_
            exact ih x1 x2 (x3 + 1) τ hf _ _ hP hD hS _ (lv_sub hl [1, 2, 3, 0] rfl)
          · replace hf := it_t hf c_5
            refine lv_iinc (v := (x2 + 1)) (lv' := [(2, .int (x2 + 1)), (0, .ref (a 0)), (1, .int x1), (3, .int x3)]) hx hb dX_countHostedBy_31 hl (k := 2) rfl (congrArg (HAdd.hAdd _) (by decide : Int32.ofInt (1) = (1 : Int32))) (by decide) rfl (fun ls hl => ?_)
            refine lv_iinc (v := (x3 + 1)) (lv' := [(3, .int (x3 + 1)), (2, .int (x2 + 1)), (0, .ref (a 0)), (1, .int x1)]) hx hb dX_countHostedBy_34 hl (k := 3) rfl (congrArg (HAdd.hAdd _) (by decide : Int32.ofInt (1) = (1 : Int32))) (by decide) rfl (fun ls hl => ?_)
            refine lv_goto (tgt := 4) hx hb dX_countHostedBy_37 (by decide) ?_
            exact ih x1 (x2 + 1) (x3 + 1) τ hf _ _ hP hD hS _ (lv_sub hl [2, 3, 1, 0] rfl)
  unfold fX_countHostedBy at hf
  refine lv_iconst (v := (0 : Int32)) hx hb dX_countHostedBy_0 (by decide) ?_
  refine lv_istore_n (lv' := [(2, .int (0 : Int32)), (0, .ref (a 0)), (1, .int p1)]) hx hb dX_countHostedBy_1 rfl hl (by decide) rfl (fun ls hl => ?_)
  refine lv_iconst (v := (1 : Int32)) hx hb dX_countHostedBy_2 (by decide) ?_
  refine lv_istore_n (lv' := [(3, .int (1 : Int32)), (2, .int (0 : Int32)), (0, .ref (a 0)), (1, .int p1)]) hx hb dX_countHostedBy_3 rfl hl (by decide) rfl (fun ls hl => ?_)
  exact L_4 K p1 (0 : Int32) (1 : Int32) σ hf _ _ hP hD hS _ (lv_sub hl [2, 3, 1, 0] rfl)
def gX_removeLinksOf_7 (K : Nat) : Nat → Int32 → Int32 → XSt → Option (Int32 × XSt)
  | 0, _, _, _ => none
  | n + 1, x1, x2, τ => (if x2 < 0 then some ((0 : Int32), τ) else (if x2 < 0 ∨ 200 ≤ x2.toNatClampNeg then none else (if ((x_linkFrom τ) x2.toNatClampNeg) = x1 then ((fX_noteChange K x1 τ).bind fun q_4 => ((fX_removeLink K x2 q_4.2).bind fun q_5 => (gX_removeLinksOf_7 K n x1 (x2 + (-1)) q_5.2))) else (gX_removeLinksOf_7 K n x1 (x2 + (-1)) τ))))
def fX_removeLinksOf (K : Nat) (p1 : Int32) (σ : XSt) : Option (Int32 × XSt) := (gX_removeLinksOf_7 K K p1 ((x_links σ) - (1 : Int32)) σ)
set_option maxHeartbeats 4000000 in
set_option maxRecDepth 100000 in
theorem kX_removeLinksOf (l : Launch) (dC : Nat → ClassId) (dI : Nat → Nat → Nat) (a : Nat → Nat) (cI cZ : ClassId) (tb : Nat) (K : Nat) (p1 : Int32) (σ σ' : XSt) (r : Int32) (hf : fX_removeLinksOf K p1 σ = some (r, σ')) : xw_Cv l yX_removeLinksOf wdX_removeLinksOf ({ frames := 2, cells := 0, slots := 0, locals := 53 } : Room) (dC, dI) vwCl [(cI, .int), (cZ, .boolean)] (zz tb) ((w_X a cI cZ) σ) ((w_X a cI cZ) σ') [.ref (a 0), .int p1] := by
  refine xw_ofWv (cc := cX_removeLinksOf) (maxL := 3) (ret := none) (lv := [(0, .ref (a 0)), (1, .int p1)]) (by decide) rfl (Nat.le_of_ble_eq_true rfl) rfl ?_
  intro p e s m below meth c A hAt hP hD hS ls hl
  obtain ⟨hx, hb, hr, hml, hown, hts, hlocks, hK, hZ, hA⟩ := hAt
  replace hts : ∀ w ∈ lw_g, w.before _ s = true := fun w h => hts w (List.mem_cons_of_mem _ h)
  have L_7 : ∀ (n : Nat) (x1 x2 : Int32) (τ : XSt), gX_removeLinksOf_7 K n x1 x2 τ = some (r, σ') → ∀ (H : Heap) (locs : List Loc), va_P (dC, dI) vwCl ((w_X a cI cZ) τ) H → va_D A ((w_X a cI cZ) τ) → va_S A s.heap H locs → ∀ (ls : Array Slot), lv_has ls 3 [(0, .ref (a 0)), (1, .int x1), (2, .int x2)] → W p l e ({ frames := 2, cells := 0, slots := 0, locals := 53 } : Room) s m ([.ref (a 0), .int p1] : List Value).toArray below meth c H locs 0 0 (MQ below (va_Qv (fun (_ : Unit) => True) (fun _ t => xw_B (dC, dI) vwCl [(cI, .int), (cZ, .boolean)] A ((w_X a cI cZ) σ') t) A) ([.ref (a 0), .int p1] : List Value).toArray s 0 0 A) (F0 m 7 ls []) := by
    intro n
    induction n with
    | zero =>
      intro x1 x2 τ hf
      rw [gX_removeLinksOf_7] at hf
      cases hf
    | succ n ih =>
      intro x1 x2 τ hf H locs hP hD hS ls hl
      rw [gX_removeLinksOf_7] at hf
      refine lv_iload_n hx hb dX_removeLinksOf_7 rfl (lv_at hl 2 rfl) ?_
      refine lv_if_lt (tgt := 37) hx hb dX_removeLinksOf_8 (by decide) (fun c_1 => ?_) (fun c_1 => ?_)
      · replace hf := it_t hf c_1
        exact xw_vret (wf := (w_X a cI cZ)) hx hb hr hlocks hK hP hD hS hf dX_removeLinksOf_37
      · replace hf := it_f hf c_1
        refine lv_aload_n hx hb dX_removeLinksOf_11 rfl (lv_at hl 0 rfl) ?_
        refine aX_get_linkFrom hx hb hts hown hK hP dX_removeLinksOf_12 ?_
        refine lv_iload_n hx hb dX_removeLinksOf_15 rfl (lv_at hl 2 rfl) ?_
        obtain ⟨g_2, hf⟩ := gd_f hf
        refine aX_ld_linkFrom (σ := τ) (f := (x_linkFrom τ)) rfl hx hb hK hP g_2 dX_removeLinksOf_16 ?_
        refine lv_iload_n hx hb dX_removeLinksOf_17 rfl (lv_at hl 1 rfl) ?_
        refine lv_icmp_ne (tgt := 31) hx hb dX_removeLinksOf_18 (by decide) (fun c_3 => ?_) (fun c_3 => ?_)
        · replace hf := it_f hf c_3
          refine lv_iinc (v := (x2 + (-1))) (lv' := [(2, .int (x2 + (-1))), (0, .ref (a 0)), (1, .int x1)]) hx hb dX_removeLinksOf_31 hl (k := 2) rfl (congrArg (HAdd.hAdd _) (by decide : Int32.ofInt (-1) = (-1 : Int32))) (by decide) rfl (fun ls hl => ?_)
          refine lv_goto (tgt := 7) hx hb dX_removeLinksOf_34 (by decide) ?_
          exact ih x1 (x2 + (-1)) τ hf _ _ hP hD hS _ (lv_sub hl [1, 2, 0] rfl)
        · replace hf := it_t hf c_3
          refine lv_aload_n hx hb dX_removeLinksOf_21 rfl (lv_at hl 0 rfl) ?_
          refine lv_iload_n hx hb dX_removeLinksOf_22 rfl (lv_at hl 1 rfl) ?_
          obtain ⟨q_4, hq_4, hf⟩ := bd_s hf
          refine xw_callVv (kX_noteChange l dC dI a cI cZ tb K x1 τ q_4.2 q_4.1 hq_4) ⟨hx, hb, hml, hown, hts⟩ (cwV 1 hts (gw_V mt_120 mt_122 mt_7 mt_25 mt_123) rfl rfl rfl hdX_noteChange ⟨Nat.le_of_ble_eq_true rfl, Nat.le_of_ble_eq_true rfl⟩) hK hP hD hS hA hZ (q0 := 0) (ci := 0) rfl rfl rfl hl.1 rfl (Nat.le_of_ble_eq_true rfl) dX_removeLinksOf_23 ⟨Nat.zero_le _, Nat.zero_le _⟩ (fun H locs hP hD hS => ?_)
          refine lv_aload_n hx hb dX_removeLinksOf_26 rfl (lv_at hl 0 rfl) ?_
          refine lv_iload_n hx hb dX_removeLinksOf_27 rfl (lv_at hl 2 rfl) ?_
          obtain ⟨q_5, hq_5, hf⟩ := bd_s hf
          refine xw_callVv (kX_removeLink l dC dI a cI cZ tb K x2 q_4.2 q_5.2 q_5.1 hq_5) ⟨hx, hb, hml, hown, hts⟩ (cwV 1 hts (gw_V mt_139 mt_141 mt_10 mt_25 mt_142) rfl rfl rfl hdX_removeLink ⟨Nat.le_of_ble_eq_true rfl, Nat.le_of_ble_eq_true rfl⟩) hK hP hD hS hA hZ (q0 := 0) (ci := 0) rfl rfl rfl hl.1 rfl (Nat.le_of_ble_eq_true rfl) dX_removeLinksOf_28 ⟨Nat.zero_le _, Nat.zero_le _⟩ (fun H locs hP hD hS => ?_)
          refine lv_iinc (v := (x2 + (-1))) (lv' := [(2, .int (x2 + (-1))), (0, .ref (a 0)), (1, .int x1)]) hx hb dX_removeLinksOf_31 hl (k := 2) rfl (congrArg (HAdd.hAdd _) (by decide : Int32.ofInt (-1) = (-1 : Int32))) (by decide) rfl (fun ls hl => ?_)
          refine lv_goto (tgt := 7) hx hb dX_removeLinksOf_34 (by decide) ?_
          exact ih x1 (x2 + (-1)) q_5.2 hf _ _ hP hD hS _ (lv_sub hl [1, 2, 0] rfl)
  unfold fX_removeLinksOf at hf
  refine lv_aload_n hx hb dX_removeLinksOf_0 rfl (lv_at hl 0 rfl) ?_
  refine aX_get_links (σ := σ) (v := (x_links σ)) rfl hx hb hts hown hK hP dX_removeLinksOf_1 ?_
  refine lv_iconst (v := (1 : Int32)) hx hb dX_removeLinksOf_4 (by decide) ?_
  refine lv_isub hx hb dX_removeLinksOf_5 ?_
  refine lv_istore_n (lv' := [(2, .int ((x_links σ) - (1 : Int32))), (0, .ref (a 0)), (1, .int p1)]) hx hb dX_removeLinksOf_6 rfl hl (by decide) rfl (fun ls hl => ?_)
  exact L_7 K p1 ((x_links σ) - (1 : Int32)) σ hf _ _ hP hD hS _ (lv_sub hl [1, 2, 0] rfl)
def fX_delete (K : Nat) (p1 : Int32) (σ : XSt) : Option (Int32 × XSt) := ((fX_isLive K p1 (x_pmoment σ ((x_moment σ) + (1 : Int32)))).bind fun q_1 => (if q_1.1 = 0 then some ((0 : Int32), q_1.2) else ((fX_countHostedBy K p1 q_1.2).bind fun q_3 => (if q_3.1 ≤ 0 then (if p1 < 0 ∨ 61 ≤ p1.toNatClampNeg then none else ((fX_removeLinksOf K p1 (x_plive q_3.2 (upd (x_live q_3.2) p1.toNatClampNeg (vp_nar .boolean (0 : Int32))))).bind fun q_6 => some ((1 : Int32), q_6.2))) else some ((-q_3.1), q_3.2)))))
set_option maxHeartbeats 4000000 in
set_option maxRecDepth 100000 in
theorem kX_delete (l : Launch) (dC : Nat → ClassId) (dI : Nat → Nat → Nat) (a : Nat → Nat) (cI cZ : ClassId) (tb : Nat) (K : Nat) (p1 : Int32) (σ σ' : XSt) (r : Int32) (hf : fX_delete K p1 σ = some (r, σ')) : xw_Ct l yX_delete wdX_delete ({ frames := 3, cells := 0, slots := 0, locals := 75 } : Room) (dC, dI) vwCl [(cI, .int), (cZ, .boolean)] (zz tb) ((w_X a cI cZ) σ) ((w_X a cI cZ) σ') [.ref (a 0), .int p1] r := by
  refine xw_ofW (cc := cX_delete) (maxL := 3) (ret := (some .int)) (lv := [(0, .ref (a 0)), (1, .int p1)]) (by decide) rfl (Nat.le_of_ble_eq_true rfl) rfl ?_
  intro p e s m below meth c A hAt hP hD hS ls hl
  obtain ⟨hx, hb, hr, hml, hown, hts, hlocks, hK, hZ, hA⟩ := hAt
  replace hts : ∀ w ∈ lw_g, w.before _ s = true := fun w h => hts w (List.mem_cons_of_mem _ h)
  unfold fX_delete at hf
  refine lv_aload_n hx hb dX_delete_0 rfl (lv_at hl 0 rfl) ?_
  refine lv_dup hx hb dX_delete_1 rfl ?_
  refine aX_get_moment (σ := σ) (v := (x_moment σ)) rfl hx hb hts hown hK hP dX_delete_2 ?_
  refine lv_iconst (v := (1 : Int32)) hx hb dX_delete_5 (by decide) ?_
  refine lv_iadd hx hb dX_delete_6 ?_
  refine aX_put_moment (σ := σ) (v := ((x_moment σ) + (1 : Int32))) (τ := (x_pmoment σ ((x_moment σ) + (1 : Int32)))) rfl hx hb hts hown hK hP hD hS dX_delete_7 (fun H locs hP hD hS => ?_)
  refine lv_aload_n hx hb dX_delete_10 rfl (lv_at hl 0 rfl) ?_
  refine lv_iload_n hx hb dX_delete_11 rfl (lv_at hl 1 rfl) ?_
  obtain ⟨q_1, hq_1, hf⟩ := bd_s hf
  refine xw_callV (kX_isLive l dC dI a cI cZ tb K p1 (x_pmoment σ ((x_moment σ) + (1 : Int32))) q_1.2 q_1.1 hq_1) ⟨hx, hb, hml, hown, hts⟩ (cwV 1 hts (gw_V mt_91 mt_93 mt_1 mt_25 mt_94) rfl rfl rfl hdX_isLive ⟨Nat.le_of_ble_eq_true rfl, Nat.le_of_ble_eq_true rfl⟩) hK hP hD hS hA hZ (q0 := 0) (ci := 0) rfl rfl rfl hl.1 rfl (Nat.le_of_ble_eq_true rfl) dX_delete_12 ⟨Nat.zero_le _, Nat.zero_le _⟩ (fun H locs hP hD hS => ?_)
  refine lv_if_ne (tgt := 20) hx hb dX_delete_15 (by decide) (fun c_2 => ?_) (fun c_2 => ?_)
  · replace hf := it_f hf c_2
    refine lv_aload_n hx hb dX_delete_20 rfl (lv_at hl 0 rfl) ?_
    refine lv_iload_n hx hb dX_delete_21 rfl (lv_at hl 1 rfl) ?_
    obtain ⟨q_3, hq_3, hf⟩ := bd_s hf
    refine xw_callV (kX_countHostedBy l dC dI a cI cZ tb K p1 q_1.2 q_3.2 q_3.1 hq_3) ⟨hx, hb, hml, hown, hts⟩ (cwV 1 hts (gw_V mt_178 mt_180 mt_12 mt_25 mt_181) rfl rfl rfl hdX_countHostedBy ⟨Nat.le_of_ble_eq_true rfl, Nat.le_of_ble_eq_true rfl⟩) hK hP hD hS hA hZ (q0 := 0) (ci := 0) rfl rfl rfl hl.1 rfl (Nat.le_of_ble_eq_true rfl) dX_delete_22 ⟨Nat.zero_le _, Nat.zero_le _⟩ (fun H locs hP hD hS => ?_)
    refine lv_istore_n (lv' := [(2, .int q_3.1), (0, .ref (a 0)), (1, .int p1)]) hx hb dX_delete_25 rfl hl (by decide) rfl (fun ls hl => ?_)
    refine lv_iload_n hx hb dX_delete_26 rfl (lv_at hl 0 rfl) ?_
    refine lv_if_le (tgt := 33) hx hb dX_delete_27 (by decide) (fun c_4 => ?_) (fun c_4 => ?_)
    · replace hf := it_t hf c_4
      refine lv_aload_n hx hb dX_delete_33 rfl (lv_at hl 1 rfl) ?_
      refine aX_get_live hx hb hts hown hK hP dX_delete_34 ?_
      refine lv_iload_n hx hb dX_delete_37 rfl (lv_at hl 2 rfl) ?_
      refine lv_iconst (v := (0 : Int32)) hx hb dX_delete_38 (by decide) ?_
      obtain ⟨g_5, hf⟩ := gd_f hf
      refine aX_st_live (σ := q_3.2) (f := (x_live q_3.2)) (x := (0 : Int32)) (τ := (x_plive q_3.2 (upd (x_live q_3.2) p1.toNatClampNeg (vp_nar .boolean (0 : Int32))))) rfl rfl hx hb hK hP hD hS g_5 dX_delete_39 (fun H locs hP hD hS => ?_)
      refine lv_aload_n hx hb dX_delete_40 rfl (lv_at hl 1 rfl) ?_
      refine lv_iload_n hx hb dX_delete_41 rfl (lv_at hl 2 rfl) ?_
      obtain ⟨q_6, hq_6, hf⟩ := bd_s hf
      refine xw_callVv (kX_removeLinksOf l dC dI a cI cZ tb K p1 (x_plive q_3.2 (upd (x_live q_3.2) p1.toNatClampNeg (vp_nar .boolean (0 : Int32)))) q_6.2 q_6.1 hq_6) ⟨hx, hb, hml, hown, hts⟩ (cwV 1 hts (gw_V mt_182 mt_184 mt_13 mt_25 mt_185) rfl rfl rfl hdX_removeLinksOf ⟨Nat.le_of_ble_eq_true rfl, Nat.le_of_ble_eq_true rfl⟩) hK hP hD hS hA hZ (q0 := 0) (ci := 0) rfl rfl rfl hl.1 rfl (Nat.le_of_ble_eq_true rfl) dX_delete_42 ⟨Nat.zero_le _, Nat.zero_le _⟩ (fun H locs hP hD hS => ?_)
      refine lv_iconst (v := (1 : Int32)) hx hb dX_delete_45 (by decide) ?_
      exact xw_iret (wf := (w_X a cI cZ)) hx hb hr hlocks rfl hK hP hD hS hf dX_delete_46
    · replace hf := it_f hf c_4
      refine lv_iload_n hx hb dX_delete_30 rfl (lv_at hl 0 rfl) ?_
      refine lv_ineg hx hb dX_delete_31 ?_
      exact xw_iret (wf := (w_X a cI cZ)) hx hb hr hlocks rfl hK hP hD hS hf dX_delete_32
  · replace hf := it_t hf c_2
    refine lv_iconst (v := (0 : Int32)) hx hb dX_delete_18 (by decide) ?_
    exact xw_iret (wf := (w_X a cI cZ)) hx hb hr hlocks rfl hK hP hD hS hf dX_delete_19
def fX_times (K : Nat) (p1 p2 : Int32) (σ : XSt) : Option (Int32 × XSt) := ((fX_isRecord K p1 σ).bind fun q_1 => (if q_1.1 = 0 then some ((0 : Int32), q_1.2) else (if p2 < 0 then some ((0 : Int32), q_1.2) else (if p1 < 0 ∨ 61 ≤ p1.toNatClampNeg then none else (if p2 < ((x_changeCounts q_1.2) p1.toNatClampNeg) then (if ((p1 * (40 : Int32)) + p2) < 0 ∨ 2440 ≤ ((p1 * (40 : Int32)) + p2).toNatClampNeg then none else some (((x_changeMoments q_1.2) ((p1 * (40 : Int32)) + p2).toNatClampNeg), q_1.2)) else some ((0 : Int32), q_1.2))))))
set_option maxHeartbeats 4000000 in
set_option maxRecDepth 100000 in
theorem kX_times (l : Launch) (dC : Nat → ClassId) (dI : Nat → Nat → Nat) (a : Nat → Nat) (cI cZ : ClassId) (tb : Nat) (K : Nat) (p1 p2 : Int32) (σ σ' : XSt) (r : Int32) (hf : fX_times K p1 p2 σ = some (r, σ')) : xw_Ct l yX_times wdX_times ({ frames := 1, cells := 0, slots := 0, locals := 21 } : Room) (dC, dI) vwCl [(cI, .int), (cZ, .boolean)] (zz tb) ((w_X a cI cZ) σ) ((w_X a cI cZ) σ') [.ref (a 0), .int p1, .int p2] r := by
  refine xw_ofW (cc := cX_times) (maxL := 3) (ret := (some .int)) (lv := [(0, .ref (a 0)), (1, .int p1), (2, .int p2)]) (by decide) rfl (Nat.le_of_ble_eq_true rfl) rfl ?_
  intro p e s m below meth c A hAt hP hD hS ls hl
  obtain ⟨hx, hb, hr, hml, hown, hts, hlocks, hK, hZ, hA⟩ := hAt
  replace hts : ∀ w ∈ lw_g, w.before _ s = true := fun w h => hts w (List.mem_cons_of_mem _ h)
  unfold fX_times at hf
  refine lv_aload_n hx hb dX_times_0 rfl (lv_at hl 0 rfl) ?_
  refine lv_iload_n hx hb dX_times_1 rfl (lv_at hl 1 rfl) ?_
  obtain ⟨q_1, hq_1, hf⟩ := bd_s hf
  refine xw_callV (kX_isRecord l dC dI a cI cZ tb K p1 σ q_1.2 q_1.1 hq_1) ⟨hx, hb, hml, hown, hts⟩ (cwV 1 hts (gw_V mt_95 mt_97 mt_2 mt_25 mt_98) rfl rfl rfl hdX_isRecord ⟨Nat.le_of_ble_eq_true rfl, Nat.le_of_ble_eq_true rfl⟩) hK hP hD hS hA hZ (q0 := 0) (ci := 0) rfl rfl rfl hl.1 rfl (Nat.le_of_ble_eq_true rfl) dX_times_2 ⟨Nat.zero_le _, Nat.zero_le _⟩ (fun H locs hP hD hS => ?_)
  refine lv_if_eq (tgt := 22) hx hb dX_times_5 (by decide) (fun c_2 => ?_) (fun c_2 => ?_)
  · replace hf := it_t hf c_2
    refine lv_iconst (v := (0 : Int32)) hx hb dX_times_22 (by decide) ?_
    exact xw_iret (wf := (w_X a cI cZ)) hx hb hr hlocks rfl hK hP hD hS hf dX_times_23
  · replace hf := it_f hf c_2
    refine lv_iload_n hx hb dX_times_8 rfl (lv_at hl 2 rfl) ?_
    refine lv_if_lt (tgt := 22) hx hb dX_times_9 (by decide) (fun c_3 => ?_) (fun c_3 => ?_)
    · replace hf := it_t hf c_3
      refine lv_iconst (v := (0 : Int32)) hx hb dX_times_22 (by decide) ?_
      exact xw_iret (wf := (w_X a cI cZ)) hx hb hr hlocks rfl hK hP hD hS hf dX_times_23
    · replace hf := it_f hf c_3
      refine lv_iload_n hx hb dX_times_12 rfl (lv_at hl 2 rfl) ?_
      refine lv_aload_n hx hb dX_times_13 rfl (lv_at hl 0 rfl) ?_
      refine aX_get_changeCounts hx hb hts hown hK hP dX_times_14 ?_
      refine lv_iload_n hx hb dX_times_17 rfl (lv_at hl 1 rfl) ?_
      obtain ⟨g_4, hf⟩ := gd_f hf
      refine aX_ld_changeCounts (σ := q_1.2) (f := (x_changeCounts q_1.2)) rfl hx hb hK hP g_4 dX_times_18 ?_
      refine lv_icmp_lt (tgt := 24) hx hb dX_times_19 (by decide) (fun c_5 => ?_) (fun c_5 => ?_)
      · replace hf := it_t hf c_5
        refine lv_aload_n hx hb dX_times_24 rfl (lv_at hl 0 rfl) ?_
        refine aX_get_changeMoments hx hb hts hown hK hP dX_times_25 ?_
        refine lv_iload_n hx hb dX_times_28 rfl (lv_at hl 1 rfl) ?_
        refine lv_bipush (v := (40 : Int32)) hx hb dX_times_29 (by decide) ?_
        refine lv_imul hx hb dX_times_31 ?_
        refine lv_iload_n hx hb dX_times_32 rfl (lv_at hl 2 rfl) ?_
        refine lv_iadd hx hb dX_times_33 ?_
        obtain ⟨g_6, hf⟩ := gd_f hf
        refine aX_ld_changeMoments (σ := q_1.2) (f := (x_changeMoments q_1.2)) rfl hx hb hK hP g_6 dX_times_34 ?_
        exact xw_iret (wf := (w_X a cI cZ)) hx hb hr hlocks rfl hK hP hD hS hf dX_times_35
      · replace hf := it_f hf c_5
        refine lv_iconst (v := (0 : Int32)) hx hb dX_times_22 (by decide) ?_
        exact xw_iret (wf := (w_X a cI cZ)) hx hb hr hlocks rfl hK hP hD hS hf dX_times_23
def gX_isLinked_2 (K : Nat) : Nat → Int32 → Int32 → XSt → Option (Int32 × XSt)
  | 0, _, _, _ => none
  | n + 1, x1, x2, τ => (if (x_links τ) ≤ x2 then some ((0 : Int32), τ) else (if x2 < 0 ∨ 200 ≤ x2.toNatClampNeg then none else (if (4 : Int32) ≤ ((x_linkField τ) x2.toNatClampNeg) then (if x2 < 0 ∨ 200 ≤ x2.toNatClampNeg then none else (if ((x_linkFrom τ) x2.toNatClampNeg) = x1 then some ((1 : Int32), τ) else (gX_isLinked_2 K n x1 (x2 + 1) τ))) else (if x2 < 0 ∨ 200 ≤ x2.toNatClampNeg then none else (if ((x_linkTo τ) x2.toNatClampNeg) = x1 then some ((1 : Int32), τ) else (if x2 < 0 ∨ 200 ≤ x2.toNatClampNeg then none else (if ((x_linkFrom τ) x2.toNatClampNeg) = x1 then some ((1 : Int32), τ) else (gX_isLinked_2 K n x1 (x2 + 1) τ))))))))
def fX_isLinked (K : Nat) (p1 : Int32) (σ : XSt) : Option (Int32 × XSt) := (gX_isLinked_2 K K p1 (0 : Int32) σ)
set_option maxHeartbeats 4000000 in
set_option maxRecDepth 100000 in
theorem kX_isLinked (l : Launch) (dC : Nat → ClassId) (dI : Nat → Nat → Nat) (a : Nat → Nat) (cI cZ : ClassId) (tb : Nat) (K : Nat) (p1 : Int32) (σ σ' : XSt) (r : Int32) (hf : fX_isLinked K p1 σ = some (r, σ')) : xw_Ct l yX_isLinked wdX_isLinked ({ frames := 0, cells := 0, slots := 0, locals := 0 } : Room) (dC, dI) vwCl [(cI, .int), (cZ, .boolean)] (zz tb) ((w_X a cI cZ) σ) ((w_X a cI cZ) σ') [.ref (a 0), .int p1] r := by
  refine xw_ofW (cc := cX_isLinked) (maxL := 4) (ret := (some .boolean)) (lv := [(0, .ref (a 0)), (1, .int p1)]) (by decide) rfl (Nat.le_of_ble_eq_true rfl) rfl ?_
  intro p e s m below meth c A hAt hP hD hS ls hl
  obtain ⟨hx, hb, hr, hml, hown, hts, hlocks, hK, hZ, hA⟩ := hAt
  replace hts : ∀ w ∈ lw_g, w.before _ s = true := fun w h => hts w (List.mem_cons_of_mem _ h)
  have L_2 : ∀ (n : Nat) (x1 x2 : Int32) (τ : XSt), gX_isLinked_2 K n x1 x2 τ = some (r, σ') → ∀ (H : Heap) (locs : List Loc), va_P (dC, dI) vwCl ((w_X a cI cZ) τ) H → va_D A ((w_X a cI cZ) τ) → va_S A s.heap H locs → ∀ (ls : Array Slot), lv_has ls 4 [(0, .ref (a 0)), (1, .int x1), (2, .int x2)] → W p l e ({ frames := 0, cells := 0, slots := 0, locals := 0 } : Room) s m ([.ref (a 0), .int p1] : List Value).toArray below meth c H locs 0 0 (MQ below (va_Qi (fun (r2 : Int32) (_ : Unit) => r2 = r) (fun _ t => xw_B (dC, dI) vwCl [(cI, .int), (cZ, .boolean)] A ((w_X a cI cZ) σ') t) A) ([.ref (a 0), .int p1] : List Value).toArray s 0 0 A) (F0 m 2 ls []) := by
    intro n
    induction n with
    | zero =>
      intro x1 x2 τ hf
      rw [gX_isLinked_2] at hf
      cases hf
    | succ n ih =>
      intro x1 x2 τ hf H locs hP hD hS ls hl
      rw [gX_isLinked_2] at hf
      refine lv_iload_n hx hb dX_isLinked_2 rfl (lv_at hl 2 rfl) ?_
      refine lv_aload_n hx hb dX_isLinked_3 rfl (lv_at hl 0 rfl) ?_
      refine aX_get_links (σ := τ) (v := (x_links τ)) rfl hx hb hts hown hK hP dX_isLinked_4 ?_
      refine lv_icmp_ge (tgt := 58) hx hb dX_isLinked_7 (by decide) (fun c_1 => ?_) (fun c_1 => ?_)
      · replace hf := it_t hf c_1
        refine lv_iconst (v := (0 : Int32)) hx hb dX_isLinked_58 (by decide) ?_
        exact xw_iret (wf := (w_X a cI cZ)) hx hb hr hlocks rfl hK hP hD hS hf dX_isLinked_59
      · replace hf := it_f hf c_1
        refine lv_aload_n hx hb dX_isLinked_10 rfl (lv_at hl 0 rfl) ?_
        refine aX_get_linkField hx hb hts hown hK hP dX_isLinked_11 ?_
        refine lv_iload_n hx hb dX_isLinked_14 rfl (lv_at hl 2 rfl) ?_
        obtain ⟨g_2, hf⟩ := gd_f hf
        refine aX_ld_linkField (σ := τ) (f := (x_linkField τ)) rfl hx hb hK hP g_2 dX_isLinked_15 ?_
        refine lv_iconst (v := (4 : Int32)) hx hb dX_isLinked_16 (by decide) ?_
        refine lv_icmp_ge (tgt := 34) hx hb dX_isLinked_17 (by decide) (fun c_3 => ?_) (fun c_3 => ?_)
        · replace hf := it_t hf c_3
          refine lv_iconst (v := (0 : Int32)) hx hb dX_isLinked_34 (by decide) ?_
          refine lv_istore_n (lv' := [(3, .int (0 : Int32)), (0, .ref (a 0)), (1, .int x1), (2, .int x2)]) hx hb dX_isLinked_35 rfl hl (by decide) rfl (fun ls hl => ?_)
          refine lv_iload_n hx hb dX_isLinked_36 rfl (lv_at hl 0 rfl) ?_
          refine lv_if_ne (tgt := 50) hx hb dX_isLinked_37 (by decide) (fun c_4 => absurd c_4 (by decide)) (fun c_4 => ?_)
          refine lv_aload_n hx hb dX_isLinked_40 rfl (lv_at hl 1 rfl) ?_
          refine aX_get_linkFrom hx hb hts hown hK hP dX_isLinked_41 ?_
          refine lv_iload_n hx hb dX_isLinked_44 rfl (lv_at hl 3 rfl) ?_
          obtain ⟨g_5, hf⟩ := gd_f hf
          refine aX_ld_linkFrom (σ := τ) (f := (x_linkFrom τ)) rfl hx hb hK hP g_5 dX_isLinked_45 ?_
          refine lv_iload_n hx hb dX_isLinked_46 rfl (lv_at hl 2 rfl) ?_
          refine lv_icmp_ne (tgt := 52) hx hb dX_isLinked_47 (by decide) (fun c_6 => ?_) (fun c_6 => ?_)
          · replace hf := it_f hf c_6
            refine lv_iinc (v := (x2 + 1)) (lv' := [(2, .int (x2 + 1)), (3, .int (0 : Int32)), (0, .ref (a 0)), (1, .int x1)]) hx hb dX_isLinked_52 hl (k := 3) rfl (congrArg (HAdd.hAdd _) (by decide : Int32.ofInt (1) = (1 : Int32))) (by decide) rfl (fun ls hl => ?_)
            refine lv_goto (tgt := 2) hx hb dX_isLinked_55 (by decide) ?_
            exact ih x1 (x2 + 1) τ hf _ _ hP hD hS _ (lv_sub hl [2, 3, 0] rfl)
          · replace hf := it_t hf c_6
            refine lv_iconst (v := (1 : Int32)) hx hb dX_isLinked_50 (by decide) ?_
            exact xw_iret (wf := (w_X a cI cZ)) hx hb hr hlocks rfl hK hP hD hS hf dX_isLinked_51
        · replace hf := it_f hf c_3
          refine lv_aload_n hx hb dX_isLinked_20 rfl (lv_at hl 0 rfl) ?_
          refine aX_get_linkTo hx hb hts hown hK hP dX_isLinked_21 ?_
          refine lv_iload_n hx hb dX_isLinked_24 rfl (lv_at hl 2 rfl) ?_
          obtain ⟨g_7, hf⟩ := gd_f hf
          refine aX_ld_linkTo (σ := τ) (f := (x_linkTo τ)) rfl hx hb hK hP g_7 dX_isLinked_25 ?_
          refine lv_iload_n hx hb dX_isLinked_26 rfl (lv_at hl 1 rfl) ?_
          refine lv_icmp_ne (tgt := 34) hx hb dX_isLinked_27 (by decide) (fun c_8 => ?_) (fun c_8 => ?_)
          · replace hf := it_f hf c_8
            refine lv_iconst (v := (0 : Int32)) hx hb dX_isLinked_34 (by decide) ?_
            refine lv_istore_n (lv' := [(3, .int (0 : Int32)), (0, .ref (a 0)), (1, .int x1), (2, .int x2)]) hx hb dX_isLinked_35 rfl hl (by decide) rfl (fun ls hl => ?_)
            refine lv_iload_n hx hb dX_isLinked_36 rfl (lv_at hl 0 rfl) ?_
            refine lv_if_ne (tgt := 50) hx hb dX_isLinked_37 (by decide) (fun c_9 => absurd c_9 (by decide)) (fun c_9 => ?_)
            refine lv_aload_n hx hb dX_isLinked_40 rfl (lv_at hl 1 rfl) ?_
            refine aX_get_linkFrom hx hb hts hown hK hP dX_isLinked_41 ?_
            refine lv_iload_n hx hb dX_isLinked_44 rfl (lv_at hl 3 rfl) ?_
            obtain ⟨g_10, hf⟩ := gd_f hf
            refine aX_ld_linkFrom (σ := τ) (f := (x_linkFrom τ)) rfl hx hb hK hP g_10 dX_isLinked_45 ?_
            refine lv_iload_n hx hb dX_isLinked_46 rfl (lv_at hl 2 rfl) ?_
            refine lv_icmp_ne (tgt := 52) hx hb dX_isLinked_47 (by decide) (fun c_11 => ?_) (fun c_11 => ?_)
            · replace hf := it_f hf c_11
              refine lv_iinc (v := (x2 + 1)) (lv' := [(2, .int (x2 + 1)), (3, .int (0 : Int32)), (0, .ref (a 0)), (1, .int x1)]) hx hb dX_isLinked_52 hl (k := 3) rfl (congrArg (HAdd.hAdd _) (by decide : Int32.ofInt (1) = (1 : Int32))) (by decide) rfl (fun ls hl => ?_)
              refine lv_goto (tgt := 2) hx hb dX_isLinked_55 (by decide) ?_
              exact ih x1 (x2 + 1) τ hf _ _ hP hD hS _ (lv_sub hl [2, 3, 0] rfl)
            · replace hf := it_t hf c_11
              refine lv_iconst (v := (1 : Int32)) hx hb dX_isLinked_50 (by decide) ?_
              exact xw_iret (wf := (w_X a cI cZ)) hx hb hr hlocks rfl hK hP hD hS hf dX_isLinked_51
          · replace hf := it_t hf c_8
            refine lv_iconst (v := (1 : Int32)) hx hb dX_isLinked_30 (by decide) ?_
            refine lv_goto (tgt := 35) hx hb dX_isLinked_31 (by decide) ?_
            refine lv_istore_n (lv' := [(3, .int (1 : Int32)), (0, .ref (a 0)), (1, .int x1), (2, .int x2)]) hx hb dX_isLinked_35 rfl hl (by decide) rfl (fun ls hl => ?_)
            refine lv_iload_n hx hb dX_isLinked_36 rfl (lv_at hl 0 rfl) ?_
            refine lv_if_ne (tgt := 50) hx hb dX_isLinked_37 (by decide) (fun c_12 => ?_) (fun c_12 => absurd c_12 (by decide))
            refine lv_iconst (v := (1 : Int32)) hx hb dX_isLinked_50 (by decide) ?_
            exact xw_iret (wf := (w_X a cI cZ)) hx hb hr hlocks rfl hK hP hD hS hf dX_isLinked_51
  unfold fX_isLinked at hf
  refine lv_iconst (v := (0 : Int32)) hx hb dX_isLinked_0 (by decide) ?_
  refine lv_istore_n (lv' := [(2, .int (0 : Int32)), (0, .ref (a 0)), (1, .int p1)]) hx hb dX_isLinked_1 rfl hl (by decide) rfl (fun ls hl => ?_)
  exact L_2 K p1 (0 : Int32) σ hf _ _ hP hD hS _ (lv_sub hl [1, 2, 0] rfl)
def gX_orphan_10 (K : Nat) : Nat → Int32 → Int32 → Int32 → XSt → Option (Int32 × XSt)
  | 0, _, _, _, _ => none
  | n + 1, x1, x2, x3, τ => (if (x_records τ) < x3 then some ((0 : Int32), τ) else (if x3 < 0 ∨ 61 ≤ x3.toNatClampNeg then none else (if ((x_live τ) x3.toNatClampNeg) = 0 then (gX_orphan_10 K n x1 x2 (x3 + 1) τ) else ((fX_isLinked K x3 τ).bind fun q_5 => (if q_5.1 = 0 then (if x2 = x1 then some (x3, q_5.2) else (gX_orphan_10 K n x1 (x2 + 1) (x3 + 1) q_5.2)) else (gX_orphan_10 K n x1 x2 (x3 + 1) q_5.2))))))
def fX_orphan (K : Nat) (p1 : Int32) (σ : XSt) : Option (Int32 × XSt) := (if 0 ≤ p1 then (gX_orphan_10 K K p1 (0 : Int32) (1 : Int32) σ) else some ((0 : Int32), σ))
set_option maxHeartbeats 4000000 in
set_option maxRecDepth 100000 in
theorem kX_orphan (l : Launch) (dC : Nat → ClassId) (dI : Nat → Nat → Nat) (a : Nat → Nat) (cI cZ : ClassId) (tb : Nat) (K : Nat) (p1 : Int32) (σ σ' : XSt) (r : Int32) (hf : fX_orphan K p1 σ = some (r, σ')) : xw_Ct l yX_orphan wdX_orphan ({ frames := 1, cells := 0, slots := 0, locals := 23 } : Room) (dC, dI) vwCl [(cI, .int), (cZ, .boolean)] (zz tb) ((w_X a cI cZ) σ) ((w_X a cI cZ) σ') [.ref (a 0), .int p1] r := by
  refine xw_ofW (cc := cX_orphan) (maxL := 4) (ret := (some .int)) (lv := [(0, .ref (a 0)), (1, .int p1)]) (by decide) rfl (Nat.le_of_ble_eq_true rfl) rfl ?_
  intro p e s m below meth c A hAt hP hD hS ls hl
  obtain ⟨hx, hb, hr, hml, hown, hts, hlocks, hK, hZ, hA⟩ := hAt
  replace hts : ∀ w ∈ lw_g, w.before _ s = true := fun w h => hts w (List.mem_cons_of_mem _ h)
  have L_10 : ∀ (n : Nat) (x1 x2 x3 : Int32) (τ : XSt), gX_orphan_10 K n x1 x2 x3 τ = some (r, σ') → ∀ (H : Heap) (locs : List Loc), va_P (dC, dI) vwCl ((w_X a cI cZ) τ) H → va_D A ((w_X a cI cZ) τ) → va_S A s.heap H locs → ∀ (ls : Array Slot), lv_has ls 4 [(0, .ref (a 0)), (1, .int x1), (2, .int x2), (3, .int x3)] → W p l e ({ frames := 1, cells := 0, slots := 0, locals := 23 } : Room) s m ([.ref (a 0), .int p1] : List Value).toArray below meth c H locs 0 0 (MQ below (va_Qi (fun (r2 : Int32) (_ : Unit) => r2 = r) (fun _ t => xw_B (dC, dI) vwCl [(cI, .int), (cZ, .boolean)] A ((w_X a cI cZ) σ') t) A) ([.ref (a 0), .int p1] : List Value).toArray s 0 0 A) (F0 m 10 ls []) := by
    intro n
    induction n with
    | zero =>
      intro x1 x2 x3 τ hf
      rw [gX_orphan_10] at hf
      cases hf
    | succ n ih =>
      intro x1 x2 x3 τ hf H locs hP hD hS ls hl
      rw [gX_orphan_10] at hf
      refine lv_iload_n hx hb dX_orphan_10 rfl (lv_at hl 3 rfl) ?_
      refine lv_aload_n hx hb dX_orphan_11 rfl (lv_at hl 0 rfl) ?_
      refine aX_get_records (σ := τ) (v := (x_records τ)) rfl hx hb hts hown hK hP dX_orphan_12 ?_
      refine lv_icmp_gt (tgt := 51) hx hb dX_orphan_15 (by decide) (fun c_2 => ?_) (fun c_2 => ?_)
      · replace hf := it_t hf c_2
        refine lv_iconst (v := (0 : Int32)) hx hb dX_orphan_51 (by decide) ?_
        exact xw_iret (wf := (w_X a cI cZ)) hx hb hr hlocks rfl hK hP hD hS hf dX_orphan_52
      · replace hf := it_f hf c_2
        refine lv_aload_n hx hb dX_orphan_18 rfl (lv_at hl 0 rfl) ?_
        refine aX_get_live hx hb hts hown hK hP dX_orphan_19 ?_
        refine lv_iload_n hx hb dX_orphan_22 rfl (lv_at hl 3 rfl) ?_
        obtain ⟨g_3, hf⟩ := gd_f hf
        refine aX_ld_live (σ := τ) (f := (x_live τ)) rfl hx hb hK hP g_3 dX_orphan_23 ?_
        refine lv_if_eq (tgt := 45) hx hb dX_orphan_24 (by decide) (fun c_4 => ?_) (fun c_4 => ?_)
        · replace hf := it_t hf c_4
          refine lv_iinc (v := (x3 + 1)) (lv' := [(3, .int (x3 + 1)), (0, .ref (a 0)), (1, .int x1), (2, .int x2)]) hx hb dX_orphan_45 hl (k := 3) rfl (congrArg (HAdd.hAdd _) (by decide : Int32.ofInt (1) = (1 : Int32))) (by decide) rfl (fun ls hl => ?_)
          refine lv_goto (tgt := 10) hx hb dX_orphan_48 (by decide) ?_
          exact ih x1 x2 (x3 + 1) τ hf _ _ hP hD hS _ (lv_sub hl [1, 2, 3, 0] rfl)
        · replace hf := it_f hf c_4
          refine lv_aload_n hx hb dX_orphan_27 rfl (lv_at hl 0 rfl) ?_
          refine lv_iload_n hx hb dX_orphan_28 rfl (lv_at hl 3 rfl) ?_
          obtain ⟨q_5, hq_5, hf⟩ := bd_s hf
          refine xw_callV (kX_isLinked l dC dI a cI cZ tb K x3 τ q_5.2 q_5.1 hq_5) ⟨hx, hb, hml, hown, hts⟩ (cwV 1 hts (gw_V mt_194 mt_196 mt_14 mt_25 mt_197) rfl rfl rfl hdX_isLinked ⟨Nat.le_of_ble_eq_true rfl, Nat.le_of_ble_eq_true rfl⟩) hK hP hD hS hA hZ (q0 := 0) (ci := 0) rfl rfl rfl hl.1 rfl (Nat.le_of_ble_eq_true rfl) dX_orphan_29 ⟨Nat.zero_le _, Nat.zero_le _⟩ (fun H locs hP hD hS => ?_)
          refine lv_if_ne (tgt := 45) hx hb dX_orphan_32 (by decide) (fun c_6 => ?_) (fun c_6 => ?_)
          · replace hf := it_f hf c_6
            refine lv_iinc (v := (x3 + 1)) (lv' := [(3, .int (x3 + 1)), (0, .ref (a 0)), (1, .int x1), (2, .int x2)]) hx hb dX_orphan_45 hl (k := 3) rfl (congrArg (HAdd.hAdd _) (by decide : Int32.ofInt (1) = (1 : Int32))) (by decide) rfl (fun ls hl => ?_)
            refine lv_goto (tgt := 10) hx hb dX_orphan_48 (by decide) ?_
            exact ih x1 x2 (x3 + 1) q_5.2 hf _ _ hP hD hS _ (lv_sub hl [1, 2, 3, 0] rfl)
          · replace hf := it_t hf c_6
            refine lv_iload_n hx hb dX_orphan_35 rfl (lv_at hl 2 rfl) ?_
            refine lv_iload_n hx hb dX_orphan_36 rfl (lv_at hl 1 rfl) ?_
            refine lv_icmp_ne (tgt := 42) hx hb dX_orphan_37 (by decide) (fun c_7 => ?_) (fun c_7 => ?_)
            · replace hf := it_f hf c_7
              refine lv_iinc (v := (x2 + 1)) (lv' := [(2, .int (x2 + 1)), (0, .ref (a 0)), (1, .int x1), (3, .int x3)]) hx hb dX_orphan_42 hl (k := 2) rfl (congrArg (HAdd.hAdd _) (by decide : Int32.ofInt (1) = (1 : Int32))) (by decide) rfl (fun ls hl => ?_)
              refine lv_iinc (v := (x3 + 1)) (lv' := [(3, .int (x3 + 1)), (2, .int (x2 + 1)), (0, .ref (a 0)), (1, .int x1)]) hx hb dX_orphan_45 hl (k := 3) rfl (congrArg (HAdd.hAdd _) (by decide : Int32.ofInt (1) = (1 : Int32))) (by decide) rfl (fun ls hl => ?_)
              refine lv_goto (tgt := 10) hx hb dX_orphan_48 (by decide) ?_
              exact ih x1 (x2 + 1) (x3 + 1) q_5.2 hf _ _ hP hD hS _ (lv_sub hl [2, 3, 1, 0] rfl)
            · replace hf := it_t hf c_7
              refine lv_iload_n hx hb dX_orphan_40 rfl (lv_at hl 3 rfl) ?_
              exact xw_iret (wf := (w_X a cI cZ)) hx hb hr hlocks rfl hK hP hD hS hf dX_orphan_41
  unfold fX_orphan at hf
  refine lv_iload_n hx hb dX_orphan_0 rfl (lv_at hl 1 rfl) ?_
  refine lv_if_ge (tgt := 6) hx hb dX_orphan_1 (by decide) (fun c_1 => ?_) (fun c_1 => ?_)
  · replace hf := it_t hf c_1
    refine lv_iconst (v := (0 : Int32)) hx hb dX_orphan_6 (by decide) ?_
    refine lv_istore_n (lv' := [(2, .int (0 : Int32)), (0, .ref (a 0)), (1, .int p1)]) hx hb dX_orphan_7 rfl hl (by decide) rfl (fun ls hl => ?_)
    refine lv_iconst (v := (1 : Int32)) hx hb dX_orphan_8 (by decide) ?_
    refine lv_istore_n (lv' := [(3, .int (1 : Int32)), (2, .int (0 : Int32)), (0, .ref (a 0)), (1, .int p1)]) hx hb dX_orphan_9 rfl hl (by decide) rfl (fun ls hl => ?_)
    exact L_10 K p1 (0 : Int32) (1 : Int32) σ hf _ _ hP hD hS _ (lv_sub hl [2, 3, 1, 0] rfl)
  · replace hf := it_f hf c_1
    refine lv_iconst (v := (0 : Int32)) hx hb dX_orphan_4 (by decide) ?_
    exact xw_iret (wf := (w_X a cI cZ)) hx hb hr hlocks rfl hK hP hD hS hf dX_orphan_5
def fX_house (K : Nat) (p1 : Int32) (σ : XSt) : Option (Int32 × XSt) := ((fX_isRecord K p1 σ).bind fun q_1 => (if q_1.1 = 0 then some ((-1 : Int32), q_1.2) else (if p1 < 0 ∨ 61 ≤ p1.toNatClampNeg then none else some (((x_houses q_1.2) p1.toNatClampNeg), q_1.2))))
set_option maxHeartbeats 4000000 in
set_option maxRecDepth 100000 in
theorem kX_house (l : Launch) (dC : Nat → ClassId) (dI : Nat → Nat → Nat) (a : Nat → Nat) (cI cZ : ClassId) (tb : Nat) (K : Nat) (p1 : Int32) (σ σ' : XSt) (r : Int32) (hf : fX_house K p1 σ = some (r, σ')) : xw_Ct l yX_house wdX_house ({ frames := 1, cells := 0, slots := 0, locals := 21 } : Room) (dC, dI) vwCl [(cI, .int), (cZ, .boolean)] (zz tb) ((w_X a cI cZ) σ) ((w_X a cI cZ) σ') [.ref (a 0), .int p1] r := by
  refine xw_ofW (cc := cX_house) (maxL := 2) (ret := (some .int)) (lv := [(0, .ref (a 0)), (1, .int p1)]) (by decide) rfl (Nat.le_of_ble_eq_true rfl) rfl ?_
  intro p e s m below meth c A hAt hP hD hS ls hl
  obtain ⟨hx, hb, hr, hml, hown, hts, hlocks, hK, hZ, hA⟩ := hAt
  replace hts : ∀ w ∈ lw_g, w.before _ s = true := fun w h => hts w (List.mem_cons_of_mem _ h)
  unfold fX_house at hf
  refine lv_aload_n hx hb dX_house_0 rfl (lv_at hl 0 rfl) ?_
  refine lv_iload_n hx hb dX_house_1 rfl (lv_at hl 1 rfl) ?_
  obtain ⟨q_1, hq_1, hf⟩ := bd_s hf
  refine xw_callV (kX_isRecord l dC dI a cI cZ tb K p1 σ q_1.2 q_1.1 hq_1) ⟨hx, hb, hml, hown, hts⟩ (cwV 1 hts (gw_V mt_95 mt_97 mt_2 mt_25 mt_98) rfl rfl rfl hdX_isRecord ⟨Nat.le_of_ble_eq_true rfl, Nat.le_of_ble_eq_true rfl⟩) hK hP hD hS hA hZ (q0 := 0) (ci := 0) rfl rfl rfl hl.1 rfl (Nat.le_of_ble_eq_true rfl) dX_house_2 ⟨Nat.zero_le _, Nat.zero_le _⟩ (fun H locs hP hD hS => ?_)
  refine lv_if_eq (tgt := 17) hx hb dX_house_5 (by decide) (fun c_2 => ?_) (fun c_2 => ?_)
  · replace hf := it_t hf c_2
    refine lv_iconst (v := (-1 : Int32)) hx hb dX_house_17 (by decide) ?_
    exact xw_iret (wf := (w_X a cI cZ)) hx hb hr hlocks rfl hK hP hD hS hf dX_house_18
  · replace hf := it_f hf c_2
    refine lv_aload_n hx hb dX_house_8 rfl (lv_at hl 0 rfl) ?_
    refine aX_get_houses hx hb hts hown hK hP dX_house_9 ?_
    refine lv_iload_n hx hb dX_house_12 rfl (lv_at hl 1 rfl) ?_
    obtain ⟨g_3, hf⟩ := gd_f hf
    refine aX_ld_houses (σ := q_1.2) (f := (x_houses q_1.2)) rfl hx hb hK hP g_3 dX_house_13 ?_
    refine lv_goto (tgt := 18) hx hb dX_house_14 (by decide) ?_
    exact xw_iret (wf := (w_X a cI cZ)) hx hb hr hlocks rfl hK hP hD hS hf dX_house_18
end
section
def gX_goes_12 (K : Nat) : Nat → Int32 → Int32 → Int32 → Int32 → Int32 → XSt → Option (Int32 × XSt)
  | 0, _, _, _, _, _, _ => none
  | n + 1, x1, x2, x3, x4, x5, τ => (if (x_links τ) ≤ x5 then some ((0 : Int32), τ) else (if x5 < 0 ∨ 200 ≤ x5.toNatClampNeg then none else (if ((x_linkFrom τ) x5.toNatClampNeg) = x1 then (if x5 < 0 ∨ 200 ≤ x5.toNatClampNeg then none else (if ((x_linkField τ) x5.toNatClampNeg) = x2 then (if x4 = x3 then (if x5 < 0 ∨ 200 ≤ x5.toNatClampNeg then none else some (((x_linkTo τ) x5.toNatClampNeg), τ)) else (gX_goes_12 K n x1 x2 x3 (x4 + 1) (x5 + 1) τ)) else (gX_goes_12 K n x1 x2 x3 x4 (x5 + 1) τ))) else (gX_goes_12 K n x1 x2 x3 x4 (x5 + 1) τ))))
def fX_goes (K : Nat) (p1 p2 p3 : Int32) (σ : XSt) : Option (Int32 × XSt) := (if 0 ≤ p3 then (gX_goes_12 K K p1 p2 p3 (0 : Int32) (0 : Int32) σ) else some ((0 : Int32), σ))
set_option maxHeartbeats 4000000 in
set_option maxRecDepth 100000 in
theorem kX_goes (l : Launch) (dC : Nat → ClassId) (dI : Nat → Nat → Nat) (a : Nat → Nat) (cI cZ : ClassId) (tb : Nat) (K : Nat) (p1 p2 p3 : Int32) (σ σ' : XSt) (r : Int32) (hf : fX_goes K p1 p2 p3 σ = some (r, σ')) : xw_Ct l yX_goes wdX_goes ({ frames := 0, cells := 0, slots := 0, locals := 0 } : Room) (dC, dI) vwCl [(cI, .int), (cZ, .boolean)] (zz tb) ((w_X a cI cZ) σ) ((w_X a cI cZ) σ') [.ref (a 0), .int p1, .int p2, .int p3] r := by
  refine xw_ofW (cc := cX_goes) (maxL := 6) (ret := (some .int)) (lv := [(0, .ref (a 0)), (1, .int p1), (2, .int p2), (3, .int p3)]) (by decide) rfl (Nat.le_of_ble_eq_true rfl) rfl ?_
  intro p e s m below meth c A hAt hP hD hS ls hl
  obtain ⟨hx, hb, hr, hml, hown, hts, hlocks, hK, hZ, hA⟩ := hAt
  replace hts : ∀ w ∈ lw_g, w.before _ s = true := fun w h => hts w (List.mem_cons_of_mem _ h)
  have L_12 : ∀ (n : Nat) (x1 x2 x3 x4 x5 : Int32) (τ : XSt), gX_goes_12 K n x1 x2 x3 x4 x5 τ = some (r, σ') → ∀ (H : Heap) (locs : List Loc), va_P (dC, dI) vwCl ((w_X a cI cZ) τ) H → va_D A ((w_X a cI cZ) τ) → va_S A s.heap H locs → ∀ (ls : Array Slot), lv_has ls 6 [(0, .ref (a 0)), (1, .int x1), (2, .int x2), (3, .int x3), (4, .int x4), (5, .int x5)] → W p l e ({ frames := 0, cells := 0, slots := 0, locals := 0 } : Room) s m ([.ref (a 0), .int p1, .int p2, .int p3] : List Value).toArray below meth c H locs 0 0 (MQ below (va_Qi (fun (r2 : Int32) (_ : Unit) => r2 = r) (fun _ t => xw_B (dC, dI) vwCl [(cI, .int), (cZ, .boolean)] A ((w_X a cI cZ) σ') t) A) ([.ref (a 0), .int p1, .int p2, .int p3] : List Value).toArray s 0 0 A) (F0 m 12 ls []) := by
    intro n
    induction n with
    | zero =>
      intro x1 x2 x3 x4 x5 τ hf
      rw [gX_goes_12] at hf
      cases hf
    | succ n ih =>
      intro x1 x2 x3 x4 x5 τ hf H locs hP hD hS ls hl
      rw [gX_goes_12] at hf
      refine lv_iload hx hb dX_goes_12 (lv_at hl 5 rfl) ?_
      refine lv_aload_n hx hb dX_goes_14 rfl (lv_at hl 0 rfl) ?_
      refine aX_get_links (σ := τ) (v := (x_links τ)) rfl hx hb hts hown hK hP dX_goes_15 ?_
      refine lv_icmp_ge (tgt := 66) hx hb dX_goes_18 (by decide) (fun c_2 => ?_) (fun c_2 => ?_)
      · replace hf := it_t hf c_2
        refine lv_iconst (v := (0 : Int32)) hx hb dX_goes_66 (by decide) ?_
        exact xw_iret (wf := (w_X a cI cZ)) hx hb hr hlocks rfl hK hP hD hS hf dX_goes_67
      · replace hf := it_f hf c_2
        refine lv_aload_n hx hb dX_goes_21 rfl (lv_at hl 0 rfl) ?_
        refine aX_get_linkFrom hx hb hts hown hK hP dX_goes_22 ?_
        refine lv_iload hx hb dX_goes_25 (lv_at hl 5 rfl) ?_
        obtain ⟨g_3, hf⟩ := gd_f hf
        refine aX_ld_linkFrom (σ := τ) (f := (x_linkFrom τ)) rfl hx hb hK hP g_3 dX_goes_27 ?_
        refine lv_iload_n hx hb dX_goes_28 rfl (lv_at hl 1 rfl) ?_
        refine lv_icmp_ne (tgt := 60) hx hb dX_goes_29 (by decide) (fun c_4 => ?_) (fun c_4 => ?_)
        · replace hf := it_f hf c_4
          refine lv_iinc (v := (x5 + 1)) (lv' := [(5, .int (x5 + 1)), (0, .ref (a 0)), (1, .int x1), (2, .int x2), (3, .int x3), (4, .int x4)]) hx hb dX_goes_60 hl (k := 5) rfl (congrArg (HAdd.hAdd _) (by decide : Int32.ofInt (1) = (1 : Int32))) (by decide) rfl (fun ls hl => ?_)
          refine lv_goto (tgt := 12) hx hb dX_goes_63 (by decide) ?_
          exact ih x1 x2 x3 x4 (x5 + 1) τ hf _ _ hP hD hS _ (lv_sub hl [1, 2, 3, 4, 5, 0] rfl)
        · replace hf := it_t hf c_4
          refine lv_aload_n hx hb dX_goes_32 rfl (lv_at hl 0 rfl) ?_
          refine aX_get_linkField hx hb hts hown hK hP dX_goes_33 ?_
          refine lv_iload hx hb dX_goes_36 (lv_at hl 5 rfl) ?_
          obtain ⟨g_5, hf⟩ := gd_f hf
          refine aX_ld_linkField (σ := τ) (f := (x_linkField τ)) rfl hx hb hK hP g_5 dX_goes_38 ?_
          refine lv_iload_n hx hb dX_goes_39 rfl (lv_at hl 2 rfl) ?_
          refine lv_icmp_ne (tgt := 60) hx hb dX_goes_40 (by decide) (fun c_6 => ?_) (fun c_6 => ?_)
          · replace hf := it_f hf c_6
            refine lv_iinc (v := (x5 + 1)) (lv' := [(5, .int (x5 + 1)), (0, .ref (a 0)), (1, .int x1), (2, .int x2), (3, .int x3), (4, .int x4)]) hx hb dX_goes_60 hl (k := 5) rfl (congrArg (HAdd.hAdd _) (by decide : Int32.ofInt (1) = (1 : Int32))) (by decide) rfl (fun ls hl => ?_)
            refine lv_goto (tgt := 12) hx hb dX_goes_63 (by decide) ?_
            exact ih x1 x2 x3 x4 (x5 + 1) τ hf _ _ hP hD hS _ (lv_sub hl [1, 2, 3, 4, 5, 0] rfl)
          · replace hf := it_t hf c_6
            refine lv_iload hx hb dX_goes_43 (lv_at hl 4 rfl) ?_
            refine lv_iload_n hx hb dX_goes_45 rfl (lv_at hl 3 rfl) ?_
            refine lv_icmp_ne (tgt := 57) hx hb dX_goes_46 (by decide) (fun c_7 => ?_) (fun c_7 => ?_)
            · replace hf := it_f hf c_7
              refine lv_iinc (v := (x4 + 1)) (lv' := [(4, .int (x4 + 1)), (0, .ref (a 0)), (1, .int x1), (2, .int x2), (3, .int x3), (5, .int x5)]) hx hb dX_goes_57 hl (k := 4) rfl (congrArg (HAdd.hAdd _) (by decide : Int32.ofInt (1) = (1 : Int32))) (by decide) rfl (fun ls hl => ?_)
              refine lv_iinc (v := (x5 + 1)) (lv' := [(5, .int (x5 + 1)), (4, .int (x4 + 1)), (0, .ref (a 0)), (1, .int x1), (2, .int x2), (3, .int x3)]) hx hb dX_goes_60 hl (k := 5) rfl (congrArg (HAdd.hAdd _) (by decide : Int32.ofInt (1) = (1 : Int32))) (by decide) rfl (fun ls hl => ?_)
              refine lv_goto (tgt := 12) hx hb dX_goes_63 (by decide) ?_
              exact ih x1 x2 x3 (x4 + 1) (x5 + 1) τ hf _ _ hP hD hS _ (lv_sub hl [2, 3, 4, 5, 1, 0] rfl)
            · replace hf := it_t hf c_7
              refine lv_aload_n hx hb dX_goes_49 rfl (lv_at hl 0 rfl) ?_
              refine aX_get_linkTo hx hb hts hown hK hP dX_goes_50 ?_
              refine lv_iload hx hb dX_goes_53 (lv_at hl 5 rfl) ?_
              obtain ⟨g_8, hf⟩ := gd_f hf
              refine aX_ld_linkTo (σ := τ) (f := (x_linkTo τ)) rfl hx hb hK hP g_8 dX_goes_55 ?_
              exact xw_iret (wf := (w_X a cI cZ)) hx hb hr hlocks rfl hK hP hD hS hf dX_goes_56
  unfold fX_goes at hf
  refine lv_iload_n hx hb dX_goes_0 rfl (lv_at hl 3 rfl) ?_
  refine lv_if_ge (tgt := 6) hx hb dX_goes_1 (by decide) (fun c_1 => ?_) (fun c_1 => ?_)
  · replace hf := it_t hf c_1
    refine lv_iconst (v := (0 : Int32)) hx hb dX_goes_6 (by decide) ?_
    refine lv_istore (lv' := [(4, .int (0 : Int32)), (0, .ref (a 0)), (1, .int p1), (2, .int p2), (3, .int p3)]) hx hb dX_goes_7 hl (by decide) rfl (fun ls hl => ?_)
    refine lv_iconst (v := (0 : Int32)) hx hb dX_goes_9 (by decide) ?_
    refine lv_istore (lv' := [(5, .int (0 : Int32)), (4, .int (0 : Int32)), (0, .ref (a 0)), (1, .int p1), (2, .int p2), (3, .int p3)]) hx hb dX_goes_10 hl (by decide) rfl (fun ls hl => ?_)
    exact L_12 K p1 p2 p3 (0 : Int32) (0 : Int32) σ hf _ _ hP hD hS _ (lv_sub hl [2, 3, 4, 5, 1, 0] rfl)
  · replace hf := it_f hf c_1
    refine lv_iconst (v := (0 : Int32)) hx hb dX_goes_4 (by decide) ?_
    exact xw_iret (wf := (w_X a cI cZ)) hx hb hr hlocks rfl hK hP hD hS hf dX_goes_5
end
section
def fM_record (K : Nat) (σ : MSt) : Option (Int32 × MSt) := (if (m_records σ) = (60 : Int32) then some ((0 : Int32), (m_pthrown σ (0 : Int32))) else (if ((m_records σ) + (1 : Int32)) < 0 ∨ 61 ≤ ((m_records σ) + (1 : Int32)).toNatClampNeg then none else some (((m_records σ) + (1 : Int32)), (m_plive (m_precords (m_pthrown σ (0 : Int32)) ((m_records σ) + (1 : Int32))) (upd (m_live σ) ((m_records σ) + (1 : Int32)).toNatClampNeg (vp_nar .boolean (1 : Int32)))))))
set_option maxHeartbeats 4000000 in
set_option maxRecDepth 100000 in
theorem kM_record (l : Launch) (dC : Nat → ClassId) (dI : Nat → Nat → Nat) (a : Nat → Nat) (cI cZ : ClassId) (tb : Nat) (K : Nat) (σ σ' : MSt) (r : Int32) (hf : fM_record K  σ = some (r, σ')) : xw_Ct l yM_record wdM_record ({ frames := 0, cells := 0, slots := 0, locals := 0 } : Room) (dC, dI) vwCl [(cI, .int), (cZ, .boolean)] (zz tb) ((w_M a cI cZ) σ) ((w_M a cI cZ) σ') [.ref (a 0)] r := by
  refine xw_ofW (cc := cM_record) (maxL := 1) (ret := (some .int)) (lv := [(0, .ref (a 0))]) (by decide) rfl (Nat.le_of_ble_eq_true rfl) rfl ?_
  intro p e s m below meth c A hAt hP hD hS ls hl
  obtain ⟨hx, hb, hr, hml, hown, hts, hlocks, hK, hZ, hA⟩ := hAt
  replace hts : ∀ w ∈ lw_g, w.before _ s = true := fun w h => hts w (List.mem_cons_of_mem _ h)
  unfold fM_record at hf
  refine lv_aload_n hx hb dM_record_0 rfl (lv_at hl 0 rfl) ?_
  refine lv_iconst (v := (0 : Int32)) hx hb dM_record_1 (by decide) ?_
  refine aM_put_thrown (σ := σ) (v := (0 : Int32)) (τ := (m_pthrown σ (0 : Int32))) rfl hx hb hts hown hK hP hD hS dM_record_2 (fun H locs hP hD hS => ?_)
  refine lv_aload_n hx hb dM_record_5 rfl (lv_at hl 0 rfl) ?_
  refine aM_get_records (σ := (m_pthrown σ (0 : Int32))) (v := (m_records σ)) rfl hx hb hts hown hK hP dM_record_6 ?_
  refine lv_bipush (v := (60 : Int32)) hx hb dM_record_9 (by decide) ?_
  refine lv_icmp_ne (tgt := 16) hx hb dM_record_11 (by decide) (fun c_1 => ?_) (fun c_1 => ?_)
  · replace hf := it_f hf c_1
    refine lv_aload_n hx hb dM_record_16 rfl (lv_at hl 0 rfl) ?_
    refine lv_dup hx hb dM_record_17 rfl ?_
    refine aM_get_records (σ := (m_pthrown σ (0 : Int32))) (v := (m_records σ)) rfl hx hb hts hown hK hP dM_record_18 ?_
    refine lv_iconst (v := (1 : Int32)) hx hb dM_record_21 (by decide) ?_
    refine lv_iadd hx hb dM_record_22 ?_
    refine aM_put_records (σ := (m_pthrown σ (0 : Int32))) (v := ((m_records σ) + (1 : Int32))) (τ := (m_precords (m_pthrown σ (0 : Int32)) ((m_records σ) + (1 : Int32)))) rfl hx hb hts hown hK hP hD hS dM_record_23 (fun H locs hP hD hS => ?_)
    refine lv_aload_n hx hb dM_record_26 rfl (lv_at hl 0 rfl) ?_
    refine aM_get_live hx hb hts hown hK hP dM_record_27 ?_
    refine lv_aload_n hx hb dM_record_30 rfl (lv_at hl 0 rfl) ?_
    refine aM_get_records (σ := (m_precords (m_pthrown σ (0 : Int32)) ((m_records σ) + (1 : Int32)))) (v := ((m_records σ) + (1 : Int32))) rfl hx hb hts hown hK hP dM_record_31 ?_
    refine lv_iconst (v := (1 : Int32)) hx hb dM_record_34 (by decide) ?_
    obtain ⟨g_2, hf⟩ := gd_f hf
    refine aM_st_live (σ := (m_precords (m_pthrown σ (0 : Int32)) ((m_records σ) + (1 : Int32)))) (f := (m_live σ)) (x := (1 : Int32)) (τ := (m_plive (m_precords (m_pthrown σ (0 : Int32)) ((m_records σ) + (1 : Int32))) (upd (m_live σ) ((m_records σ) + (1 : Int32)).toNatClampNeg (vp_nar .boolean (1 : Int32))))) rfl rfl hx hb hK hP hD hS g_2 dM_record_35 (fun H locs hP hD hS => ?_)
    refine lv_aload_n hx hb dM_record_36 rfl (lv_at hl 0 rfl) ?_
    refine aM_get_records (σ := (m_plive (m_precords (m_pthrown σ (0 : Int32)) ((m_records σ) + (1 : Int32))) (upd (m_live σ) ((m_records σ) + (1 : Int32)).toNatClampNeg (vp_nar .boolean (1 : Int32))))) (v := ((m_records σ) + (1 : Int32))) rfl hx hb hts hown hK hP dM_record_37 ?_
    exact xw_iret (wf := (w_M a cI cZ)) hx hb hr hlocks rfl hK hP hD hS hf dM_record_40
  · replace hf := it_t hf c_1
    refine lv_iconst (v := (0 : Int32)) hx hb dM_record_14 (by decide) ?_
    exact xw_iret (wf := (w_M a cI cZ)) hx hb hr hlocks rfl hK hP hD hS hf dM_record_15
def fM_isLive (K : Nat) (p1 : Int32) (σ : MSt) : Option (Int32 × MSt) := (if p1 ≤ 0 then some ((0 : Int32), σ) else (if (m_records σ) < p1 then some ((0 : Int32), σ) else (if p1 < 0 ∨ 61 ≤ p1.toNatClampNeg then none else (if ((m_live σ) p1.toNatClampNeg) = 0 then some ((0 : Int32), σ) else some ((1 : Int32), σ)))))
set_option maxHeartbeats 4000000 in
set_option maxRecDepth 100000 in
theorem kM_isLive (l : Launch) (dC : Nat → ClassId) (dI : Nat → Nat → Nat) (a : Nat → Nat) (cI cZ : ClassId) (tb : Nat) (K : Nat) (p1 : Int32) (σ σ' : MSt) (r : Int32) (hf : fM_isLive K p1 σ = some (r, σ')) : xw_Ct l yM_isLive wdM_isLive ({ frames := 0, cells := 0, slots := 0, locals := 0 } : Room) (dC, dI) vwCl [(cI, .int), (cZ, .boolean)] (zz tb) ((w_M a cI cZ) σ) ((w_M a cI cZ) σ') [.ref (a 0), .int p1] r := by
  refine xw_ofW (cc := cM_isLive) (maxL := 2) (ret := (some .boolean)) (lv := [(0, .ref (a 0)), (1, .int p1)]) (by decide) rfl (Nat.le_of_ble_eq_true rfl) rfl ?_
  intro p e s m below meth c A hAt hP hD hS ls hl
  obtain ⟨hx, hb, hr, hml, hown, hts, hlocks, hK, hZ, hA⟩ := hAt
  replace hts : ∀ w ∈ lw_g, w.before _ s = true := fun w h => hts w (List.mem_cons_of_mem _ h)
  unfold fM_isLive at hf
  refine lv_iload_n hx hb dM_isLive_0 rfl (lv_at hl 1 rfl) ?_
  refine lv_if_le (tgt := 25) hx hb dM_isLive_1 (by decide) (fun c_1 => ?_) (fun c_1 => ?_)
  · replace hf := it_t hf c_1
    refine lv_iconst (v := (0 : Int32)) hx hb dM_isLive_25 (by decide) ?_
    exact xw_iret (wf := (w_M a cI cZ)) hx hb hr hlocks rfl hK hP hD hS hf dM_isLive_26
  · replace hf := it_f hf c_1
    refine lv_iload_n hx hb dM_isLive_4 rfl (lv_at hl 1 rfl) ?_
    refine lv_aload_n hx hb dM_isLive_5 rfl (lv_at hl 0 rfl) ?_
    refine aM_get_records (σ := σ) (v := (m_records σ)) rfl hx hb hts hown hK hP dM_isLive_6 ?_
    refine lv_icmp_gt (tgt := 25) hx hb dM_isLive_9 (by decide) (fun c_2 => ?_) (fun c_2 => ?_)
    · replace hf := it_t hf c_2
      refine lv_iconst (v := (0 : Int32)) hx hb dM_isLive_25 (by decide) ?_
      exact xw_iret (wf := (w_M a cI cZ)) hx hb hr hlocks rfl hK hP hD hS hf dM_isLive_26
    · replace hf := it_f hf c_2
      refine lv_aload_n hx hb dM_isLive_12 rfl (lv_at hl 0 rfl) ?_
      refine aM_get_live hx hb hts hown hK hP dM_isLive_13 ?_
      refine lv_iload_n hx hb dM_isLive_16 rfl (lv_at hl 1 rfl) ?_
      obtain ⟨g_3, hf⟩ := gd_f hf
      refine aM_ld_live (σ := σ) (f := (m_live σ)) rfl hx hb hK hP g_3 dM_isLive_17 ?_
      refine lv_if_eq (tgt := 25) hx hb dM_isLive_18 (by decide) (fun c_4 => ?_) (fun c_4 => ?_)
      · replace hf := it_t hf c_4
        refine lv_iconst (v := (0 : Int32)) hx hb dM_isLive_25 (by decide) ?_
        exact xw_iret (wf := (w_M a cI cZ)) hx hb hr hlocks rfl hK hP hD hS hf dM_isLive_26
      · replace hf := it_f hf c_4
        refine lv_iconst (v := (1 : Int32)) hx hb dM_isLive_21 (by decide) ?_
        refine lv_goto (tgt := 26) hx hb dM_isLive_22 (by decide) ?_
        exact xw_iret (wf := (w_M a cI cZ)) hx hb hr hlocks rfl hK hP hD hS hf dM_isLive_26
def fM_isHeading (K : Nat) (p1 : Int32) (σ : MSt) : Option (Int32 × MSt) := (if p1 ≤ 0 then some ((0 : Int32), σ) else (if (100 : Int32) ≤ p1 then some ((0 : Int32), σ) else some ((1 : Int32), σ)))
set_option maxHeartbeats 4000000 in
set_option maxRecDepth 100000 in
theorem kM_isHeading (l : Launch) (dC : Nat → ClassId) (dI : Nat → Nat → Nat) (a : Nat → Nat) (cI cZ : ClassId) (tb : Nat) (K : Nat) (p1 : Int32) (σ σ' : MSt) (r : Int32) (hf : fM_isHeading K p1 σ = some (r, σ')) : xw_Ct l yM_isHeading wdM_isHeading ({ frames := 0, cells := 0, slots := 0, locals := 0 } : Room) (dC, dI) vwCl [(cI, .int), (cZ, .boolean)] (zz tb) ((w_M a cI cZ) σ) ((w_M a cI cZ) σ') [.int p1] r := by
  refine xw_ofW (cc := cM_isHeading) (maxL := 1) (ret := (some .boolean)) (lv := [(0, .int p1)]) (by decide) rfl (Nat.le_of_ble_eq_true rfl) rfl ?_
  intro p e s m below meth c A hAt hP hD hS ls hl
  obtain ⟨hx, hb, hr, hml, hown, hts, hlocks, hK, hZ, hA⟩ := hAt
  replace hts : ∀ w ∈ lw_g, w.before _ s = true := fun w h => hts w (List.mem_cons_of_mem _ h)
  unfold fM_isHeading at hf
  refine lv_iload_n hx hb dM_isHeading_0 rfl (lv_at hl 0 rfl) ?_
  refine lv_if_le (tgt := 14) hx hb dM_isHeading_1 (by decide) (fun c_1 => ?_) (fun c_1 => ?_)
  · replace hf := it_t hf c_1
    refine lv_iconst (v := (0 : Int32)) hx hb dM_isHeading_14 (by decide) ?_
    exact xw_iret (wf := (w_M a cI cZ)) hx hb hr hlocks rfl hK hP hD hS hf dM_isHeading_15
  · replace hf := it_f hf c_1
    refine lv_iload_n hx hb dM_isHeading_4 rfl (lv_at hl 0 rfl) ?_
    refine lv_bipush (v := (100 : Int32)) hx hb dM_isHeading_5 (by decide) ?_
    refine lv_icmp_ge (tgt := 14) hx hb dM_isHeading_7 (by decide) (fun c_2 => ?_) (fun c_2 => ?_)
    · replace hf := it_t hf c_2
      refine lv_iconst (v := (0 : Int32)) hx hb dM_isHeading_14 (by decide) ?_
      exact xw_iret (wf := (w_M a cI cZ)) hx hb hr hlocks rfl hK hP hD hS hf dM_isHeading_15
    · replace hf := it_f hf c_2
      refine lv_iconst (v := (1 : Int32)) hx hb dM_isHeading_10 (by decide) ?_
      refine lv_goto (tgt := 15) hx hb dM_isHeading_11 (by decide) ?_
      exact xw_iret (wf := (w_M a cI cZ)) hx hb hr hlocks rfl hK hP hD hS hf dM_isHeading_15
def gM_count_5 (K : Nat) : Nat → Int32 → Int32 → Int32 → Int32 → MSt → Option (Int32 × MSt)
  | 0, _, _, _, _, _ => none
  | n + 1, x1, x2, x3, x4, τ => (if (m_links τ) ≤ x4 then some (x3, τ) else (if x4 < 0 ∨ 200 ≤ x4.toNatClampNeg then none else (if ((m_from τ) x4.toNatClampNeg) = x1 then (if x4 < 0 ∨ 200 ≤ x4.toNatClampNeg then none else (if ((m_field τ) x4.toNatClampNeg) = x2 then (gM_count_5 K n x1 x2 (x3 + (1 : Int32)) (x4 + 1) τ) else (gM_count_5 K n x1 x2 (x3 + (0 : Int32)) (x4 + 1) τ))) else (gM_count_5 K n x1 x2 (x3 + (0 : Int32)) (x4 + 1) τ))))
def fM_count (K : Nat) (p1 p2 : Int32) (σ : MSt) : Option (Int32 × MSt) := (gM_count_5 K K p1 p2 (0 : Int32) (0 : Int32) σ)
set_option maxHeartbeats 4000000 in
set_option maxRecDepth 100000 in
theorem kM_count (l : Launch) (dC : Nat → ClassId) (dI : Nat → Nat → Nat) (a : Nat → Nat) (cI cZ : ClassId) (tb : Nat) (K : Nat) (p1 p2 : Int32) (σ σ' : MSt) (r : Int32) (hf : fM_count K p1 p2 σ = some (r, σ')) : xw_Ct l yM_count wdM_count ({ frames := 0, cells := 0, slots := 0, locals := 0 } : Room) (dC, dI) vwCl [(cI, .int), (cZ, .boolean)] (zz tb) ((w_M a cI cZ) σ) ((w_M a cI cZ) σ') [.ref (a 0), .int p1, .int p2] r := by
  refine xw_ofW (cc := cM_count) (maxL := 5) (ret := (some .int)) (lv := [(0, .ref (a 0)), (1, .int p1), (2, .int p2)]) (by decide) rfl (Nat.le_of_ble_eq_true rfl) rfl ?_
  intro p e s m below meth c A hAt hP hD hS ls hl
  obtain ⟨hx, hb, hr, hml, hown, hts, hlocks, hK, hZ, hA⟩ := hAt
  replace hts : ∀ w ∈ lw_g, w.before _ s = true := fun w h => hts w (List.mem_cons_of_mem _ h)
  have L_5 : ∀ (n : Nat) (x1 x2 x3 x4 : Int32) (τ : MSt), gM_count_5 K n x1 x2 x3 x4 τ = some (r, σ') → ∀ (H : Heap) (locs : List Loc), va_P (dC, dI) vwCl ((w_M a cI cZ) τ) H → va_D A ((w_M a cI cZ) τ) → va_S A s.heap H locs → ∀ (ls : Array Slot), lv_has ls 5 [(0, .ref (a 0)), (1, .int x1), (2, .int x2), (3, .int x3), (4, .int x4)] → W p l e ({ frames := 0, cells := 0, slots := 0, locals := 0 } : Room) s m ([.ref (a 0), .int p1, .int p2] : List Value).toArray below meth c H locs 0 0 (MQ below (va_Qi (fun (r2 : Int32) (_ : Unit) => r2 = r) (fun _ t => xw_B (dC, dI) vwCl [(cI, .int), (cZ, .boolean)] A ((w_M a cI cZ) σ') t) A) ([.ref (a 0), .int p1, .int p2] : List Value).toArray s 0 0 A) (F0 m 5 ls []) := by
    intro n
    induction n with
    | zero =>
      intro x1 x2 x3 x4 τ hf
      rw [gM_count_5] at hf
      cases hf
    | succ n ih =>
      intro x1 x2 x3 x4 τ hf H locs hP hD hS ls hl
      rw [gM_count_5] at hf
      refine lv_iload hx hb dM_count_5 (lv_at hl 4 rfl) ?_
      refine lv_aload_n hx hb dM_count_7 rfl (lv_at hl 0 rfl) ?_
      refine aM_get_links (σ := τ) (v := (m_links τ)) rfl hx hb hts hown hK hP dM_count_8 ?_
      refine lv_icmp_ge (tgt := 50) hx hb dM_count_11 (by decide) (fun c_1 => ?_) (fun c_1 => ?_)
      · replace hf := it_t hf c_1
        refine lv_iload_n hx hb dM_count_50 rfl (lv_at hl 3 rfl) ?_
        exact xw_iret (wf := (w_M a cI cZ)) hx hb hr hlocks rfl hK hP hD hS hf dM_count_51
      · replace hf := it_f hf c_1
        refine lv_iload_n hx hb dM_count_14 rfl (lv_at hl 3 rfl) ?_
        refine lv_aload_n hx hb dM_count_15 rfl (lv_at hl 0 rfl) ?_
        refine aM_get_from hx hb hts hown hK hP dM_count_16 ?_
        refine lv_iload hx hb dM_count_19 (lv_at hl 4 rfl) ?_
        obtain ⟨g_2, hf⟩ := gd_f hf
        refine aM_ld_from (σ := τ) (f := (m_from τ)) rfl hx hb hK hP g_2 dM_count_21 ?_
        refine lv_iload_n hx hb dM_count_22 rfl (lv_at hl 1 rfl) ?_
        refine lv_icmp_ne (tgt := 41) hx hb dM_count_23 (by decide) (fun c_3 => ?_) (fun c_3 => ?_)
        · replace hf := it_f hf c_3
          refine lv_iconst (v := (0 : Int32)) hx hb dM_count_41 (by decide) ?_
          refine lv_iadd hx hb dM_count_42 ?_
          refine lv_istore_n (lv' := [(3, .int (x3 + (0 : Int32))), (0, .ref (a 0)), (1, .int x1), (2, .int x2), (4, .int x4)]) hx hb dM_count_43 rfl hl (by decide) rfl (fun ls hl => ?_)
          refine lv_iinc (v := (x4 + 1)) (lv' := [(4, .int (x4 + 1)), (3, .int (x3 + (0 : Int32))), (0, .ref (a 0)), (1, .int x1), (2, .int x2)]) hx hb dM_count_44 hl (k := 4) rfl (congrArg (HAdd.hAdd _) (by decide : Int32.ofInt (1) = (1 : Int32))) (by decide) rfl (fun ls hl => ?_)
          refine lv_goto (tgt := 5) hx hb dM_count_47 (by decide) ?_
          exact ih x1 x2 (x3 + (0 : Int32)) (x4 + 1) τ hf _ _ hP hD hS _ (lv_sub hl [2, 3, 4, 1, 0] rfl)
        · replace hf := it_t hf c_3
          refine lv_aload_n hx hb dM_count_26 rfl (lv_at hl 0 rfl) ?_
          refine aM_get_field hx hb hts hown hK hP dM_count_27 ?_
          refine lv_iload hx hb dM_count_30 (lv_at hl 4 rfl) ?_
          obtain ⟨g_4, hf⟩ := gd_f hf
          refine aM_ld_field (σ := τ) (f := (m_field τ)) rfl hx hb hK hP g_4 dM_count_32 ?_
          refine lv_iload_n hx hb dM_count_33 rfl (lv_at hl 2 rfl) ?_
          refine lv_icmp_ne (tgt := 41) hx hb dM_count_34 (by decide) (fun c_5 => ?_) (fun c_5 => ?_)
          · replace hf := it_f hf c_5
            refine lv_iconst (v := (0 : Int32)) hx hb dM_count_41 (by decide) ?_
            refine lv_iadd hx hb dM_count_42 ?_
            refine lv_istore_n (lv' := [(3, .int (x3 + (0 : Int32))), (0, .ref (a 0)), (1, .int x1), (2, .int x2), (4, .int x4)]) hx hb dM_count_43 rfl hl (by decide) rfl (fun ls hl => ?_)
            refine lv_iinc (v := (x4 + 1)) (lv' := [(4, .int (x4 + 1)), (3, .int (x3 + (0 : Int32))), (0, .ref (a 0)), (1, .int x1), (2, .int x2)]) hx hb dM_count_44 hl (k := 4) rfl (congrArg (HAdd.hAdd _) (by decide : Int32.ofInt (1) = (1 : Int32))) (by decide) rfl (fun ls hl => ?_)
            refine lv_goto (tgt := 5) hx hb dM_count_47 (by decide) ?_
            exact ih x1 x2 (x3 + (0 : Int32)) (x4 + 1) τ hf _ _ hP hD hS _ (lv_sub hl [2, 3, 4, 1, 0] rfl)
          · replace hf := it_t hf c_5
            refine lv_iconst (v := (1 : Int32)) hx hb dM_count_37 (by decide) ?_
            refine lv_goto (tgt := 42) hx hb dM_count_38 (by decide) ?_
            refine lv_iadd hx hb dM_count_42 ?_
            refine lv_istore_n (lv' := [(3, .int (x3 + (1 : Int32))), (0, .ref (a 0)), (1, .int x1), (2, .int x2), (4, .int x4)]) hx hb dM_count_43 rfl hl (by decide) rfl (fun ls hl => ?_)
            refine lv_iinc (v := (x4 + 1)) (lv' := [(4, .int (x4 + 1)), (3, .int (x3 + (1 : Int32))), (0, .ref (a 0)), (1, .int x1), (2, .int x2)]) hx hb dM_count_44 hl (k := 4) rfl (congrArg (HAdd.hAdd _) (by decide : Int32.ofInt (1) = (1 : Int32))) (by decide) rfl (fun ls hl => ?_)
            refine lv_goto (tgt := 5) hx hb dM_count_47 (by decide) ?_
            exact ih x1 x2 (x3 + (1 : Int32)) (x4 + 1) τ hf _ _ hP hD hS _ (lv_sub hl [2, 3, 4, 1, 0] rfl)
  unfold fM_count at hf
  refine lv_iconst (v := (0 : Int32)) hx hb dM_count_0 (by decide) ?_
  refine lv_istore_n (lv' := [(3, .int (0 : Int32)), (0, .ref (a 0)), (1, .int p1), (2, .int p2)]) hx hb dM_count_1 rfl hl (by decide) rfl (fun ls hl => ?_)
  refine lv_iconst (v := (0 : Int32)) hx hb dM_count_2 (by decide) ?_
  refine lv_istore (lv' := [(4, .int (0 : Int32)), (3, .int (0 : Int32)), (0, .ref (a 0)), (1, .int p1), (2, .int p2)]) hx hb dM_count_3 hl (by decide) rfl (fun ls hl => ?_)
  exact L_5 K p1 p2 (0 : Int32) (0 : Int32) σ hf _ _ hP hD hS _ (lv_sub hl [2, 3, 4, 1, 0] rfl)
def fM_most (K : Nat) (p1 : Int32) (σ : MSt) : Option (Int32 × MSt) := (if p1 = 0 then some ((1 : Int32), σ) else (if p1 = (1 : Int32) then some ((2 : Int32), σ) else (if (4 : Int32) ≤ p1 then some ((3 : Int32), σ) else some ((5 : Int32), σ))))
set_option maxHeartbeats 4000000 in
set_option maxRecDepth 100000 in
theorem kM_most (l : Launch) (dC : Nat → ClassId) (dI : Nat → Nat → Nat) (a : Nat → Nat) (cI cZ : ClassId) (tb : Nat) (K : Nat) (p1 : Int32) (σ σ' : MSt) (r : Int32) (hf : fM_most K p1 σ = some (r, σ')) : xw_Ct l yM_most wdM_most ({ frames := 0, cells := 0, slots := 0, locals := 0 } : Room) (dC, dI) vwCl [(cI, .int), (cZ, .boolean)] (zz tb) ((w_M a cI cZ) σ) ((w_M a cI cZ) σ') [.int p1] r := by
  refine xw_ofW (cc := cM_most) (maxL := 1) (ret := (some .int)) (lv := [(0, .int p1)]) (by decide) rfl (Nat.le_of_ble_eq_true rfl) rfl ?_
  intro p e s m below meth c A hAt hP hD hS ls hl
  obtain ⟨hx, hb, hr, hml, hown, hts, hlocks, hK, hZ, hA⟩ := hAt
  replace hts : ∀ w ∈ lw_g, w.before _ s = true := fun w h => hts w (List.mem_cons_of_mem _ h)
  unfold fM_most at hf
  refine lv_iload_n hx hb dM_most_0 rfl (lv_at hl 0 rfl) ?_
  refine lv_if_ne (tgt := 8) hx hb dM_most_1 (by decide) (fun c_1 => ?_) (fun c_1 => ?_)
  · replace hf := it_f hf c_1
    refine lv_iload_n hx hb dM_most_8 rfl (lv_at hl 0 rfl) ?_
    refine lv_iconst (v := (1 : Int32)) hx hb dM_most_9 (by decide) ?_
    refine lv_icmp_ne (tgt := 17) hx hb dM_most_10 (by decide) (fun c_2 => ?_) (fun c_2 => ?_)
    · replace hf := it_f hf c_2
      refine lv_iload_n hx hb dM_most_17 rfl (lv_at hl 0 rfl) ?_
      refine lv_iconst (v := (4 : Int32)) hx hb dM_most_18 (by decide) ?_
      refine lv_icmp_ge (tgt := 26) hx hb dM_most_19 (by decide) (fun c_3 => ?_) (fun c_3 => ?_)
      · replace hf := it_t hf c_3
        refine lv_iconst (v := (3 : Int32)) hx hb dM_most_26 (by decide) ?_
        exact xw_iret (wf := (w_M a cI cZ)) hx hb hr hlocks rfl hK hP hD hS hf dM_most_27
      · replace hf := it_f hf c_3
        refine lv_iconst (v := (5 : Int32)) hx hb dM_most_22 (by decide) ?_
        refine lv_goto (tgt := 27) hx hb dM_most_23 (by decide) ?_
        exact xw_iret (wf := (w_M a cI cZ)) hx hb hr hlocks rfl hK hP hD hS hf dM_most_27
    · replace hf := it_t hf c_2
      refine lv_iconst (v := (2 : Int32)) hx hb dM_most_13 (by decide) ?_
      refine lv_goto (tgt := 27) hx hb dM_most_14 (by decide) ?_
      exact xw_iret (wf := (w_M a cI cZ)) hx hb hr hlocks rfl hK hP hD hS hf dM_most_27
  · replace hf := it_t hf c_1
    refine lv_iconst (v := (1 : Int32)) hx hb dM_most_4 (by decide) ?_
    refine lv_goto (tgt := 27) hx hb dM_most_5 (by decide) ?_
    exact xw_iret (wf := (w_M a cI cZ)) hx hb hr hlocks rfl hK hP hD hS hf dM_most_27
def gM_find_3 (K : Nat) : Nat → Int32 → Int32 → Int32 → Int32 → MSt → Option (Int32 × MSt)
  | 0, _, _, _, _, _ => none
  | n + 1, x1, x2, x3, x4, τ => (if (m_links τ) ≤ x4 then some ((-1 : Int32), τ) else (if x4 < 0 ∨ 200 ≤ x4.toNatClampNeg then none else (if ((m_from τ) x4.toNatClampNeg) = x1 then (if x4 < 0 ∨ 200 ≤ x4.toNatClampNeg then none else (if ((m_field τ) x4.toNatClampNeg) = x2 then (if x4 < 0 ∨ 200 ≤ x4.toNatClampNeg then none else (if ((m_to τ) x4.toNatClampNeg) = x3 then some (x4, τ) else (gM_find_3 K n x1 x2 x3 (x4 + 1) τ))) else (gM_find_3 K n x1 x2 x3 (x4 + 1) τ))) else (gM_find_3 K n x1 x2 x3 (x4 + 1) τ))))
def fM_find (K : Nat) (p1 p2 p3 : Int32) (σ : MSt) : Option (Int32 × MSt) := (gM_find_3 K K p1 p2 p3 (0 : Int32) σ)
set_option maxHeartbeats 4000000 in
set_option maxRecDepth 100000 in
theorem kM_find (l : Launch) (dC : Nat → ClassId) (dI : Nat → Nat → Nat) (a : Nat → Nat) (cI cZ : ClassId) (tb : Nat) (K : Nat) (p1 p2 p3 : Int32) (σ σ' : MSt) (r : Int32) (hf : fM_find K p1 p2 p3 σ = some (r, σ')) : xw_Ct l yM_find wdM_find ({ frames := 0, cells := 0, slots := 0, locals := 0 } : Room) (dC, dI) vwCl [(cI, .int), (cZ, .boolean)] (zz tb) ((w_M a cI cZ) σ) ((w_M a cI cZ) σ') [.ref (a 0), .int p1, .int p2, .int p3] r := by
  refine xw_ofW (cc := cM_find) (maxL := 5) (ret := (some .int)) (lv := [(0, .ref (a 0)), (1, .int p1), (2, .int p2), (3, .int p3)]) (by decide) rfl (Nat.le_of_ble_eq_true rfl) rfl ?_
  intro p e s m below meth c A hAt hP hD hS ls hl
  obtain ⟨hx, hb, hr, hml, hown, hts, hlocks, hK, hZ, hA⟩ := hAt
  replace hts : ∀ w ∈ lw_g, w.before _ s = true := fun w h => hts w (List.mem_cons_of_mem _ h)
  have L_3 : ∀ (n : Nat) (x1 x2 x3 x4 : Int32) (τ : MSt), gM_find_3 K n x1 x2 x3 x4 τ = some (r, σ') → ∀ (H : Heap) (locs : List Loc), va_P (dC, dI) vwCl ((w_M a cI cZ) τ) H → va_D A ((w_M a cI cZ) τ) → va_S A s.heap H locs → ∀ (ls : Array Slot), lv_has ls 5 [(0, .ref (a 0)), (1, .int x1), (2, .int x2), (3, .int x3), (4, .int x4)] → W p l e ({ frames := 0, cells := 0, slots := 0, locals := 0 } : Room) s m ([.ref (a 0), .int p1, .int p2, .int p3] : List Value).toArray below meth c H locs 0 0 (MQ below (va_Qi (fun (r2 : Int32) (_ : Unit) => r2 = r) (fun _ t => xw_B (dC, dI) vwCl [(cI, .int), (cZ, .boolean)] A ((w_M a cI cZ) σ') t) A) ([.ref (a 0), .int p1, .int p2, .int p3] : List Value).toArray s 0 0 A) (F0 m 3 ls []) := by
    intro n
    induction n with
    | zero =>
      intro x1 x2 x3 x4 τ hf
      rw [gM_find_3] at hf
      cases hf
    | succ n ih =>
      intro x1 x2 x3 x4 τ hf H locs hP hD hS ls hl
      rw [gM_find_3] at hf
      refine lv_iload hx hb dM_find_3 (lv_at hl 4 rfl) ?_
      refine lv_aload_n hx hb dM_find_5 rfl (lv_at hl 0 rfl) ?_
      refine aM_get_links (σ := τ) (v := (m_links τ)) rfl hx hb hts hown hK hP dM_find_6 ?_
      refine lv_icmp_ge (tgt := 54) hx hb dM_find_9 (by decide) (fun c_1 => ?_) (fun c_1 => ?_)
      · replace hf := it_t hf c_1
        refine lv_iconst (v := (-1 : Int32)) hx hb dM_find_54 (by decide) ?_
        exact xw_iret (wf := (w_M a cI cZ)) hx hb hr hlocks rfl hK hP hD hS hf dM_find_55
      · replace hf := it_f hf c_1
        refine lv_aload_n hx hb dM_find_12 rfl (lv_at hl 0 rfl) ?_
        refine aM_get_from hx hb hts hown hK hP dM_find_13 ?_
        refine lv_iload hx hb dM_find_16 (lv_at hl 4 rfl) ?_
        obtain ⟨g_2, hf⟩ := gd_f hf
        refine aM_ld_from (σ := τ) (f := (m_from τ)) rfl hx hb hK hP g_2 dM_find_18 ?_
        refine lv_iload_n hx hb dM_find_19 rfl (lv_at hl 1 rfl) ?_
        refine lv_icmp_ne (tgt := 48) hx hb dM_find_20 (by decide) (fun c_3 => ?_) (fun c_3 => ?_)
        · replace hf := it_f hf c_3
          refine lv_iinc (v := (x4 + 1)) (lv' := [(4, .int (x4 + 1)), (0, .ref (a 0)), (1, .int x1), (2, .int x2), (3, .int x3)]) hx hb dM_find_48 hl (k := 4) rfl (congrArg (HAdd.hAdd _) (by decide : Int32.ofInt (1) = (1 : Int32))) (by decide) rfl (fun ls hl => ?_)
          refine lv_goto (tgt := 3) hx hb dM_find_51 (by decide) ?_
          exact ih x1 x2 x3 (x4 + 1) τ hf _ _ hP hD hS _ (lv_sub hl [1, 2, 3, 4, 0] rfl)
        · replace hf := it_t hf c_3
          refine lv_aload_n hx hb dM_find_23 rfl (lv_at hl 0 rfl) ?_
          refine aM_get_field hx hb hts hown hK hP dM_find_24 ?_
          refine lv_iload hx hb dM_find_27 (lv_at hl 4 rfl) ?_
          obtain ⟨g_4, hf⟩ := gd_f hf
          refine aM_ld_field (σ := τ) (f := (m_field τ)) rfl hx hb hK hP g_4 dM_find_29 ?_
          refine lv_iload_n hx hb dM_find_30 rfl (lv_at hl 2 rfl) ?_
          refine lv_icmp_ne (tgt := 48) hx hb dM_find_31 (by decide) (fun c_5 => ?_) (fun c_5 => ?_)
          · replace hf := it_f hf c_5
            refine lv_iinc (v := (x4 + 1)) (lv' := [(4, .int (x4 + 1)), (0, .ref (a 0)), (1, .int x1), (2, .int x2), (3, .int x3)]) hx hb dM_find_48 hl (k := 4) rfl (congrArg (HAdd.hAdd _) (by decide : Int32.ofInt (1) = (1 : Int32))) (by decide) rfl (fun ls hl => ?_)
            refine lv_goto (tgt := 3) hx hb dM_find_51 (by decide) ?_
            exact ih x1 x2 x3 (x4 + 1) τ hf _ _ hP hD hS _ (lv_sub hl [1, 2, 3, 4, 0] rfl)
          · replace hf := it_t hf c_5
            refine lv_aload_n hx hb dM_find_34 rfl (lv_at hl 0 rfl) ?_
            refine aM_get_to hx hb hts hown hK hP dM_find_35 ?_
            refine lv_iload hx hb dM_find_38 (lv_at hl 4 rfl) ?_
            obtain ⟨g_6, hf⟩ := gd_f hf
            refine aM_ld_to (σ := τ) (f := (m_to τ)) rfl hx hb hK hP g_6 dM_find_40 ?_
            refine lv_iload_n hx hb dM_find_41 rfl (lv_at hl 3 rfl) ?_
            refine lv_icmp_ne (tgt := 48) hx hb dM_find_42 (by decide) (fun c_7 => ?_) (fun c_7 => ?_)
            · replace hf := it_f hf c_7
              refine lv_iinc (v := (x4 + 1)) (lv' := [(4, .int (x4 + 1)), (0, .ref (a 0)), (1, .int x1), (2, .int x2), (3, .int x3)]) hx hb dM_find_48 hl (k := 4) rfl (congrArg (HAdd.hAdd _) (by decide : Int32.ofInt (1) = (1 : Int32))) (by decide) rfl (fun ls hl => ?_)
              refine lv_goto (tgt := 3) hx hb dM_find_51 (by decide) ?_
              exact ih x1 x2 x3 (x4 + 1) τ hf _ _ hP hD hS _ (lv_sub hl [1, 2, 3, 4, 0] rfl)
            · replace hf := it_t hf c_7
              refine lv_iload hx hb dM_find_45 (lv_at hl 4 rfl) ?_
              exact xw_iret (wf := (w_M a cI cZ)) hx hb hr hlocks rfl hK hP hD hS hf dM_find_47
  unfold fM_find at hf
  refine lv_iconst (v := (0 : Int32)) hx hb dM_find_0 (by decide) ?_
  refine lv_istore (lv' := [(4, .int (0 : Int32)), (0, .ref (a 0)), (1, .int p1), (2, .int p2), (3, .int p3)]) hx hb dM_find_1 hl (by decide) rfl (fun ls hl => ?_)
  exact L_3 K p1 p2 p3 (0 : Int32) σ hf _ _ hP hD hS _ (lv_sub hl [1, 2, 3, 4, 0] rfl)
def gM_hostOf_2 (K : Nat) : Nat → Int32 → Int32 → MSt → Option (Int32 × MSt)
  | 0, _, _, _ => none
  | n + 1, x1, x2, τ => (if (m_links τ) ≤ x2 then some ((0 : Int32), τ) else (if x2 < 0 ∨ 200 ≤ x2.toNatClampNeg then none else (if ((m_from τ) x2.toNatClampNeg) = x1 then (if x2 < 0 ∨ 200 ≤ x2.toNatClampNeg then none else (if ((m_field τ) x2.toNatClampNeg) = 0 then (if x2 < 0 ∨ 200 ≤ x2.toNatClampNeg then none else some (((m_to τ) x2.toNatClampNeg), τ)) else (gM_hostOf_2 K n x1 (x2 + 1) τ))) else (gM_hostOf_2 K n x1 (x2 + 1) τ))))
def fM_hostOf (K : Nat) (p1 : Int32) (σ : MSt) : Option (Int32 × MSt) := (gM_hostOf_2 K K p1 (0 : Int32) σ)
set_option maxHeartbeats 4000000 in
set_option maxRecDepth 100000 in
theorem kM_hostOf (l : Launch) (dC : Nat → ClassId) (dI : Nat → Nat → Nat) (a : Nat → Nat) (cI cZ : ClassId) (tb : Nat) (K : Nat) (p1 : Int32) (σ σ' : MSt) (r : Int32) (hf : fM_hostOf K p1 σ = some (r, σ')) : xw_Ct l yM_hostOf wdM_hostOf ({ frames := 0, cells := 0, slots := 0, locals := 0 } : Room) (dC, dI) vwCl [(cI, .int), (cZ, .boolean)] (zz tb) ((w_M a cI cZ) σ) ((w_M a cI cZ) σ') [.ref (a 0), .int p1] r := by
  refine xw_ofW (cc := cM_hostOf) (maxL := 3) (ret := (some .int)) (lv := [(0, .ref (a 0)), (1, .int p1)]) (by decide) rfl (Nat.le_of_ble_eq_true rfl) rfl ?_
  intro p e s m below meth c A hAt hP hD hS ls hl
  obtain ⟨hx, hb, hr, hml, hown, hts, hlocks, hK, hZ, hA⟩ := hAt
  replace hts : ∀ w ∈ lw_g, w.before _ s = true := fun w h => hts w (List.mem_cons_of_mem _ h)
  have L_2 : ∀ (n : Nat) (x1 x2 : Int32) (τ : MSt), gM_hostOf_2 K n x1 x2 τ = some (r, σ') → ∀ (H : Heap) (locs : List Loc), va_P (dC, dI) vwCl ((w_M a cI cZ) τ) H → va_D A ((w_M a cI cZ) τ) → va_S A s.heap H locs → ∀ (ls : Array Slot), lv_has ls 3 [(0, .ref (a 0)), (1, .int x1), (2, .int x2)] → W p l e ({ frames := 0, cells := 0, slots := 0, locals := 0 } : Room) s m ([.ref (a 0), .int p1] : List Value).toArray below meth c H locs 0 0 (MQ below (va_Qi (fun (r2 : Int32) (_ : Unit) => r2 = r) (fun _ t => xw_B (dC, dI) vwCl [(cI, .int), (cZ, .boolean)] A ((w_M a cI cZ) σ') t) A) ([.ref (a 0), .int p1] : List Value).toArray s 0 0 A) (F0 m 2 ls []) := by
    intro n
    induction n with
    | zero =>
      intro x1 x2 τ hf
      rw [gM_hostOf_2] at hf
      cases hf
    | succ n ih =>
      intro x1 x2 τ hf H locs hP hD hS ls hl
      rw [gM_hostOf_2] at hf
      refine lv_iload_n hx hb dM_hostOf_2 rfl (lv_at hl 2 rfl) ?_
      refine lv_aload_n hx hb dM_hostOf_3 rfl (lv_at hl 0 rfl) ?_
      refine aM_get_links (σ := τ) (v := (m_links τ)) rfl hx hb hts hown hK hP dM_hostOf_4 ?_
      refine lv_icmp_ge (tgt := 42) hx hb dM_hostOf_7 (by decide) (fun c_1 => ?_) (fun c_1 => ?_)
      · replace hf := it_t hf c_1
        refine lv_iconst (v := (0 : Int32)) hx hb dM_hostOf_42 (by decide) ?_
        exact xw_iret (wf := (w_M a cI cZ)) hx hb hr hlocks rfl hK hP hD hS hf dM_hostOf_43
      · replace hf := it_f hf c_1
        refine lv_aload_n hx hb dM_hostOf_10 rfl (lv_at hl 0 rfl) ?_
        refine aM_get_from hx hb hts hown hK hP dM_hostOf_11 ?_
        refine lv_iload_n hx hb dM_hostOf_14 rfl (lv_at hl 2 rfl) ?_
        obtain ⟨g_2, hf⟩ := gd_f hf
        refine aM_ld_from (σ := τ) (f := (m_from τ)) rfl hx hb hK hP g_2 dM_hostOf_15 ?_
        refine lv_iload_n hx hb dM_hostOf_16 rfl (lv_at hl 1 rfl) ?_
        refine lv_icmp_ne (tgt := 36) hx hb dM_hostOf_17 (by decide) (fun c_3 => ?_) (fun c_3 => ?_)
        · replace hf := it_f hf c_3
          refine lv_iinc (v := (x2 + 1)) (lv' := [(2, .int (x2 + 1)), (0, .ref (a 0)), (1, .int x1)]) hx hb dM_hostOf_36 hl (k := 2) rfl (congrArg (HAdd.hAdd _) (by decide : Int32.ofInt (1) = (1 : Int32))) (by decide) rfl (fun ls hl => ?_)
          refine lv_goto (tgt := 2) hx hb dM_hostOf_39 (by decide) ?_
          exact ih x1 (x2 + 1) τ hf _ _ hP hD hS _ (lv_sub hl [1, 2, 0] rfl)
        · replace hf := it_t hf c_3
          refine lv_aload_n hx hb dM_hostOf_20 rfl (lv_at hl 0 rfl) ?_
          refine aM_get_field hx hb hts hown hK hP dM_hostOf_21 ?_
          refine lv_iload_n hx hb dM_hostOf_24 rfl (lv_at hl 2 rfl) ?_
          obtain ⟨g_4, hf⟩ := gd_f hf
          refine aM_ld_field (σ := τ) (f := (m_field τ)) rfl hx hb hK hP g_4 dM_hostOf_25 ?_
          refine lv_if_ne (tgt := 36) hx hb dM_hostOf_26 (by decide) (fun c_5 => ?_) (fun c_5 => ?_)
          · replace hf := it_f hf c_5
            refine lv_iinc (v := (x2 + 1)) (lv' := [(2, .int (x2 + 1)), (0, .ref (a 0)), (1, .int x1)]) hx hb dM_hostOf_36 hl (k := 2) rfl (congrArg (HAdd.hAdd _) (by decide : Int32.ofInt (1) = (1 : Int32))) (by decide) rfl (fun ls hl => ?_)
            refine lv_goto (tgt := 2) hx hb dM_hostOf_39 (by decide) ?_
            exact ih x1 (x2 + 1) τ hf _ _ hP hD hS _ (lv_sub hl [1, 2, 0] rfl)
          · replace hf := it_t hf c_5
            refine lv_aload_n hx hb dM_hostOf_29 rfl (lv_at hl 0 rfl) ?_
            refine aM_get_to hx hb hts hown hK hP dM_hostOf_30 ?_
            refine lv_iload_n hx hb dM_hostOf_33 rfl (lv_at hl 2 rfl) ?_
            obtain ⟨g_6, hf⟩ := gd_f hf
            refine aM_ld_to (σ := τ) (f := (m_to τ)) rfl hx hb hK hP g_6 dM_hostOf_34 ?_
            exact xw_iret (wf := (w_M a cI cZ)) hx hb hr hlocks rfl hK hP hD hS hf dM_hostOf_35
  unfold fM_hostOf at hf
  refine lv_iconst (v := (0 : Int32)) hx hb dM_hostOf_0 (by decide) ?_
  refine lv_istore_n (lv' := [(2, .int (0 : Int32)), (0, .ref (a 0)), (1, .int p1)]) hx hb dM_hostOf_1 rfl hl (by decide) rfl (fun ls hl => ?_)
  exact L_2 K p1 (0 : Int32) σ hf _ _ hP hD hS _ (lv_sub hl [1, 2, 0] rfl)
def gM_liesIn_2 (K : Nat) : Nat → Int32 → Int32 → Int32 → MSt → Option (Int32 × MSt)
  | 0, _, _, _, _ => none
  | n + 1, x1, x2, x3, τ => (if x3 = 0 then (if x3 = x2 then some ((1 : Int32), τ) else some ((0 : Int32), τ)) else (if x3 = x2 then (if x3 = x2 then some ((1 : Int32), τ) else some ((0 : Int32), τ)) else ((fM_hostOf K x3 τ).bind fun q_5 => (gM_liesIn_2 K n x1 x2 q_5.1 q_5.2))))
def fM_liesIn (K : Nat) (p1 p2 : Int32) (σ : MSt) : Option (Int32 × MSt) := (gM_liesIn_2 K K p1 p2 p1 σ)
set_option maxHeartbeats 4000000 in
set_option maxRecDepth 100000 in
theorem kM_liesIn (l : Launch) (dC : Nat → ClassId) (dI : Nat → Nat → Nat) (a : Nat → Nat) (cI cZ : ClassId) (tb : Nat) (K : Nat) (p1 p2 : Int32) (σ σ' : MSt) (r : Int32) (hf : fM_liesIn K p1 p2 σ = some (r, σ')) : xw_Ct l yM_liesIn wdM_liesIn ({ frames := 1, cells := 0, slots := 0, locals := 22 } : Room) (dC, dI) vwCl [(cI, .int), (cZ, .boolean)] (zz tb) ((w_M a cI cZ) σ) ((w_M a cI cZ) σ') [.ref (a 0), .int p1, .int p2] r := by
  refine xw_ofW (cc := cM_liesIn) (maxL := 4) (ret := (some .boolean)) (lv := [(0, .ref (a 0)), (1, .int p1), (2, .int p2)]) (by decide) rfl (Nat.le_of_ble_eq_true rfl) rfl ?_
  intro p e s m below meth c A hAt hP hD hS ls hl
  obtain ⟨hx, hb, hr, hml, hown, hts, hlocks, hK, hZ, hA⟩ := hAt
  replace hts : ∀ w ∈ lw_g, w.before _ s = true := fun w h => hts w (List.mem_cons_of_mem _ h)
  have L_2 : ∀ (n : Nat) (x1 x2 x3 : Int32) (τ : MSt), gM_liesIn_2 K n x1 x2 x3 τ = some (r, σ') → ∀ (H : Heap) (locs : List Loc), va_P (dC, dI) vwCl ((w_M a cI cZ) τ) H → va_D A ((w_M a cI cZ) τ) → va_S A s.heap H locs → ∀ (ls : Array Slot), lv_has ls 4 [(0, .ref (a 0)), (1, .int x1), (2, .int x2), (3, .int x3)] → W p l e ({ frames := 1, cells := 0, slots := 0, locals := 22 } : Room) s m ([.ref (a 0), .int p1, .int p2] : List Value).toArray below meth c H locs 0 0 (MQ below (va_Qi (fun (r2 : Int32) (_ : Unit) => r2 = r) (fun _ t => xw_B (dC, dI) vwCl [(cI, .int), (cZ, .boolean)] A ((w_M a cI cZ) σ') t) A) ([.ref (a 0), .int p1, .int p2] : List Value).toArray s 0 0 A) (F0 m 2 ls []) := by
    intro n
    induction n with
    | zero =>
      intro x1 x2 x3 τ hf
      rw [gM_liesIn_2] at hf
      cases hf
    | succ n ih =>
      intro x1 x2 x3 τ hf H locs hP hD hS ls hl
      rw [gM_liesIn_2] at hf
      refine lv_iload_n hx hb dM_liesIn_2 rfl (lv_at hl 3 rfl) ?_
      refine lv_if_eq (tgt := 20) hx hb dM_liesIn_3 (by decide) (fun c_1 => ?_) (fun c_1 => ?_)
      · replace hf := it_t hf c_1
        refine lv_iload_n hx hb dM_liesIn_20 rfl (lv_at hl 3 rfl) ?_
        refine lv_iload_n hx hb dM_liesIn_21 rfl (lv_at hl 2 rfl) ?_
        refine lv_icmp_ne (tgt := 29) hx hb dM_liesIn_22 (by decide) (fun c_2 => ?_) (fun c_2 => ?_)
        · replace hf := it_f hf c_2
          refine lv_iconst (v := (0 : Int32)) hx hb dM_liesIn_29 (by decide) ?_
          exact xw_iret (wf := (w_M a cI cZ)) hx hb hr hlocks rfl hK hP hD hS hf dM_liesIn_30
        · replace hf := it_t hf c_2
          refine lv_iconst (v := (1 : Int32)) hx hb dM_liesIn_25 (by decide) ?_
          refine lv_goto (tgt := 30) hx hb dM_liesIn_26 (by decide) ?_
          exact xw_iret (wf := (w_M a cI cZ)) hx hb hr hlocks rfl hK hP hD hS hf dM_liesIn_30
      · replace hf := it_f hf c_1
        refine lv_iload_n hx hb dM_liesIn_6 rfl (lv_at hl 3 rfl) ?_
        refine lv_iload_n hx hb dM_liesIn_7 rfl (lv_at hl 2 rfl) ?_
        refine lv_icmp_eq (tgt := 20) hx hb dM_liesIn_8 (by decide) (fun c_3 => ?_) (fun c_3 => ?_)
        · replace hf := it_t hf c_3
          refine lv_iload_n hx hb dM_liesIn_20 rfl (lv_at hl 3 rfl) ?_
          refine lv_iload_n hx hb dM_liesIn_21 rfl (lv_at hl 2 rfl) ?_
          refine lv_icmp_ne (tgt := 29) hx hb dM_liesIn_22 (by decide) (fun c_4 => ?_) (fun c_4 => ?_)
          · replace hf := it_f hf c_4
            refine lv_iconst (v := (0 : Int32)) hx hb dM_liesIn_29 (by decide) ?_
            exact xw_iret (wf := (w_M a cI cZ)) hx hb hr hlocks rfl hK hP hD hS hf dM_liesIn_30
          · replace hf := it_t hf c_4
            refine lv_iconst (v := (1 : Int32)) hx hb dM_liesIn_25 (by decide) ?_
            refine lv_goto (tgt := 30) hx hb dM_liesIn_26 (by decide) ?_
            exact xw_iret (wf := (w_M a cI cZ)) hx hb hr hlocks rfl hK hP hD hS hf dM_liesIn_30
        · replace hf := it_f hf c_3
          refine lv_aload_n hx hb dM_liesIn_11 rfl (lv_at hl 0 rfl) ?_
          refine lv_iload_n hx hb dM_liesIn_12 rfl (lv_at hl 3 rfl) ?_
          obtain ⟨q_5, hq_5, hf⟩ := bd_s hf
          refine xw_callV (kM_hostOf l dC dI a cI cZ tb K x3 τ q_5.2 q_5.1 hq_5) ⟨hx, hb, hml, hown, hts⟩ (cwV 1 hts (gw_V mt_285 mt_287 mt_19 mt_26 mt_288) rfl rfl rfl hdM_hostOf ⟨Nat.le_of_ble_eq_true rfl, Nat.le_of_ble_eq_true rfl⟩) hK hP hD hS hA hZ (q0 := 0) (ci := 1) rfl rfl rfl hl.1 rfl (Nat.le_of_ble_eq_true rfl) dM_liesIn_13 ⟨Nat.zero_le _, Nat.zero_le _⟩ (fun H locs hP hD hS => ?_)
          refine lv_istore_n (lv' := [(3, .int q_5.1), (0, .ref (a 0)), (1, .int x1), (2, .int x2)]) hx hb dM_liesIn_16 rfl hl (by decide) rfl (fun ls hl => ?_)
          refine lv_goto (tgt := 2) hx hb dM_liesIn_17 (by decide) ?_
          exact ih x1 x2 q_5.1 q_5.2 hf _ _ hP hD hS _ (lv_sub hl [1, 2, 3, 0] rfl)
  unfold fM_liesIn at hf
  refine lv_iload_n hx hb dM_liesIn_0 rfl (lv_at hl 1 rfl) ?_
  refine lv_istore_n (lv' := [(3, .int p1), (0, .ref (a 0)), (1, .int p1), (2, .int p2)]) hx hb dM_liesIn_1 rfl hl (by decide) rfl (fun ls hl => ?_)
  exact L_2 K p1 p2 p1 σ hf _ _ hP hD hS _ (lv_sub hl [1, 2, 3, 0] rfl)
def fM_changed (K : Nat) (p1 : Int32) (σ : MSt) : Option (Int32 × MSt) := (if p1 < 0 ∨ 61 ≤ p1.toNatClampNeg then none else (if ((m_timeCount σ) p1.toNatClampNeg) ≤ 0 then (if p1 < 0 ∨ 61 ≤ p1.toNatClampNeg then none else (if (40 : Int32) ≤ ((m_timeCount σ) p1.toNatClampNeg) then some ((0 : Int32), σ) else (if p1 < 0 ∨ 61 ≤ p1.toNatClampNeg then none else (if (((40 : Int32) * p1) + ((m_timeCount σ) p1.toNatClampNeg)) < 0 ∨ 2440 ≤ (((40 : Int32) * p1) + ((m_timeCount σ) p1.toNatClampNeg)).toNatClampNeg then none else (if p1 < 0 ∨ 61 ≤ p1.toNatClampNeg then none else (if p1 < 0 ∨ 61 ≤ p1.toNatClampNeg then none else some ((0 : Int32), (m_ptimeCount (m_ptimes σ (upd (m_times σ) (((40 : Int32) * p1) + ((m_timeCount σ) p1.toNatClampNeg)).toNatClampNeg (m_moment σ))) (upd (m_timeCount σ) p1.toNatClampNeg (((m_timeCount σ) p1.toNatClampNeg) + (1 : Int32))))))))))) else (if p1 < 0 ∨ 61 ≤ p1.toNatClampNeg then none else (if (41 : Int32) ≤ ((m_timeCount σ) p1.toNatClampNeg) then (if p1 < 0 ∨ 61 ≤ p1.toNatClampNeg then none else (if (40 : Int32) ≤ ((m_timeCount σ) p1.toNatClampNeg) then some ((0 : Int32), σ) else (if p1 < 0 ∨ 61 ≤ p1.toNatClampNeg then none else (if (((40 : Int32) * p1) + ((m_timeCount σ) p1.toNatClampNeg)) < 0 ∨ 2440 ≤ (((40 : Int32) * p1) + ((m_timeCount σ) p1.toNatClampNeg)).toNatClampNeg then none else (if p1 < 0 ∨ 61 ≤ p1.toNatClampNeg then none else (if p1 < 0 ∨ 61 ≤ p1.toNatClampNeg then none else some ((0 : Int32), (m_ptimeCount (m_ptimes σ (upd (m_times σ) (((40 : Int32) * p1) + ((m_timeCount σ) p1.toNatClampNeg)).toNatClampNeg (m_moment σ))) (upd (m_timeCount σ) p1.toNatClampNeg (((m_timeCount σ) p1.toNatClampNeg) + (1 : Int32))))))))))) else (if p1 < 0 ∨ 61 ≤ p1.toNatClampNeg then none else (if ((((40 : Int32) * p1) + ((m_timeCount σ) p1.toNatClampNeg)) - (1 : Int32)) < 0 ∨ 2440 ≤ ((((40 : Int32) * p1) + ((m_timeCount σ) p1.toNatClampNeg)) - (1 : Int32)).toNatClampNeg then none else (if ((m_times σ) ((((40 : Int32) * p1) + ((m_timeCount σ) p1.toNatClampNeg)) - (1 : Int32)).toNatClampNeg) = (m_moment σ) then some ((0 : Int32), σ) else (if p1 < 0 ∨ 61 ≤ p1.toNatClampNeg then none else (if (40 : Int32) ≤ ((m_timeCount σ) p1.toNatClampNeg) then some ((0 : Int32), σ) else (if p1 < 0 ∨ 61 ≤ p1.toNatClampNeg then none else (if (((40 : Int32) * p1) + ((m_timeCount σ) p1.toNatClampNeg)) < 0 ∨ 2440 ≤ (((40 : Int32) * p1) + ((m_timeCount σ) p1.toNatClampNeg)).toNatClampNeg then none else (if p1 < 0 ∨ 61 ≤ p1.toNatClampNeg then none else (if p1 < 0 ∨ 61 ≤ p1.toNatClampNeg then none else some ((0 : Int32), (m_ptimeCount (m_ptimes σ (upd (m_times σ) (((40 : Int32) * p1) + ((m_timeCount σ) p1.toNatClampNeg)).toNatClampNeg (m_moment σ))) (upd (m_timeCount σ) p1.toNatClampNeg (((m_timeCount σ) p1.toNatClampNeg) + (1 : Int32))))))))))))))))))
set_option maxHeartbeats 4000000 in
set_option maxRecDepth 100000 in
theorem kM_changed (l : Launch) (dC : Nat → ClassId) (dI : Nat → Nat → Nat) (a : Nat → Nat) (cI cZ : ClassId) (tb : Nat) (K : Nat) (p1 : Int32) (σ σ' : MSt) (r : Int32) (hf : fM_changed K p1 σ = some (r, σ')) : xw_Cv l yM_changed wdM_changed ({ frames := 0, cells := 0, slots := 0, locals := 0 } : Room) (dC, dI) vwCl [(cI, .int), (cZ, .boolean)] (zz tb) ((w_M a cI cZ) σ) ((w_M a cI cZ) σ') [.ref (a 0), .int p1] := by
  refine xw_ofWv (cc := cM_changed) (maxL := 2) (ret := none) (lv := [(0, .ref (a 0)), (1, .int p1)]) (by decide) rfl (Nat.le_of_ble_eq_true rfl) rfl ?_
  intro p e s m below meth c A hAt hP hD hS ls hl
  obtain ⟨hx, hb, hr, hml, hown, hts, hlocks, hK, hZ, hA⟩ := hAt
  replace hts : ∀ w ∈ lw_g, w.before _ s = true := fun w h => hts w (List.mem_cons_of_mem _ h)
  unfold fM_changed at hf
  refine lv_aload_n hx hb dM_changed_0 rfl (lv_at hl 0 rfl) ?_
  refine aM_get_timeCount hx hb hts hown hK hP dM_changed_1 ?_
  refine lv_iload_n hx hb dM_changed_4 rfl (lv_at hl 1 rfl) ?_
  obtain ⟨g_1, hf⟩ := gd_f hf
  refine aM_ld_timeCount (σ := σ) (f := (m_timeCount σ)) rfl hx hb hK hP g_1 dM_changed_5 ?_
  refine lv_if_le (tgt := 46) hx hb dM_changed_6 (by decide) (fun c_2 => ?_) (fun c_2 => ?_)
  · replace hf := it_t hf c_2
    refine lv_aload_n hx hb dM_changed_46 rfl (lv_at hl 0 rfl) ?_
    refine aM_get_timeCount hx hb hts hown hK hP dM_changed_47 ?_
    refine lv_iload_n hx hb dM_changed_50 rfl (lv_at hl 1 rfl) ?_
    obtain ⟨g_3, hf⟩ := gd_f hf
    refine aM_ld_timeCount (σ := σ) (f := (m_timeCount σ)) rfl hx hb hK hP g_3 dM_changed_51 ?_
    refine lv_bipush (v := (40 : Int32)) hx hb dM_changed_52 (by decide) ?_
    refine lv_icmp_ge (tgt := 87) hx hb dM_changed_54 (by decide) (fun c_4 => ?_) (fun c_4 => ?_)
    · replace hf := it_t hf c_4
      exact xw_vret (wf := (w_M a cI cZ)) hx hb hr hlocks hK hP hD hS hf dM_changed_87
    · replace hf := it_f hf c_4
      refine lv_aload_n hx hb dM_changed_57 rfl (lv_at hl 0 rfl) ?_
      refine aM_get_times hx hb hts hown hK hP dM_changed_58 ?_
      refine lv_bipush (v := (40 : Int32)) hx hb dM_changed_61 (by decide) ?_
      refine lv_iload_n hx hb dM_changed_63 rfl (lv_at hl 1 rfl) ?_
      refine lv_imul hx hb dM_changed_64 ?_
      refine lv_aload_n hx hb dM_changed_65 rfl (lv_at hl 0 rfl) ?_
      refine aM_get_timeCount hx hb hts hown hK hP dM_changed_66 ?_
      refine lv_iload_n hx hb dM_changed_69 rfl (lv_at hl 1 rfl) ?_
      obtain ⟨g_5, hf⟩ := gd_f hf
      refine aM_ld_timeCount (σ := σ) (f := (m_timeCount σ)) rfl hx hb hK hP g_5 dM_changed_70 ?_
      refine lv_iadd hx hb dM_changed_71 ?_
      refine lv_aload_n hx hb dM_changed_72 rfl (lv_at hl 0 rfl) ?_
      refine aM_get_moment (σ := σ) (v := (m_moment σ)) rfl hx hb hts hown hK hP dM_changed_73 ?_
      obtain ⟨g_6, hf⟩ := gd_f hf
      refine aM_st_times (σ := σ) (f := (m_times σ)) (x := (m_moment σ)) (τ := (m_ptimes σ (upd (m_times σ) (((40 : Int32) * p1) + ((m_timeCount σ) p1.toNatClampNeg)).toNatClampNeg (m_moment σ)))) rfl rfl hx hb hK hP hD hS g_6 dM_changed_76 (fun H locs hP hD hS => ?_)
      refine lv_aload_n hx hb dM_changed_77 rfl (lv_at hl 0 rfl) ?_
      refine aM_get_timeCount hx hb hts hown hK hP dM_changed_78 ?_
      refine lv_iload_n hx hb dM_changed_81 rfl (lv_at hl 1 rfl) ?_
      refine lv_dup2_11 hx hb dM_changed_82 rfl rfl ?_
      obtain ⟨g_7, hf⟩ := gd_f hf
      refine aM_ld_timeCount (σ := (m_ptimes σ (upd (m_times σ) (((40 : Int32) * p1) + ((m_timeCount σ) p1.toNatClampNeg)).toNatClampNeg (m_moment σ)))) (f := (m_timeCount σ)) rfl hx hb hK hP g_7 dM_changed_83 ?_
      refine lv_iconst (v := (1 : Int32)) hx hb dM_changed_84 (by decide) ?_
      refine lv_iadd hx hb dM_changed_85 ?_
      obtain ⟨g_8, hf⟩ := gd_f hf
      refine aM_st_timeCount (σ := (m_ptimes σ (upd (m_times σ) (((40 : Int32) * p1) + ((m_timeCount σ) p1.toNatClampNeg)).toNatClampNeg (m_moment σ)))) (f := (m_timeCount σ)) (x := (((m_timeCount σ) p1.toNatClampNeg) + (1 : Int32))) (τ := (m_ptimeCount (m_ptimes σ (upd (m_times σ) (((40 : Int32) * p1) + ((m_timeCount σ) p1.toNatClampNeg)).toNatClampNeg (m_moment σ))) (upd (m_timeCount σ) p1.toNatClampNeg (((m_timeCount σ) p1.toNatClampNeg) + (1 : Int32))))) rfl rfl hx hb hK hP hD hS g_8 dM_changed_86 (fun H locs hP hD hS => ?_)
      exact xw_vret (wf := (w_M a cI cZ)) hx hb hr hlocks hK hP hD hS hf dM_changed_87
  · replace hf := it_f hf c_2
    refine lv_aload_n hx hb dM_changed_9 rfl (lv_at hl 0 rfl) ?_
    refine aM_get_timeCount hx hb hts hown hK hP dM_changed_10 ?_
    refine lv_iload_n hx hb dM_changed_13 rfl (lv_at hl 1 rfl) ?_
    obtain ⟨g_9, hf⟩ := gd_f hf
    refine aM_ld_timeCount (σ := σ) (f := (m_timeCount σ)) rfl hx hb hK hP g_9 dM_changed_14 ?_
    refine lv_bipush (v := (41 : Int32)) hx hb dM_changed_15 (by decide) ?_
    refine lv_icmp_ge (tgt := 46) hx hb dM_changed_17 (by decide) (fun c_10 => ?_) (fun c_10 => ?_)
    · replace hf := it_t hf c_10
      refine lv_aload_n hx hb dM_changed_46 rfl (lv_at hl 0 rfl) ?_
      refine aM_get_timeCount hx hb hts hown hK hP dM_changed_47 ?_
      refine lv_iload_n hx hb dM_changed_50 rfl (lv_at hl 1 rfl) ?_
      obtain ⟨g_11, hf⟩ := gd_f hf
      refine aM_ld_timeCount (σ := σ) (f := (m_timeCount σ)) rfl hx hb hK hP g_11 dM_changed_51 ?_
      refine lv_bipush (v := (40 : Int32)) hx hb dM_changed_52 (by decide) ?_
      refine lv_icmp_ge (tgt := 87) hx hb dM_changed_54 (by decide) (fun c_12 => ?_) (fun c_12 => ?_)
      · replace hf := it_t hf c_12
        exact xw_vret (wf := (w_M a cI cZ)) hx hb hr hlocks hK hP hD hS hf dM_changed_87
      · replace hf := it_f hf c_12
        refine lv_aload_n hx hb dM_changed_57 rfl (lv_at hl 0 rfl) ?_
        refine aM_get_times hx hb hts hown hK hP dM_changed_58 ?_
        refine lv_bipush (v := (40 : Int32)) hx hb dM_changed_61 (by decide) ?_
        refine lv_iload_n hx hb dM_changed_63 rfl (lv_at hl 1 rfl) ?_
        refine lv_imul hx hb dM_changed_64 ?_
        refine lv_aload_n hx hb dM_changed_65 rfl (lv_at hl 0 rfl) ?_
        refine aM_get_timeCount hx hb hts hown hK hP dM_changed_66 ?_
        refine lv_iload_n hx hb dM_changed_69 rfl (lv_at hl 1 rfl) ?_
        obtain ⟨g_13, hf⟩ := gd_f hf
        refine aM_ld_timeCount (σ := σ) (f := (m_timeCount σ)) rfl hx hb hK hP g_13 dM_changed_70 ?_
        refine lv_iadd hx hb dM_changed_71 ?_
        refine lv_aload_n hx hb dM_changed_72 rfl (lv_at hl 0 rfl) ?_
        refine aM_get_moment (σ := σ) (v := (m_moment σ)) rfl hx hb hts hown hK hP dM_changed_73 ?_
        obtain ⟨g_14, hf⟩ := gd_f hf
        refine aM_st_times (σ := σ) (f := (m_times σ)) (x := (m_moment σ)) (τ := (m_ptimes σ (upd (m_times σ) (((40 : Int32) * p1) + ((m_timeCount σ) p1.toNatClampNeg)).toNatClampNeg (m_moment σ)))) rfl rfl hx hb hK hP hD hS g_14 dM_changed_76 (fun H locs hP hD hS => ?_)
        refine lv_aload_n hx hb dM_changed_77 rfl (lv_at hl 0 rfl) ?_
        refine aM_get_timeCount hx hb hts hown hK hP dM_changed_78 ?_
        refine lv_iload_n hx hb dM_changed_81 rfl (lv_at hl 1 rfl) ?_
        refine lv_dup2_11 hx hb dM_changed_82 rfl rfl ?_
        obtain ⟨g_15, hf⟩ := gd_f hf
        refine aM_ld_timeCount (σ := (m_ptimes σ (upd (m_times σ) (((40 : Int32) * p1) + ((m_timeCount σ) p1.toNatClampNeg)).toNatClampNeg (m_moment σ)))) (f := (m_timeCount σ)) rfl hx hb hK hP g_15 dM_changed_83 ?_
        refine lv_iconst (v := (1 : Int32)) hx hb dM_changed_84 (by decide) ?_
        refine lv_iadd hx hb dM_changed_85 ?_
        obtain ⟨g_16, hf⟩ := gd_f hf
        refine aM_st_timeCount (σ := (m_ptimes σ (upd (m_times σ) (((40 : Int32) * p1) + ((m_timeCount σ) p1.toNatClampNeg)).toNatClampNeg (m_moment σ)))) (f := (m_timeCount σ)) (x := (((m_timeCount σ) p1.toNatClampNeg) + (1 : Int32))) (τ := (m_ptimeCount (m_ptimes σ (upd (m_times σ) (((40 : Int32) * p1) + ((m_timeCount σ) p1.toNatClampNeg)).toNatClampNeg (m_moment σ))) (upd (m_timeCount σ) p1.toNatClampNeg (((m_timeCount σ) p1.toNatClampNeg) + (1 : Int32))))) rfl rfl hx hb hK hP hD hS g_16 dM_changed_86 (fun H locs hP hD hS => ?_)
        exact xw_vret (wf := (w_M a cI cZ)) hx hb hr hlocks hK hP hD hS hf dM_changed_87
    · replace hf := it_f hf c_10
      refine lv_aload_n hx hb dM_changed_20 rfl (lv_at hl 0 rfl) ?_
      refine aM_get_times hx hb hts hown hK hP dM_changed_21 ?_
      refine lv_bipush (v := (40 : Int32)) hx hb dM_changed_24 (by decide) ?_
      refine lv_iload_n hx hb dM_changed_26 rfl (lv_at hl 1 rfl) ?_
      refine lv_imul hx hb dM_changed_27 ?_
      refine lv_aload_n hx hb dM_changed_28 rfl (lv_at hl 0 rfl) ?_
      refine aM_get_timeCount hx hb hts hown hK hP dM_changed_29 ?_
      refine lv_iload_n hx hb dM_changed_32 rfl (lv_at hl 1 rfl) ?_
      obtain ⟨g_17, hf⟩ := gd_f hf
      refine aM_ld_timeCount (σ := σ) (f := (m_timeCount σ)) rfl hx hb hK hP g_17 dM_changed_33 ?_
      refine lv_iadd hx hb dM_changed_34 ?_
      refine lv_iconst (v := (1 : Int32)) hx hb dM_changed_35 (by decide) ?_
      refine lv_isub hx hb dM_changed_36 ?_
      obtain ⟨g_18, hf⟩ := gd_f hf
      refine aM_ld_times (σ := σ) (f := (m_times σ)) rfl hx hb hK hP g_18 dM_changed_37 ?_
      refine lv_aload_n hx hb dM_changed_38 rfl (lv_at hl 0 rfl) ?_
      refine aM_get_moment (σ := σ) (v := (m_moment σ)) rfl hx hb hts hown hK hP dM_changed_39 ?_
      refine lv_icmp_ne (tgt := 46) hx hb dM_changed_42 (by decide) (fun c_19 => ?_) (fun c_19 => ?_)
      · replace hf := it_f hf c_19
        refine lv_aload_n hx hb dM_changed_46 rfl (lv_at hl 0 rfl) ?_
        refine aM_get_timeCount hx hb hts hown hK hP dM_changed_47 ?_
        refine lv_iload_n hx hb dM_changed_50 rfl (lv_at hl 1 rfl) ?_
        obtain ⟨g_20, hf⟩ := gd_f hf
        refine aM_ld_timeCount (σ := σ) (f := (m_timeCount σ)) rfl hx hb hK hP g_20 dM_changed_51 ?_
        refine lv_bipush (v := (40 : Int32)) hx hb dM_changed_52 (by decide) ?_
        refine lv_icmp_ge (tgt := 87) hx hb dM_changed_54 (by decide) (fun c_21 => ?_) (fun c_21 => ?_)
        · replace hf := it_t hf c_21
          exact xw_vret (wf := (w_M a cI cZ)) hx hb hr hlocks hK hP hD hS hf dM_changed_87
        · replace hf := it_f hf c_21
          refine lv_aload_n hx hb dM_changed_57 rfl (lv_at hl 0 rfl) ?_
          refine aM_get_times hx hb hts hown hK hP dM_changed_58 ?_
          refine lv_bipush (v := (40 : Int32)) hx hb dM_changed_61 (by decide) ?_
          refine lv_iload_n hx hb dM_changed_63 rfl (lv_at hl 1 rfl) ?_
          refine lv_imul hx hb dM_changed_64 ?_
          refine lv_aload_n hx hb dM_changed_65 rfl (lv_at hl 0 rfl) ?_
          refine aM_get_timeCount hx hb hts hown hK hP dM_changed_66 ?_
          refine lv_iload_n hx hb dM_changed_69 rfl (lv_at hl 1 rfl) ?_
          obtain ⟨g_22, hf⟩ := gd_f hf
          refine aM_ld_timeCount (σ := σ) (f := (m_timeCount σ)) rfl hx hb hK hP g_22 dM_changed_70 ?_
          refine lv_iadd hx hb dM_changed_71 ?_
          refine lv_aload_n hx hb dM_changed_72 rfl (lv_at hl 0 rfl) ?_
          refine aM_get_moment (σ := σ) (v := (m_moment σ)) rfl hx hb hts hown hK hP dM_changed_73 ?_
          obtain ⟨g_23, hf⟩ := gd_f hf
          refine aM_st_times (σ := σ) (f := (m_times σ)) (x := (m_moment σ)) (τ := (m_ptimes σ (upd (m_times σ) (((40 : Int32) * p1) + ((m_timeCount σ) p1.toNatClampNeg)).toNatClampNeg (m_moment σ)))) rfl rfl hx hb hK hP hD hS g_23 dM_changed_76 (fun H locs hP hD hS => ?_)
          refine lv_aload_n hx hb dM_changed_77 rfl (lv_at hl 0 rfl) ?_
          refine aM_get_timeCount hx hb hts hown hK hP dM_changed_78 ?_
          refine lv_iload_n hx hb dM_changed_81 rfl (lv_at hl 1 rfl) ?_
          refine lv_dup2_11 hx hb dM_changed_82 rfl rfl ?_
          obtain ⟨g_24, hf⟩ := gd_f hf
          refine aM_ld_timeCount (σ := (m_ptimes σ (upd (m_times σ) (((40 : Int32) * p1) + ((m_timeCount σ) p1.toNatClampNeg)).toNatClampNeg (m_moment σ)))) (f := (m_timeCount σ)) rfl hx hb hK hP g_24 dM_changed_83 ?_
          refine lv_iconst (v := (1 : Int32)) hx hb dM_changed_84 (by decide) ?_
          refine lv_iadd hx hb dM_changed_85 ?_
          obtain ⟨g_25, hf⟩ := gd_f hf
          refine aM_st_timeCount (σ := (m_ptimes σ (upd (m_times σ) (((40 : Int32) * p1) + ((m_timeCount σ) p1.toNatClampNeg)).toNatClampNeg (m_moment σ)))) (f := (m_timeCount σ)) (x := (((m_timeCount σ) p1.toNatClampNeg) + (1 : Int32))) (τ := (m_ptimeCount (m_ptimes σ (upd (m_times σ) (((40 : Int32) * p1) + ((m_timeCount σ) p1.toNatClampNeg)).toNatClampNeg (m_moment σ))) (upd (m_timeCount σ) p1.toNatClampNeg (((m_timeCount σ) p1.toNatClampNeg) + (1 : Int32))))) rfl rfl hx hb hK hP hD hS g_25 dM_changed_86 (fun H locs hP hD hS => ?_)
          exact xw_vret (wf := (w_M a cI cZ)) hx hb hr hlocks hK hP hD hS hf dM_changed_87
      · replace hf := it_t hf c_19
        exact xw_vret (wf := (w_M a cI cZ)) hx hb hr hlocks hK hP hD hS hf dM_changed_45
def gM_link_122 (K : Nat) : Nat → Int32 → Int32 → Int32 → Int32 → MSt → Option (Int32 × MSt)
  | 0, _, _, _, _, _ => none
  | n + 1, x1, x2, x3, x4, τ => (if x4 = x1 then (if (m_ringLength τ) < 0 ∨ 61 ≤ (m_ringLength τ).toNatClampNeg then none else some ((0 : Int32), (m_pringLength (m_pring τ (upd (m_ring τ) (m_ringLength τ).toNatClampNeg x1)) ((m_ringLength τ) + (1 : Int32))))) else (if (m_ringLength τ) < 0 ∨ 61 ≤ (m_ringLength τ).toNatClampNeg then none else ((fM_hostOf K x4 (m_pringLength (m_pring τ (upd (m_ring τ) (m_ringLength τ).toNatClampNeg x4)) ((m_ringLength τ) + (1 : Int32)))).bind fun q_28 => (gM_link_122 K n x1 x2 x3 q_28.1 q_28.2))))
def fM_link (K : Nat) (p1 p2 p3 : Int32) (σ : MSt) : Option (Int32 × MSt) := ((fM_isLive K p1 (m_pmoment (m_pthrown σ (0 : Int32)) ((m_moment σ) + (1 : Int32)))).bind fun q_1 => (if q_1.1 = 0 then some ((0 : Int32), q_1.2) else (if p2 < 0 then some ((0 : Int32), q_1.2) else (if (9 : Int32) < p2 then some ((0 : Int32), q_1.2) else (if (m_links q_1.2) = (200 : Int32) then some ((0 : Int32), q_1.2) else (if (4 : Int32) ≤ p2 then ((fM_isHeading K p3 q_1.2).bind fun q_7 => (if q_7.1 = 0 then some ((0 : Int32), q_7.2) else ((fM_count K p1 p2 q_7.2).bind fun q_9 => ((fM_most K p2 q_9.2).bind fun q_10 => (if q_9.1 = q_10.1 then some ((0 : Int32), q_10.2) else ((fM_find K p1 p2 p3 q_10.2).bind fun q_12 => (if q_12.1 = (-1 : Int32) then (if p2 = 0 then ((fM_liesIn K p3 p1 q_12.2).bind fun q_19 => (if q_19.1 = 0 then (if (m_links q_19.2) < 0 ∨ 200 ≤ (m_links q_19.2).toNatClampNeg then none else (if (m_links q_19.2) < 0 ∨ 200 ≤ (m_links q_19.2).toNatClampNeg then none else (if (m_links q_19.2) < 0 ∨ 200 ≤ (m_links q_19.2).toNatClampNeg then none else ((fM_changed K p1 (m_pto (m_pfield (m_pfrom (m_plinks q_19.2 ((m_links q_19.2) + (1 : Int32))) (upd (m_from q_19.2) (m_links q_19.2).toNatClampNeg p1)) (upd (m_field q_19.2) (m_links q_19.2).toNatClampNeg p2)) (upd (m_to q_19.2) (m_links q_19.2).toNatClampNeg p3))).bind fun q_24 => some ((1 : Int32), q_24.2))))) else (gM_link_122 K K p1 p2 p3 p3 (m_pringLength q_19.2 (0 : Int32))))) else (if (m_links q_12.2) < 0 ∨ 200 ≤ (m_links q_12.2).toNatClampNeg then none else (if (m_links q_12.2) < 0 ∨ 200 ≤ (m_links q_12.2).toNatClampNeg then none else (if (m_links q_12.2) < 0 ∨ 200 ≤ (m_links q_12.2).toNatClampNeg then none else ((fM_changed K p1 (m_pto (m_pfield (m_pfrom (m_plinks q_12.2 ((m_links q_12.2) + (1 : Int32))) (upd (m_from q_12.2) (m_links q_12.2).toNatClampNeg p1)) (upd (m_field q_12.2) (m_links q_12.2).toNatClampNeg p2)) (upd (m_to q_12.2) (m_links q_12.2).toNatClampNeg p3))).bind fun q_18 => some ((1 : Int32), q_18.2)))))) else some ((0 : Int32), q_12.2)))))))) else ((fM_isLive K p3 q_1.2).bind fun q_29 => (if q_29.1 = 0 then some ((0 : Int32), q_29.2) else (if p3 = p1 then some ((0 : Int32), q_29.2) else ((fM_count K p1 p2 q_29.2).bind fun q_32 => ((fM_most K p2 q_32.2).bind fun q_33 => (if q_32.1 = q_33.1 then some ((0 : Int32), q_33.2) else ((fM_find K p1 p2 p3 q_33.2).bind fun q_35 => (if q_35.1 = (-1 : Int32) then (if p2 = 0 then ((fM_liesIn K p3 p1 q_35.2).bind fun q_42 => (if q_42.1 = 0 then (if (m_links q_42.2) < 0 ∨ 200 ≤ (m_links q_42.2).toNatClampNeg then none else (if (m_links q_42.2) < 0 ∨ 200 ≤ (m_links q_42.2).toNatClampNeg then none else (if (m_links q_42.2) < 0 ∨ 200 ≤ (m_links q_42.2).toNatClampNeg then none else ((fM_changed K p1 (m_pto (m_pfield (m_pfrom (m_plinks q_42.2 ((m_links q_42.2) + (1 : Int32))) (upd (m_from q_42.2) (m_links q_42.2).toNatClampNeg p1)) (upd (m_field q_42.2) (m_links q_42.2).toNatClampNeg p2)) (upd (m_to q_42.2) (m_links q_42.2).toNatClampNeg p3))).bind fun q_47 => some ((1 : Int32), q_47.2))))) else (gM_link_122 K K p1 p2 p3 p3 (m_pringLength q_42.2 (0 : Int32))))) else (if (m_links q_35.2) < 0 ∨ 200 ≤ (m_links q_35.2).toNatClampNeg then none else (if (m_links q_35.2) < 0 ∨ 200 ≤ (m_links q_35.2).toNatClampNeg then none else (if (m_links q_35.2) < 0 ∨ 200 ≤ (m_links q_35.2).toNatClampNeg then none else ((fM_changed K p1 (m_pto (m_pfield (m_pfrom (m_plinks q_35.2 ((m_links q_35.2) + (1 : Int32))) (upd (m_from q_35.2) (m_links q_35.2).toNatClampNeg p1)) (upd (m_field q_35.2) (m_links q_35.2).toNatClampNeg p2)) (upd (m_to q_35.2) (m_links q_35.2).toNatClampNeg p3))).bind fun q_41 => some ((1 : Int32), q_41.2)))))) else some ((0 : Int32), q_35.2)))))))))))))))
set_option maxHeartbeats 4000000 in
set_option maxRecDepth 100000 in
theorem kM_link (l : Launch) (dC : Nat → ClassId) (dI : Nat → Nat → Nat) (a : Nat → Nat) (cI cZ : ClassId) (tb : Nat) (K : Nat) (p1 p2 p3 : Int32) (σ σ' : MSt) (r : Int32) (hf : fM_link K p1 p2 p3 σ = some (r, σ')) : xw_Ct l yM_link wdM_link ({ frames := 2, cells := 0, slots := 0, locals := 45 } : Room) (dC, dI) vwCl [(cI, .int), (cZ, .boolean)] (zz tb) ((w_M a cI cZ) σ) ((w_M a cI cZ) σ') [.ref (a 0), .int p1, .int p2, .int p3] r := by
  refine xw_ofW (cc := cM_link) (maxL := 5) (ret := (some .int)) (lv := [(0, .ref (a 0)), (1, .int p1), (2, .int p2), (3, .int p3)]) (by decide) rfl (Nat.le_of_ble_eq_true rfl) rfl ?_
  intro p e s m below meth c A hAt hP hD hS ls hl
  obtain ⟨hx, hb, hr, hml, hown, hts, hlocks, hK, hZ, hA⟩ := hAt
  replace hts : ∀ w ∈ lw_g, w.before _ s = true := fun w h => hts w (List.mem_cons_of_mem _ h)
  have L_122 : ∀ (n : Nat) (x1 x2 x3 x4 : Int32) (τ : MSt), gM_link_122 K n x1 x2 x3 x4 τ = some (r, σ') → ∀ (H : Heap) (locs : List Loc), va_P (dC, dI) vwCl ((w_M a cI cZ) τ) H → va_D A ((w_M a cI cZ) τ) → va_S A s.heap H locs → ∀ (ls : Array Slot), lv_has ls 5 [(0, .ref (a 0)), (1, .int x1), (2, .int x2), (3, .int x3), (4, .int x4)] → W p l e ({ frames := 2, cells := 0, slots := 0, locals := 45 } : Room) s m ([.ref (a 0), .int p1, .int p2, .int p3] : List Value).toArray below meth c H locs 0 0 (MQ below (va_Qi (fun (r2 : Int32) (_ : Unit) => r2 = r) (fun _ t => xw_B (dC, dI) vwCl [(cI, .int), (cZ, .boolean)] A ((w_M a cI cZ) σ') t) A) ([.ref (a 0), .int p1, .int p2, .int p3] : List Value).toArray s 0 0 A) (F0 m 122 ls []) := by
    intro n
    induction n with
    | zero =>
      intro x1 x2 x3 x4 τ hf
      rw [gM_link_122] at hf
      cases hf
    | succ n ih =>
      intro x1 x2 x3 x4 τ hf H locs hP hD hS ls hl
      rw [gM_link_122] at hf
      refine lv_iload hx hb dM_link_122 (lv_at hl 4 rfl) ?_
      refine lv_iload_n hx hb dM_link_124 rfl (lv_at hl 1 rfl) ?_
      refine lv_icmp_eq (tgt := 160) hx hb dM_link_125 (by decide) (fun c_25 => ?_) (fun c_25 => ?_)
      · replace hf := it_t hf c_25
        refine lv_aload_n hx hb dM_link_160 rfl (lv_at hl 0 rfl) ?_
        refine aM_get_ring hx hb hts hown hK hP dM_link_161 ?_
        refine lv_aload_n hx hb dM_link_164 rfl (lv_at hl 0 rfl) ?_
        refine aM_get_ringLength (σ := τ) (v := (m_ringLength τ)) rfl hx hb hts hown hK hP dM_link_165 ?_
        refine lv_iload_n hx hb dM_link_168 rfl (lv_at hl 1 rfl) ?_
        obtain ⟨g_26, hf⟩ := gd_f hf
        refine aM_st_ring (σ := τ) (f := (m_ring τ)) (x := x1) (τ := (m_pring τ (upd (m_ring τ) (m_ringLength τ).toNatClampNeg x1))) rfl rfl hx hb hK hP hD hS g_26 dM_link_169 (fun H locs hP hD hS => ?_)
        refine lv_aload_n hx hb dM_link_170 rfl (lv_at hl 0 rfl) ?_
        refine lv_dup hx hb dM_link_171 rfl ?_
        refine aM_get_ringLength (σ := (m_pring τ (upd (m_ring τ) (m_ringLength τ).toNatClampNeg x1))) (v := (m_ringLength τ)) rfl hx hb hts hown hK hP dM_link_172 ?_
        refine lv_iconst (v := (1 : Int32)) hx hb dM_link_175 (by decide) ?_
        refine lv_iadd hx hb dM_link_176 ?_
        refine aM_put_ringLength (σ := (m_pring τ (upd (m_ring τ) (m_ringLength τ).toNatClampNeg x1))) (v := ((m_ringLength τ) + (1 : Int32))) (τ := (m_pringLength (m_pring τ (upd (m_ring τ) (m_ringLength τ).toNatClampNeg x1)) ((m_ringLength τ) + (1 : Int32)))) rfl hx hb hts hown hK hP hD hS dM_link_177 (fun H locs hP hD hS => ?_)
        refine lv_iconst (v := (0 : Int32)) hx hb dM_link_180 (by decide) ?_
        exact xw_iret (wf := (w_M a cI cZ)) hx hb hr hlocks rfl hK hP hD hS hf dM_link_181
      · replace hf := it_f hf c_25
        refine lv_aload_n hx hb dM_link_128 rfl (lv_at hl 0 rfl) ?_
        refine aM_get_ring hx hb hts hown hK hP dM_link_129 ?_
        refine lv_aload_n hx hb dM_link_132 rfl (lv_at hl 0 rfl) ?_
        refine aM_get_ringLength (σ := τ) (v := (m_ringLength τ)) rfl hx hb hts hown hK hP dM_link_133 ?_
        refine lv_iload hx hb dM_link_136 (lv_at hl 4 rfl) ?_
        obtain ⟨g_27, hf⟩ := gd_f hf
        refine aM_st_ring (σ := τ) (f := (m_ring τ)) (x := x4) (τ := (m_pring τ (upd (m_ring τ) (m_ringLength τ).toNatClampNeg x4))) rfl rfl hx hb hK hP hD hS g_27 dM_link_138 (fun H locs hP hD hS => ?_)
        refine lv_aload_n hx hb dM_link_139 rfl (lv_at hl 0 rfl) ?_
        refine lv_dup hx hb dM_link_140 rfl ?_
        refine aM_get_ringLength (σ := (m_pring τ (upd (m_ring τ) (m_ringLength τ).toNatClampNeg x4))) (v := (m_ringLength τ)) rfl hx hb hts hown hK hP dM_link_141 ?_
        refine lv_iconst (v := (1 : Int32)) hx hb dM_link_144 (by decide) ?_
        refine lv_iadd hx hb dM_link_145 ?_
        refine aM_put_ringLength (σ := (m_pring τ (upd (m_ring τ) (m_ringLength τ).toNatClampNeg x4))) (v := ((m_ringLength τ) + (1 : Int32))) (τ := (m_pringLength (m_pring τ (upd (m_ring τ) (m_ringLength τ).toNatClampNeg x4)) ((m_ringLength τ) + (1 : Int32)))) rfl hx hb hts hown hK hP hD hS dM_link_146 (fun H locs hP hD hS => ?_)
        refine lv_aload_n hx hb dM_link_149 rfl (lv_at hl 0 rfl) ?_
        refine lv_iload hx hb dM_link_150 (lv_at hl 4 rfl) ?_
        obtain ⟨q_28, hq_28, hf⟩ := bd_s hf
        refine xw_callV (kM_hostOf l dC dI a cI cZ tb K x4 (m_pringLength (m_pring τ (upd (m_ring τ) (m_ringLength τ).toNatClampNeg x4)) ((m_ringLength τ) + (1 : Int32))) q_28.2 q_28.1 hq_28) ⟨hx, hb, hml, hown, hts⟩ (cwV 1 hts (gw_V mt_285 mt_287 mt_19 mt_26 mt_288) rfl rfl rfl hdM_hostOf ⟨Nat.le_of_ble_eq_true rfl, Nat.le_of_ble_eq_true rfl⟩) hK hP hD hS hA hZ (q0 := 0) (ci := 1) rfl rfl rfl hl.1 rfl (Nat.le_of_ble_eq_true rfl) dM_link_152 ⟨Nat.zero_le _, Nat.zero_le _⟩ (fun H locs hP hD hS => ?_)
        refine lv_istore (lv' := [(4, .int q_28.1), (0, .ref (a 0)), (1, .int x1), (2, .int x2), (3, .int x3)]) hx hb dM_link_155 hl (by decide) rfl (fun ls hl => ?_)
        refine lv_goto (tgt := 122) hx hb dM_link_157 (by decide) ?_
        exact ih x1 x2 x3 q_28.1 q_28.2 hf _ _ hP hD hS _ (lv_sub hl [1, 2, 3, 4, 0] rfl)
  unfold fM_link at hf
  refine lv_aload_n hx hb dM_link_0 rfl (lv_at hl 0 rfl) ?_
  refine lv_iconst (v := (0 : Int32)) hx hb dM_link_1 (by decide) ?_
  refine aM_put_thrown (σ := σ) (v := (0 : Int32)) (τ := (m_pthrown σ (0 : Int32))) rfl hx hb hts hown hK hP hD hS dM_link_2 (fun H locs hP hD hS => ?_)
  refine lv_aload_n hx hb dM_link_5 rfl (lv_at hl 0 rfl) ?_
  refine lv_dup hx hb dM_link_6 rfl ?_
  refine aM_get_moment (σ := (m_pthrown σ (0 : Int32))) (v := (m_moment σ)) rfl hx hb hts hown hK hP dM_link_7 ?_
  refine lv_iconst (v := (1 : Int32)) hx hb dM_link_10 (by decide) ?_
  refine lv_iadd hx hb dM_link_11 ?_
  refine aM_put_moment (σ := (m_pthrown σ (0 : Int32))) (v := ((m_moment σ) + (1 : Int32))) (τ := (m_pmoment (m_pthrown σ (0 : Int32)) ((m_moment σ) + (1 : Int32)))) rfl hx hb hts hown hK hP hD hS dM_link_12 (fun H locs hP hD hS => ?_)
  refine lv_aload_n hx hb dM_link_15 rfl (lv_at hl 0 rfl) ?_
  refine lv_iload_n hx hb dM_link_16 rfl (lv_at hl 1 rfl) ?_
  obtain ⟨q_1, hq_1, hf⟩ := bd_s hf
  refine xw_callV (kM_isLive l dC dI a cI cZ tb K p1 (m_pmoment (m_pthrown σ (0 : Int32)) ((m_moment σ) + (1 : Int32))) q_1.2 q_1.1 hq_1) ⟨hx, hb, hml, hown, hts⟩ (cwV 1 hts (gw_V mt_263 mt_265 mt_15 mt_26 mt_266) rfl rfl rfl hdM_isLive ⟨Nat.le_of_ble_eq_true rfl, Nat.le_of_ble_eq_true rfl⟩) hK hP hD hS hA hZ (q0 := 0) (ci := 1) rfl rfl rfl hl.1 rfl (Nat.le_of_ble_eq_true rfl) dM_link_17 ⟨Nat.zero_le _, Nat.zero_le _⟩ (fun H locs hP hD hS => ?_)
  refine lv_if_eq (tgt := 43) hx hb dM_link_20 (by decide) (fun c_2 => ?_) (fun c_2 => ?_)
  · replace hf := it_t hf c_2
    refine lv_iconst (v := (0 : Int32)) hx hb dM_link_43 (by decide) ?_
    exact xw_iret (wf := (w_M a cI cZ)) hx hb hr hlocks rfl hK hP hD hS hf dM_link_44
  · replace hf := it_f hf c_2
    refine lv_iload_n hx hb dM_link_23 rfl (lv_at hl 2 rfl) ?_
    refine lv_if_lt (tgt := 43) hx hb dM_link_24 (by decide) (fun c_3 => ?_) (fun c_3 => ?_)
    · replace hf := it_t hf c_3
      refine lv_iconst (v := (0 : Int32)) hx hb dM_link_43 (by decide) ?_
      exact xw_iret (wf := (w_M a cI cZ)) hx hb hr hlocks rfl hK hP hD hS hf dM_link_44
    · replace hf := it_f hf c_3
      refine lv_iload_n hx hb dM_link_27 rfl (lv_at hl 2 rfl) ?_
      refine lv_bipush (v := (9 : Int32)) hx hb dM_link_28 (by decide) ?_
      refine lv_icmp_gt (tgt := 43) hx hb dM_link_30 (by decide) (fun c_4 => ?_) (fun c_4 => ?_)
      · replace hf := it_t hf c_4
        refine lv_iconst (v := (0 : Int32)) hx hb dM_link_43 (by decide) ?_
        exact xw_iret (wf := (w_M a cI cZ)) hx hb hr hlocks rfl hK hP hD hS hf dM_link_44
      · replace hf := it_f hf c_4
        refine lv_aload_n hx hb dM_link_33 rfl (lv_at hl 0 rfl) ?_
        refine aM_get_links (σ := q_1.2) (v := (m_links q_1.2)) rfl hx hb hts hown hK hP dM_link_34 ?_
        refine lv_sipush (v := (200 : Int32)) hx hb dM_link_37 (by decide) ?_
        refine lv_icmp_ne (tgt := 45) hx hb dM_link_40 (by decide) (fun c_5 => ?_) (fun c_5 => ?_)
        · replace hf := it_f hf c_5
          refine lv_iload_n hx hb dM_link_45 rfl (lv_at hl 2 rfl) ?_
          refine lv_iconst (v := (4 : Int32)) hx hb dM_link_46 (by decide) ?_
          refine lv_icmp_ge (tgt := 66) hx hb dM_link_47 (by decide) (fun c_6 => ?_) (fun c_6 => ?_)
          · replace hf := it_t hf c_6
            refine lv_iload_n hx hb dM_link_66 rfl (lv_at hl 3 rfl) ?_
            obtain ⟨q_7, hq_7, hf⟩ := bd_s hf
            refine xw_callS (kM_isHeading l dC dI a cI cZ tb K p3 q_1.2 q_7.2 q_7.1 hq_7) ⟨hx, hb, hml, hown, hts⟩ (va_cwS 1 hts (gw_S mt_267 mt_268 mt_26 mt_269) rfl rfl rfl hdM_isHeading ⟨Nat.le_of_ble_eq_true rfl, Nat.le_of_ble_eq_true rfl⟩) hK hP hD hS hA hZ rfl hl.1 rfl (Nat.le_of_ble_eq_true rfl) dM_link_67 ⟨Nat.zero_le _, Nat.zero_le _⟩ (fun H locs hP hD hS => ?_)
            refine lv_if_ne (tgt := 75) hx hb dM_link_70 (by decide) (fun c_8 => ?_) (fun c_8 => ?_)
            · replace hf := it_f hf c_8
              refine lv_aload_n hx hb dM_link_75 rfl (lv_at hl 0 rfl) ?_
              refine lv_iload_n hx hb dM_link_76 rfl (lv_at hl 1 rfl) ?_
              refine lv_iload_n hx hb dM_link_77 rfl (lv_at hl 2 rfl) ?_
              obtain ⟨q_9, hq_9, hf⟩ := bd_s hf
              refine xw_callV (kM_count l dC dI a cI cZ tb K p1 p2 q_7.2 q_9.2 q_9.1 hq_9) ⟨hx, hb, hml, hown, hts⟩ (cwV 2 hts (gw_V mt_270 mt_272 mt_16 mt_26 mt_273) rfl rfl rfl hdM_count ⟨Nat.le_of_ble_eq_true rfl, Nat.le_of_ble_eq_true rfl⟩) hK hP hD hS hA hZ (q0 := 0) (ci := 1) rfl rfl rfl hl.1 rfl (Nat.le_of_ble_eq_true rfl) dM_link_78 ⟨Nat.zero_le _, Nat.zero_le _⟩ (fun H locs hP hD hS => ?_)
              refine lv_iload_n hx hb dM_link_81 rfl (lv_at hl 2 rfl) ?_
              obtain ⟨q_10, hq_10, hf⟩ := bd_s hf
              refine xw_callS (kM_most l dC dI a cI cZ tb K p2 q_9.2 q_10.2 q_10.1 hq_10) ⟨hx, hb, hml, hown, hts⟩ (va_cwS 1 hts (gw_S mt_274 mt_275 mt_26 mt_276) rfl rfl rfl hdM_most ⟨Nat.le_of_ble_eq_true rfl, Nat.le_of_ble_eq_true rfl⟩) hK hP hD hS hA hZ rfl hl.1 rfl (Nat.le_of_ble_eq_true rfl) dM_link_82 ⟨Nat.zero_le _, Nat.zero_le _⟩ (fun H locs hP hD hS => ?_)
              refine lv_icmp_eq (tgt := 99) hx hb dM_link_85 (by decide) (fun c_11 => ?_) (fun c_11 => ?_)
              · replace hf := it_t hf c_11
                refine lv_iconst (v := (0 : Int32)) hx hb dM_link_99 (by decide) ?_
                exact xw_iret (wf := (w_M a cI cZ)) hx hb hr hlocks rfl hK hP hD hS hf dM_link_100
              · replace hf := it_f hf c_11
                refine lv_aload_n hx hb dM_link_88 rfl (lv_at hl 0 rfl) ?_
                refine lv_iload_n hx hb dM_link_89 rfl (lv_at hl 1 rfl) ?_
                refine lv_iload_n hx hb dM_link_90 rfl (lv_at hl 2 rfl) ?_
                refine lv_iload_n hx hb dM_link_91 rfl (lv_at hl 3 rfl) ?_
                obtain ⟨q_12, hq_12, hf⟩ := bd_s hf
                refine xw_callV (kM_find l dC dI a cI cZ tb K p1 p2 p3 q_10.2 q_12.2 q_12.1 hq_12) ⟨hx, hb, hml, hown, hts⟩ (cwV 3 hts (gw_V mt_277 mt_279 mt_17 mt_26 mt_280) rfl rfl rfl hdM_find ⟨Nat.le_of_ble_eq_true rfl, Nat.le_of_ble_eq_true rfl⟩) hK hP hD hS hA hZ (q0 := 0) (ci := 1) rfl rfl rfl hl.1 rfl (Nat.le_of_ble_eq_true rfl) dM_link_92 ⟨Nat.zero_le _, Nat.zero_le _⟩ (fun H locs hP hD hS => ?_)
                refine lv_iconst (v := (-1 : Int32)) hx hb dM_link_95 (by decide) ?_
                refine lv_icmp_eq (tgt := 101) hx hb dM_link_96 (by decide) (fun c_13 => ?_) (fun c_13 => ?_)
                · replace hf := it_t hf c_13
                  refine lv_iload_n hx hb dM_link_101 rfl (lv_at hl 2 rfl) ?_
                  refine lv_if_ne (tgt := 182) hx hb dM_link_102 (by decide) (fun c_14 => ?_) (fun c_14 => ?_)
                  · replace hf := it_f hf c_14
                    refine lv_aload_n hx hb dM_link_182 rfl (lv_at hl 0 rfl) ?_
                    refine aM_get_from hx hb hts hown hK hP dM_link_183 ?_
                    refine lv_aload_n hx hb dM_link_186 rfl (lv_at hl 0 rfl) ?_
                    refine aM_get_links (σ := q_12.2) (v := (m_links q_12.2)) rfl hx hb hts hown hK hP dM_link_187 ?_
                    refine lv_iload_n hx hb dM_link_190 rfl (lv_at hl 1 rfl) ?_
                    obtain ⟨g_15, hf⟩ := gd_f hf
                    refine aM_st_from (σ := q_12.2) (f := (m_from q_12.2)) (x := p1) (τ := (m_pfrom q_12.2 (upd (m_from q_12.2) (m_links q_12.2).toNatClampNeg p1))) rfl rfl hx hb hK hP hD hS g_15 dM_link_191 (fun H locs hP hD hS => ?_)
                    refine lv_aload_n hx hb dM_link_192 rfl (lv_at hl 0 rfl) ?_
                    refine aM_get_field hx hb hts hown hK hP dM_link_193 ?_
                    refine lv_aload_n hx hb dM_link_196 rfl (lv_at hl 0 rfl) ?_
                    refine aM_get_links (σ := (m_pfrom q_12.2 (upd (m_from q_12.2) (m_links q_12.2).toNatClampNeg p1))) (v := (m_links q_12.2)) rfl hx hb hts hown hK hP dM_link_197 ?_
                    refine lv_iload_n hx hb dM_link_200 rfl (lv_at hl 2 rfl) ?_
                    obtain ⟨g_16, hf⟩ := gd_f hf
                    refine aM_st_field (σ := (m_pfrom q_12.2 (upd (m_from q_12.2) (m_links q_12.2).toNatClampNeg p1))) (f := (m_field q_12.2)) (x := p2) (τ := (m_pfield (m_pfrom q_12.2 (upd (m_from q_12.2) (m_links q_12.2).toNatClampNeg p1)) (upd (m_field q_12.2) (m_links q_12.2).toNatClampNeg p2))) rfl rfl hx hb hK hP hD hS g_16 dM_link_201 (fun H locs hP hD hS => ?_)
                    refine lv_aload_n hx hb dM_link_202 rfl (lv_at hl 0 rfl) ?_
                    refine aM_get_to hx hb hts hown hK hP dM_link_203 ?_
                    refine lv_aload_n hx hb dM_link_206 rfl (lv_at hl 0 rfl) ?_
                    refine aM_get_links (σ := (m_pfield (m_pfrom q_12.2 (upd (m_from q_12.2) (m_links q_12.2).toNatClampNeg p1)) (upd (m_field q_12.2) (m_links q_12.2).toNatClampNeg p2))) (v := (m_links q_12.2)) rfl hx hb hts hown hK hP dM_link_207 ?_
                    refine lv_iload_n hx hb dM_link_210 rfl (lv_at hl 3 rfl) ?_
                    obtain ⟨g_17, hf⟩ := gd_f hf
                    refine aM_st_to (σ := (m_pfield (m_pfrom q_12.2 (upd (m_from q_12.2) (m_links q_12.2).toNatClampNeg p1)) (upd (m_field q_12.2) (m_links q_12.2).toNatClampNeg p2))) (f := (m_to q_12.2)) (x := p3) (τ := (m_pto (m_pfield (m_pfrom q_12.2 (upd (m_from q_12.2) (m_links q_12.2).toNatClampNeg p1)) (upd (m_field q_12.2) (m_links q_12.2).toNatClampNeg p2)) (upd (m_to q_12.2) (m_links q_12.2).toNatClampNeg p3))) rfl rfl hx hb hK hP hD hS g_17 dM_link_211 (fun H locs hP hD hS => ?_)
                    refine lv_aload_n hx hb dM_link_212 rfl (lv_at hl 0 rfl) ?_
                    refine lv_dup hx hb dM_link_213 rfl ?_
                    refine aM_get_links (σ := (m_pto (m_pfield (m_pfrom q_12.2 (upd (m_from q_12.2) (m_links q_12.2).toNatClampNeg p1)) (upd (m_field q_12.2) (m_links q_12.2).toNatClampNeg p2)) (upd (m_to q_12.2) (m_links q_12.2).toNatClampNeg p3))) (v := (m_links q_12.2)) rfl hx hb hts hown hK hP dM_link_214 ?_
                    refine lv_iconst (v := (1 : Int32)) hx hb dM_link_217 (by decide) ?_
                    refine lv_iadd hx hb dM_link_218 ?_
                    refine aM_put_links (σ := (m_pto (m_pfield (m_pfrom q_12.2 (upd (m_from q_12.2) (m_links q_12.2).toNatClampNeg p1)) (upd (m_field q_12.2) (m_links q_12.2).toNatClampNeg p2)) (upd (m_to q_12.2) (m_links q_12.2).toNatClampNeg p3))) (v := ((m_links q_12.2) + (1 : Int32))) (τ := (m_pto (m_pfield (m_pfrom (m_plinks q_12.2 ((m_links q_12.2) + (1 : Int32))) (upd (m_from q_12.2) (m_links q_12.2).toNatClampNeg p1)) (upd (m_field q_12.2) (m_links q_12.2).toNatClampNeg p2)) (upd (m_to q_12.2) (m_links q_12.2).toNatClampNeg p3))) rfl hx hb hts hown hK hP hD hS dM_link_219 (fun H locs hP hD hS => ?_)
                    refine lv_aload_n hx hb dM_link_222 rfl (lv_at hl 0 rfl) ?_
                    refine lv_iload_n hx hb dM_link_223 rfl (lv_at hl 1 rfl) ?_
                    obtain ⟨q_18, hq_18, hf⟩ := bd_s hf
                    refine xw_callVv (kM_changed l dC dI a cI cZ tb K p1 (m_pto (m_pfield (m_pfrom (m_plinks q_12.2 ((m_links q_12.2) + (1 : Int32))) (upd (m_from q_12.2) (m_links q_12.2).toNatClampNeg p1)) (upd (m_field q_12.2) (m_links q_12.2).toNatClampNeg p2)) (upd (m_to q_12.2) (m_links q_12.2).toNatClampNeg p3)) q_18.2 q_18.1 hq_18) ⟨hx, hb, hml, hown, hts⟩ (cwV 1 hts (gw_V mt_289 mt_291 mt_20 mt_26 mt_292) rfl rfl rfl hdM_changed ⟨Nat.le_of_ble_eq_true rfl, Nat.le_of_ble_eq_true rfl⟩) hK hP hD hS hA hZ (q0 := 0) (ci := 1) rfl rfl rfl hl.1 rfl (Nat.le_of_ble_eq_true rfl) dM_link_224 ⟨Nat.zero_le _, Nat.zero_le _⟩ (fun H locs hP hD hS => ?_)
                    refine lv_iconst (v := (1 : Int32)) hx hb dM_link_227 (by decide) ?_
                    exact xw_iret (wf := (w_M a cI cZ)) hx hb hr hlocks rfl hK hP hD hS hf dM_link_228
                  · replace hf := it_t hf c_14
                    refine lv_aload_n hx hb dM_link_105 rfl (lv_at hl 0 rfl) ?_
                    refine lv_iload_n hx hb dM_link_106 rfl (lv_at hl 3 rfl) ?_
                    refine lv_iload_n hx hb dM_link_107 rfl (lv_at hl 1 rfl) ?_
                    obtain ⟨q_19, hq_19, hf⟩ := bd_s hf
                    refine xw_callV (kM_liesIn l dC dI a cI cZ tb K p3 p1 q_12.2 q_19.2 q_19.1 hq_19) ⟨hx, hb, hml, hown, hts⟩ (cwV 2 hts (gw_V mt_281 mt_283 mt_18 mt_26 mt_284) rfl rfl rfl hdM_liesIn ⟨Nat.le_of_ble_eq_true rfl, Nat.le_of_ble_eq_true rfl⟩) hK hP hD hS hA hZ (q0 := 0) (ci := 1) rfl rfl rfl hl.1 rfl (Nat.le_of_ble_eq_true rfl) dM_link_108 ⟨Nat.zero_le _, Nat.zero_le _⟩ (fun H locs hP hD hS => ?_)
                    refine lv_if_eq (tgt := 182) hx hb dM_link_111 (by decide) (fun c_20 => ?_) (fun c_20 => ?_)
                    · replace hf := it_t hf c_20
                      refine lv_aload_n hx hb dM_link_182 rfl (lv_at hl 0 rfl) ?_
                      refine aM_get_from hx hb hts hown hK hP dM_link_183 ?_
                      refine lv_aload_n hx hb dM_link_186 rfl (lv_at hl 0 rfl) ?_
                      refine aM_get_links (σ := q_19.2) (v := (m_links q_19.2)) rfl hx hb hts hown hK hP dM_link_187 ?_
                      refine lv_iload_n hx hb dM_link_190 rfl (lv_at hl 1 rfl) ?_
                      obtain ⟨g_21, hf⟩ := gd_f hf
                      refine aM_st_from (σ := q_19.2) (f := (m_from q_19.2)) (x := p1) (τ := (m_pfrom q_19.2 (upd (m_from q_19.2) (m_links q_19.2).toNatClampNeg p1))) rfl rfl hx hb hK hP hD hS g_21 dM_link_191 (fun H locs hP hD hS => ?_)
                      refine lv_aload_n hx hb dM_link_192 rfl (lv_at hl 0 rfl) ?_
                      refine aM_get_field hx hb hts hown hK hP dM_link_193 ?_
                      refine lv_aload_n hx hb dM_link_196 rfl (lv_at hl 0 rfl) ?_
                      refine aM_get_links (σ := (m_pfrom q_19.2 (upd (m_from q_19.2) (m_links q_19.2).toNatClampNeg p1))) (v := (m_links q_19.2)) rfl hx hb hts hown hK hP dM_link_197 ?_
                      refine lv_iload_n hx hb dM_link_200 rfl (lv_at hl 2 rfl) ?_
                      obtain ⟨g_22, hf⟩ := gd_f hf
                      refine aM_st_field (σ := (m_pfrom q_19.2 (upd (m_from q_19.2) (m_links q_19.2).toNatClampNeg p1))) (f := (m_field q_19.2)) (x := p2) (τ := (m_pfield (m_pfrom q_19.2 (upd (m_from q_19.2) (m_links q_19.2).toNatClampNeg p1)) (upd (m_field q_19.2) (m_links q_19.2).toNatClampNeg p2))) rfl rfl hx hb hK hP hD hS g_22 dM_link_201 (fun H locs hP hD hS => ?_)
                      refine lv_aload_n hx hb dM_link_202 rfl (lv_at hl 0 rfl) ?_
                      refine aM_get_to hx hb hts hown hK hP dM_link_203 ?_
                      refine lv_aload_n hx hb dM_link_206 rfl (lv_at hl 0 rfl) ?_
                      refine aM_get_links (σ := (m_pfield (m_pfrom q_19.2 (upd (m_from q_19.2) (m_links q_19.2).toNatClampNeg p1)) (upd (m_field q_19.2) (m_links q_19.2).toNatClampNeg p2))) (v := (m_links q_19.2)) rfl hx hb hts hown hK hP dM_link_207 ?_
                      refine lv_iload_n hx hb dM_link_210 rfl (lv_at hl 3 rfl) ?_
                      obtain ⟨g_23, hf⟩ := gd_f hf
                      refine aM_st_to (σ := (m_pfield (m_pfrom q_19.2 (upd (m_from q_19.2) (m_links q_19.2).toNatClampNeg p1)) (upd (m_field q_19.2) (m_links q_19.2).toNatClampNeg p2))) (f := (m_to q_19.2)) (x := p3) (τ := (m_pto (m_pfield (m_pfrom q_19.2 (upd (m_from q_19.2) (m_links q_19.2).toNatClampNeg p1)) (upd (m_field q_19.2) (m_links q_19.2).toNatClampNeg p2)) (upd (m_to q_19.2) (m_links q_19.2).toNatClampNeg p3))) rfl rfl hx hb hK hP hD hS g_23 dM_link_211 (fun H locs hP hD hS => ?_)
                      refine lv_aload_n hx hb dM_link_212 rfl (lv_at hl 0 rfl) ?_
                      refine lv_dup hx hb dM_link_213 rfl ?_
                      refine aM_get_links (σ := (m_pto (m_pfield (m_pfrom q_19.2 (upd (m_from q_19.2) (m_links q_19.2).toNatClampNeg p1)) (upd (m_field q_19.2) (m_links q_19.2).toNatClampNeg p2)) (upd (m_to q_19.2) (m_links q_19.2).toNatClampNeg p3))) (v := (m_links q_19.2)) rfl hx hb hts hown hK hP dM_link_214 ?_
                      refine lv_iconst (v := (1 : Int32)) hx hb dM_link_217 (by decide) ?_
                      refine lv_iadd hx hb dM_link_218 ?_
                      refine aM_put_links (σ := (m_pto (m_pfield (m_pfrom q_19.2 (upd (m_from q_19.2) (m_links q_19.2).toNatClampNeg p1)) (upd (m_field q_19.2) (m_links q_19.2).toNatClampNeg p2)) (upd (m_to q_19.2) (m_links q_19.2).toNatClampNeg p3))) (v := ((m_links q_19.2) + (1 : Int32))) (τ := (m_pto (m_pfield (m_pfrom (m_plinks q_19.2 ((m_links q_19.2) + (1 : Int32))) (upd (m_from q_19.2) (m_links q_19.2).toNatClampNeg p1)) (upd (m_field q_19.2) (m_links q_19.2).toNatClampNeg p2)) (upd (m_to q_19.2) (m_links q_19.2).toNatClampNeg p3))) rfl hx hb hts hown hK hP hD hS dM_link_219 (fun H locs hP hD hS => ?_)
                      refine lv_aload_n hx hb dM_link_222 rfl (lv_at hl 0 rfl) ?_
                      refine lv_iload_n hx hb dM_link_223 rfl (lv_at hl 1 rfl) ?_
                      obtain ⟨q_24, hq_24, hf⟩ := bd_s hf
                      refine xw_callVv (kM_changed l dC dI a cI cZ tb K p1 (m_pto (m_pfield (m_pfrom (m_plinks q_19.2 ((m_links q_19.2) + (1 : Int32))) (upd (m_from q_19.2) (m_links q_19.2).toNatClampNeg p1)) (upd (m_field q_19.2) (m_links q_19.2).toNatClampNeg p2)) (upd (m_to q_19.2) (m_links q_19.2).toNatClampNeg p3)) q_24.2 q_24.1 hq_24) ⟨hx, hb, hml, hown, hts⟩ (cwV 1 hts (gw_V mt_289 mt_291 mt_20 mt_26 mt_292) rfl rfl rfl hdM_changed ⟨Nat.le_of_ble_eq_true rfl, Nat.le_of_ble_eq_true rfl⟩) hK hP hD hS hA hZ (q0 := 0) (ci := 1) rfl rfl rfl hl.1 rfl (Nat.le_of_ble_eq_true rfl) dM_link_224 ⟨Nat.zero_le _, Nat.zero_le _⟩ (fun H locs hP hD hS => ?_)
                      refine lv_iconst (v := (1 : Int32)) hx hb dM_link_227 (by decide) ?_
                      exact xw_iret (wf := (w_M a cI cZ)) hx hb hr hlocks rfl hK hP hD hS hf dM_link_228
                    · replace hf := it_f hf c_20
                      refine lv_aload_n hx hb dM_link_114 rfl (lv_at hl 0 rfl) ?_
                      refine lv_iconst (v := (0 : Int32)) hx hb dM_link_115 (by decide) ?_
                      refine aM_put_ringLength (σ := q_19.2) (v := (0 : Int32)) (τ := (m_pringLength q_19.2 (0 : Int32))) rfl hx hb hts hown hK hP hD hS dM_link_116 (fun H locs hP hD hS => ?_)
                      refine lv_iload_n hx hb dM_link_119 rfl (lv_at hl 3 rfl) ?_
                      refine lv_istore (lv' := [(4, .int p3), (0, .ref (a 0)), (1, .int p1), (2, .int p2), (3, .int p3)]) hx hb dM_link_120 hl (by decide) rfl (fun ls hl => ?_)
                      exact L_122 K p1 p2 p3 p3 (m_pringLength q_19.2 (0 : Int32)) hf _ _ hP hD hS _ (lv_sub hl [1, 2, 3, 4, 0] rfl)
                · replace hf := it_f hf c_13
                  refine lv_iconst (v := (0 : Int32)) hx hb dM_link_99 (by decide) ?_
                  exact xw_iret (wf := (w_M a cI cZ)) hx hb hr hlocks rfl hK hP hD hS hf dM_link_100
            · replace hf := it_t hf c_8
              refine lv_iconst (v := (0 : Int32)) hx hb dM_link_73 (by decide) ?_
              exact xw_iret (wf := (w_M a cI cZ)) hx hb hr hlocks rfl hK hP hD hS hf dM_link_74
          · replace hf := it_f hf c_6
            refine lv_aload_n hx hb dM_link_50 rfl (lv_at hl 0 rfl) ?_
            refine lv_iload_n hx hb dM_link_51 rfl (lv_at hl 3 rfl) ?_
            obtain ⟨q_29, hq_29, hf⟩ := bd_s hf
            refine xw_callV (kM_isLive l dC dI a cI cZ tb K p3 q_1.2 q_29.2 q_29.1 hq_29) ⟨hx, hb, hml, hown, hts⟩ (cwV 1 hts (gw_V mt_263 mt_265 mt_15 mt_26 mt_266) rfl rfl rfl hdM_isLive ⟨Nat.le_of_ble_eq_true rfl, Nat.le_of_ble_eq_true rfl⟩) hK hP hD hS hA hZ (q0 := 0) (ci := 1) rfl rfl rfl hl.1 rfl (Nat.le_of_ble_eq_true rfl) dM_link_52 ⟨Nat.zero_le _, Nat.zero_le _⟩ (fun H locs hP hD hS => ?_)
            refine lv_if_eq (tgt := 73) hx hb dM_link_55 (by decide) (fun c_30 => ?_) (fun c_30 => ?_)
            · replace hf := it_t hf c_30
              refine lv_iconst (v := (0 : Int32)) hx hb dM_link_73 (by decide) ?_
              exact xw_iret (wf := (w_M a cI cZ)) hx hb hr hlocks rfl hK hP hD hS hf dM_link_74
            · replace hf := it_f hf c_30
              refine lv_iload_n hx hb dM_link_58 rfl (lv_at hl 3 rfl) ?_
              refine lv_iload_n hx hb dM_link_59 rfl (lv_at hl 1 rfl) ?_
              refine lv_icmp_ne (tgt := 75) hx hb dM_link_60 (by decide) (fun c_31 => ?_) (fun c_31 => ?_)
              · replace hf := it_f hf c_31
                refine lv_aload_n hx hb dM_link_75 rfl (lv_at hl 0 rfl) ?_
                refine lv_iload_n hx hb dM_link_76 rfl (lv_at hl 1 rfl) ?_
                refine lv_iload_n hx hb dM_link_77 rfl (lv_at hl 2 rfl) ?_
                obtain ⟨q_32, hq_32, hf⟩ := bd_s hf
                refine xw_callV (kM_count l dC dI a cI cZ tb K p1 p2 q_29.2 q_32.2 q_32.1 hq_32) ⟨hx, hb, hml, hown, hts⟩ (cwV 2 hts (gw_V mt_270 mt_272 mt_16 mt_26 mt_273) rfl rfl rfl hdM_count ⟨Nat.le_of_ble_eq_true rfl, Nat.le_of_ble_eq_true rfl⟩) hK hP hD hS hA hZ (q0 := 0) (ci := 1) rfl rfl rfl hl.1 rfl (Nat.le_of_ble_eq_true rfl) dM_link_78 ⟨Nat.zero_le _, Nat.zero_le _⟩ (fun H locs hP hD hS => ?_)
                refine lv_iload_n hx hb dM_link_81 rfl (lv_at hl 2 rfl) ?_
                obtain ⟨q_33, hq_33, hf⟩ := bd_s hf
                refine xw_callS (kM_most l dC dI a cI cZ tb K p2 q_32.2 q_33.2 q_33.1 hq_33) ⟨hx, hb, hml, hown, hts⟩ (va_cwS 1 hts (gw_S mt_274 mt_275 mt_26 mt_276) rfl rfl rfl hdM_most ⟨Nat.le_of_ble_eq_true rfl, Nat.le_of_ble_eq_true rfl⟩) hK hP hD hS hA hZ rfl hl.1 rfl (Nat.le_of_ble_eq_true rfl) dM_link_82 ⟨Nat.zero_le _, Nat.zero_le _⟩ (fun H locs hP hD hS => ?_)
                refine lv_icmp_eq (tgt := 99) hx hb dM_link_85 (by decide) (fun c_34 => ?_) (fun c_34 => ?_)
                · replace hf := it_t hf c_34
                  refine lv_iconst (v := (0 : Int32)) hx hb dM_link_99 (by decide) ?_
                  exact xw_iret (wf := (w_M a cI cZ)) hx hb hr hlocks rfl hK hP hD hS hf dM_link_100
                · replace hf := it_f hf c_34
                  refine lv_aload_n hx hb dM_link_88 rfl (lv_at hl 0 rfl) ?_
                  refine lv_iload_n hx hb dM_link_89 rfl (lv_at hl 1 rfl) ?_
                  refine lv_iload_n hx hb dM_link_90 rfl (lv_at hl 2 rfl) ?_
                  refine lv_iload_n hx hb dM_link_91 rfl (lv_at hl 3 rfl) ?_
                  obtain ⟨q_35, hq_35, hf⟩ := bd_s hf
                  refine xw_callV (kM_find l dC dI a cI cZ tb K p1 p2 p3 q_33.2 q_35.2 q_35.1 hq_35) ⟨hx, hb, hml, hown, hts⟩ (cwV 3 hts (gw_V mt_277 mt_279 mt_17 mt_26 mt_280) rfl rfl rfl hdM_find ⟨Nat.le_of_ble_eq_true rfl, Nat.le_of_ble_eq_true rfl⟩) hK hP hD hS hA hZ (q0 := 0) (ci := 1) rfl rfl rfl hl.1 rfl (Nat.le_of_ble_eq_true rfl) dM_link_92 ⟨Nat.zero_le _, Nat.zero_le _⟩ (fun H locs hP hD hS => ?_)
                  refine lv_iconst (v := (-1 : Int32)) hx hb dM_link_95 (by decide) ?_
                  refine lv_icmp_eq (tgt := 101) hx hb dM_link_96 (by decide) (fun c_36 => ?_) (fun c_36 => ?_)
                  · replace hf := it_t hf c_36
                    refine lv_iload_n hx hb dM_link_101 rfl (lv_at hl 2 rfl) ?_
                    refine lv_if_ne (tgt := 182) hx hb dM_link_102 (by decide) (fun c_37 => ?_) (fun c_37 => ?_)
                    · replace hf := it_f hf c_37
                      refine lv_aload_n hx hb dM_link_182 rfl (lv_at hl 0 rfl) ?_
                      refine aM_get_from hx hb hts hown hK hP dM_link_183 ?_
                      refine lv_aload_n hx hb dM_link_186 rfl (lv_at hl 0 rfl) ?_
                      refine aM_get_links (σ := q_35.2) (v := (m_links q_35.2)) rfl hx hb hts hown hK hP dM_link_187 ?_
                      refine lv_iload_n hx hb dM_link_190 rfl (lv_at hl 1 rfl) ?_
                      obtain ⟨g_38, hf⟩ := gd_f hf
                      refine aM_st_from (σ := q_35.2) (f := (m_from q_35.2)) (x := p1) (τ := (m_pfrom q_35.2 (upd (m_from q_35.2) (m_links q_35.2).toNatClampNeg p1))) rfl rfl hx hb hK hP hD hS g_38 dM_link_191 (fun H locs hP hD hS => ?_)
                      refine lv_aload_n hx hb dM_link_192 rfl (lv_at hl 0 rfl) ?_
                      refine aM_get_field hx hb hts hown hK hP dM_link_193 ?_
                      refine lv_aload_n hx hb dM_link_196 rfl (lv_at hl 0 rfl) ?_
                      refine aM_get_links (σ := (m_pfrom q_35.2 (upd (m_from q_35.2) (m_links q_35.2).toNatClampNeg p1))) (v := (m_links q_35.2)) rfl hx hb hts hown hK hP dM_link_197 ?_
                      refine lv_iload_n hx hb dM_link_200 rfl (lv_at hl 2 rfl) ?_
                      obtain ⟨g_39, hf⟩ := gd_f hf
                      refine aM_st_field (σ := (m_pfrom q_35.2 (upd (m_from q_35.2) (m_links q_35.2).toNatClampNeg p1))) (f := (m_field q_35.2)) (x := p2) (τ := (m_pfield (m_pfrom q_35.2 (upd (m_from q_35.2) (m_links q_35.2).toNatClampNeg p1)) (upd (m_field q_35.2) (m_links q_35.2).toNatClampNeg p2))) rfl rfl hx hb hK hP hD hS g_39 dM_link_201 (fun H locs hP hD hS => ?_)
                      refine lv_aload_n hx hb dM_link_202 rfl (lv_at hl 0 rfl) ?_
                      refine aM_get_to hx hb hts hown hK hP dM_link_203 ?_
                      refine lv_aload_n hx hb dM_link_206 rfl (lv_at hl 0 rfl) ?_
                      refine aM_get_links (σ := (m_pfield (m_pfrom q_35.2 (upd (m_from q_35.2) (m_links q_35.2).toNatClampNeg p1)) (upd (m_field q_35.2) (m_links q_35.2).toNatClampNeg p2))) (v := (m_links q_35.2)) rfl hx hb hts hown hK hP dM_link_207 ?_
                      refine lv_iload_n hx hb dM_link_210 rfl (lv_at hl 3 rfl) ?_
                      obtain ⟨g_40, hf⟩ := gd_f hf
                      refine aM_st_to (σ := (m_pfield (m_pfrom q_35.2 (upd (m_from q_35.2) (m_links q_35.2).toNatClampNeg p1)) (upd (m_field q_35.2) (m_links q_35.2).toNatClampNeg p2))) (f := (m_to q_35.2)) (x := p3) (τ := (m_pto (m_pfield (m_pfrom q_35.2 (upd (m_from q_35.2) (m_links q_35.2).toNatClampNeg p1)) (upd (m_field q_35.2) (m_links q_35.2).toNatClampNeg p2)) (upd (m_to q_35.2) (m_links q_35.2).toNatClampNeg p3))) rfl rfl hx hb hK hP hD hS g_40 dM_link_211 (fun H locs hP hD hS => ?_)
                      refine lv_aload_n hx hb dM_link_212 rfl (lv_at hl 0 rfl) ?_
                      refine lv_dup hx hb dM_link_213 rfl ?_
                      refine aM_get_links (σ := (m_pto (m_pfield (m_pfrom q_35.2 (upd (m_from q_35.2) (m_links q_35.2).toNatClampNeg p1)) (upd (m_field q_35.2) (m_links q_35.2).toNatClampNeg p2)) (upd (m_to q_35.2) (m_links q_35.2).toNatClampNeg p3))) (v := (m_links q_35.2)) rfl hx hb hts hown hK hP dM_link_214 ?_
                      refine lv_iconst (v := (1 : Int32)) hx hb dM_link_217 (by decide) ?_
                      refine lv_iadd hx hb dM_link_218 ?_
                      refine aM_put_links (σ := (m_pto (m_pfield (m_pfrom q_35.2 (upd (m_from q_35.2) (m_links q_35.2).toNatClampNeg p1)) (upd (m_field q_35.2) (m_links q_35.2).toNatClampNeg p2)) (upd (m_to q_35.2) (m_links q_35.2).toNatClampNeg p3))) (v := ((m_links q_35.2) + (1 : Int32))) (τ := (m_pto (m_pfield (m_pfrom (m_plinks q_35.2 ((m_links q_35.2) + (1 : Int32))) (upd (m_from q_35.2) (m_links q_35.2).toNatClampNeg p1)) (upd (m_field q_35.2) (m_links q_35.2).toNatClampNeg p2)) (upd (m_to q_35.2) (m_links q_35.2).toNatClampNeg p3))) rfl hx hb hts hown hK hP hD hS dM_link_219 (fun H locs hP hD hS => ?_)
                      refine lv_aload_n hx hb dM_link_222 rfl (lv_at hl 0 rfl) ?_
                      refine lv_iload_n hx hb dM_link_223 rfl (lv_at hl 1 rfl) ?_
                      obtain ⟨q_41, hq_41, hf⟩ := bd_s hf
                      refine xw_callVv (kM_changed l dC dI a cI cZ tb K p1 (m_pto (m_pfield (m_pfrom (m_plinks q_35.2 ((m_links q_35.2) + (1 : Int32))) (upd (m_from q_35.2) (m_links q_35.2).toNatClampNeg p1)) (upd (m_field q_35.2) (m_links q_35.2).toNatClampNeg p2)) (upd (m_to q_35.2) (m_links q_35.2).toNatClampNeg p3)) q_41.2 q_41.1 hq_41) ⟨hx, hb, hml, hown, hts⟩ (cwV 1 hts (gw_V mt_289 mt_291 mt_20 mt_26 mt_292) rfl rfl rfl hdM_changed ⟨Nat.le_of_ble_eq_true rfl, Nat.le_of_ble_eq_true rfl⟩) hK hP hD hS hA hZ (q0 := 0) (ci := 1) rfl rfl rfl hl.1 rfl (Nat.le_of_ble_eq_true rfl) dM_link_224 ⟨Nat.zero_le _, Nat.zero_le _⟩ (fun H locs hP hD hS => ?_)
                      refine lv_iconst (v := (1 : Int32)) hx hb dM_link_227 (by decide) ?_
                      exact xw_iret (wf := (w_M a cI cZ)) hx hb hr hlocks rfl hK hP hD hS hf dM_link_228
                    · replace hf := it_t hf c_37
                      refine lv_aload_n hx hb dM_link_105 rfl (lv_at hl 0 rfl) ?_
                      refine lv_iload_n hx hb dM_link_106 rfl (lv_at hl 3 rfl) ?_
                      refine lv_iload_n hx hb dM_link_107 rfl (lv_at hl 1 rfl) ?_
                      obtain ⟨q_42, hq_42, hf⟩ := bd_s hf
                      refine xw_callV (kM_liesIn l dC dI a cI cZ tb K p3 p1 q_35.2 q_42.2 q_42.1 hq_42) ⟨hx, hb, hml, hown, hts⟩ (cwV 2 hts (gw_V mt_281 mt_283 mt_18 mt_26 mt_284) rfl rfl rfl hdM_liesIn ⟨Nat.le_of_ble_eq_true rfl, Nat.le_of_ble_eq_true rfl⟩) hK hP hD hS hA hZ (q0 := 0) (ci := 1) rfl rfl rfl hl.1 rfl (Nat.le_of_ble_eq_true rfl) dM_link_108 ⟨Nat.zero_le _, Nat.zero_le _⟩ (fun H locs hP hD hS => ?_)
                      refine lv_if_eq (tgt := 182) hx hb dM_link_111 (by decide) (fun c_43 => ?_) (fun c_43 => ?_)
                      · replace hf := it_t hf c_43
                        refine lv_aload_n hx hb dM_link_182 rfl (lv_at hl 0 rfl) ?_
                        refine aM_get_from hx hb hts hown hK hP dM_link_183 ?_
                        refine lv_aload_n hx hb dM_link_186 rfl (lv_at hl 0 rfl) ?_
                        refine aM_get_links (σ := q_42.2) (v := (m_links q_42.2)) rfl hx hb hts hown hK hP dM_link_187 ?_
                        refine lv_iload_n hx hb dM_link_190 rfl (lv_at hl 1 rfl) ?_
                        obtain ⟨g_44, hf⟩ := gd_f hf
                        refine aM_st_from (σ := q_42.2) (f := (m_from q_42.2)) (x := p1) (τ := (m_pfrom q_42.2 (upd (m_from q_42.2) (m_links q_42.2).toNatClampNeg p1))) rfl rfl hx hb hK hP hD hS g_44 dM_link_191 (fun H locs hP hD hS => ?_)
                        refine lv_aload_n hx hb dM_link_192 rfl (lv_at hl 0 rfl) ?_
                        refine aM_get_field hx hb hts hown hK hP dM_link_193 ?_
                        refine lv_aload_n hx hb dM_link_196 rfl (lv_at hl 0 rfl) ?_
                        refine aM_get_links (σ := (m_pfrom q_42.2 (upd (m_from q_42.2) (m_links q_42.2).toNatClampNeg p1))) (v := (m_links q_42.2)) rfl hx hb hts hown hK hP dM_link_197 ?_
                        refine lv_iload_n hx hb dM_link_200 rfl (lv_at hl 2 rfl) ?_
                        obtain ⟨g_45, hf⟩ := gd_f hf
                        refine aM_st_field (σ := (m_pfrom q_42.2 (upd (m_from q_42.2) (m_links q_42.2).toNatClampNeg p1))) (f := (m_field q_42.2)) (x := p2) (τ := (m_pfield (m_pfrom q_42.2 (upd (m_from q_42.2) (m_links q_42.2).toNatClampNeg p1)) (upd (m_field q_42.2) (m_links q_42.2).toNatClampNeg p2))) rfl rfl hx hb hK hP hD hS g_45 dM_link_201 (fun H locs hP hD hS => ?_)
                        refine lv_aload_n hx hb dM_link_202 rfl (lv_at hl 0 rfl) ?_
                        refine aM_get_to hx hb hts hown hK hP dM_link_203 ?_
                        refine lv_aload_n hx hb dM_link_206 rfl (lv_at hl 0 rfl) ?_
                        refine aM_get_links (σ := (m_pfield (m_pfrom q_42.2 (upd (m_from q_42.2) (m_links q_42.2).toNatClampNeg p1)) (upd (m_field q_42.2) (m_links q_42.2).toNatClampNeg p2))) (v := (m_links q_42.2)) rfl hx hb hts hown hK hP dM_link_207 ?_
                        refine lv_iload_n hx hb dM_link_210 rfl (lv_at hl 3 rfl) ?_
                        obtain ⟨g_46, hf⟩ := gd_f hf
                        refine aM_st_to (σ := (m_pfield (m_pfrom q_42.2 (upd (m_from q_42.2) (m_links q_42.2).toNatClampNeg p1)) (upd (m_field q_42.2) (m_links q_42.2).toNatClampNeg p2))) (f := (m_to q_42.2)) (x := p3) (τ := (m_pto (m_pfield (m_pfrom q_42.2 (upd (m_from q_42.2) (m_links q_42.2).toNatClampNeg p1)) (upd (m_field q_42.2) (m_links q_42.2).toNatClampNeg p2)) (upd (m_to q_42.2) (m_links q_42.2).toNatClampNeg p3))) rfl rfl hx hb hK hP hD hS g_46 dM_link_211 (fun H locs hP hD hS => ?_)
                        refine lv_aload_n hx hb dM_link_212 rfl (lv_at hl 0 rfl) ?_
                        refine lv_dup hx hb dM_link_213 rfl ?_
                        refine aM_get_links (σ := (m_pto (m_pfield (m_pfrom q_42.2 (upd (m_from q_42.2) (m_links q_42.2).toNatClampNeg p1)) (upd (m_field q_42.2) (m_links q_42.2).toNatClampNeg p2)) (upd (m_to q_42.2) (m_links q_42.2).toNatClampNeg p3))) (v := (m_links q_42.2)) rfl hx hb hts hown hK hP dM_link_214 ?_
                        refine lv_iconst (v := (1 : Int32)) hx hb dM_link_217 (by decide) ?_
                        refine lv_iadd hx hb dM_link_218 ?_
                        refine aM_put_links (σ := (m_pto (m_pfield (m_pfrom q_42.2 (upd (m_from q_42.2) (m_links q_42.2).toNatClampNeg p1)) (upd (m_field q_42.2) (m_links q_42.2).toNatClampNeg p2)) (upd (m_to q_42.2) (m_links q_42.2).toNatClampNeg p3))) (v := ((m_links q_42.2) + (1 : Int32))) (τ := (m_pto (m_pfield (m_pfrom (m_plinks q_42.2 ((m_links q_42.2) + (1 : Int32))) (upd (m_from q_42.2) (m_links q_42.2).toNatClampNeg p1)) (upd (m_field q_42.2) (m_links q_42.2).toNatClampNeg p2)) (upd (m_to q_42.2) (m_links q_42.2).toNatClampNeg p3))) rfl hx hb hts hown hK hP hD hS dM_link_219 (fun H locs hP hD hS => ?_)
                        refine lv_aload_n hx hb dM_link_222 rfl (lv_at hl 0 rfl) ?_
                        refine lv_iload_n hx hb dM_link_223 rfl (lv_at hl 1 rfl) ?_
                        obtain ⟨q_47, hq_47, hf⟩ := bd_s hf
                        refine xw_callVv (kM_changed l dC dI a cI cZ tb K p1 (m_pto (m_pfield (m_pfrom (m_plinks q_42.2 ((m_links q_42.2) + (1 : Int32))) (upd (m_from q_42.2) (m_links q_42.2).toNatClampNeg p1)) (upd (m_field q_42.2) (m_links q_42.2).toNatClampNeg p2)) (upd (m_to q_42.2) (m_links q_42.2).toNatClampNeg p3)) q_47.2 q_47.1 hq_47) ⟨hx, hb, hml, hown, hts⟩ (cwV 1 hts (gw_V mt_289 mt_291 mt_20 mt_26 mt_292) rfl rfl rfl hdM_changed ⟨Nat.le_of_ble_eq_true rfl, Nat.le_of_ble_eq_true rfl⟩) hK hP hD hS hA hZ (q0 := 0) (ci := 1) rfl rfl rfl hl.1 rfl (Nat.le_of_ble_eq_true rfl) dM_link_224 ⟨Nat.zero_le _, Nat.zero_le _⟩ (fun H locs hP hD hS => ?_)
                        refine lv_iconst (v := (1 : Int32)) hx hb dM_link_227 (by decide) ?_
                        exact xw_iret (wf := (w_M a cI cZ)) hx hb hr hlocks rfl hK hP hD hS hf dM_link_228
                      · replace hf := it_f hf c_43
                        refine lv_aload_n hx hb dM_link_114 rfl (lv_at hl 0 rfl) ?_
                        refine lv_iconst (v := (0 : Int32)) hx hb dM_link_115 (by decide) ?_
                        refine aM_put_ringLength (σ := q_42.2) (v := (0 : Int32)) (τ := (m_pringLength q_42.2 (0 : Int32))) rfl hx hb hts hown hK hP hD hS dM_link_116 (fun H locs hP hD hS => ?_)
                        refine lv_iload_n hx hb dM_link_119 rfl (lv_at hl 3 rfl) ?_
                        refine lv_istore (lv' := [(4, .int p3), (0, .ref (a 0)), (1, .int p1), (2, .int p2), (3, .int p3)]) hx hb dM_link_120 hl (by decide) rfl (fun ls hl => ?_)
                        exact L_122 K p1 p2 p3 p3 (m_pringLength q_42.2 (0 : Int32)) hf _ _ hP hD hS _ (lv_sub hl [1, 2, 3, 4, 0] rfl)
                  · replace hf := it_f hf c_36
                    refine lv_iconst (v := (0 : Int32)) hx hb dM_link_99 (by decide) ?_
                    exact xw_iret (wf := (w_M a cI cZ)) hx hb hr hlocks rfl hK hP hD hS hf dM_link_100
              · replace hf := it_t hf c_31
                refine lv_goto (tgt := 73) hx hb dM_link_63 (by decide) ?_
                refine lv_iconst (v := (0 : Int32)) hx hb dM_link_73 (by decide) ?_
                exact xw_iret (wf := (w_M a cI cZ)) hx hb hr hlocks rfl hK hP hD hS hf dM_link_74
        · replace hf := it_t hf c_5
          refine lv_iconst (v := (0 : Int32)) hx hb dM_link_43 (by decide) ?_
          exact xw_iret (wf := (w_M a cI cZ)) hx hb hr hlocks rfl hK hP hD hS hf dM_link_44
end
section
def gM_drop_12 (K : Nat) : Nat → Int32 → Int32 → MSt → Option (Int32 × MSt)
  | 0, _, _, _ => none
  | n + 1, x1, x2, τ => (if (m_links τ) ≤ x2 then some ((0 : Int32), τ) else (if (x2 + (1 : Int32)) < 0 ∨ 200 ≤ (x2 + (1 : Int32)).toNatClampNeg then none else (if x2 < 0 ∨ 200 ≤ x2.toNatClampNeg then none else (if (x2 + (1 : Int32)) < 0 ∨ 200 ≤ (x2 + (1 : Int32)).toNatClampNeg then none else (if x2 < 0 ∨ 200 ≤ x2.toNatClampNeg then none else (if (x2 + (1 : Int32)) < 0 ∨ 200 ≤ (x2 + (1 : Int32)).toNatClampNeg then none else (if x2 < 0 ∨ 200 ≤ x2.toNatClampNeg then none else (gM_drop_12 K n x1 (x2 + 1) (m_pto (m_pfield (m_pfrom τ (upd (m_from τ) x2.toNatClampNeg ((m_from τ) (x2 + (1 : Int32)).toNatClampNeg))) (upd (m_field τ) x2.toNatClampNeg ((m_field τ) (x2 + (1 : Int32)).toNatClampNeg))) (upd (m_to τ) x2.toNatClampNeg ((m_to τ) (x2 + (1 : Int32)).toNatClampNeg)))))))))))
def fM_drop (K : Nat) (p1 : Int32) (σ : MSt) : Option (Int32 × MSt) := (gM_drop_12 K K p1 p1 (m_plinks σ ((m_links σ) - (1 : Int32))))
set_option maxHeartbeats 4000000 in
set_option maxRecDepth 100000 in
theorem kM_drop (l : Launch) (dC : Nat → ClassId) (dI : Nat → Nat → Nat) (a : Nat → Nat) (cI cZ : ClassId) (tb : Nat) (K : Nat) (p1 : Int32) (σ σ' : MSt) (r : Int32) (hf : fM_drop K p1 σ = some (r, σ')) : xw_Cv l yM_drop wdM_drop ({ frames := 0, cells := 0, slots := 0, locals := 0 } : Room) (dC, dI) vwCl [(cI, .int), (cZ, .boolean)] (zz tb) ((w_M a cI cZ) σ) ((w_M a cI cZ) σ') [.ref (a 0), .int p1] := by
  refine xw_ofWv (cc := cM_drop) (maxL := 3) (ret := none) (lv := [(0, .ref (a 0)), (1, .int p1)]) (by decide) rfl (Nat.le_of_ble_eq_true rfl) rfl ?_
  intro p e s m below meth c A hAt hP hD hS ls hl
  obtain ⟨hx, hb, hr, hml, hown, hts, hlocks, hK, hZ, hA⟩ := hAt
  replace hts : ∀ w ∈ lw_g, w.before _ s = true := fun w h => hts w (List.mem_cons_of_mem _ h)
  have L_12 : ∀ (n : Nat) (x1 x2 : Int32) (τ : MSt), gM_drop_12 K n x1 x2 τ = some (r, σ') → ∀ (H : Heap) (locs : List Loc), va_P (dC, dI) vwCl ((w_M a cI cZ) τ) H → va_D A ((w_M a cI cZ) τ) → va_S A s.heap H locs → ∀ (ls : Array Slot), lv_has ls 3 [(0, .ref (a 0)), (1, .int x1), (2, .int x2)] → W p l e ({ frames := 0, cells := 0, slots := 0, locals := 0 } : Room) s m ([.ref (a 0), .int p1] : List Value).toArray below meth c H locs 0 0 (MQ below (va_Qv (fun (_ : Unit) => True) (fun _ t => xw_B (dC, dI) vwCl [(cI, .int), (cZ, .boolean)] A ((w_M a cI cZ) σ') t) A) ([.ref (a 0), .int p1] : List Value).toArray s 0 0 A) (F0 m 12 ls []) := by
    intro n
    induction n with
    | zero =>
      intro x1 x2 τ hf
      rw [gM_drop_12] at hf
      cases hf
    | succ n ih =>
      intro x1 x2 τ hf H locs hP hD hS ls hl
      rw [gM_drop_12] at hf
      refine lv_iload_n hx hb dM_drop_12 rfl (lv_at hl 2 rfl) ?_
      refine lv_aload_n hx hb dM_drop_13 rfl (lv_at hl 0 rfl) ?_
      refine aM_get_links (σ := τ) (v := (m_links τ)) rfl hx hb hts hown hK hP dM_drop_14 ?_
      refine lv_icmp_ge (tgt := 68) hx hb dM_drop_17 (by decide) (fun c_1 => ?_) (fun c_1 => ?_)
      · replace hf := it_t hf c_1
        exact xw_vret (wf := (w_M a cI cZ)) hx hb hr hlocks hK hP hD hS hf dM_drop_68
      · replace hf := it_f hf c_1
        refine lv_aload_n hx hb dM_drop_20 rfl (lv_at hl 0 rfl) ?_
        refine aM_get_from hx hb hts hown hK hP dM_drop_21 ?_
        refine lv_iload_n hx hb dM_drop_24 rfl (lv_at hl 2 rfl) ?_
        refine lv_aload_n hx hb dM_drop_25 rfl (lv_at hl 0 rfl) ?_
        refine aM_get_from hx hb hts hown hK hP dM_drop_26 ?_
        refine lv_iload_n hx hb dM_drop_29 rfl (lv_at hl 2 rfl) ?_
        refine lv_iconst (v := (1 : Int32)) hx hb dM_drop_30 (by decide) ?_
        refine lv_iadd hx hb dM_drop_31 ?_
        obtain ⟨g_2, hf⟩ := gd_f hf
        refine aM_ld_from (σ := τ) (f := (m_from τ)) rfl hx hb hK hP g_2 dM_drop_32 ?_
        obtain ⟨g_3, hf⟩ := gd_f hf
        refine aM_st_from (σ := τ) (f := (m_from τ)) (x := ((m_from τ) (x2 + (1 : Int32)).toNatClampNeg)) (τ := (m_pfrom τ (upd (m_from τ) x2.toNatClampNeg ((m_from τ) (x2 + (1 : Int32)).toNatClampNeg)))) rfl rfl hx hb hK hP hD hS g_3 dM_drop_33 (fun H locs hP hD hS => ?_)
        refine lv_aload_n hx hb dM_drop_34 rfl (lv_at hl 0 rfl) ?_
        refine aM_get_field hx hb hts hown hK hP dM_drop_35 ?_
        refine lv_iload_n hx hb dM_drop_38 rfl (lv_at hl 2 rfl) ?_
        refine lv_aload_n hx hb dM_drop_39 rfl (lv_at hl 0 rfl) ?_
        refine aM_get_field hx hb hts hown hK hP dM_drop_40 ?_
        refine lv_iload_n hx hb dM_drop_43 rfl (lv_at hl 2 rfl) ?_
        refine lv_iconst (v := (1 : Int32)) hx hb dM_drop_44 (by decide) ?_
        refine lv_iadd hx hb dM_drop_45 ?_
        obtain ⟨g_4, hf⟩ := gd_f hf
        refine aM_ld_field (σ := (m_pfrom τ (upd (m_from τ) x2.toNatClampNeg ((m_from τ) (x2 + (1 : Int32)).toNatClampNeg)))) (f := (m_field τ)) rfl hx hb hK hP g_4 dM_drop_46 ?_
        obtain ⟨g_5, hf⟩ := gd_f hf
        refine aM_st_field (σ := (m_pfrom τ (upd (m_from τ) x2.toNatClampNeg ((m_from τ) (x2 + (1 : Int32)).toNatClampNeg)))) (f := (m_field τ)) (x := ((m_field τ) (x2 + (1 : Int32)).toNatClampNeg)) (τ := (m_pfield (m_pfrom τ (upd (m_from τ) x2.toNatClampNeg ((m_from τ) (x2 + (1 : Int32)).toNatClampNeg))) (upd (m_field τ) x2.toNatClampNeg ((m_field τ) (x2 + (1 : Int32)).toNatClampNeg)))) rfl rfl hx hb hK hP hD hS g_5 dM_drop_47 (fun H locs hP hD hS => ?_)
        refine lv_aload_n hx hb dM_drop_48 rfl (lv_at hl 0 rfl) ?_
        refine aM_get_to hx hb hts hown hK hP dM_drop_49 ?_
        refine lv_iload_n hx hb dM_drop_52 rfl (lv_at hl 2 rfl) ?_
        refine lv_aload_n hx hb dM_drop_53 rfl (lv_at hl 0 rfl) ?_
        refine aM_get_to hx hb hts hown hK hP dM_drop_54 ?_
        refine lv_iload_n hx hb dM_drop_57 rfl (lv_at hl 2 rfl) ?_
        refine lv_iconst (v := (1 : Int32)) hx hb dM_drop_58 (by decide) ?_
        refine lv_iadd hx hb dM_drop_59 ?_
        obtain ⟨g_6, hf⟩ := gd_f hf
        refine aM_ld_to (σ := (m_pfield (m_pfrom τ (upd (m_from τ) x2.toNatClampNeg ((m_from τ) (x2 + (1 : Int32)).toNatClampNeg))) (upd (m_field τ) x2.toNatClampNeg ((m_field τ) (x2 + (1 : Int32)).toNatClampNeg)))) (f := (m_to τ)) rfl hx hb hK hP g_6 dM_drop_60 ?_
        obtain ⟨g_7, hf⟩ := gd_f hf
        refine aM_st_to (σ := (m_pfield (m_pfrom τ (upd (m_from τ) x2.toNatClampNeg ((m_from τ) (x2 + (1 : Int32)).toNatClampNeg))) (upd (m_field τ) x2.toNatClampNeg ((m_field τ) (x2 + (1 : Int32)).toNatClampNeg)))) (f := (m_to τ)) (x := ((m_to τ) (x2 + (1 : Int32)).toNatClampNeg)) (τ := (m_pto (m_pfield (m_pfrom τ (upd (m_from τ) x2.toNatClampNeg ((m_from τ) (x2 + (1 : Int32)).toNatClampNeg))) (upd (m_field τ) x2.toNatClampNeg ((m_field τ) (x2 + (1 : Int32)).toNatClampNeg))) (upd (m_to τ) x2.toNatClampNeg ((m_to τ) (x2 + (1 : Int32)).toNatClampNeg)))) rfl rfl hx hb hK hP hD hS g_7 dM_drop_61 (fun H locs hP hD hS => ?_)
        refine lv_iinc (v := (x2 + 1)) (lv' := [(2, .int (x2 + 1)), (0, .ref (a 0)), (1, .int x1)]) hx hb dM_drop_62 hl (k := 2) rfl (congrArg (HAdd.hAdd _) (by decide : Int32.ofInt (1) = (1 : Int32))) (by decide) rfl (fun ls hl => ?_)
        refine lv_goto (tgt := 12) hx hb dM_drop_65 (by decide) ?_
        exact ih x1 (x2 + 1) (m_pto (m_pfield (m_pfrom τ (upd (m_from τ) x2.toNatClampNeg ((m_from τ) (x2 + (1 : Int32)).toNatClampNeg))) (upd (m_field τ) x2.toNatClampNeg ((m_field τ) (x2 + (1 : Int32)).toNatClampNeg))) (upd (m_to τ) x2.toNatClampNeg ((m_to τ) (x2 + (1 : Int32)).toNatClampNeg))) hf _ _ hP hD hS _ (lv_sub hl [1, 2, 0] rfl)
  unfold fM_drop at hf
  refine lv_aload_n hx hb dM_drop_0 rfl (lv_at hl 0 rfl) ?_
  refine lv_dup hx hb dM_drop_1 rfl ?_
  refine aM_get_links (σ := σ) (v := (m_links σ)) rfl hx hb hts hown hK hP dM_drop_2 ?_
  refine lv_iconst (v := (1 : Int32)) hx hb dM_drop_5 (by decide) ?_
  refine lv_isub hx hb dM_drop_6 ?_
  refine aM_put_links (σ := σ) (v := ((m_links σ) - (1 : Int32))) (τ := (m_plinks σ ((m_links σ) - (1 : Int32)))) rfl hx hb hts hown hK hP hD hS dM_drop_7 (fun H locs hP hD hS => ?_)
  refine lv_iload_n hx hb dM_drop_10 rfl (lv_at hl 1 rfl) ?_
  refine lv_istore_n (lv' := [(2, .int p1), (0, .ref (a 0)), (1, .int p1)]) hx hb dM_drop_11 rfl hl (by decide) rfl (fun ls hl => ?_)
  exact L_12 K p1 p1 (m_plinks σ ((m_links σ) - (1 : Int32))) hf _ _ hP hD hS _ (lv_sub hl [1, 2, 0] rfl)
def gM_change_41 (K : Nat) : Nat → Int32 → Int32 → Int32 → Int32 → MSt → Option (Int32 × MSt)
  | 0, _, _, _, _, _ => none
  | n + 1, x1, x2, x3, x4, τ => (if (m_links τ) ≤ x4 then some (x3, τ) else (if x4 < 0 ∨ 200 ≤ x4.toNatClampNeg then none else (if ((m_field τ) x4.toNatClampNeg) ≤ (3 : Int32) then (gM_change_41 K n x1 x2 x3 (x4 + (1 : Int32)) τ) else (if x4 < 0 ∨ 200 ≤ x4.toNatClampNeg then none else (if ((m_to τ) x4.toNatClampNeg) = x1 then (if x4 < 0 ∨ 200 ≤ x4.toNatClampNeg then none else ((fM_changed K ((m_from τ) x4.toNatClampNeg) τ).bind fun q_14 => (if x4 < 0 ∨ 200 ≤ x4.toNatClampNeg then none else (if x4 < 0 ∨ 200 ≤ x4.toNatClampNeg then none else ((fM_find K ((m_from q_14.2) x4.toNatClampNeg) ((m_field q_14.2) x4.toNatClampNeg) x2 q_14.2).bind fun q_17 => (if q_17.1 = (-1 : Int32) then (if x4 < 0 ∨ 200 ≤ x4.toNatClampNeg then none else (gM_change_41 K n x1 x2 (x3 + 1) (x4 + (1 : Int32)) (m_pto q_17.2 (upd (m_to q_17.2) x4.toNatClampNeg x2)))) else (if x4 ≤ q_17.1 then (if x4 < 0 ∨ 200 ≤ x4.toNatClampNeg then none else ((fM_drop K q_17.1 (m_pto q_17.2 (upd (m_to q_17.2) x4.toNatClampNeg x2))).bind fun q_21 => (gM_change_41 K n x1 x2 (x3 + 1) (x4 + (1 : Int32)) q_21.2))) else ((fM_drop K x4 q_17.2).bind fun q_23 => (gM_change_41 K n x1 x2 (x3 + 1) (x4 + (0 : Int32)) q_23.2))))))))) else (gM_change_41 K n x1 x2 x3 (x4 + (1 : Int32)) τ))))))
def fM_change (K : Nat) (p1 p2 : Int32) (σ : MSt) : Option (Int32 × MSt) := ((fM_isHeading K p1 (m_pmoment (m_pthrown σ (0 : Int32)) ((m_moment σ) + (1 : Int32)))).bind fun q_1 => (if q_1.1 = 0 then some ((0 : Int32), q_1.2) else ((fM_isHeading K p2 q_1.2).bind fun q_3 => (if q_3.1 = 0 then some ((0 : Int32), q_3.2) else (if p1 = p2 then some ((0 : Int32), q_3.2) else (gM_change_41 K K p1 p2 (0 : Int32) (0 : Int32) q_3.2))))))
set_option maxHeartbeats 4000000 in
set_option maxRecDepth 100000 in
theorem kM_change (l : Launch) (dC : Nat → ClassId) (dI : Nat → Nat → Nat) (a : Nat → Nat) (cI cZ : ClassId) (tb : Nat) (K : Nat) (p1 p2 : Int32) (σ σ' : MSt) (r : Int32) (hf : fM_change K p1 p2 σ = some (r, σ')) : xw_Ct l yM_change wdM_change ({ frames := 1, cells := 0, slots := 0, locals := 24 } : Room) (dC, dI) vwCl [(cI, .int), (cZ, .boolean)] (zz tb) ((w_M a cI cZ) σ) ((w_M a cI cZ) σ') [.ref (a 0), .int p1, .int p2] r := by
  refine xw_ofW (cc := cM_change) (maxL := 7) (ret := (some .int)) (lv := [(0, .ref (a 0)), (1, .int p1), (2, .int p2)]) (by decide) rfl (Nat.le_of_ble_eq_true rfl) rfl ?_
  intro p e s m below meth c A hAt hP hD hS ls hl
  obtain ⟨hx, hb, hr, hml, hown, hts, hlocks, hK, hZ, hA⟩ := hAt
  replace hts : ∀ w ∈ lw_g, w.before _ s = true := fun w h => hts w (List.mem_cons_of_mem _ h)
  have L_41 : ∀ (n : Nat) (x1 x2 x3 x4 : Int32) (τ : MSt), gM_change_41 K n x1 x2 x3 x4 τ = some (r, σ') → ∀ (H : Heap) (locs : List Loc), va_P (dC, dI) vwCl ((w_M a cI cZ) τ) H → va_D A ((w_M a cI cZ) τ) → va_S A s.heap H locs → ∀ (ls : Array Slot), lv_has ls 7 [(0, .ref (a 0)), (1, .int x1), (2, .int x2), (3, .int x3), (4, .int x4)] → W p l e ({ frames := 1, cells := 0, slots := 0, locals := 24 } : Room) s m ([.ref (a 0), .int p1, .int p2] : List Value).toArray below meth c H locs 0 0 (MQ below (va_Qi (fun (r2 : Int32) (_ : Unit) => r2 = r) (fun _ t => xw_B (dC, dI) vwCl [(cI, .int), (cZ, .boolean)] A ((w_M a cI cZ) σ') t) A) ([.ref (a 0), .int p1, .int p2] : List Value).toArray s 0 0 A) (F0 m 41 ls []) := by
    intro n
    induction n with
    | zero =>
      intro x1 x2 x3 x4 τ hf
      rw [gM_change_41] at hf
      cases hf
    | succ n ih =>
      intro x1 x2 x3 x4 τ hf H locs hP hD hS ls hl
      rw [gM_change_41] at hf
      refine lv_iload hx hb dM_change_41 (lv_at hl 4 rfl) ?_
      refine lv_aload_n hx hb dM_change_43 rfl (lv_at hl 0 rfl) ?_
      refine aM_get_links (σ := τ) (v := (m_links τ)) rfl hx hb hts hown hK hP dM_change_44 ?_
      refine lv_icmp_ge (tgt := 178) hx hb dM_change_47 (by decide) (fun c_6 => ?_) (fun c_6 => ?_)
      · replace hf := it_t hf c_6
        refine lv_iload_n hx hb dM_change_178 rfl (lv_at hl 3 rfl) ?_
        exact xw_iret (wf := (w_M a cI cZ)) hx hb hr hlocks rfl hK hP hD hS hf dM_change_179
      · replace hf := it_f hf c_6
        refine lv_iconst (v := (1 : Int32)) hx hb dM_change_50 (by decide) ?_
        refine lv_istore (lv' := [(5, .int (1 : Int32)), (0, .ref (a 0)), (1, .int x1), (2, .int x2), (3, .int x3), (4, .int x4)]) hx hb dM_change_51 hl (by decide) rfl (fun ls hl => ?_)
        refine lv_aload_n hx hb dM_change_53 rfl (lv_at hl 1 rfl) ?_
        refine aM_get_field hx hb hts hown hK hP dM_change_54 ?_
        refine lv_iload hx hb dM_change_57 (lv_at hl 5 rfl) ?_
        obtain ⟨g_7, hf⟩ := gd_f hf
        refine aM_ld_field (σ := τ) (f := (m_field τ)) rfl hx hb hK hP g_7 dM_change_59 ?_
        refine lv_iconst (v := (3 : Int32)) hx hb dM_change_60 (by decide) ?_
        refine lv_icmp_le (tgt := 160) hx hb dM_change_61 (by decide) (fun c_8 => ?_) (fun c_8 => ?_)
        · replace hf := it_t hf c_8
          refine lv_iload hx hb dM_change_160 (lv_at hl 5 rfl) ?_
          refine lv_iload hx hb dM_change_162 (lv_at hl 0 rfl) ?_
          refine lv_if_eq (tgt := 171) hx hb dM_change_164 (by decide) (fun c_9 => absurd c_9 (by decide)) (fun c_9 => ?_)
          refine lv_iconst (v := (1 : Int32)) hx hb dM_change_167 (by decide) ?_
          refine lv_goto (tgt := 172) hx hb dM_change_168 (by decide) ?_
          refine lv_iadd hx hb dM_change_172 ?_
          refine lv_istore (lv' := [(4, .int (x4 + (1 : Int32))), (5, .int (1 : Int32)), (0, .ref (a 0)), (1, .int x1), (2, .int x2), (3, .int x3)]) hx hb dM_change_173 hl (by decide) rfl (fun ls hl => ?_)
          refine lv_goto (tgt := 41) hx hb dM_change_175 (by decide) ?_
          exact ih x1 x2 x3 (x4 + (1 : Int32)) τ hf _ _ hP hD hS _ (lv_sub hl [2, 3, 4, 5, 0] rfl)
        · replace hf := it_f hf c_8
          refine lv_aload_n hx hb dM_change_64 rfl (lv_at hl 1 rfl) ?_
          refine aM_get_to hx hb hts hown hK hP dM_change_65 ?_
          refine lv_iload hx hb dM_change_68 (lv_at hl 5 rfl) ?_
          obtain ⟨g_10, hf⟩ := gd_f hf
          refine aM_ld_to (σ := τ) (f := (m_to τ)) rfl hx hb hK hP g_10 dM_change_70 ?_
          refine lv_iload_n hx hb dM_change_71 rfl (lv_at hl 2 rfl) ?_
          refine lv_icmp_ne (tgt := 160) hx hb dM_change_72 (by decide) (fun c_11 => ?_) (fun c_11 => ?_)
          · replace hf := it_f hf c_11
            refine lv_iload hx hb dM_change_160 (lv_at hl 5 rfl) ?_
            refine lv_iload hx hb dM_change_162 (lv_at hl 0 rfl) ?_
            refine lv_if_eq (tgt := 171) hx hb dM_change_164 (by decide) (fun c_12 => absurd c_12 (by decide)) (fun c_12 => ?_)
            refine lv_iconst (v := (1 : Int32)) hx hb dM_change_167 (by decide) ?_
            refine lv_goto (tgt := 172) hx hb dM_change_168 (by decide) ?_
            refine lv_iadd hx hb dM_change_172 ?_
            refine lv_istore (lv' := [(4, .int (x4 + (1 : Int32))), (5, .int (1 : Int32)), (0, .ref (a 0)), (1, .int x1), (2, .int x2), (3, .int x3)]) hx hb dM_change_173 hl (by decide) rfl (fun ls hl => ?_)
            refine lv_goto (tgt := 41) hx hb dM_change_175 (by decide) ?_
            exact ih x1 x2 x3 (x4 + (1 : Int32)) τ hf _ _ hP hD hS _ (lv_sub hl [2, 3, 4, 5, 0] rfl)
          · replace hf := it_t hf c_11
            refine lv_iinc (v := (x3 + 1)) (lv' := [(3, .int (x3 + 1)), (5, .int (1 : Int32)), (0, .ref (a 0)), (1, .int x1), (2, .int x2), (4, .int x4)]) hx hb dM_change_75 hl (k := 4) rfl (congrArg (HAdd.hAdd _) (by decide : Int32.ofInt (1) = (1 : Int32))) (by decide) rfl (fun ls hl => ?_)
            refine lv_aload_n hx hb dM_change_78 rfl (lv_at hl 2 rfl) ?_
            refine lv_aload_n hx hb dM_change_79 rfl (lv_at hl 2 rfl) ?_
            refine aM_get_from hx hb hts hown hK hP dM_change_80 ?_
            refine lv_iload hx hb dM_change_83 (lv_at hl 5 rfl) ?_
            obtain ⟨g_13, hf⟩ := gd_f hf
            refine aM_ld_from (σ := τ) (f := (m_from τ)) rfl hx hb hK hP g_13 dM_change_85 ?_
            obtain ⟨q_14, hq_14, hf⟩ := bd_s hf
            refine xw_callVv (kM_changed l dC dI a cI cZ tb K ((m_from τ) x4.toNatClampNeg) τ q_14.2 q_14.1 hq_14) ⟨hx, hb, hml, hown, hts⟩ (cwV 1 hts (gw_V mt_289 mt_291 mt_20 mt_26 mt_292) rfl rfl rfl hdM_changed ⟨Nat.le_of_ble_eq_true rfl, Nat.le_of_ble_eq_true rfl⟩) hK hP hD hS hA hZ (q0 := 0) (ci := 1) rfl rfl rfl hl.1 rfl (Nat.le_of_ble_eq_true rfl) dM_change_86 ⟨Nat.zero_le _, Nat.zero_le _⟩ (fun H locs hP hD hS => ?_)
            refine lv_aload_n hx hb dM_change_89 rfl (lv_at hl 2 rfl) ?_
            refine lv_aload_n hx hb dM_change_90 rfl (lv_at hl 2 rfl) ?_
            refine aM_get_from hx hb hts hown hK hP dM_change_91 ?_
            refine lv_iload hx hb dM_change_94 (lv_at hl 5 rfl) ?_
            obtain ⟨g_15, hf⟩ := gd_f hf
            refine aM_ld_from (σ := q_14.2) (f := (m_from q_14.2)) rfl hx hb hK hP g_15 dM_change_96 ?_
            refine lv_aload_n hx hb dM_change_97 rfl (lv_at hl 2 rfl) ?_
            refine aM_get_field hx hb hts hown hK hP dM_change_98 ?_
            refine lv_iload hx hb dM_change_101 (lv_at hl 5 rfl) ?_
            obtain ⟨g_16, hf⟩ := gd_f hf
            refine aM_ld_field (σ := q_14.2) (f := (m_field q_14.2)) rfl hx hb hK hP g_16 dM_change_103 ?_
            refine lv_iload_n hx hb dM_change_104 rfl (lv_at hl 4 rfl) ?_
            obtain ⟨q_17, hq_17, hf⟩ := bd_s hf
            refine xw_callV (kM_find l dC dI a cI cZ tb K ((m_from q_14.2) x4.toNatClampNeg) ((m_field q_14.2) x4.toNatClampNeg) x2 q_14.2 q_17.2 q_17.1 hq_17) ⟨hx, hb, hml, hown, hts⟩ (cwV 3 hts (gw_V mt_277 mt_279 mt_17 mt_26 mt_280) rfl rfl rfl hdM_find ⟨Nat.le_of_ble_eq_true rfl, Nat.le_of_ble_eq_true rfl⟩) hK hP hD hS hA hZ (q0 := 0) (ci := 1) rfl rfl rfl hl.1 rfl (Nat.le_of_ble_eq_true rfl) dM_change_105 ⟨Nat.zero_le _, Nat.zero_le _⟩ (fun H locs hP hD hS => ?_)
            refine lv_istore (lv' := [(6, .int q_17.1), (3, .int (x3 + 1)), (5, .int (1 : Int32)), (0, .ref (a 0)), (1, .int x1), (2, .int x2), (4, .int x4)]) hx hb dM_change_108 hl (by decide) rfl (fun ls hl => ?_)
            refine lv_iload hx hb dM_change_110 (lv_at hl 0 rfl) ?_
            refine lv_iconst (v := (-1 : Int32)) hx hb dM_change_112 (by decide) ?_
            refine lv_icmp_ne (tgt := 127) hx hb dM_change_113 (by decide) (fun c_18 => ?_) (fun c_18 => ?_)
            · replace hf := it_f hf c_18
              refine lv_iload hx hb dM_change_127 (lv_at hl 0 rfl) ?_
              refine lv_iload hx hb dM_change_129 (lv_at hl 6 rfl) ?_
              refine lv_icmp_ge (tgt := 146) hx hb dM_change_131 (by decide) (fun c_19 => ?_) (fun c_19 => ?_)
              · replace hf := it_t hf c_19
                refine lv_aload_n hx hb dM_change_146 rfl (lv_at hl 3 rfl) ?_
                refine aM_get_to hx hb hts hown hK hP dM_change_147 ?_
                refine lv_iload hx hb dM_change_150 (lv_at hl 6 rfl) ?_
                refine lv_iload_n hx hb dM_change_152 rfl (lv_at hl 5 rfl) ?_
                obtain ⟨g_20, hf⟩ := gd_f hf
                refine aM_st_to (σ := q_17.2) (f := (m_to q_17.2)) (x := x2) (τ := (m_pto q_17.2 (upd (m_to q_17.2) x4.toNatClampNeg x2))) rfl rfl hx hb hK hP hD hS g_20 dM_change_153 (fun H locs hP hD hS => ?_)
                refine lv_aload_n hx hb dM_change_154 rfl (lv_at hl 3 rfl) ?_
                refine lv_iload hx hb dM_change_155 (lv_at hl 0 rfl) ?_
                obtain ⟨q_21, hq_21, hf⟩ := bd_s hf
                refine xw_callVv (kM_drop l dC dI a cI cZ tb K q_17.1 (m_pto q_17.2 (upd (m_to q_17.2) x4.toNatClampNeg x2)) q_21.2 q_21.1 hq_21) ⟨hx, hb, hml, hown, hts⟩ (cwV 1 hts (gw_V mt_297 mt_299 mt_21 mt_26 mt_300) rfl rfl rfl hdM_drop ⟨Nat.le_of_ble_eq_true rfl, Nat.le_of_ble_eq_true rfl⟩) hK hP hD hS hA hZ (q0 := 0) (ci := 1) rfl rfl rfl hl.1 rfl (Nat.le_of_ble_eq_true rfl) dM_change_157 ⟨Nat.zero_le _, Nat.zero_le _⟩ (fun H locs hP hD hS => ?_)
                refine lv_iload hx hb dM_change_160 (lv_at hl 6 rfl) ?_
                refine lv_iload hx hb dM_change_162 (lv_at hl 2 rfl) ?_
                refine lv_if_eq (tgt := 171) hx hb dM_change_164 (by decide) (fun c_22 => absurd c_22 (by decide)) (fun c_22 => ?_)
                refine lv_iconst (v := (1 : Int32)) hx hb dM_change_167 (by decide) ?_
                refine lv_goto (tgt := 172) hx hb dM_change_168 (by decide) ?_
                refine lv_iadd hx hb dM_change_172 ?_
                refine lv_istore (lv' := [(4, .int (x4 + (1 : Int32))), (6, .int q_17.1), (3, .int (x3 + 1)), (5, .int (1 : Int32)), (0, .ref (a 0)), (1, .int x1), (2, .int x2)]) hx hb dM_change_173 hl (by decide) rfl (fun ls hl => ?_)
                refine lv_goto (tgt := 41) hx hb dM_change_175 (by decide) ?_
                exact ih x1 x2 (x3 + 1) (x4 + (1 : Int32)) q_21.2 hf _ _ hP hD hS _ (lv_sub hl [4, 5, 6, 2, 0] rfl)
              · replace hf := it_f hf c_19
                refine lv_aload_n hx hb dM_change_134 rfl (lv_at hl 3 rfl) ?_
                refine lv_iload hx hb dM_change_135 (lv_at hl 6 rfl) ?_
                obtain ⟨q_23, hq_23, hf⟩ := bd_s hf
                refine xw_callVv (kM_drop l dC dI a cI cZ tb K x4 q_17.2 q_23.2 q_23.1 hq_23) ⟨hx, hb, hml, hown, hts⟩ (cwV 1 hts (gw_V mt_297 mt_299 mt_21 mt_26 mt_300) rfl rfl rfl hdM_drop ⟨Nat.le_of_ble_eq_true rfl, Nat.le_of_ble_eq_true rfl⟩) hK hP hD hS hA hZ (q0 := 0) (ci := 1) rfl rfl rfl hl.1 rfl (Nat.le_of_ble_eq_true rfl) dM_change_137 ⟨Nat.zero_le _, Nat.zero_le _⟩ (fun H locs hP hD hS => ?_)
                refine lv_iconst (v := (0 : Int32)) hx hb dM_change_140 (by decide) ?_
                refine lv_istore (lv' := [(5, .int (0 : Int32)), (6, .int q_17.1), (3, .int (x3 + 1)), (0, .ref (a 0)), (1, .int x1), (2, .int x2), (4, .int x4)]) hx hb dM_change_141 hl (by decide) rfl (fun ls hl => ?_)
                refine lv_goto (tgt := 160) hx hb dM_change_143 (by decide) ?_
                refine lv_iload hx hb dM_change_160 (lv_at hl 6 rfl) ?_
                refine lv_iload hx hb dM_change_162 (lv_at hl 0 rfl) ?_
                refine lv_if_eq (tgt := 171) hx hb dM_change_164 (by decide) (fun c_24 => ?_) (fun c_24 => absurd c_24 (by decide))
                refine lv_iconst (v := (0 : Int32)) hx hb dM_change_171 (by decide) ?_
                refine lv_iadd hx hb dM_change_172 ?_
                refine lv_istore (lv' := [(4, .int (x4 + (0 : Int32))), (5, .int (0 : Int32)), (6, .int q_17.1), (3, .int (x3 + 1)), (0, .ref (a 0)), (1, .int x1), (2, .int x2)]) hx hb dM_change_173 hl (by decide) rfl (fun ls hl => ?_)
                refine lv_goto (tgt := 41) hx hb dM_change_175 (by decide) ?_
                exact ih x1 x2 (x3 + 1) (x4 + (0 : Int32)) q_23.2 hf _ _ hP hD hS _ (lv_sub hl [4, 5, 6, 3, 0] rfl)
            · replace hf := it_t hf c_18
              refine lv_aload_n hx hb dM_change_116 rfl (lv_at hl 3 rfl) ?_
              refine aM_get_to hx hb hts hown hK hP dM_change_117 ?_
              refine lv_iload hx hb dM_change_120 (lv_at hl 6 rfl) ?_
              refine lv_iload_n hx hb dM_change_122 rfl (lv_at hl 5 rfl) ?_
              obtain ⟨g_25, hf⟩ := gd_f hf
              refine aM_st_to (σ := q_17.2) (f := (m_to q_17.2)) (x := x2) (τ := (m_pto q_17.2 (upd (m_to q_17.2) x4.toNatClampNeg x2))) rfl rfl hx hb hK hP hD hS g_25 dM_change_123 (fun H locs hP hD hS => ?_)
              refine lv_goto (tgt := 160) hx hb dM_change_124 (by decide) ?_
              refine lv_iload hx hb dM_change_160 (lv_at hl 6 rfl) ?_
              refine lv_iload hx hb dM_change_162 (lv_at hl 2 rfl) ?_
              refine lv_if_eq (tgt := 171) hx hb dM_change_164 (by decide) (fun c_26 => absurd c_26 (by decide)) (fun c_26 => ?_)
              refine lv_iconst (v := (1 : Int32)) hx hb dM_change_167 (by decide) ?_
              refine lv_goto (tgt := 172) hx hb dM_change_168 (by decide) ?_
              refine lv_iadd hx hb dM_change_172 ?_
              refine lv_istore (lv' := [(4, .int (x4 + (1 : Int32))), (6, .int q_17.1), (3, .int (x3 + 1)), (5, .int (1 : Int32)), (0, .ref (a 0)), (1, .int x1), (2, .int x2)]) hx hb dM_change_173 hl (by decide) rfl (fun ls hl => ?_)
              refine lv_goto (tgt := 41) hx hb dM_change_175 (by decide) ?_
              exact ih x1 x2 (x3 + 1) (x4 + (1 : Int32)) (m_pto q_17.2 (upd (m_to q_17.2) x4.toNatClampNeg x2)) hf _ _ hP hD hS _ (lv_sub hl [4, 5, 6, 2, 0] rfl)
  unfold fM_change at hf
  refine lv_aload_n hx hb dM_change_0 rfl (lv_at hl 0 rfl) ?_
  refine lv_iconst (v := (0 : Int32)) hx hb dM_change_1 (by decide) ?_
  refine aM_put_thrown (σ := σ) (v := (0 : Int32)) (τ := (m_pthrown σ (0 : Int32))) rfl hx hb hts hown hK hP hD hS dM_change_2 (fun H locs hP hD hS => ?_)
  refine lv_aload_n hx hb dM_change_5 rfl (lv_at hl 0 rfl) ?_
  refine lv_dup hx hb dM_change_6 rfl ?_
  refine aM_get_moment (σ := (m_pthrown σ (0 : Int32))) (v := (m_moment σ)) rfl hx hb hts hown hK hP dM_change_7 ?_
  refine lv_iconst (v := (1 : Int32)) hx hb dM_change_10 (by decide) ?_
  refine lv_iadd hx hb dM_change_11 ?_
  refine aM_put_moment (σ := (m_pthrown σ (0 : Int32))) (v := ((m_moment σ) + (1 : Int32))) (τ := (m_pmoment (m_pthrown σ (0 : Int32)) ((m_moment σ) + (1 : Int32)))) rfl hx hb hts hown hK hP hD hS dM_change_12 (fun H locs hP hD hS => ?_)
  refine lv_iload_n hx hb dM_change_15 rfl (lv_at hl 1 rfl) ?_
  obtain ⟨q_1, hq_1, hf⟩ := bd_s hf
  refine xw_callS (kM_isHeading l dC dI a cI cZ tb K p1 (m_pmoment (m_pthrown σ (0 : Int32)) ((m_moment σ) + (1 : Int32))) q_1.2 q_1.1 hq_1) ⟨hx, hb, hml, hown, hts⟩ (va_cwS 1 hts (gw_S mt_267 mt_268 mt_26 mt_269) rfl rfl rfl hdM_isHeading ⟨Nat.le_of_ble_eq_true rfl, Nat.le_of_ble_eq_true rfl⟩) hK hP hD hS hA hZ rfl hl.1 rfl (Nat.le_of_ble_eq_true rfl) dM_change_16 ⟨Nat.zero_le _, Nat.zero_le _⟩ (fun H locs hP hD hS => ?_)
  refine lv_if_eq (tgt := 34) hx hb dM_change_19 (by decide) (fun c_2 => ?_) (fun c_2 => ?_)
  · replace hf := it_t hf c_2
    refine lv_iconst (v := (0 : Int32)) hx hb dM_change_34 (by decide) ?_
    exact xw_iret (wf := (w_M a cI cZ)) hx hb hr hlocks rfl hK hP hD hS hf dM_change_35
  · replace hf := it_f hf c_2
    refine lv_iload_n hx hb dM_change_22 rfl (lv_at hl 2 rfl) ?_
    obtain ⟨q_3, hq_3, hf⟩ := bd_s hf
    refine xw_callS (kM_isHeading l dC dI a cI cZ tb K p2 q_1.2 q_3.2 q_3.1 hq_3) ⟨hx, hb, hml, hown, hts⟩ (va_cwS 1 hts (gw_S mt_267 mt_268 mt_26 mt_269) rfl rfl rfl hdM_isHeading ⟨Nat.le_of_ble_eq_true rfl, Nat.le_of_ble_eq_true rfl⟩) hK hP hD hS hA hZ rfl hl.1 rfl (Nat.le_of_ble_eq_true rfl) dM_change_23 ⟨Nat.zero_le _, Nat.zero_le _⟩ (fun H locs hP hD hS => ?_)
    refine lv_if_eq (tgt := 34) hx hb dM_change_26 (by decide) (fun c_4 => ?_) (fun c_4 => ?_)
    · replace hf := it_t hf c_4
      refine lv_iconst (v := (0 : Int32)) hx hb dM_change_34 (by decide) ?_
      exact xw_iret (wf := (w_M a cI cZ)) hx hb hr hlocks rfl hK hP hD hS hf dM_change_35
    · replace hf := it_f hf c_4
      refine lv_iload_n hx hb dM_change_29 rfl (lv_at hl 1 rfl) ?_
      refine lv_iload_n hx hb dM_change_30 rfl (lv_at hl 2 rfl) ?_
      refine lv_icmp_ne (tgt := 36) hx hb dM_change_31 (by decide) (fun c_5 => ?_) (fun c_5 => ?_)
      · replace hf := it_f hf c_5
        refine lv_iconst (v := (0 : Int32)) hx hb dM_change_36 (by decide) ?_
        refine lv_istore_n (lv' := [(3, .int (0 : Int32)), (0, .ref (a 0)), (1, .int p1), (2, .int p2)]) hx hb dM_change_37 rfl hl (by decide) rfl (fun ls hl => ?_)
        refine lv_iconst (v := (0 : Int32)) hx hb dM_change_38 (by decide) ?_
        refine lv_istore (lv' := [(4, .int (0 : Int32)), (3, .int (0 : Int32)), (0, .ref (a 0)), (1, .int p1), (2, .int p2)]) hx hb dM_change_39 hl (by decide) rfl (fun ls hl => ?_)
        exact L_41 K p1 p2 (0 : Int32) (0 : Int32) q_3.2 hf _ _ hP hD hS _ (lv_sub hl [2, 3, 4, 1, 0] rfl)
      · replace hf := it_t hf c_5
        refine lv_iconst (v := (0 : Int32)) hx hb dM_change_34 (by decide) ?_
        exact xw_iret (wf := (w_M a cI cZ)) hx hb hr hlocks rfl hK hP hD hS hf dM_change_35
def fM_isBroken (K : Nat) (p1 : Int32) (σ : MSt) : Option (Int32 × MSt) := (if p1 < 0 ∨ 200 ≤ p1.toNatClampNeg then none else (if (4 : Int32) ≤ ((m_field σ) p1.toNatClampNeg) then some ((0 : Int32), σ) else (if p1 < 0 ∨ 200 ≤ p1.toNatClampNeg then none else (if ((m_to σ) p1.toNatClampNeg) < 0 ∨ 61 ≤ ((m_to σ) p1.toNatClampNeg).toNatClampNeg then none else (if ((m_live σ) ((m_to σ) p1.toNatClampNeg).toNatClampNeg) = 0 then some ((1 : Int32), σ) else some ((0 : Int32), σ))))))
set_option maxHeartbeats 4000000 in
set_option maxRecDepth 100000 in
theorem kM_isBroken (l : Launch) (dC : Nat → ClassId) (dI : Nat → Nat → Nat) (a : Nat → Nat) (cI cZ : ClassId) (tb : Nat) (K : Nat) (p1 : Int32) (σ σ' : MSt) (r : Int32) (hf : fM_isBroken K p1 σ = some (r, σ')) : xw_Ct l yM_isBroken wdM_isBroken ({ frames := 0, cells := 0, slots := 0, locals := 0 } : Room) (dC, dI) vwCl [(cI, .int), (cZ, .boolean)] (zz tb) ((w_M a cI cZ) σ) ((w_M a cI cZ) σ') [.ref (a 0), .int p1] r := by
  refine xw_ofW (cc := cM_isBroken) (maxL := 2) (ret := (some .boolean)) (lv := [(0, .ref (a 0)), (1, .int p1)]) (by decide) rfl (Nat.le_of_ble_eq_true rfl) rfl ?_
  intro p e s m below meth c A hAt hP hD hS ls hl
  obtain ⟨hx, hb, hr, hml, hown, hts, hlocks, hK, hZ, hA⟩ := hAt
  replace hts : ∀ w ∈ lw_g, w.before _ s = true := fun w h => hts w (List.mem_cons_of_mem _ h)
  unfold fM_isBroken at hf
  refine lv_aload_n hx hb dM_isBroken_0 rfl (lv_at hl 0 rfl) ?_
  refine aM_get_field hx hb hts hown hK hP dM_isBroken_1 ?_
  refine lv_iload_n hx hb dM_isBroken_4 rfl (lv_at hl 1 rfl) ?_
  obtain ⟨g_1, hf⟩ := gd_f hf
  refine aM_ld_field (σ := σ) (f := (m_field σ)) rfl hx hb hK hP g_1 dM_isBroken_5 ?_
  refine lv_iconst (v := (4 : Int32)) hx hb dM_isBroken_6 (by decide) ?_
  refine lv_icmp_ge (tgt := 28) hx hb dM_isBroken_7 (by decide) (fun c_2 => ?_) (fun c_2 => ?_)
  · replace hf := it_t hf c_2
    refine lv_iconst (v := (0 : Int32)) hx hb dM_isBroken_28 (by decide) ?_
    exact xw_iret (wf := (w_M a cI cZ)) hx hb hr hlocks rfl hK hP hD hS hf dM_isBroken_29
  · replace hf := it_f hf c_2
    refine lv_aload_n hx hb dM_isBroken_10 rfl (lv_at hl 0 rfl) ?_
    refine aM_get_live hx hb hts hown hK hP dM_isBroken_11 ?_
    refine lv_aload_n hx hb dM_isBroken_14 rfl (lv_at hl 0 rfl) ?_
    refine aM_get_to hx hb hts hown hK hP dM_isBroken_15 ?_
    refine lv_iload_n hx hb dM_isBroken_18 rfl (lv_at hl 1 rfl) ?_
    obtain ⟨g_3, hf⟩ := gd_f hf
    refine aM_ld_to (σ := σ) (f := (m_to σ)) rfl hx hb hK hP g_3 dM_isBroken_19 ?_
    obtain ⟨g_4, hf⟩ := gd_f hf
    refine aM_ld_live (σ := σ) (f := (m_live σ)) rfl hx hb hK hP g_4 dM_isBroken_20 ?_
    refine lv_if_ne (tgt := 28) hx hb dM_isBroken_21 (by decide) (fun c_5 => ?_) (fun c_5 => ?_)
    · replace hf := it_f hf c_5
      refine lv_iconst (v := (0 : Int32)) hx hb dM_isBroken_28 (by decide) ?_
      exact xw_iret (wf := (w_M a cI cZ)) hx hb hr hlocks rfl hK hP hD hS hf dM_isBroken_29
    · replace hf := it_t hf c_5
      refine lv_iconst (v := (1 : Int32)) hx hb dM_isBroken_24 (by decide) ?_
      refine lv_goto (tgt := 29) hx hb dM_isBroken_25 (by decide) ?_
      exact xw_iret (wf := (w_M a cI cZ)) hx hb hr hlocks rfl hK hP hD hS hf dM_isBroken_29
def gM_brokenAt_4 (K : Nat) : Nat → Int32 → Int32 → Int32 → MSt → Option (Int32 × MSt)
  | 0, _, _, _, _ => none
  | n + 1, x1, x2, x3, τ => (if (m_links τ) ≤ x3 then some ((-1 : Int32), τ) else (if x1 < 0 then some ((-1 : Int32), τ) else ((fM_isBroken K x3 τ).bind fun q_3 => (if q_3.1 = 0 then (gM_brokenAt_4 K n x1 x2 (x3 + 1) q_3.2) else (if x2 = x1 then some (x3, q_3.2) else (gM_brokenAt_4 K n x1 (x2 + 1) (x3 + 1) q_3.2))))))
def fM_brokenAt (K : Nat) (p1 : Int32) (σ : MSt) : Option (Int32 × MSt) := (gM_brokenAt_4 K K p1 (0 : Int32) (0 : Int32) σ)
set_option maxHeartbeats 4000000 in
set_option maxRecDepth 100000 in
theorem kM_brokenAt (l : Launch) (dC : Nat → ClassId) (dI : Nat → Nat → Nat) (a : Nat → Nat) (cI cZ : ClassId) (tb : Nat) (K : Nat) (p1 : Int32) (σ σ' : MSt) (r : Int32) (hf : fM_brokenAt K p1 σ = some (r, σ')) : xw_Ct l yM_brokenAt wdM_brokenAt ({ frames := 1, cells := 0, slots := 0, locals := 21 } : Room) (dC, dI) vwCl [(cI, .int), (cZ, .boolean)] (zz tb) ((w_M a cI cZ) σ) ((w_M a cI cZ) σ') [.ref (a 0), .int p1] r := by
  refine xw_ofW (cc := cM_brokenAt) (maxL := 4) (ret := (some .int)) (lv := [(0, .ref (a 0)), (1, .int p1)]) (by decide) rfl (Nat.le_of_ble_eq_true rfl) rfl ?_
  intro p e s m below meth c A hAt hP hD hS ls hl
  obtain ⟨hx, hb, hr, hml, hown, hts, hlocks, hK, hZ, hA⟩ := hAt
  replace hts : ∀ w ∈ lw_g, w.before _ s = true := fun w h => hts w (List.mem_cons_of_mem _ h)
  have L_4 : ∀ (n : Nat) (x1 x2 x3 : Int32) (τ : MSt), gM_brokenAt_4 K n x1 x2 x3 τ = some (r, σ') → ∀ (H : Heap) (locs : List Loc), va_P (dC, dI) vwCl ((w_M a cI cZ) τ) H → va_D A ((w_M a cI cZ) τ) → va_S A s.heap H locs → ∀ (ls : Array Slot), lv_has ls 4 [(0, .ref (a 0)), (1, .int x1), (2, .int x2), (3, .int x3)] → W p l e ({ frames := 1, cells := 0, slots := 0, locals := 21 } : Room) s m ([.ref (a 0), .int p1] : List Value).toArray below meth c H locs 0 0 (MQ below (va_Qi (fun (r2 : Int32) (_ : Unit) => r2 = r) (fun _ t => xw_B (dC, dI) vwCl [(cI, .int), (cZ, .boolean)] A ((w_M a cI cZ) σ') t) A) ([.ref (a 0), .int p1] : List Value).toArray s 0 0 A) (F0 m 4 ls []) := by
    intro n
    induction n with
    | zero =>
      intro x1 x2 x3 τ hf
      rw [gM_brokenAt_4] at hf
      cases hf
    | succ n ih =>
      intro x1 x2 x3 τ hf H locs hP hD hS ls hl
      rw [gM_brokenAt_4] at hf
      refine lv_iload_n hx hb dM_brokenAt_4 rfl (lv_at hl 3 rfl) ?_
      refine lv_aload_n hx hb dM_brokenAt_5 rfl (lv_at hl 0 rfl) ?_
      refine aM_get_links (σ := τ) (v := (m_links τ)) rfl hx hb hts hown hK hP dM_brokenAt_6 ?_
      refine lv_icmp_ge (tgt := 40) hx hb dM_brokenAt_9 (by decide) (fun c_1 => ?_) (fun c_1 => ?_)
      · replace hf := it_t hf c_1
        refine lv_iconst (v := (-1 : Int32)) hx hb dM_brokenAt_40 (by decide) ?_
        exact xw_iret (wf := (w_M a cI cZ)) hx hb hr hlocks rfl hK hP hD hS hf dM_brokenAt_41
      · replace hf := it_f hf c_1
        refine lv_iload_n hx hb dM_brokenAt_12 rfl (lv_at hl 1 rfl) ?_
        refine lv_if_lt (tgt := 40) hx hb dM_brokenAt_13 (by decide) (fun c_2 => ?_) (fun c_2 => ?_)
        · replace hf := it_t hf c_2
          refine lv_iconst (v := (-1 : Int32)) hx hb dM_brokenAt_40 (by decide) ?_
          exact xw_iret (wf := (w_M a cI cZ)) hx hb hr hlocks rfl hK hP hD hS hf dM_brokenAt_41
        · replace hf := it_f hf c_2
          refine lv_aload_n hx hb dM_brokenAt_16 rfl (lv_at hl 0 rfl) ?_
          refine lv_iload_n hx hb dM_brokenAt_17 rfl (lv_at hl 3 rfl) ?_
          obtain ⟨q_3, hq_3, hf⟩ := bd_s hf
          refine xw_callV (kM_isBroken l dC dI a cI cZ tb K x3 τ q_3.2 q_3.1 hq_3) ⟨hx, hb, hml, hown, hts⟩ (cwV 1 hts (gw_V mt_309 mt_311 mt_23 mt_26 mt_312) rfl rfl rfl hdM_isBroken ⟨Nat.le_of_ble_eq_true rfl, Nat.le_of_ble_eq_true rfl⟩) hK hP hD hS hA hZ (q0 := 0) (ci := 1) rfl rfl rfl hl.1 rfl (Nat.le_of_ble_eq_true rfl) dM_brokenAt_18 ⟨Nat.zero_le _, Nat.zero_le _⟩ (fun H locs hP hD hS => ?_)
          refine lv_if_eq (tgt := 34) hx hb dM_brokenAt_21 (by decide) (fun c_4 => ?_) (fun c_4 => ?_)
          · replace hf := it_t hf c_4
            refine lv_iinc (v := (x3 + 1)) (lv' := [(3, .int (x3 + 1)), (0, .ref (a 0)), (1, .int x1), (2, .int x2)]) hx hb dM_brokenAt_34 hl (k := 3) rfl (congrArg (HAdd.hAdd _) (by decide : Int32.ofInt (1) = (1 : Int32))) (by decide) rfl (fun ls hl => ?_)
            refine lv_goto (tgt := 4) hx hb dM_brokenAt_37 (by decide) ?_
            exact ih x1 x2 (x3 + 1) q_3.2 hf _ _ hP hD hS _ (lv_sub hl [1, 2, 3, 0] rfl)
          · replace hf := it_f hf c_4
            refine lv_iload_n hx hb dM_brokenAt_24 rfl (lv_at hl 2 rfl) ?_
            refine lv_iload_n hx hb dM_brokenAt_25 rfl (lv_at hl 1 rfl) ?_
            refine lv_icmp_ne (tgt := 31) hx hb dM_brokenAt_26 (by decide) (fun c_5 => ?_) (fun c_5 => ?_)
            · replace hf := it_f hf c_5
              refine lv_iinc (v := (x2 + 1)) (lv' := [(2, .int (x2 + 1)), (0, .ref (a 0)), (1, .int x1), (3, .int x3)]) hx hb dM_brokenAt_31 hl (k := 2) rfl (congrArg (HAdd.hAdd _) (by decide : Int32.ofInt (1) = (1 : Int32))) (by decide) rfl (fun ls hl => ?_)
              refine lv_iinc (v := (x3 + 1)) (lv' := [(3, .int (x3 + 1)), (2, .int (x2 + 1)), (0, .ref (a 0)), (1, .int x1)]) hx hb dM_brokenAt_34 hl (k := 3) rfl (congrArg (HAdd.hAdd _) (by decide : Int32.ofInt (1) = (1 : Int32))) (by decide) rfl (fun ls hl => ?_)
              refine lv_goto (tgt := 4) hx hb dM_brokenAt_37 (by decide) ?_
              exact ih x1 (x2 + 1) (x3 + 1) q_3.2 hf _ _ hP hD hS _ (lv_sub hl [2, 3, 1, 0] rfl)
            · replace hf := it_t hf c_5
              refine lv_iload_n hx hb dM_brokenAt_29 rfl (lv_at hl 3 rfl) ?_
              exact xw_iret (wf := (w_M a cI cZ)) hx hb hr hlocks rfl hK hP hD hS hf dM_brokenAt_30
  unfold fM_brokenAt at hf
  refine lv_iconst (v := (0 : Int32)) hx hb dM_brokenAt_0 (by decide) ?_
  refine lv_istore_n (lv' := [(2, .int (0 : Int32)), (0, .ref (a 0)), (1, .int p1)]) hx hb dM_brokenAt_1 rfl hl (by decide) rfl (fun ls hl => ?_)
  refine lv_iconst (v := (0 : Int32)) hx hb dM_brokenAt_2 (by decide) ?_
  refine lv_istore_n (lv' := [(3, .int (0 : Int32)), (2, .int (0 : Int32)), (0, .ref (a 0)), (1, .int p1)]) hx hb dM_brokenAt_3 rfl hl (by decide) rfl (fun ls hl => ?_)
  exact L_4 K p1 (0 : Int32) (0 : Int32) σ hf _ _ hP hD hS _ (lv_sub hl [2, 3, 1, 0] rfl)
def fM_broken (K : Nat) (p1 p2 : Int32) (σ : MSt) : Option (Int32 × MSt) := ((fM_brokenAt K p1 (m_pthrown σ (0 : Int32))).bind fun q_1 => (if q_1.1 = (-1 : Int32) then some ((-1 : Int32), q_1.2) else (if p2 = 0 then (if q_1.1 < 0 ∨ 200 ≤ q_1.1.toNatClampNeg then none else some (((m_from q_1.2) q_1.1.toNatClampNeg), q_1.2)) else (if p2 = (1 : Int32) then (if q_1.1 < 0 ∨ 200 ≤ q_1.1.toNatClampNeg then none else some (((m_field q_1.2) q_1.1.toNatClampNeg), q_1.2)) else (if p2 = (2 : Int32) then (if q_1.1 < 0 ∨ 200 ≤ q_1.1.toNatClampNeg then none else some (((m_to q_1.2) q_1.1.toNatClampNeg), q_1.2)) else some ((-1 : Int32), q_1.2))))))
set_option maxHeartbeats 4000000 in
set_option maxRecDepth 100000 in
theorem kM_broken (l : Launch) (dC : Nat → ClassId) (dI : Nat → Nat → Nat) (a : Nat → Nat) (cI cZ : ClassId) (tb : Nat) (K : Nat) (p1 p2 : Int32) (σ σ' : MSt) (r : Int32) (hf : fM_broken K p1 p2 σ = some (r, σ')) : xw_Ct l yM_broken wdM_broken ({ frames := 2, cells := 0, slots := 0, locals := 44 } : Room) (dC, dI) vwCl [(cI, .int), (cZ, .boolean)] (zz tb) ((w_M a cI cZ) σ) ((w_M a cI cZ) σ') [.ref (a 0), .int p1, .int p2] r := by
  refine xw_ofW (cc := cM_broken) (maxL := 4) (ret := (some .int)) (lv := [(0, .ref (a 0)), (1, .int p1), (2, .int p2)]) (by decide) rfl (Nat.le_of_ble_eq_true rfl) rfl ?_
  intro p e s m below meth c A hAt hP hD hS ls hl
  obtain ⟨hx, hb, hr, hml, hown, hts, hlocks, hK, hZ, hA⟩ := hAt
  replace hts : ∀ w ∈ lw_g, w.before _ s = true := fun w h => hts w (List.mem_cons_of_mem _ h)
  unfold fM_broken at hf
  refine lv_aload_n hx hb dM_broken_0 rfl (lv_at hl 0 rfl) ?_
  refine lv_iconst (v := (0 : Int32)) hx hb dM_broken_1 (by decide) ?_
  refine aM_put_thrown (σ := σ) (v := (0 : Int32)) (τ := (m_pthrown σ (0 : Int32))) rfl hx hb hts hown hK hP hD hS dM_broken_2 (fun H locs hP hD hS => ?_)
  refine lv_aload_n hx hb dM_broken_5 rfl (lv_at hl 0 rfl) ?_
  refine lv_iload_n hx hb dM_broken_6 rfl (lv_at hl 1 rfl) ?_
  obtain ⟨q_1, hq_1, hf⟩ := bd_s hf
  refine xw_callV (kM_brokenAt l dC dI a cI cZ tb K p1 (m_pthrown σ (0 : Int32)) q_1.2 q_1.1 hq_1) ⟨hx, hb, hml, hown, hts⟩ (cwV 1 hts (gw_V mt_305 mt_307 mt_22 mt_26 mt_308) rfl rfl rfl hdM_brokenAt ⟨Nat.le_of_ble_eq_true rfl, Nat.le_of_ble_eq_true rfl⟩) hK hP hD hS hA hZ (q0 := 0) (ci := 1) rfl rfl rfl hl.1 rfl (Nat.le_of_ble_eq_true rfl) dM_broken_7 ⟨Nat.zero_le _, Nat.zero_le _⟩ (fun H locs hP hD hS => ?_)
  refine lv_istore_n (lv' := [(3, .int q_1.1), (0, .ref (a 0)), (1, .int p1), (2, .int p2)]) hx hb dM_broken_10 rfl hl (by decide) rfl (fun ls hl => ?_)
  refine lv_iload_n hx hb dM_broken_11 rfl (lv_at hl 0 rfl) ?_
  refine lv_iconst (v := (-1 : Int32)) hx hb dM_broken_12 (by decide) ?_
  refine lv_icmp_ne (tgt := 20) hx hb dM_broken_13 (by decide) (fun c_2 => ?_) (fun c_2 => ?_)
  · replace hf := it_f hf c_2
    refine lv_iload_n hx hb dM_broken_20 rfl (lv_at hl 3 rfl) ?_
    refine lv_if_ne (tgt := 33) hx hb dM_broken_21 (by decide) (fun c_3 => ?_) (fun c_3 => ?_)
    · replace hf := it_f hf c_3
      refine lv_iload_n hx hb dM_broken_33 rfl (lv_at hl 3 rfl) ?_
      refine lv_iconst (v := (1 : Int32)) hx hb dM_broken_34 (by decide) ?_
      refine lv_icmp_ne (tgt := 47) hx hb dM_broken_35 (by decide) (fun c_4 => ?_) (fun c_4 => ?_)
      · replace hf := it_f hf c_4
        refine lv_iload_n hx hb dM_broken_47 rfl (lv_at hl 3 rfl) ?_
        refine lv_iconst (v := (2 : Int32)) hx hb dM_broken_48 (by decide) ?_
        refine lv_icmp_ne (tgt := 61) hx hb dM_broken_49 (by decide) (fun c_5 => ?_) (fun c_5 => ?_)
        · replace hf := it_f hf c_5
          refine lv_iconst (v := (-1 : Int32)) hx hb dM_broken_61 (by decide) ?_
          exact xw_iret (wf := (w_M a cI cZ)) hx hb hr hlocks rfl hK hP hD hS hf dM_broken_62
        · replace hf := it_t hf c_5
          refine lv_aload_n hx hb dM_broken_52 rfl (lv_at hl 1 rfl) ?_
          refine aM_get_to hx hb hts hown hK hP dM_broken_53 ?_
          refine lv_iload_n hx hb dM_broken_56 rfl (lv_at hl 0 rfl) ?_
          obtain ⟨g_6, hf⟩ := gd_f hf
          refine aM_ld_to (σ := q_1.2) (f := (m_to q_1.2)) rfl hx hb hK hP g_6 dM_broken_57 ?_
          refine lv_goto (tgt := 62) hx hb dM_broken_58 (by decide) ?_
          exact xw_iret (wf := (w_M a cI cZ)) hx hb hr hlocks rfl hK hP hD hS hf dM_broken_62
      · replace hf := it_t hf c_4
        refine lv_aload_n hx hb dM_broken_38 rfl (lv_at hl 1 rfl) ?_
        refine aM_get_field hx hb hts hown hK hP dM_broken_39 ?_
        refine lv_iload_n hx hb dM_broken_42 rfl (lv_at hl 0 rfl) ?_
        obtain ⟨g_7, hf⟩ := gd_f hf
        refine aM_ld_field (σ := q_1.2) (f := (m_field q_1.2)) rfl hx hb hK hP g_7 dM_broken_43 ?_
        refine lv_goto (tgt := 62) hx hb dM_broken_44 (by decide) ?_
        exact xw_iret (wf := (w_M a cI cZ)) hx hb hr hlocks rfl hK hP hD hS hf dM_broken_62
    · replace hf := it_t hf c_3
      refine lv_aload_n hx hb dM_broken_24 rfl (lv_at hl 1 rfl) ?_
      refine aM_get_from hx hb hts hown hK hP dM_broken_25 ?_
      refine lv_iload_n hx hb dM_broken_28 rfl (lv_at hl 0 rfl) ?_
      obtain ⟨g_8, hf⟩ := gd_f hf
      refine aM_ld_from (σ := q_1.2) (f := (m_from q_1.2)) rfl hx hb hK hP g_8 dM_broken_29 ?_
      refine lv_goto (tgt := 62) hx hb dM_broken_30 (by decide) ?_
      exact xw_iret (wf := (w_M a cI cZ)) hx hb hr hlocks rfl hK hP hD hS hf dM_broken_62
  · replace hf := it_t hf c_2
    refine lv_iconst (v := (-1 : Int32)) hx hb dM_broken_16 (by decide) ?_
    refine lv_goto (tgt := 62) hx hb dM_broken_17 (by decide) ?_
    exact xw_iret (wf := (w_M a cI cZ)) hx hb hr hlocks rfl hK hP hD hS hf dM_broken_62
def fM_repair (K : Nat) (p1 : Int32) (σ : MSt) : Option (Int32 × MSt) := ((fM_brokenAt K p1 (m_pmoment (m_pthrown σ (0 : Int32)) ((m_moment σ) + (1 : Int32)))).bind fun q_1 => (if q_1.1 = (-1 : Int32) then some ((-1 : Int32), q_1.2) else (if q_1.1 < 0 ∨ 200 ≤ q_1.1.toNatClampNeg then none else ((fM_changed K ((m_from q_1.2) q_1.1.toNatClampNeg) q_1.2).bind fun q_4 => (if q_1.1 < 0 ∨ 200 ≤ q_1.1.toNatClampNeg then none else (if ((m_to q_4.2) q_1.1.toNatClampNeg) < 0 ∨ 61 ≤ ((m_to q_4.2) q_1.1.toNatClampNeg).toNatClampNeg then none else ((fM_isLive K ((m_hadHost q_4.2) ((m_to q_4.2) q_1.1.toNatClampNeg).toNatClampNeg) q_4.2).bind fun q_7 => (if q_7.1 = 0 then ((fM_drop K q_1.1 q_7.2).bind fun q_9 => some ((0 : Int32), q_9.2)) else (if q_1.1 < 0 ∨ 200 ≤ q_1.1.toNatClampNeg then none else (if ((m_hadHost q_4.2) ((m_to q_4.2) q_1.1.toNatClampNeg).toNatClampNeg) = ((m_from q_7.2) q_1.1.toNatClampNeg) then ((fM_drop K q_1.1 q_7.2).bind fun q_12 => some ((0 : Int32), q_12.2)) else (if q_1.1 < 0 ∨ 200 ≤ q_1.1.toNatClampNeg then none else (if q_1.1 < 0 ∨ 200 ≤ q_1.1.toNatClampNeg then none else ((fM_find K ((m_from q_7.2) q_1.1.toNatClampNeg) ((m_field q_7.2) q_1.1.toNatClampNeg) ((m_hadHost q_4.2) ((m_to q_4.2) q_1.1.toNatClampNeg).toNatClampNeg) q_7.2).bind fun q_15 => (if q_15.1 = (-1 : Int32) then (if q_1.1 < 0 ∨ 200 ≤ q_1.1.toNatClampNeg then none else some ((1 : Int32), (m_pto q_15.2 (upd (m_to q_15.2) q_1.1.toNatClampNeg ((m_hadHost q_4.2) ((m_to q_4.2) q_1.1.toNatClampNeg).toNatClampNeg))))) else ((fM_drop K q_1.1 q_15.2).bind fun q_17 => some ((0 : Int32), q_17.2))))))))))))))))
set_option maxHeartbeats 4000000 in
set_option maxRecDepth 100000 in
theorem kM_repair (l : Launch) (dC : Nat → ClassId) (dI : Nat → Nat → Nat) (a : Nat → Nat) (cI cZ : ClassId) (tb : Nat) (K : Nat) (p1 : Int32) (σ σ' : MSt) (r : Int32) (hf : fM_repair K p1 σ = some (r, σ')) : xw_Ct l yM_repair wdM_repair ({ frames := 2, cells := 0, slots := 0, locals := 44 } : Room) (dC, dI) vwCl [(cI, .int), (cZ, .boolean)] (zz tb) ((w_M a cI cZ) σ) ((w_M a cI cZ) σ') [.ref (a 0), .int p1] r := by
  refine xw_ofW (cc := cM_repair) (maxL := 4) (ret := (some .int)) (lv := [(0, .ref (a 0)), (1, .int p1)]) (by decide) rfl (Nat.le_of_ble_eq_true rfl) rfl ?_
  intro p e s m below meth c A hAt hP hD hS ls hl
  obtain ⟨hx, hb, hr, hml, hown, hts, hlocks, hK, hZ, hA⟩ := hAt
  replace hts : ∀ w ∈ lw_g, w.before _ s = true := fun w h => hts w (List.mem_cons_of_mem _ h)
  unfold fM_repair at hf
  refine lv_aload_n hx hb dM_repair_0 rfl (lv_at hl 0 rfl) ?_
  refine lv_iconst (v := (0 : Int32)) hx hb dM_repair_1 (by decide) ?_
  refine aM_put_thrown (σ := σ) (v := (0 : Int32)) (τ := (m_pthrown σ (0 : Int32))) rfl hx hb hts hown hK hP hD hS dM_repair_2 (fun H locs hP hD hS => ?_)
  refine lv_aload_n hx hb dM_repair_5 rfl (lv_at hl 0 rfl) ?_
  refine lv_dup hx hb dM_repair_6 rfl ?_
  refine aM_get_moment (σ := (m_pthrown σ (0 : Int32))) (v := (m_moment σ)) rfl hx hb hts hown hK hP dM_repair_7 ?_
  refine lv_iconst (v := (1 : Int32)) hx hb dM_repair_10 (by decide) ?_
  refine lv_iadd hx hb dM_repair_11 ?_
  refine aM_put_moment (σ := (m_pthrown σ (0 : Int32))) (v := ((m_moment σ) + (1 : Int32))) (τ := (m_pmoment (m_pthrown σ (0 : Int32)) ((m_moment σ) + (1 : Int32)))) rfl hx hb hts hown hK hP hD hS dM_repair_12 (fun H locs hP hD hS => ?_)
  refine lv_aload_n hx hb dM_repair_15 rfl (lv_at hl 0 rfl) ?_
  refine lv_iload_n hx hb dM_repair_16 rfl (lv_at hl 1 rfl) ?_
  obtain ⟨q_1, hq_1, hf⟩ := bd_s hf
  refine xw_callV (kM_brokenAt l dC dI a cI cZ tb K p1 (m_pmoment (m_pthrown σ (0 : Int32)) ((m_moment σ) + (1 : Int32))) q_1.2 q_1.1 hq_1) ⟨hx, hb, hml, hown, hts⟩ (cwV 1 hts (gw_V mt_305 mt_307 mt_22 mt_26 mt_308) rfl rfl rfl hdM_brokenAt ⟨Nat.le_of_ble_eq_true rfl, Nat.le_of_ble_eq_true rfl⟩) hK hP hD hS hA hZ (q0 := 0) (ci := 1) rfl rfl rfl hl.1 rfl (Nat.le_of_ble_eq_true rfl) dM_repair_17 ⟨Nat.zero_le _, Nat.zero_le _⟩ (fun H locs hP hD hS => ?_)
  refine lv_istore_n (lv' := [(2, .int q_1.1), (0, .ref (a 0)), (1, .int p1)]) hx hb dM_repair_20 rfl hl (by decide) rfl (fun ls hl => ?_)
  refine lv_iload_n hx hb dM_repair_21 rfl (lv_at hl 0 rfl) ?_
  refine lv_iconst (v := (-1 : Int32)) hx hb dM_repair_22 (by decide) ?_
  refine lv_icmp_ne (tgt := 28) hx hb dM_repair_23 (by decide) (fun c_2 => ?_) (fun c_2 => ?_)
  · replace hf := it_f hf c_2
    refine lv_aload_n hx hb dM_repair_28 rfl (lv_at hl 1 rfl) ?_
    refine lv_aload_n hx hb dM_repair_29 rfl (lv_at hl 1 rfl) ?_
    refine aM_get_from hx hb hts hown hK hP dM_repair_30 ?_
    refine lv_iload_n hx hb dM_repair_33 rfl (lv_at hl 0 rfl) ?_
    obtain ⟨g_3, hf⟩ := gd_f hf
    refine aM_ld_from (σ := q_1.2) (f := (m_from q_1.2)) rfl hx hb hK hP g_3 dM_repair_34 ?_
    obtain ⟨q_4, hq_4, hf⟩ := bd_s hf
    refine xw_callVv (kM_changed l dC dI a cI cZ tb K ((m_from q_1.2) q_1.1.toNatClampNeg) q_1.2 q_4.2 q_4.1 hq_4) ⟨hx, hb, hml, hown, hts⟩ (cwV 1 hts (gw_V mt_289 mt_291 mt_20 mt_26 mt_292) rfl rfl rfl hdM_changed ⟨Nat.le_of_ble_eq_true rfl, Nat.le_of_ble_eq_true rfl⟩) hK hP hD hS hA hZ (q0 := 0) (ci := 1) rfl rfl rfl hl.1 rfl (Nat.le_of_ble_eq_true rfl) dM_repair_35 ⟨Nat.zero_le _, Nat.zero_le _⟩ (fun H locs hP hD hS => ?_)
    refine lv_aload_n hx hb dM_repair_38 rfl (lv_at hl 1 rfl) ?_
    refine aM_get_hadHost hx hb hts hown hK hP dM_repair_39 ?_
    refine lv_aload_n hx hb dM_repair_42 rfl (lv_at hl 1 rfl) ?_
    refine aM_get_to hx hb hts hown hK hP dM_repair_43 ?_
    refine lv_iload_n hx hb dM_repair_46 rfl (lv_at hl 0 rfl) ?_
    obtain ⟨g_5, hf⟩ := gd_f hf
    refine aM_ld_to (σ := q_4.2) (f := (m_to q_4.2)) rfl hx hb hK hP g_5 dM_repair_47 ?_
    obtain ⟨g_6, hf⟩ := gd_f hf
    refine aM_ld_hadHost (σ := q_4.2) (f := (m_hadHost q_4.2)) rfl hx hb hK hP g_6 dM_repair_48 ?_
    refine lv_istore_n (lv' := [(3, .int ((m_hadHost q_4.2) ((m_to q_4.2) q_1.1.toNatClampNeg).toNatClampNeg)), (2, .int q_1.1), (0, .ref (a 0)), (1, .int p1)]) hx hb dM_repair_49 rfl hl (by decide) rfl (fun ls hl => ?_)
    refine lv_aload_n hx hb dM_repair_50 rfl (lv_at hl 2 rfl) ?_
    refine lv_iload_n hx hb dM_repair_51 rfl (lv_at hl 0 rfl) ?_
    obtain ⟨q_7, hq_7, hf⟩ := bd_s hf
    refine xw_callV (kM_isLive l dC dI a cI cZ tb K ((m_hadHost q_4.2) ((m_to q_4.2) q_1.1.toNatClampNeg).toNatClampNeg) q_4.2 q_7.2 q_7.1 hq_7) ⟨hx, hb, hml, hown, hts⟩ (cwV 1 hts (gw_V mt_263 mt_265 mt_15 mt_26 mt_266) rfl rfl rfl hdM_isLive ⟨Nat.le_of_ble_eq_true rfl, Nat.le_of_ble_eq_true rfl⟩) hK hP hD hS hA hZ (q0 := 0) (ci := 1) rfl rfl rfl hl.1 rfl (Nat.le_of_ble_eq_true rfl) dM_repair_52 ⟨Nat.zero_le _, Nat.zero_le _⟩ (fun H locs hP hD hS => ?_)
    refine lv_if_eq (tgt := 98) hx hb dM_repair_55 (by decide) (fun c_8 => ?_) (fun c_8 => ?_)
    · replace hf := it_t hf c_8
      refine lv_aload_n hx hb dM_repair_98 rfl (lv_at hl 2 rfl) ?_
      refine lv_iload_n hx hb dM_repair_99 rfl (lv_at hl 1 rfl) ?_
      obtain ⟨q_9, hq_9, hf⟩ := bd_s hf
      refine xw_callVv (kM_drop l dC dI a cI cZ tb K q_1.1 q_7.2 q_9.2 q_9.1 hq_9) ⟨hx, hb, hml, hown, hts⟩ (cwV 1 hts (gw_V mt_297 mt_299 mt_21 mt_26 mt_300) rfl rfl rfl hdM_drop ⟨Nat.le_of_ble_eq_true rfl, Nat.le_of_ble_eq_true rfl⟩) hK hP hD hS hA hZ (q0 := 0) (ci := 1) rfl rfl rfl hl.1 rfl (Nat.le_of_ble_eq_true rfl) dM_repair_100 ⟨Nat.zero_le _, Nat.zero_le _⟩ (fun H locs hP hD hS => ?_)
      refine lv_iconst (v := (0 : Int32)) hx hb dM_repair_103 (by decide) ?_
      exact xw_iret (wf := (w_M a cI cZ)) hx hb hr hlocks rfl hK hP hD hS hf dM_repair_104
    · replace hf := it_f hf c_8
      refine lv_iload_n hx hb dM_repair_58 rfl (lv_at hl 0 rfl) ?_
      refine lv_aload_n hx hb dM_repair_59 rfl (lv_at hl 2 rfl) ?_
      refine aM_get_from hx hb hts hown hK hP dM_repair_60 ?_
      refine lv_iload_n hx hb dM_repair_63 rfl (lv_at hl 1 rfl) ?_
      obtain ⟨g_10, hf⟩ := gd_f hf
      refine aM_ld_from (σ := q_7.2) (f := (m_from q_7.2)) rfl hx hb hK hP g_10 dM_repair_64 ?_
      refine lv_icmp_eq (tgt := 98) hx hb dM_repair_65 (by decide) (fun c_11 => ?_) (fun c_11 => ?_)
      · replace hf := it_t hf c_11
        refine lv_aload_n hx hb dM_repair_98 rfl (lv_at hl 2 rfl) ?_
        refine lv_iload_n hx hb dM_repair_99 rfl (lv_at hl 1 rfl) ?_
        obtain ⟨q_12, hq_12, hf⟩ := bd_s hf
        refine xw_callVv (kM_drop l dC dI a cI cZ tb K q_1.1 q_7.2 q_12.2 q_12.1 hq_12) ⟨hx, hb, hml, hown, hts⟩ (cwV 1 hts (gw_V mt_297 mt_299 mt_21 mt_26 mt_300) rfl rfl rfl hdM_drop ⟨Nat.le_of_ble_eq_true rfl, Nat.le_of_ble_eq_true rfl⟩) hK hP hD hS hA hZ (q0 := 0) (ci := 1) rfl rfl rfl hl.1 rfl (Nat.le_of_ble_eq_true rfl) dM_repair_100 ⟨Nat.zero_le _, Nat.zero_le _⟩ (fun H locs hP hD hS => ?_)
        refine lv_iconst (v := (0 : Int32)) hx hb dM_repair_103 (by decide) ?_
        exact xw_iret (wf := (w_M a cI cZ)) hx hb hr hlocks rfl hK hP hD hS hf dM_repair_104
      · replace hf := it_f hf c_11
        refine lv_aload_n hx hb dM_repair_68 rfl (lv_at hl 2 rfl) ?_
        refine lv_aload_n hx hb dM_repair_69 rfl (lv_at hl 2 rfl) ?_
        refine aM_get_from hx hb hts hown hK hP dM_repair_70 ?_
        refine lv_iload_n hx hb dM_repair_73 rfl (lv_at hl 1 rfl) ?_
        obtain ⟨g_13, hf⟩ := gd_f hf
        refine aM_ld_from (σ := q_7.2) (f := (m_from q_7.2)) rfl hx hb hK hP g_13 dM_repair_74 ?_
        refine lv_aload_n hx hb dM_repair_75 rfl (lv_at hl 2 rfl) ?_
        refine aM_get_field hx hb hts hown hK hP dM_repair_76 ?_
        refine lv_iload_n hx hb dM_repair_79 rfl (lv_at hl 1 rfl) ?_
        obtain ⟨g_14, hf⟩ := gd_f hf
        refine aM_ld_field (σ := q_7.2) (f := (m_field q_7.2)) rfl hx hb hK hP g_14 dM_repair_80 ?_
        refine lv_iload_n hx hb dM_repair_81 rfl (lv_at hl 0 rfl) ?_
        obtain ⟨q_15, hq_15, hf⟩ := bd_s hf
        refine xw_callV (kM_find l dC dI a cI cZ tb K ((m_from q_7.2) q_1.1.toNatClampNeg) ((m_field q_7.2) q_1.1.toNatClampNeg) ((m_hadHost q_4.2) ((m_to q_4.2) q_1.1.toNatClampNeg).toNatClampNeg) q_7.2 q_15.2 q_15.1 hq_15) ⟨hx, hb, hml, hown, hts⟩ (cwV 3 hts (gw_V mt_277 mt_279 mt_17 mt_26 mt_280) rfl rfl rfl hdM_find ⟨Nat.le_of_ble_eq_true rfl, Nat.le_of_ble_eq_true rfl⟩) hK hP hD hS hA hZ (q0 := 0) (ci := 1) rfl rfl rfl hl.1 rfl (Nat.le_of_ble_eq_true rfl) dM_repair_82 ⟨Nat.zero_le _, Nat.zero_le _⟩ (fun H locs hP hD hS => ?_)
        refine lv_iconst (v := (-1 : Int32)) hx hb dM_repair_85 (by decide) ?_
        refine lv_icmp_ne (tgt := 98) hx hb dM_repair_86 (by decide) (fun c_16 => ?_) (fun c_16 => ?_)
        · replace hf := it_f hf c_16
          refine lv_aload_n hx hb dM_repair_98 rfl (lv_at hl 2 rfl) ?_
          refine lv_iload_n hx hb dM_repair_99 rfl (lv_at hl 1 rfl) ?_
          obtain ⟨q_17, hq_17, hf⟩ := bd_s hf
          refine xw_callVv (kM_drop l dC dI a cI cZ tb K q_1.1 q_15.2 q_17.2 q_17.1 hq_17) ⟨hx, hb, hml, hown, hts⟩ (cwV 1 hts (gw_V mt_297 mt_299 mt_21 mt_26 mt_300) rfl rfl rfl hdM_drop ⟨Nat.le_of_ble_eq_true rfl, Nat.le_of_ble_eq_true rfl⟩) hK hP hD hS hA hZ (q0 := 0) (ci := 1) rfl rfl rfl hl.1 rfl (Nat.le_of_ble_eq_true rfl) dM_repair_100 ⟨Nat.zero_le _, Nat.zero_le _⟩ (fun H locs hP hD hS => ?_)
          refine lv_iconst (v := (0 : Int32)) hx hb dM_repair_103 (by decide) ?_
          exact xw_iret (wf := (w_M a cI cZ)) hx hb hr hlocks rfl hK hP hD hS hf dM_repair_104
        · replace hf := it_t hf c_16
          refine lv_aload_n hx hb dM_repair_89 rfl (lv_at hl 2 rfl) ?_
          refine aM_get_to hx hb hts hown hK hP dM_repair_90 ?_
          refine lv_iload_n hx hb dM_repair_93 rfl (lv_at hl 1 rfl) ?_
          refine lv_iload_n hx hb dM_repair_94 rfl (lv_at hl 0 rfl) ?_
          obtain ⟨g_18, hf⟩ := gd_f hf
          refine aM_st_to (σ := q_15.2) (f := (m_to q_15.2)) (x := ((m_hadHost q_4.2) ((m_to q_4.2) q_1.1.toNatClampNeg).toNatClampNeg)) (τ := (m_pto q_15.2 (upd (m_to q_15.2) q_1.1.toNatClampNeg ((m_hadHost q_4.2) ((m_to q_4.2) q_1.1.toNatClampNeg).toNatClampNeg)))) rfl rfl hx hb hK hP hD hS g_18 dM_repair_95 (fun H locs hP hD hS => ?_)
          refine lv_iconst (v := (1 : Int32)) hx hb dM_repair_96 (by decide) ?_
          exact xw_iret (wf := (w_M a cI cZ)) hx hb hr hlocks rfl hK hP hD hS hf dM_repair_97
  · replace hf := it_t hf c_2
    refine lv_iconst (v := (-1 : Int32)) hx hb dM_repair_26 (by decide) ?_
    exact xw_iret (wf := (w_M a cI cZ)) hx hb hr hlocks rfl hK hP hD hS hf dM_repair_27
def gM_chain_28 (K : Nat) : Nat → Int32 → Int32 → Int32 → Int32 → MSt → Option (Int32 × MSt)
  | 0, _, _, _, _, _ => none
  | n + 1, x1, x2, x3, x4, τ => (if x2 ≤ x4 then some (x3, τ) else (if x3 = 0 then some (x3, τ) else ((fM_hostOf K x3 τ).bind fun q_7 => (gM_chain_28 K n x1 x2 q_7.1 (x4 + 1) q_7.2))))
def fM_chain (K : Nat) (p1 p2 : Int32) (σ : MSt) : Option (Int32 × MSt) := ((fM_isLive K p1 (m_pthrown σ (0 : Int32))).bind fun q_1 => (if q_1.1 = 0 then some ((0 : Int32), q_1.2) else (if 0 ≤ p2 then ((fM_hostOf K p1 q_1.2).bind fun q_4 => (gM_chain_28 K K p1 p2 q_4.1 (0 : Int32) q_4.2)) else some ((0 : Int32), q_1.2))))
set_option maxHeartbeats 4000000 in
set_option maxRecDepth 100000 in
theorem kM_chain (l : Launch) (dC : Nat → ClassId) (dI : Nat → Nat → Nat) (a : Nat → Nat) (cI cZ : ClassId) (tb : Nat) (K : Nat) (p1 p2 : Int32) (σ σ' : MSt) (r : Int32) (hf : fM_chain K p1 p2 σ = some (r, σ')) : xw_Ct l yM_chain wdM_chain ({ frames := 1, cells := 0, slots := 0, locals := 22 } : Room) (dC, dI) vwCl [(cI, .int), (cZ, .boolean)] (zz tb) ((w_M a cI cZ) σ) ((w_M a cI cZ) σ') [.ref (a 0), .int p1, .int p2] r := by
  refine xw_ofW (cc := cM_chain) (maxL := 5) (ret := (some .int)) (lv := [(0, .ref (a 0)), (1, .int p1), (2, .int p2)]) (by decide) rfl (Nat.le_of_ble_eq_true rfl) rfl ?_
  intro p e s m below meth c A hAt hP hD hS ls hl
  obtain ⟨hx, hb, hr, hml, hown, hts, hlocks, hK, hZ, hA⟩ := hAt
  replace hts : ∀ w ∈ lw_g, w.before _ s = true := fun w h => hts w (List.mem_cons_of_mem _ h)
  have L_28 : ∀ (n : Nat) (x1 x2 x3 x4 : Int32) (τ : MSt), gM_chain_28 K n x1 x2 x3 x4 τ = some (r, σ') → ∀ (H : Heap) (locs : List Loc), va_P (dC, dI) vwCl ((w_M a cI cZ) τ) H → va_D A ((w_M a cI cZ) τ) → va_S A s.heap H locs → ∀ (ls : Array Slot), lv_has ls 5 [(0, .ref (a 0)), (1, .int x1), (2, .int x2), (3, .int x3), (4, .int x4)] → W p l e ({ frames := 1, cells := 0, slots := 0, locals := 22 } : Room) s m ([.ref (a 0), .int p1, .int p2] : List Value).toArray below meth c H locs 0 0 (MQ below (va_Qi (fun (r2 : Int32) (_ : Unit) => r2 = r) (fun _ t => xw_B (dC, dI) vwCl [(cI, .int), (cZ, .boolean)] A ((w_M a cI cZ) σ') t) A) ([.ref (a 0), .int p1, .int p2] : List Value).toArray s 0 0 A) (F0 m 28 ls []) := by
    intro n
    induction n with
    | zero =>
      intro x1 x2 x3 x4 τ hf
      rw [gM_chain_28] at hf
      cases hf
    | succ n ih =>
      intro x1 x2 x3 x4 τ hf H locs hP hD hS ls hl
      rw [gM_chain_28] at hf
      refine lv_iload hx hb dM_chain_28 (lv_at hl 4 rfl) ?_
      refine lv_iload_n hx hb dM_chain_30 rfl (lv_at hl 2 rfl) ?_
      refine lv_icmp_ge (tgt := 50) hx hb dM_chain_31 (by decide) (fun c_5 => ?_) (fun c_5 => ?_)
      · replace hf := it_t hf c_5
        refine lv_iload_n hx hb dM_chain_50 rfl (lv_at hl 3 rfl) ?_
        exact xw_iret (wf := (w_M a cI cZ)) hx hb hr hlocks rfl hK hP hD hS hf dM_chain_51
      · replace hf := it_f hf c_5
        refine lv_iload_n hx hb dM_chain_34 rfl (lv_at hl 3 rfl) ?_
        refine lv_if_eq (tgt := 50) hx hb dM_chain_35 (by decide) (fun c_6 => ?_) (fun c_6 => ?_)
        · replace hf := it_t hf c_6
          refine lv_iload_n hx hb dM_chain_50 rfl (lv_at hl 3 rfl) ?_
          exact xw_iret (wf := (w_M a cI cZ)) hx hb hr hlocks rfl hK hP hD hS hf dM_chain_51
        · replace hf := it_f hf c_6
          refine lv_aload_n hx hb dM_chain_38 rfl (lv_at hl 0 rfl) ?_
          refine lv_iload_n hx hb dM_chain_39 rfl (lv_at hl 3 rfl) ?_
          obtain ⟨q_7, hq_7, hf⟩ := bd_s hf
          refine xw_callV (kM_hostOf l dC dI a cI cZ tb K x3 τ q_7.2 q_7.1 hq_7) ⟨hx, hb, hml, hown, hts⟩ (cwV 1 hts (gw_V mt_285 mt_287 mt_19 mt_26 mt_288) rfl rfl rfl hdM_hostOf ⟨Nat.le_of_ble_eq_true rfl, Nat.le_of_ble_eq_true rfl⟩) hK hP hD hS hA hZ (q0 := 0) (ci := 1) rfl rfl rfl hl.1 rfl (Nat.le_of_ble_eq_true rfl) dM_chain_40 ⟨Nat.zero_le _, Nat.zero_le _⟩ (fun H locs hP hD hS => ?_)
          refine lv_istore_n (lv' := [(3, .int q_7.1), (0, .ref (a 0)), (1, .int x1), (2, .int x2), (4, .int x4)]) hx hb dM_chain_43 rfl hl (by decide) rfl (fun ls hl => ?_)
          refine lv_iinc (v := (x4 + 1)) (lv' := [(4, .int (x4 + 1)), (3, .int q_7.1), (0, .ref (a 0)), (1, .int x1), (2, .int x2)]) hx hb dM_chain_44 hl (k := 4) rfl (congrArg (HAdd.hAdd _) (by decide : Int32.ofInt (1) = (1 : Int32))) (by decide) rfl (fun ls hl => ?_)
          refine lv_goto (tgt := 28) hx hb dM_chain_47 (by decide) ?_
          exact ih x1 x2 q_7.1 (x4 + 1) q_7.2 hf _ _ hP hD hS _ (lv_sub hl [2, 3, 4, 1, 0] rfl)
  unfold fM_chain at hf
  refine lv_aload_n hx hb dM_chain_0 rfl (lv_at hl 0 rfl) ?_
  refine lv_iconst (v := (0 : Int32)) hx hb dM_chain_1 (by decide) ?_
  refine aM_put_thrown (σ := σ) (v := (0 : Int32)) (τ := (m_pthrown σ (0 : Int32))) rfl hx hb hts hown hK hP hD hS dM_chain_2 (fun H locs hP hD hS => ?_)
  refine lv_aload_n hx hb dM_chain_5 rfl (lv_at hl 0 rfl) ?_
  refine lv_iload_n hx hb dM_chain_6 rfl (lv_at hl 1 rfl) ?_
  obtain ⟨q_1, hq_1, hf⟩ := bd_s hf
  refine xw_callV (kM_isLive l dC dI a cI cZ tb K p1 (m_pthrown σ (0 : Int32)) q_1.2 q_1.1 hq_1) ⟨hx, hb, hml, hown, hts⟩ (cwV 1 hts (gw_V mt_263 mt_265 mt_15 mt_26 mt_266) rfl rfl rfl hdM_isLive ⟨Nat.le_of_ble_eq_true rfl, Nat.le_of_ble_eq_true rfl⟩) hK hP hD hS hA hZ (q0 := 0) (ci := 1) rfl rfl rfl hl.1 rfl (Nat.le_of_ble_eq_true rfl) dM_chain_7 ⟨Nat.zero_le _, Nat.zero_le _⟩ (fun H locs hP hD hS => ?_)
  refine lv_if_eq (tgt := 17) hx hb dM_chain_10 (by decide) (fun c_2 => ?_) (fun c_2 => ?_)
  · replace hf := it_t hf c_2
    refine lv_iconst (v := (0 : Int32)) hx hb dM_chain_17 (by decide) ?_
    exact xw_iret (wf := (w_M a cI cZ)) hx hb hr hlocks rfl hK hP hD hS hf dM_chain_18
  · replace hf := it_f hf c_2
    refine lv_iload_n hx hb dM_chain_13 rfl (lv_at hl 2 rfl) ?_
    refine lv_if_ge (tgt := 19) hx hb dM_chain_14 (by decide) (fun c_3 => ?_) (fun c_3 => ?_)
    · replace hf := it_t hf c_3
      refine lv_aload_n hx hb dM_chain_19 rfl (lv_at hl 0 rfl) ?_
      refine lv_iload_n hx hb dM_chain_20 rfl (lv_at hl 1 rfl) ?_
      obtain ⟨q_4, hq_4, hf⟩ := bd_s hf
      refine xw_callV (kM_hostOf l dC dI a cI cZ tb K p1 q_1.2 q_4.2 q_4.1 hq_4) ⟨hx, hb, hml, hown, hts⟩ (cwV 1 hts (gw_V mt_285 mt_287 mt_19 mt_26 mt_288) rfl rfl rfl hdM_hostOf ⟨Nat.le_of_ble_eq_true rfl, Nat.le_of_ble_eq_true rfl⟩) hK hP hD hS hA hZ (q0 := 0) (ci := 1) rfl rfl rfl hl.1 rfl (Nat.le_of_ble_eq_true rfl) dM_chain_21 ⟨Nat.zero_le _, Nat.zero_le _⟩ (fun H locs hP hD hS => ?_)
      refine lv_istore_n (lv' := [(3, .int q_4.1), (0, .ref (a 0)), (1, .int p1), (2, .int p2)]) hx hb dM_chain_24 rfl hl (by decide) rfl (fun ls hl => ?_)
      refine lv_iconst (v := (0 : Int32)) hx hb dM_chain_25 (by decide) ?_
      refine lv_istore (lv' := [(4, .int (0 : Int32)), (3, .int q_4.1), (0, .ref (a 0)), (1, .int p1), (2, .int p2)]) hx hb dM_chain_26 hl (by decide) rfl (fun ls hl => ?_)
      exact L_28 K p1 p2 q_4.1 (0 : Int32) q_4.2 hf _ _ hP hD hS _ (lv_sub hl [2, 3, 4, 1, 0] rfl)
    · replace hf := it_f hf c_3
      refine lv_iconst (v := (0 : Int32)) hx hb dM_chain_17 (by decide) ?_
      exact xw_iret (wf := (w_M a cI cZ)) hx hb hr hlocks rfl hK hP hD hS hf dM_chain_18
end
section
def fM_ring (K : Nat) (p1 : Int32) (σ : MSt) : Option (Int32 × MSt) := (if p1 < 0 then some ((0 : Int32), (m_pthrown σ (0 : Int32))) else (if p1 < (m_ringLength σ) then (if p1 < 0 ∨ 61 ≤ p1.toNatClampNeg then none else some (((m_ring σ) p1.toNatClampNeg), (m_pthrown σ (0 : Int32)))) else some ((0 : Int32), (m_pthrown σ (0 : Int32)))))
set_option maxHeartbeats 4000000 in
set_option maxRecDepth 100000 in
theorem kM_ring (l : Launch) (dC : Nat → ClassId) (dI : Nat → Nat → Nat) (a : Nat → Nat) (cI cZ : ClassId) (tb : Nat) (K : Nat) (p1 : Int32) (σ σ' : MSt) (r : Int32) (hf : fM_ring K p1 σ = some (r, σ')) : xw_Ct l yM_ring wdM_ring ({ frames := 0, cells := 0, slots := 0, locals := 0 } : Room) (dC, dI) vwCl [(cI, .int), (cZ, .boolean)] (zz tb) ((w_M a cI cZ) σ) ((w_M a cI cZ) σ') [.ref (a 0), .int p1] r := by
  refine xw_ofW (cc := cM_ring) (maxL := 2) (ret := (some .int)) (lv := [(0, .ref (a 0)), (1, .int p1)]) (by decide) rfl (Nat.le_of_ble_eq_true rfl) rfl ?_
  intro p e s m below meth c A hAt hP hD hS ls hl
  obtain ⟨hx, hb, hr, hml, hown, hts, hlocks, hK, hZ, hA⟩ := hAt
  replace hts : ∀ w ∈ lw_g, w.before _ s = true := fun w h => hts w (List.mem_cons_of_mem _ h)
  unfold fM_ring at hf
  refine lv_aload_n hx hb dM_ring_0 rfl (lv_at hl 0 rfl) ?_
  refine lv_iconst (v := (0 : Int32)) hx hb dM_ring_1 (by decide) ?_
  refine aM_put_thrown (σ := σ) (v := (0 : Int32)) (τ := (m_pthrown σ (0 : Int32))) rfl hx hb hts hown hK hP hD hS dM_ring_2 (fun H locs hP hD hS => ?_)
  refine lv_iload_n hx hb dM_ring_5 rfl (lv_at hl 1 rfl) ?_
  refine lv_if_lt (tgt := 17) hx hb dM_ring_6 (by decide) (fun c_1 => ?_) (fun c_1 => ?_)
  · replace hf := it_t hf c_1
    refine lv_iconst (v := (0 : Int32)) hx hb dM_ring_17 (by decide) ?_
    refine lv_goto (tgt := 27) hx hb dM_ring_18 (by decide) ?_
    exact xw_iret (wf := (w_M a cI cZ)) hx hb hr hlocks rfl hK hP hD hS hf dM_ring_27
  · replace hf := it_f hf c_1
    refine lv_iload_n hx hb dM_ring_9 rfl (lv_at hl 1 rfl) ?_
    refine lv_aload_n hx hb dM_ring_10 rfl (lv_at hl 0 rfl) ?_
    refine aM_get_ringLength (σ := (m_pthrown σ (0 : Int32))) (v := (m_ringLength σ)) rfl hx hb hts hown hK hP dM_ring_11 ?_
    refine lv_icmp_lt (tgt := 21) hx hb dM_ring_14 (by decide) (fun c_2 => ?_) (fun c_2 => ?_)
    · replace hf := it_t hf c_2
      refine lv_aload_n hx hb dM_ring_21 rfl (lv_at hl 0 rfl) ?_
      refine aM_get_ring hx hb hts hown hK hP dM_ring_22 ?_
      refine lv_iload_n hx hb dM_ring_25 rfl (lv_at hl 1 rfl) ?_
      obtain ⟨g_3, hf⟩ := gd_f hf
      refine aM_ld_ring (σ := (m_pthrown σ (0 : Int32))) (f := (m_ring σ)) rfl hx hb hK hP g_3 dM_ring_26 ?_
      exact xw_iret (wf := (w_M a cI cZ)) hx hb hr hlocks rfl hK hP hD hS hf dM_ring_27
    · replace hf := it_f hf c_2
      refine lv_iconst (v := (0 : Int32)) hx hb dM_ring_17 (by decide) ?_
      refine lv_goto (tgt := 27) hx hb dM_ring_18 (by decide) ?_
      exact xw_iret (wf := (w_M a cI cZ)) hx hb hr hlocks rfl hK hP hD hS hf dM_ring_27
def fM_host (K : Nat) (p1 : Int32) (σ : MSt) : Option (Int32 × MSt) := ((fM_isLive K p1 (m_pthrown σ (0 : Int32))).bind fun q_1 => (if q_1.1 = 0 then some ((0 : Int32), q_1.2) else ((fM_hostOf K p1 q_1.2).bind fun q_3 => some (q_3.1, q_3.2))))
set_option maxHeartbeats 4000000 in
set_option maxRecDepth 100000 in
theorem kM_host (l : Launch) (dC : Nat → ClassId) (dI : Nat → Nat → Nat) (a : Nat → Nat) (cI cZ : ClassId) (tb : Nat) (K : Nat) (p1 : Int32) (σ σ' : MSt) (r : Int32) (hf : fM_host K p1 σ = some (r, σ')) : xw_Ct l yM_host wdM_host ({ frames := 1, cells := 0, slots := 0, locals := 22 } : Room) (dC, dI) vwCl [(cI, .int), (cZ, .boolean)] (zz tb) ((w_M a cI cZ) σ) ((w_M a cI cZ) σ') [.ref (a 0), .int p1] r := by
  refine xw_ofW (cc := cM_host) (maxL := 2) (ret := (some .int)) (lv := [(0, .ref (a 0)), (1, .int p1)]) (by decide) rfl (Nat.le_of_ble_eq_true rfl) rfl ?_
  intro p e s m below meth c A hAt hP hD hS ls hl
  obtain ⟨hx, hb, hr, hml, hown, hts, hlocks, hK, hZ, hA⟩ := hAt
  replace hts : ∀ w ∈ lw_g, w.before _ s = true := fun w h => hts w (List.mem_cons_of_mem _ h)
  unfold fM_host at hf
  refine lv_aload_n hx hb dM_host_0 rfl (lv_at hl 0 rfl) ?_
  refine lv_iconst (v := (0 : Int32)) hx hb dM_host_1 (by decide) ?_
  refine aM_put_thrown (σ := σ) (v := (0 : Int32)) (τ := (m_pthrown σ (0 : Int32))) rfl hx hb hts hown hK hP hD hS dM_host_2 (fun H locs hP hD hS => ?_)
  refine lv_aload_n hx hb dM_host_5 rfl (lv_at hl 0 rfl) ?_
  refine lv_iload_n hx hb dM_host_6 rfl (lv_at hl 1 rfl) ?_
  obtain ⟨q_1, hq_1, hf⟩ := bd_s hf
  refine xw_callV (kM_isLive l dC dI a cI cZ tb K p1 (m_pthrown σ (0 : Int32)) q_1.2 q_1.1 hq_1) ⟨hx, hb, hml, hown, hts⟩ (cwV 1 hts (gw_V mt_263 mt_265 mt_15 mt_26 mt_266) rfl rfl rfl hdM_isLive ⟨Nat.le_of_ble_eq_true rfl, Nat.le_of_ble_eq_true rfl⟩) hK hP hD hS hA hZ (q0 := 0) (ci := 1) rfl rfl rfl hl.1 rfl (Nat.le_of_ble_eq_true rfl) dM_host_7 ⟨Nat.zero_le _, Nat.zero_le _⟩ (fun H locs hP hD hS => ?_)
  refine lv_if_eq (tgt := 21) hx hb dM_host_10 (by decide) (fun c_2 => ?_) (fun c_2 => ?_)
  · replace hf := it_t hf c_2
    refine lv_iconst (v := (0 : Int32)) hx hb dM_host_21 (by decide) ?_
    exact xw_iret (wf := (w_M a cI cZ)) hx hb hr hlocks rfl hK hP hD hS hf dM_host_22
  · replace hf := it_f hf c_2
    refine lv_aload_n hx hb dM_host_13 rfl (lv_at hl 0 rfl) ?_
    refine lv_iload_n hx hb dM_host_14 rfl (lv_at hl 1 rfl) ?_
    obtain ⟨q_3, hq_3, hf⟩ := bd_s hf
    refine xw_callV (kM_hostOf l dC dI a cI cZ tb K p1 q_1.2 q_3.2 q_3.1 hq_3) ⟨hx, hb, hml, hown, hts⟩ (cwV 1 hts (gw_V mt_285 mt_287 mt_19 mt_26 mt_288) rfl rfl rfl hdM_hostOf ⟨Nat.le_of_ble_eq_true rfl, Nat.le_of_ble_eq_true rfl⟩) hK hP hD hS hA hZ (q0 := 0) (ci := 1) rfl rfl rfl hl.1 rfl (Nat.le_of_ble_eq_true rfl) dM_host_15 ⟨Nat.zero_le _, Nat.zero_le _⟩ (fun H locs hP hD hS => ?_)
    refine lv_goto (tgt := 22) hx hb dM_host_18 (by decide) ?_
    exact xw_iret (wf := (w_M a cI cZ)) hx hb hr hlocks rfl hK hP hD hS hf dM_host_22
def gM_move_40 (K : Nat) : Nat → Int32 → Int32 → Int32 → Int32 → MSt → Option (Int32 × MSt)
  | 0, _, _, _, _, _ => none
  | n + 1, x1, x2, x3, x4, τ => (if (m_records τ) < x4 then some (x3, τ) else (if x4 < 0 ∨ 61 ≤ x4.toNatClampNeg then none else (if ((m_live τ) x4.toNatClampNeg) = 0 then (gM_move_40 K n x1 x2 x3 (x4 + 1) τ) else ((fM_liesIn K x4 x1 τ).bind fun q_8 => (if q_8.1 = 0 then (gM_move_40 K n x1 x2 x3 (x4 + 1) q_8.2) else (if x4 < 0 ∨ 61 ≤ x4.toNatClampNeg then none else (if ((m_houses q_8.2) x4.toNatClampNeg) = x2 then (if x4 < 0 ∨ 61 ≤ x4.toNatClampNeg then none else (gM_move_40 K n x1 x2 (x3 + (0 : Int32)) (x4 + 1) (m_phouses q_8.2 (upd (m_houses q_8.2) x4.toNatClampNeg x2)))) else (if x4 < 0 ∨ 61 ≤ x4.toNatClampNeg then none else (gM_move_40 K n x1 x2 (x3 + (1 : Int32)) (x4 + 1) (m_phouses q_8.2 (upd (m_houses q_8.2) x4.toNatClampNeg x2)))))))))))
def fM_move (K : Nat) (p1 p2 : Int32) (σ : MSt) : Option (Int32 × MSt) := ((fM_isLive K p1 (m_pmoment (m_pthrown σ (0 : Int32)) ((m_moment σ) + (1 : Int32)))).bind fun q_1 => (if q_1.1 = 0 then some ((0 : Int32), q_1.2) else (if p2 < 0 then some ((0 : Int32), q_1.2) else (if p2 ≤ (9 : Int32) then (gM_move_40 K K p1 p2 (0 : Int32) (1 : Int32) q_1.2) else some ((0 : Int32), q_1.2)))))
set_option maxHeartbeats 4000000 in
set_option maxRecDepth 100000 in
theorem kM_move (l : Launch) (dC : Nat → ClassId) (dI : Nat → Nat → Nat) (a : Nat → Nat) (cI cZ : ClassId) (tb : Nat) (K : Nat) (p1 p2 : Int32) (σ σ' : MSt) (r : Int32) (hf : fM_move K p1 p2 σ = some (r, σ')) : xw_Ct l yM_move wdM_move ({ frames := 2, cells := 0, slots := 0, locals := 45 } : Room) (dC, dI) vwCl [(cI, .int), (cZ, .boolean)] (zz tb) ((w_M a cI cZ) σ) ((w_M a cI cZ) σ') [.ref (a 0), .int p1, .int p2] r := by
  refine xw_ofW (cc := cM_move) (maxL := 5) (ret := (some .int)) (lv := [(0, .ref (a 0)), (1, .int p1), (2, .int p2)]) (by decide) rfl (Nat.le_of_ble_eq_true rfl) rfl ?_
  intro p e s m below meth c A hAt hP hD hS ls hl
  obtain ⟨hx, hb, hr, hml, hown, hts, hlocks, hK, hZ, hA⟩ := hAt
  replace hts : ∀ w ∈ lw_g, w.before _ s = true := fun w h => hts w (List.mem_cons_of_mem _ h)
  have L_40 : ∀ (n : Nat) (x1 x2 x3 x4 : Int32) (τ : MSt), gM_move_40 K n x1 x2 x3 x4 τ = some (r, σ') → ∀ (H : Heap) (locs : List Loc), va_P (dC, dI) vwCl ((w_M a cI cZ) τ) H → va_D A ((w_M a cI cZ) τ) → va_S A s.heap H locs → ∀ (ls : Array Slot), lv_has ls 5 [(0, .ref (a 0)), (1, .int x1), (2, .int x2), (3, .int x3), (4, .int x4)] → W p l e ({ frames := 2, cells := 0, slots := 0, locals := 45 } : Room) s m ([.ref (a 0), .int p1, .int p2] : List Value).toArray below meth c H locs 0 0 (MQ below (va_Qi (fun (r2 : Int32) (_ : Unit) => r2 = r) (fun _ t => xw_B (dC, dI) vwCl [(cI, .int), (cZ, .boolean)] A ((w_M a cI cZ) σ') t) A) ([.ref (a 0), .int p1, .int p2] : List Value).toArray s 0 0 A) (F0 m 40 ls []) := by
    intro n
    induction n with
    | zero =>
      intro x1 x2 x3 x4 τ hf
      rw [gM_move_40] at hf
      cases hf
    | succ n ih =>
      intro x1 x2 x3 x4 τ hf H locs hP hD hS ls hl
      rw [gM_move_40] at hf
      refine lv_iload hx hb dM_move_40 (lv_at hl 4 rfl) ?_
      refine lv_aload_n hx hb dM_move_42 rfl (lv_at hl 0 rfl) ?_
      refine aM_get_records (σ := τ) (v := (m_records τ)) rfl hx hb hts hown hK hP dM_move_43 ?_
      refine lv_icmp_gt (tgt := 102) hx hb dM_move_46 (by decide) (fun c_5 => ?_) (fun c_5 => ?_)
      · replace hf := it_t hf c_5
        refine lv_iload_n hx hb dM_move_102 rfl (lv_at hl 3 rfl) ?_
        exact xw_iret (wf := (w_M a cI cZ)) hx hb hr hlocks rfl hK hP hD hS hf dM_move_103
      · replace hf := it_f hf c_5
        refine lv_aload_n hx hb dM_move_49 rfl (lv_at hl 0 rfl) ?_
        refine aM_get_live hx hb hts hown hK hP dM_move_50 ?_
        refine lv_iload hx hb dM_move_53 (lv_at hl 4 rfl) ?_
        obtain ⟨g_6, hf⟩ := gd_f hf
        refine aM_ld_live (σ := τ) (f := (m_live τ)) rfl hx hb hK hP g_6 dM_move_55 ?_
        refine lv_if_eq (tgt := 96) hx hb dM_move_56 (by decide) (fun c_7 => ?_) (fun c_7 => ?_)
        · replace hf := it_t hf c_7
          refine lv_iinc (v := (x4 + 1)) (lv' := [(4, .int (x4 + 1)), (0, .ref (a 0)), (1, .int x1), (2, .int x2), (3, .int x3)]) hx hb dM_move_96 hl (k := 4) rfl (congrArg (HAdd.hAdd _) (by decide : Int32.ofInt (1) = (1 : Int32))) (by decide) rfl (fun ls hl => ?_)
          refine lv_goto (tgt := 40) hx hb dM_move_99 (by decide) ?_
          exact ih x1 x2 x3 (x4 + 1) τ hf _ _ hP hD hS _ (lv_sub hl [1, 2, 3, 4, 0] rfl)
        · replace hf := it_f hf c_7
          refine lv_aload_n hx hb dM_move_59 rfl (lv_at hl 0 rfl) ?_
          refine lv_iload hx hb dM_move_60 (lv_at hl 4 rfl) ?_
          refine lv_iload_n hx hb dM_move_62 rfl (lv_at hl 1 rfl) ?_
          obtain ⟨q_8, hq_8, hf⟩ := bd_s hf
          refine xw_callV (kM_liesIn l dC dI a cI cZ tb K x4 x1 τ q_8.2 q_8.1 hq_8) ⟨hx, hb, hml, hown, hts⟩ (cwV 2 hts (gw_V mt_281 mt_283 mt_18 mt_26 mt_284) rfl rfl rfl hdM_liesIn ⟨Nat.le_of_ble_eq_true rfl, Nat.le_of_ble_eq_true rfl⟩) hK hP hD hS hA hZ (q0 := 0) (ci := 1) rfl rfl rfl hl.1 rfl (Nat.le_of_ble_eq_true rfl) dM_move_63 ⟨Nat.zero_le _, Nat.zero_le _⟩ (fun H locs hP hD hS => ?_)
          refine lv_if_eq (tgt := 96) hx hb dM_move_66 (by decide) (fun c_9 => ?_) (fun c_9 => ?_)
          · replace hf := it_t hf c_9
            refine lv_iinc (v := (x4 + 1)) (lv' := [(4, .int (x4 + 1)), (0, .ref (a 0)), (1, .int x1), (2, .int x2), (3, .int x3)]) hx hb dM_move_96 hl (k := 4) rfl (congrArg (HAdd.hAdd _) (by decide : Int32.ofInt (1) = (1 : Int32))) (by decide) rfl (fun ls hl => ?_)
            refine lv_goto (tgt := 40) hx hb dM_move_99 (by decide) ?_
            exact ih x1 x2 x3 (x4 + 1) q_8.2 hf _ _ hP hD hS _ (lv_sub hl [1, 2, 3, 4, 0] rfl)
          · replace hf := it_f hf c_9
            refine lv_iload_n hx hb dM_move_69 rfl (lv_at hl 3 rfl) ?_
            refine lv_aload_n hx hb dM_move_70 rfl (lv_at hl 0 rfl) ?_
            refine aM_get_houses hx hb hts hown hK hP dM_move_71 ?_
            refine lv_iload hx hb dM_move_74 (lv_at hl 4 rfl) ?_
            obtain ⟨g_10, hf⟩ := gd_f hf
            refine aM_ld_houses (σ := q_8.2) (f := (m_houses q_8.2)) rfl hx hb hK hP g_10 dM_move_76 ?_
            refine lv_iload_n hx hb dM_move_77 rfl (lv_at hl 2 rfl) ?_
            refine lv_icmp_eq (tgt := 85) hx hb dM_move_78 (by decide) (fun c_11 => ?_) (fun c_11 => ?_)
            · replace hf := it_t hf c_11
              refine lv_iconst (v := (0 : Int32)) hx hb dM_move_85 (by decide) ?_
              refine lv_iadd hx hb dM_move_86 ?_
              refine lv_istore_n (lv' := [(3, .int (x3 + (0 : Int32))), (0, .ref (a 0)), (1, .int x1), (2, .int x2), (4, .int x4)]) hx hb dM_move_87 rfl hl (by decide) rfl (fun ls hl => ?_)
              refine lv_aload_n hx hb dM_move_88 rfl (lv_at hl 1 rfl) ?_
              refine aM_get_houses hx hb hts hown hK hP dM_move_89 ?_
              refine lv_iload hx hb dM_move_92 (lv_at hl 4 rfl) ?_
              refine lv_iload_n hx hb dM_move_94 rfl (lv_at hl 3 rfl) ?_
              obtain ⟨g_12, hf⟩ := gd_f hf
              refine aM_st_houses (σ := q_8.2) (f := (m_houses q_8.2)) (x := x2) (τ := (m_phouses q_8.2 (upd (m_houses q_8.2) x4.toNatClampNeg x2))) rfl rfl hx hb hK hP hD hS g_12 dM_move_95 (fun H locs hP hD hS => ?_)
              refine lv_iinc (v := (x4 + 1)) (lv' := [(4, .int (x4 + 1)), (3, .int (x3 + (0 : Int32))), (0, .ref (a 0)), (1, .int x1), (2, .int x2)]) hx hb dM_move_96 hl (k := 4) rfl (congrArg (HAdd.hAdd _) (by decide : Int32.ofInt (1) = (1 : Int32))) (by decide) rfl (fun ls hl => ?_)
              refine lv_goto (tgt := 40) hx hb dM_move_99 (by decide) ?_
              exact ih x1 x2 (x3 + (0 : Int32)) (x4 + 1) (m_phouses q_8.2 (upd (m_houses q_8.2) x4.toNatClampNeg x2)) hf _ _ hP hD hS _ (lv_sub hl [2, 3, 4, 1, 0] rfl)
            · replace hf := it_f hf c_11
              refine lv_iconst (v := (1 : Int32)) hx hb dM_move_81 (by decide) ?_
              refine lv_goto (tgt := 86) hx hb dM_move_82 (by decide) ?_
              refine lv_iadd hx hb dM_move_86 ?_
              refine lv_istore_n (lv' := [(3, .int (x3 + (1 : Int32))), (0, .ref (a 0)), (1, .int x1), (2, .int x2), (4, .int x4)]) hx hb dM_move_87 rfl hl (by decide) rfl (fun ls hl => ?_)
              refine lv_aload_n hx hb dM_move_88 rfl (lv_at hl 1 rfl) ?_
              refine aM_get_houses hx hb hts hown hK hP dM_move_89 ?_
              refine lv_iload hx hb dM_move_92 (lv_at hl 4 rfl) ?_
              refine lv_iload_n hx hb dM_move_94 rfl (lv_at hl 3 rfl) ?_
              obtain ⟨g_13, hf⟩ := gd_f hf
              refine aM_st_houses (σ := q_8.2) (f := (m_houses q_8.2)) (x := x2) (τ := (m_phouses q_8.2 (upd (m_houses q_8.2) x4.toNatClampNeg x2))) rfl rfl hx hb hK hP hD hS g_13 dM_move_95 (fun H locs hP hD hS => ?_)
              refine lv_iinc (v := (x4 + 1)) (lv' := [(4, .int (x4 + 1)), (3, .int (x3 + (1 : Int32))), (0, .ref (a 0)), (1, .int x1), (2, .int x2)]) hx hb dM_move_96 hl (k := 4) rfl (congrArg (HAdd.hAdd _) (by decide : Int32.ofInt (1) = (1 : Int32))) (by decide) rfl (fun ls hl => ?_)
              refine lv_goto (tgt := 40) hx hb dM_move_99 (by decide) ?_
              exact ih x1 x2 (x3 + (1 : Int32)) (x4 + 1) (m_phouses q_8.2 (upd (m_houses q_8.2) x4.toNatClampNeg x2)) hf _ _ hP hD hS _ (lv_sub hl [2, 3, 4, 1, 0] rfl)
  unfold fM_move at hf
  refine lv_aload_n hx hb dM_move_0 rfl (lv_at hl 0 rfl) ?_
  refine lv_iconst (v := (0 : Int32)) hx hb dM_move_1 (by decide) ?_
  refine aM_put_thrown (σ := σ) (v := (0 : Int32)) (τ := (m_pthrown σ (0 : Int32))) rfl hx hb hts hown hK hP hD hS dM_move_2 (fun H locs hP hD hS => ?_)
  refine lv_aload_n hx hb dM_move_5 rfl (lv_at hl 0 rfl) ?_
  refine lv_dup hx hb dM_move_6 rfl ?_
  refine aM_get_moment (σ := (m_pthrown σ (0 : Int32))) (v := (m_moment σ)) rfl hx hb hts hown hK hP dM_move_7 ?_
  refine lv_iconst (v := (1 : Int32)) hx hb dM_move_10 (by decide) ?_
  refine lv_iadd hx hb dM_move_11 ?_
  refine aM_put_moment (σ := (m_pthrown σ (0 : Int32))) (v := ((m_moment σ) + (1 : Int32))) (τ := (m_pmoment (m_pthrown σ (0 : Int32)) ((m_moment σ) + (1 : Int32)))) rfl hx hb hts hown hK hP hD hS dM_move_12 (fun H locs hP hD hS => ?_)
  refine lv_aload_n hx hb dM_move_15 rfl (lv_at hl 0 rfl) ?_
  refine lv_iload_n hx hb dM_move_16 rfl (lv_at hl 1 rfl) ?_
  obtain ⟨q_1, hq_1, hf⟩ := bd_s hf
  refine xw_callV (kM_isLive l dC dI a cI cZ tb K p1 (m_pmoment (m_pthrown σ (0 : Int32)) ((m_moment σ) + (1 : Int32))) q_1.2 q_1.1 hq_1) ⟨hx, hb, hml, hown, hts⟩ (cwV 1 hts (gw_V mt_263 mt_265 mt_15 mt_26 mt_266) rfl rfl rfl hdM_isLive ⟨Nat.le_of_ble_eq_true rfl, Nat.le_of_ble_eq_true rfl⟩) hK hP hD hS hA hZ (q0 := 0) (ci := 1) rfl rfl rfl hl.1 rfl (Nat.le_of_ble_eq_true rfl) dM_move_17 ⟨Nat.zero_le _, Nat.zero_le _⟩ (fun H locs hP hD hS => ?_)
  refine lv_if_eq (tgt := 33) hx hb dM_move_20 (by decide) (fun c_2 => ?_) (fun c_2 => ?_)
  · replace hf := it_t hf c_2
    refine lv_iconst (v := (0 : Int32)) hx hb dM_move_33 (by decide) ?_
    exact xw_iret (wf := (w_M a cI cZ)) hx hb hr hlocks rfl hK hP hD hS hf dM_move_34
  · replace hf := it_f hf c_2
    refine lv_iload_n hx hb dM_move_23 rfl (lv_at hl 2 rfl) ?_
    refine lv_if_lt (tgt := 33) hx hb dM_move_24 (by decide) (fun c_3 => ?_) (fun c_3 => ?_)
    · replace hf := it_t hf c_3
      refine lv_iconst (v := (0 : Int32)) hx hb dM_move_33 (by decide) ?_
      exact xw_iret (wf := (w_M a cI cZ)) hx hb hr hlocks rfl hK hP hD hS hf dM_move_34
    · replace hf := it_f hf c_3
      refine lv_iload_n hx hb dM_move_27 rfl (lv_at hl 2 rfl) ?_
      refine lv_bipush (v := (9 : Int32)) hx hb dM_move_28 (by decide) ?_
      refine lv_icmp_le (tgt := 35) hx hb dM_move_30 (by decide) (fun c_4 => ?_) (fun c_4 => ?_)
      · replace hf := it_t hf c_4
        refine lv_iconst (v := (0 : Int32)) hx hb dM_move_35 (by decide) ?_
        refine lv_istore_n (lv' := [(3, .int (0 : Int32)), (0, .ref (a 0)), (1, .int p1), (2, .int p2)]) hx hb dM_move_36 rfl hl (by decide) rfl (fun ls hl => ?_)
        refine lv_iconst (v := (1 : Int32)) hx hb dM_move_37 (by decide) ?_
        refine lv_istore (lv' := [(4, .int (1 : Int32)), (3, .int (0 : Int32)), (0, .ref (a 0)), (1, .int p1), (2, .int p2)]) hx hb dM_move_38 hl (by decide) rfl (fun ls hl => ?_)
        exact L_40 K p1 p2 (0 : Int32) (1 : Int32) q_1.2 hf _ _ hP hD hS _ (lv_sub hl [2, 3, 4, 1, 0] rfl)
      · replace hf := it_f hf c_4
        refine lv_iconst (v := (0 : Int32)) hx hb dM_move_33 (by decide) ?_
        exact xw_iret (wf := (w_M a cI cZ)) hx hb hr hlocks rfl hK hP hD hS hf dM_move_34
def gM_delete_97 (K : Nat) (k : Int32 → Int32 → Int32 → MSt → Option (Int32 × MSt)) : Nat → Int32 → Int32 → Int32 → MSt → Option (Int32 × MSt)
  | 0, _, _, _, _ => none
  | n2 + 1, x1, x2, x3, τ => (if (m_links τ) ≤ x3 then some ((1 : Int32), τ) else (if x3 < 0 ∨ 200 ≤ x3.toNatClampNeg then none else (if ((m_from τ) x3.toNatClampNeg) = x1 then ((fM_changed K x1 τ).bind fun q_11 => ((fM_drop K x3 q_11.2).bind fun q_12 => (gM_delete_97 K k n2 x1 x2 x3 q_12.2))) else (gM_delete_97 K k n2 x1 x2 (x3 + 1) τ))))
def gM_delete_29 (K : Nat) : Nat → Int32 → Int32 → Int32 → MSt → Option (Int32 × MSt)
  | 0, _, _, _, _ => none
  | n + 1, x1, x2, x3, τ => (if (m_links τ) ≤ x3 then (if x2 ≤ 0 then ((fM_hostOf K x1 τ).bind fun q_5 => (if x1 < 0 ∨ 61 ≤ x1.toNatClampNeg then none else (if x1 < 0 ∨ 61 ≤ x1.toNatClampNeg then none else (gM_delete_97 K (fun (y0 y1 y2 : Int32) (t : MSt) => gM_delete_29 K n y0 y1 y2 t) K x1 x2 (0 : Int32) (m_phadHost (m_plive q_5.2 (upd (m_live q_5.2) x1.toNatClampNeg (vp_nar .boolean (0 : Int32)))) (upd (m_hadHost q_5.2) x1.toNatClampNeg q_5.1)))))) else some ((-x2), τ)) else (if x3 < 0 ∨ 200 ≤ x3.toNatClampNeg then none else (if ((m_field τ) x3.toNatClampNeg) = 0 then (if x3 < 0 ∨ 200 ≤ x3.toNatClampNeg then none else (if ((m_to τ) x3.toNatClampNeg) = x1 then (gM_delete_29 K n x1 (x2 + (1 : Int32)) (x3 + 1) τ) else (gM_delete_29 K n x1 (x2 + (0 : Int32)) (x3 + 1) τ))) else (gM_delete_29 K n x1 (x2 + (0 : Int32)) (x3 + 1) τ))))
def fM_delete (K : Nat) (p1 : Int32) (σ : MSt) : Option (Int32 × MSt) := ((fM_isLive K p1 (m_pmoment (m_pthrown σ (0 : Int32)) ((m_moment σ) + (1 : Int32)))).bind fun q_1 => (if q_1.1 = 0 then some ((0 : Int32), q_1.2) else (gM_delete_29 K K p1 (0 : Int32) (0 : Int32) q_1.2)))
set_option maxHeartbeats 4000000 in
set_option maxRecDepth 100000 in
theorem kM_delete (l : Launch) (dC : Nat → ClassId) (dI : Nat → Nat → Nat) (a : Nat → Nat) (cI cZ : ClassId) (tb : Nat) (K : Nat) (p1 : Int32) (σ σ' : MSt) (r : Int32) (hf : fM_delete K p1 σ = some (r, σ')) : xw_Ct l yM_delete wdM_delete ({ frames := 1, cells := 0, slots := 0, locals := 22 } : Room) (dC, dI) vwCl [(cI, .int), (cZ, .boolean)] (zz tb) ((w_M a cI cZ) σ) ((w_M a cI cZ) σ') [.ref (a 0), .int p1] r := by
  refine xw_ofW (cc := cM_delete) (maxL := 4) (ret := (some .int)) (lv := [(0, .ref (a 0)), (1, .int p1)]) (by decide) rfl (Nat.le_of_ble_eq_true rfl) rfl ?_
  intro p e s m below meth c A hAt hP hD hS ls hl
  obtain ⟨hx, hb, hr, hml, hown, hts, hlocks, hK, hZ, hA⟩ := hAt
  replace hts : ∀ w ∈ lw_g, w.before _ s = true := fun w h => hts w (List.mem_cons_of_mem _ h)
  have L_29 : ∀ (n : Nat) (x1 x2 x3 : Int32) (τ : MSt), gM_delete_29 K n x1 x2 x3 τ = some (r, σ') → ∀ (H : Heap) (locs : List Loc), va_P (dC, dI) vwCl ((w_M a cI cZ) τ) H → va_D A ((w_M a cI cZ) τ) → va_S A s.heap H locs → ∀ (ls : Array Slot), lv_has ls 4 [(0, .ref (a 0)), (1, .int x1), (2, .int x2), (3, .int x3)] → W p l e ({ frames := 1, cells := 0, slots := 0, locals := 22 } : Room) s m ([.ref (a 0), .int p1] : List Value).toArray below meth c H locs 0 0 (MQ below (va_Qi (fun (r2 : Int32) (_ : Unit) => r2 = r) (fun _ t => xw_B (dC, dI) vwCl [(cI, .int), (cZ, .boolean)] A ((w_M a cI cZ) σ') t) A) ([.ref (a 0), .int p1] : List Value).toArray s 0 0 A) (F0 m 29 ls []) := by
    intro n
    induction n with
    | zero =>
      intro x1 x2 x3 τ hf
      rw [gM_delete_29] at hf
      cases hf
    | succ n ih =>
      intro x1 x2 x3 τ hf H locs hP hD hS ls hl
      rw [gM_delete_29] at hf
      have L_97 : ∀ (n2 : Nat) (x1 x2 x3 : Int32) (τ : MSt), gM_delete_97 K (fun (y0 y1 y2 : Int32) (t : MSt) => gM_delete_29 K n y0 y1 y2 t) n2 x1 x2 x3 τ = some (r, σ') → ∀ (H : Heap) (locs : List Loc), va_P (dC, dI) vwCl ((w_M a cI cZ) τ) H → va_D A ((w_M a cI cZ) τ) → va_S A s.heap H locs → ∀ (ls : Array Slot), lv_has ls 4 [(0, .ref (a 0)), (1, .int x1), (2, .int x2), (3, .int x3)] → W p l e ({ frames := 1, cells := 0, slots := 0, locals := 22 } : Room) s m ([.ref (a 0), .int p1] : List Value).toArray below meth c H locs 0 0 (MQ below (va_Qi (fun (r2 : Int32) (_ : Unit) => r2 = r) (fun _ t => xw_B (dC, dI) vwCl [(cI, .int), (cZ, .boolean)] A ((w_M a cI cZ) σ') t) A) ([.ref (a 0), .int p1] : List Value).toArray s 0 0 A) (F0 m 97 ls []) := by
        intro n2
        induction n2 with
        | zero =>
          intro x1 x2 x3 τ hf
          rw [gM_delete_97] at hf
          cases hf
        | succ n2 ih2 =>
          intro x1 x2 x3 τ hf H locs hP hD hS ls hl
          rw [gM_delete_97] at hf
          refine lv_iload_n hx hb dM_delete_97 rfl (lv_at hl 3 rfl) ?_
          refine lv_aload_n hx hb dM_delete_98 rfl (lv_at hl 0 rfl) ?_
          refine aM_get_links (σ := τ) (v := (m_links τ)) rfl hx hb hts hown hK hP dM_delete_99 ?_
          refine lv_icmp_ge (tgt := 134) hx hb dM_delete_102 (by decide) (fun c_8 => ?_) (fun c_8 => ?_)
          · replace hf := it_t hf c_8
            refine lv_iconst (v := (1 : Int32)) hx hb dM_delete_134 (by decide) ?_
            exact xw_iret (wf := (w_M a cI cZ)) hx hb hr hlocks rfl hK hP hD hS hf dM_delete_135
          · replace hf := it_f hf c_8
            refine lv_aload_n hx hb dM_delete_105 rfl (lv_at hl 0 rfl) ?_
            refine aM_get_from hx hb hts hown hK hP dM_delete_106 ?_
            refine lv_iload_n hx hb dM_delete_109 rfl (lv_at hl 3 rfl) ?_
            obtain ⟨g_9, hf⟩ := gd_f hf
            refine aM_ld_from (σ := τ) (f := (m_from τ)) rfl hx hb hK hP g_9 dM_delete_110 ?_
            refine lv_iload_n hx hb dM_delete_111 rfl (lv_at hl 1 rfl) ?_
            refine lv_icmp_ne (tgt := 128) hx hb dM_delete_112 (by decide) (fun c_10 => ?_) (fun c_10 => ?_)
            · replace hf := it_f hf c_10
              refine lv_iinc (v := (x3 + 1)) (lv' := [(3, .int (x3 + 1)), (0, .ref (a 0)), (1, .int x1), (2, .int x2)]) hx hb dM_delete_128 hl (k := 3) rfl (congrArg (HAdd.hAdd _) (by decide : Int32.ofInt (1) = (1 : Int32))) (by decide) rfl (fun ls hl => ?_)
              refine lv_goto (tgt := 97) hx hb dM_delete_131 (by decide) ?_
              exact ih2 x1 x2 (x3 + 1) τ hf _ _ hP hD hS _ (lv_sub hl [1, 2, 3, 0] rfl)
            · replace hf := it_t hf c_10
              refine lv_aload_n hx hb dM_delete_115 rfl (lv_at hl 0 rfl) ?_
              refine lv_iload_n hx hb dM_delete_116 rfl (lv_at hl 1 rfl) ?_
              obtain ⟨q_11, hq_11, hf⟩ := bd_s hf
              refine xw_callVv (kM_changed l dC dI a cI cZ tb K x1 τ q_11.2 q_11.1 hq_11) ⟨hx, hb, hml, hown, hts⟩ (cwV 1 hts (gw_V mt_289 mt_291 mt_20 mt_26 mt_292) rfl rfl rfl hdM_changed ⟨Nat.le_of_ble_eq_true rfl, Nat.le_of_ble_eq_true rfl⟩) hK hP hD hS hA hZ (q0 := 0) (ci := 1) rfl rfl rfl hl.1 rfl (Nat.le_of_ble_eq_true rfl) dM_delete_117 ⟨Nat.zero_le _, Nat.zero_le _⟩ (fun H locs hP hD hS => ?_)
              refine lv_aload_n hx hb dM_delete_120 rfl (lv_at hl 0 rfl) ?_
              refine lv_iload_n hx hb dM_delete_121 rfl (lv_at hl 3 rfl) ?_
              obtain ⟨q_12, hq_12, hf⟩ := bd_s hf
              refine xw_callVv (kM_drop l dC dI a cI cZ tb K x3 q_11.2 q_12.2 q_12.1 hq_12) ⟨hx, hb, hml, hown, hts⟩ (cwV 1 hts (gw_V mt_297 mt_299 mt_21 mt_26 mt_300) rfl rfl rfl hdM_drop ⟨Nat.le_of_ble_eq_true rfl, Nat.le_of_ble_eq_true rfl⟩) hK hP hD hS hA hZ (q0 := 0) (ci := 1) rfl rfl rfl hl.1 rfl (Nat.le_of_ble_eq_true rfl) dM_delete_122 ⟨Nat.zero_le _, Nat.zero_le _⟩ (fun H locs hP hD hS => ?_)
              refine lv_goto (tgt := 97) hx hb dM_delete_125 (by decide) ?_
              exact ih2 x1 x2 x3 q_12.2 hf _ _ hP hD hS _ (lv_sub hl [0, 1, 2, 3] rfl)
      refine lv_iload_n hx hb dM_delete_29 rfl (lv_at hl 3 rfl) ?_
      refine lv_aload_n hx hb dM_delete_30 rfl (lv_at hl 0 rfl) ?_
      refine aM_get_links (σ := τ) (v := (m_links τ)) rfl hx hb hts hown hK hP dM_delete_31 ?_
      refine lv_icmp_ge (tgt := 70) hx hb dM_delete_34 (by decide) (fun c_3 => ?_) (fun c_3 => ?_)
      · replace hf := it_t hf c_3
        refine lv_iload_n hx hb dM_delete_70 rfl (lv_at hl 2 rfl) ?_
        refine lv_if_le (tgt := 77) hx hb dM_delete_71 (by decide) (fun c_4 => ?_) (fun c_4 => ?_)
        · replace hf := it_t hf c_4
          refine lv_aload_n hx hb dM_delete_77 rfl (lv_at hl 0 rfl) ?_
          refine aM_get_hadHost hx hb hts hown hK hP dM_delete_78 ?_
          refine lv_iload_n hx hb dM_delete_81 rfl (lv_at hl 1 rfl) ?_
          refine lv_aload_n hx hb dM_delete_82 rfl (lv_at hl 0 rfl) ?_
          refine lv_iload_n hx hb dM_delete_83 rfl (lv_at hl 1 rfl) ?_
          obtain ⟨q_5, hq_5, hf⟩ := bd_s hf
          refine xw_callV (kM_hostOf l dC dI a cI cZ tb K x1 τ q_5.2 q_5.1 hq_5) ⟨hx, hb, hml, hown, hts⟩ (cwV 1 hts (gw_V mt_285 mt_287 mt_19 mt_26 mt_288) rfl rfl rfl hdM_hostOf ⟨Nat.le_of_ble_eq_true rfl, Nat.le_of_ble_eq_true rfl⟩) hK hP hD hS hA hZ (q0 := 0) (ci := 1) rfl rfl rfl hl.1 rfl (Nat.le_of_ble_eq_true rfl) dM_delete_84 ⟨Nat.zero_le _, Nat.zero_le _⟩ (fun H locs hP hD hS => ?_)
          obtain ⟨g_6, hf⟩ := gd_f hf
          refine aM_st_hadHost (σ := q_5.2) (f := (m_hadHost q_5.2)) (x := q_5.1) (τ := (m_phadHost q_5.2 (upd (m_hadHost q_5.2) x1.toNatClampNeg q_5.1))) rfl rfl hx hb hK hP hD hS g_6 dM_delete_87 (fun H locs hP hD hS => ?_)
          refine lv_aload_n hx hb dM_delete_88 rfl (lv_at hl 0 rfl) ?_
          refine aM_get_live hx hb hts hown hK hP dM_delete_89 ?_
          refine lv_iload_n hx hb dM_delete_92 rfl (lv_at hl 1 rfl) ?_
          refine lv_iconst (v := (0 : Int32)) hx hb dM_delete_93 (by decide) ?_
          obtain ⟨g_7, hf⟩ := gd_f hf
          refine aM_st_live (σ := (m_phadHost q_5.2 (upd (m_hadHost q_5.2) x1.toNatClampNeg q_5.1))) (f := (m_live q_5.2)) (x := (0 : Int32)) (τ := (m_phadHost (m_plive q_5.2 (upd (m_live q_5.2) x1.toNatClampNeg (vp_nar .boolean (0 : Int32)))) (upd (m_hadHost q_5.2) x1.toNatClampNeg q_5.1))) rfl rfl hx hb hK hP hD hS g_7 dM_delete_94 (fun H locs hP hD hS => ?_)
          refine lv_iconst (v := (0 : Int32)) hx hb dM_delete_95 (by decide) ?_
          refine lv_istore_n (lv' := [(3, .int (0 : Int32)), (0, .ref (a 0)), (1, .int x1), (2, .int x2)]) hx hb dM_delete_96 rfl hl (by decide) rfl (fun ls hl => ?_)
          exact L_97 K x1 x2 (0 : Int32) (m_phadHost (m_plive q_5.2 (upd (m_live q_5.2) x1.toNatClampNeg (vp_nar .boolean (0 : Int32)))) (upd (m_hadHost q_5.2) x1.toNatClampNeg q_5.1)) hf _ _ hP hD hS _ (lv_sub hl [1, 2, 3, 0] rfl)
        · replace hf := it_f hf c_4
          refine lv_iload_n hx hb dM_delete_74 rfl (lv_at hl 2 rfl) ?_
          refine lv_ineg hx hb dM_delete_75 ?_
          exact xw_iret (wf := (w_M a cI cZ)) hx hb hr hlocks rfl hK hP hD hS hf dM_delete_76
      · replace hf := it_f hf c_3
        refine lv_iload_n hx hb dM_delete_37 rfl (lv_at hl 2 rfl) ?_
        refine lv_aload_n hx hb dM_delete_38 rfl (lv_at hl 0 rfl) ?_
        refine aM_get_field hx hb hts hown hK hP dM_delete_39 ?_
        refine lv_iload_n hx hb dM_delete_42 rfl (lv_at hl 3 rfl) ?_
        obtain ⟨g_13, hf⟩ := gd_f hf
        refine aM_ld_field (σ := τ) (f := (m_field τ)) rfl hx hb hK hP g_13 dM_delete_43 ?_
        refine lv_if_ne (tgt := 61) hx hb dM_delete_44 (by decide) (fun c_14 => ?_) (fun c_14 => ?_)
        · replace hf := it_f hf c_14
          refine lv_iconst (v := (0 : Int32)) hx hb dM_delete_61 (by decide) ?_
          refine lv_iadd hx hb dM_delete_62 ?_
          refine lv_istore_n (lv' := [(2, .int (x2 + (0 : Int32))), (0, .ref (a 0)), (1, .int x1), (3, .int x3)]) hx hb dM_delete_63 rfl hl (by decide) rfl (fun ls hl => ?_)
          refine lv_iinc (v := (x3 + 1)) (lv' := [(3, .int (x3 + 1)), (2, .int (x2 + (0 : Int32))), (0, .ref (a 0)), (1, .int x1)]) hx hb dM_delete_64 hl (k := 3) rfl (congrArg (HAdd.hAdd _) (by decide : Int32.ofInt (1) = (1 : Int32))) (by decide) rfl (fun ls hl => ?_)
          refine lv_goto (tgt := 29) hx hb dM_delete_67 (by decide) ?_
          exact ih x1 (x2 + (0 : Int32)) (x3 + 1) τ hf _ _ hP hD hS _ (lv_sub hl [2, 3, 1, 0] rfl)
        · replace hf := it_t hf c_14
          refine lv_aload_n hx hb dM_delete_47 rfl (lv_at hl 0 rfl) ?_
          refine aM_get_to hx hb hts hown hK hP dM_delete_48 ?_
          refine lv_iload_n hx hb dM_delete_51 rfl (lv_at hl 3 rfl) ?_
          obtain ⟨g_15, hf⟩ := gd_f hf
          refine aM_ld_to (σ := τ) (f := (m_to τ)) rfl hx hb hK hP g_15 dM_delete_52 ?_
          refine lv_iload_n hx hb dM_delete_53 rfl (lv_at hl 1 rfl) ?_
          refine lv_icmp_ne (tgt := 61) hx hb dM_delete_54 (by decide) (fun c_16 => ?_) (fun c_16 => ?_)
          · replace hf := it_f hf c_16
            refine lv_iconst (v := (0 : Int32)) hx hb dM_delete_61 (by decide) ?_
            refine lv_iadd hx hb dM_delete_62 ?_
            refine lv_istore_n (lv' := [(2, .int (x2 + (0 : Int32))), (0, .ref (a 0)), (1, .int x1), (3, .int x3)]) hx hb dM_delete_63 rfl hl (by decide) rfl (fun ls hl => ?_)
            refine lv_iinc (v := (x3 + 1)) (lv' := [(3, .int (x3 + 1)), (2, .int (x2 + (0 : Int32))), (0, .ref (a 0)), (1, .int x1)]) hx hb dM_delete_64 hl (k := 3) rfl (congrArg (HAdd.hAdd _) (by decide : Int32.ofInt (1) = (1 : Int32))) (by decide) rfl (fun ls hl => ?_)
            refine lv_goto (tgt := 29) hx hb dM_delete_67 (by decide) ?_
            exact ih x1 (x2 + (0 : Int32)) (x3 + 1) τ hf _ _ hP hD hS _ (lv_sub hl [2, 3, 1, 0] rfl)
          · replace hf := it_t hf c_16
            refine lv_iconst (v := (1 : Int32)) hx hb dM_delete_57 (by decide) ?_
            refine lv_goto (tgt := 62) hx hb dM_delete_58 (by decide) ?_
            refine lv_iadd hx hb dM_delete_62 ?_
            refine lv_istore_n (lv' := [(2, .int (x2 + (1 : Int32))), (0, .ref (a 0)), (1, .int x1), (3, .int x3)]) hx hb dM_delete_63 rfl hl (by decide) rfl (fun ls hl => ?_)
            refine lv_iinc (v := (x3 + 1)) (lv' := [(3, .int (x3 + 1)), (2, .int (x2 + (1 : Int32))), (0, .ref (a 0)), (1, .int x1)]) hx hb dM_delete_64 hl (k := 3) rfl (congrArg (HAdd.hAdd _) (by decide : Int32.ofInt (1) = (1 : Int32))) (by decide) rfl (fun ls hl => ?_)
            refine lv_goto (tgt := 29) hx hb dM_delete_67 (by decide) ?_
            exact ih x1 (x2 + (1 : Int32)) (x3 + 1) τ hf _ _ hP hD hS _ (lv_sub hl [2, 3, 1, 0] rfl)
  unfold fM_delete at hf
  refine lv_aload_n hx hb dM_delete_0 rfl (lv_at hl 0 rfl) ?_
  refine lv_iconst (v := (0 : Int32)) hx hb dM_delete_1 (by decide) ?_
  refine aM_put_thrown (σ := σ) (v := (0 : Int32)) (τ := (m_pthrown σ (0 : Int32))) rfl hx hb hts hown hK hP hD hS dM_delete_2 (fun H locs hP hD hS => ?_)
  refine lv_aload_n hx hb dM_delete_5 rfl (lv_at hl 0 rfl) ?_
  refine lv_dup hx hb dM_delete_6 rfl ?_
  refine aM_get_moment (σ := (m_pthrown σ (0 : Int32))) (v := (m_moment σ)) rfl hx hb hts hown hK hP dM_delete_7 ?_
  refine lv_iconst (v := (1 : Int32)) hx hb dM_delete_10 (by decide) ?_
  refine lv_iadd hx hb dM_delete_11 ?_
  refine aM_put_moment (σ := (m_pthrown σ (0 : Int32))) (v := ((m_moment σ) + (1 : Int32))) (τ := (m_pmoment (m_pthrown σ (0 : Int32)) ((m_moment σ) + (1 : Int32)))) rfl hx hb hts hown hK hP hD hS dM_delete_12 (fun H locs hP hD hS => ?_)
  refine lv_aload_n hx hb dM_delete_15 rfl (lv_at hl 0 rfl) ?_
  refine lv_iload_n hx hb dM_delete_16 rfl (lv_at hl 1 rfl) ?_
  obtain ⟨q_1, hq_1, hf⟩ := bd_s hf
  refine xw_callV (kM_isLive l dC dI a cI cZ tb K p1 (m_pmoment (m_pthrown σ (0 : Int32)) ((m_moment σ) + (1 : Int32))) q_1.2 q_1.1 hq_1) ⟨hx, hb, hml, hown, hts⟩ (cwV 1 hts (gw_V mt_263 mt_265 mt_15 mt_26 mt_266) rfl rfl rfl hdM_isLive ⟨Nat.le_of_ble_eq_true rfl, Nat.le_of_ble_eq_true rfl⟩) hK hP hD hS hA hZ (q0 := 0) (ci := 1) rfl rfl rfl hl.1 rfl (Nat.le_of_ble_eq_true rfl) dM_delete_17 ⟨Nat.zero_le _, Nat.zero_le _⟩ (fun H locs hP hD hS => ?_)
  refine lv_if_ne (tgt := 25) hx hb dM_delete_20 (by decide) (fun c_2 => ?_) (fun c_2 => ?_)
  · replace hf := it_f hf c_2
    refine lv_iconst (v := (0 : Int32)) hx hb dM_delete_25 (by decide) ?_
    refine lv_istore_n (lv' := [(2, .int (0 : Int32)), (0, .ref (a 0)), (1, .int p1)]) hx hb dM_delete_26 rfl hl (by decide) rfl (fun ls hl => ?_)
    refine lv_iconst (v := (0 : Int32)) hx hb dM_delete_27 (by decide) ?_
    refine lv_istore_n (lv' := [(3, .int (0 : Int32)), (2, .int (0 : Int32)), (0, .ref (a 0)), (1, .int p1)]) hx hb dM_delete_28 rfl hl (by decide) rfl (fun ls hl => ?_)
    exact L_29 K p1 (0 : Int32) (0 : Int32) q_1.2 hf _ _ hP hD hS _ (lv_sub hl [2, 3, 1, 0] rfl)
  · replace hf := it_t hf c_2
    refine lv_iconst (v := (0 : Int32)) hx hb dM_delete_23 (by decide) ?_
    exact xw_iret (wf := (w_M a cI cZ)) hx hb hr hlocks rfl hK hP hD hS hf dM_delete_24
def fM_times (K : Nat) (p1 p2 : Int32) (σ : MSt) : Option (Int32 × MSt) := (if p1 < (1 : Int32) then some ((0 : Int32), (m_pthrown σ (0 : Int32))) else (if (m_records σ) < p1 then some ((0 : Int32), (m_pthrown σ (0 : Int32))) else (if p2 < 0 then some ((0 : Int32), (m_pthrown σ (0 : Int32))) else (if p1 < 0 ∨ 61 ≤ p1.toNatClampNeg then none else (if p2 < ((m_timeCount σ) p1.toNatClampNeg) then (if (((40 : Int32) * p1) + p2) < 0 ∨ 2440 ≤ (((40 : Int32) * p1) + p2).toNatClampNeg then none else some (((m_times σ) (((40 : Int32) * p1) + p2).toNatClampNeg), (m_pthrown σ (0 : Int32)))) else some ((0 : Int32), (m_pthrown σ (0 : Int32))))))))
set_option maxHeartbeats 4000000 in
set_option maxRecDepth 100000 in
theorem kM_times (l : Launch) (dC : Nat → ClassId) (dI : Nat → Nat → Nat) (a : Nat → Nat) (cI cZ : ClassId) (tb : Nat) (K : Nat) (p1 p2 : Int32) (σ σ' : MSt) (r : Int32) (hf : fM_times K p1 p2 σ = some (r, σ')) : xw_Ct l yM_times wdM_times ({ frames := 0, cells := 0, slots := 0, locals := 0 } : Room) (dC, dI) vwCl [(cI, .int), (cZ, .boolean)] (zz tb) ((w_M a cI cZ) σ) ((w_M a cI cZ) σ') [.ref (a 0), .int p1, .int p2] r := by
  refine xw_ofW (cc := cM_times) (maxL := 3) (ret := (some .int)) (lv := [(0, .ref (a 0)), (1, .int p1), (2, .int p2)]) (by decide) rfl (Nat.le_of_ble_eq_true rfl) rfl ?_
  intro p e s m below meth c A hAt hP hD hS ls hl
  obtain ⟨hx, hb, hr, hml, hown, hts, hlocks, hK, hZ, hA⟩ := hAt
  replace hts : ∀ w ∈ lw_g, w.before _ s = true := fun w h => hts w (List.mem_cons_of_mem _ h)
  unfold fM_times at hf
  refine lv_aload_n hx hb dM_times_0 rfl (lv_at hl 0 rfl) ?_
  refine lv_iconst (v := (0 : Int32)) hx hb dM_times_1 (by decide) ?_
  refine aM_put_thrown (σ := σ) (v := (0 : Int32)) (τ := (m_pthrown σ (0 : Int32))) rfl hx hb hts hown hK hP hD hS dM_times_2 (fun H locs hP hD hS => ?_)
  refine lv_iload_n hx hb dM_times_5 rfl (lv_at hl 1 rfl) ?_
  refine lv_iconst (v := (1 : Int32)) hx hb dM_times_6 (by decide) ?_
  refine lv_icmp_lt (tgt := 32) hx hb dM_times_7 (by decide) (fun c_1 => ?_) (fun c_1 => ?_)
  · replace hf := it_t hf c_1
    refine lv_iconst (v := (0 : Int32)) hx hb dM_times_32 (by decide) ?_
    refine lv_goto (tgt := 47) hx hb dM_times_33 (by decide) ?_
    exact xw_iret (wf := (w_M a cI cZ)) hx hb hr hlocks rfl hK hP hD hS hf dM_times_47
  · replace hf := it_f hf c_1
    refine lv_iload_n hx hb dM_times_10 rfl (lv_at hl 1 rfl) ?_
    refine lv_aload_n hx hb dM_times_11 rfl (lv_at hl 0 rfl) ?_
    refine aM_get_records (σ := (m_pthrown σ (0 : Int32))) (v := (m_records σ)) rfl hx hb hts hown hK hP dM_times_12 ?_
    refine lv_icmp_gt (tgt := 32) hx hb dM_times_15 (by decide) (fun c_2 => ?_) (fun c_2 => ?_)
    · replace hf := it_t hf c_2
      refine lv_iconst (v := (0 : Int32)) hx hb dM_times_32 (by decide) ?_
      refine lv_goto (tgt := 47) hx hb dM_times_33 (by decide) ?_
      exact xw_iret (wf := (w_M a cI cZ)) hx hb hr hlocks rfl hK hP hD hS hf dM_times_47
    · replace hf := it_f hf c_2
      refine lv_iload_n hx hb dM_times_18 rfl (lv_at hl 2 rfl) ?_
      refine lv_if_lt (tgt := 32) hx hb dM_times_19 (by decide) (fun c_3 => ?_) (fun c_3 => ?_)
      · replace hf := it_t hf c_3
        refine lv_iconst (v := (0 : Int32)) hx hb dM_times_32 (by decide) ?_
        refine lv_goto (tgt := 47) hx hb dM_times_33 (by decide) ?_
        exact xw_iret (wf := (w_M a cI cZ)) hx hb hr hlocks rfl hK hP hD hS hf dM_times_47
      · replace hf := it_f hf c_3
        refine lv_iload_n hx hb dM_times_22 rfl (lv_at hl 2 rfl) ?_
        refine lv_aload_n hx hb dM_times_23 rfl (lv_at hl 0 rfl) ?_
        refine aM_get_timeCount hx hb hts hown hK hP dM_times_24 ?_
        refine lv_iload_n hx hb dM_times_27 rfl (lv_at hl 1 rfl) ?_
        obtain ⟨g_4, hf⟩ := gd_f hf
        refine aM_ld_timeCount (σ := (m_pthrown σ (0 : Int32))) (f := (m_timeCount σ)) rfl hx hb hK hP g_4 dM_times_28 ?_
        refine lv_icmp_lt (tgt := 36) hx hb dM_times_29 (by decide) (fun c_5 => ?_) (fun c_5 => ?_)
        · replace hf := it_t hf c_5
          refine lv_aload_n hx hb dM_times_36 rfl (lv_at hl 0 rfl) ?_
          refine aM_get_times hx hb hts hown hK hP dM_times_37 ?_
          refine lv_bipush (v := (40 : Int32)) hx hb dM_times_40 (by decide) ?_
          refine lv_iload_n hx hb dM_times_42 rfl (lv_at hl 1 rfl) ?_
          refine lv_imul hx hb dM_times_43 ?_
          refine lv_iload_n hx hb dM_times_44 rfl (lv_at hl 2 rfl) ?_
          refine lv_iadd hx hb dM_times_45 ?_
          obtain ⟨g_6, hf⟩ := gd_f hf
          refine aM_ld_times (σ := (m_pthrown σ (0 : Int32))) (f := (m_times σ)) rfl hx hb hK hP g_6 dM_times_46 ?_
          exact xw_iret (wf := (w_M a cI cZ)) hx hb hr hlocks rfl hK hP hD hS hf dM_times_47
        · replace hf := it_f hf c_5
          refine lv_iconst (v := (0 : Int32)) hx hb dM_times_32 (by decide) ?_
          refine lv_goto (tgt := 47) hx hb dM_times_33 (by decide) ?_
          exact xw_iret (wf := (w_M a cI cZ)) hx hb hr hlocks rfl hK hP hD hS hf dM_times_47
def gM_orphan_32 (K : Nat) (k : Int32 → Int32 → Int32 → MSt → Option (Int32 × MSt)) : Nat → Int32 → Int32 → Int32 → Int32 → Int32 → MSt → Option (Int32 × MSt)
  | 0, _, _, _, _, _, _ => none
  | n2 + 1, x1, x2, x3, x4, x5, τ => (if (m_links τ) ≤ x5 then (if x4 = 0 then (k x1 x2 (x3 + 1) τ) else (if x2 = x1 then some (x3, τ) else (k x1 (x2 + 1) (x3 + 1) τ))) else (if x4 = 0 then (gM_orphan_32 K k n2 x1 x2 x3 (0 : Int32) (x5 + 1) τ) else (if x5 < 0 ∨ 200 ≤ x5.toNatClampNeg then none else (if ((m_from τ) x5.toNatClampNeg) = x3 then (gM_orphan_32 K k n2 x1 x2 x3 (0 : Int32) (x5 + 1) τ) else (if x5 < 0 ∨ 200 ≤ x5.toNatClampNeg then none else (if (3 : Int32) < ((m_field τ) x5.toNatClampNeg) then (gM_orphan_32 K k n2 x1 x2 x3 (1 : Int32) (x5 + 1) τ) else (if x5 < 0 ∨ 200 ≤ x5.toNatClampNeg then none else (if ((m_to τ) x5.toNatClampNeg) = x3 then (gM_orphan_32 K k n2 x1 x2 x3 (0 : Int32) (x5 + 1) τ) else (gM_orphan_32 K k n2 x1 x2 x3 (1 : Int32) (x5 + 1) τ)))))))))
def gM_orphan_9 (K : Nat) : Nat → Int32 → Int32 → Int32 → MSt → Option (Int32 × MSt)
  | 0, _, _, _, _ => none
  | n + 1, x1, x2, x3, τ => (if (m_records τ) < x3 then some ((0 : Int32), τ) else (if x1 < 0 then some ((0 : Int32), τ) else (if x3 < 0 ∨ 61 ≤ x3.toNatClampNeg then none else (gM_orphan_32 K (fun (y0 y1 y2 : Int32) (t : MSt) => gM_orphan_9 K n y0 y1 y2 t) K x1 x2 x3 ((m_live τ) x3.toNatClampNeg) (0 : Int32) τ))))
def fM_orphan (K : Nat) (p1 : Int32) (σ : MSt) : Option (Int32 × MSt) := (gM_orphan_9 K K p1 (0 : Int32) (1 : Int32) (m_pthrown σ (0 : Int32)))
set_option maxHeartbeats 4000000 in
set_option maxRecDepth 100000 in
theorem kM_orphan (l : Launch) (dC : Nat → ClassId) (dI : Nat → Nat → Nat) (a : Nat → Nat) (cI cZ : ClassId) (tb : Nat) (K : Nat) (p1 : Int32) (σ σ' : MSt) (r : Int32) (hf : fM_orphan K p1 σ = some (r, σ')) : xw_Ct l yM_orphan wdM_orphan ({ frames := 0, cells := 0, slots := 0, locals := 0 } : Room) (dC, dI) vwCl [(cI, .int), (cZ, .boolean)] (zz tb) ((w_M a cI cZ) σ) ((w_M a cI cZ) σ') [.ref (a 0), .int p1] r := by
  refine xw_ofW (cc := cM_orphan) (maxL := 6) (ret := (some .int)) (lv := [(0, .ref (a 0)), (1, .int p1)]) (by decide) rfl (Nat.le_of_ble_eq_true rfl) rfl ?_
  intro p e s m below meth c A hAt hP hD hS ls hl
  obtain ⟨hx, hb, hr, hml, hown, hts, hlocks, hK, hZ, hA⟩ := hAt
  replace hts : ∀ w ∈ lw_g, w.before _ s = true := fun w h => hts w (List.mem_cons_of_mem _ h)
  have L_9 : ∀ (n : Nat) (x1 x2 x3 : Int32) (τ : MSt), gM_orphan_9 K n x1 x2 x3 τ = some (r, σ') → ∀ (H : Heap) (locs : List Loc), va_P (dC, dI) vwCl ((w_M a cI cZ) τ) H → va_D A ((w_M a cI cZ) τ) → va_S A s.heap H locs → ∀ (ls : Array Slot), lv_has ls 6 [(0, .ref (a 0)), (1, .int x1), (2, .int x2), (3, .int x3)] → W p l e ({ frames := 0, cells := 0, slots := 0, locals := 0 } : Room) s m ([.ref (a 0), .int p1] : List Value).toArray below meth c H locs 0 0 (MQ below (va_Qi (fun (r2 : Int32) (_ : Unit) => r2 = r) (fun _ t => xw_B (dC, dI) vwCl [(cI, .int), (cZ, .boolean)] A ((w_M a cI cZ) σ') t) A) ([.ref (a 0), .int p1] : List Value).toArray s 0 0 A) (F0 m 9 ls []) := by
    intro n
    induction n with
    | zero =>
      intro x1 x2 x3 τ hf
      rw [gM_orphan_9] at hf
      cases hf
    | succ n ih =>
      intro x1 x2 x3 τ hf H locs hP hD hS ls hl
      rw [gM_orphan_9] at hf
      have L_32 : ∀ (n2 : Nat) (x1 x2 x3 x4 x5 : Int32) (τ : MSt), gM_orphan_32 K (fun (y0 y1 y2 : Int32) (t : MSt) => gM_orphan_9 K n y0 y1 y2 t) n2 x1 x2 x3 x4 x5 τ = some (r, σ') → ∀ (H : Heap) (locs : List Loc), va_P (dC, dI) vwCl ((w_M a cI cZ) τ) H → va_D A ((w_M a cI cZ) τ) → va_S A s.heap H locs → ∀ (ls : Array Slot), lv_has ls 6 [(0, .ref (a 0)), (1, .int x1), (2, .int x2), (3, .int x3), (4, .int x4), (5, .int x5)] → W p l e ({ frames := 0, cells := 0, slots := 0, locals := 0 } : Room) s m ([.ref (a 0), .int p1] : List Value).toArray below meth c H locs 0 0 (MQ below (va_Qi (fun (r2 : Int32) (_ : Unit) => r2 = r) (fun _ t => xw_B (dC, dI) vwCl [(cI, .int), (cZ, .boolean)] A ((w_M a cI cZ) σ') t) A) ([.ref (a 0), .int p1] : List Value).toArray s 0 0 A) (F0 m 32 ls []) := by
        intro n2
        induction n2 with
        | zero =>
          intro x1 x2 x3 x4 x5 τ hf
          rw [gM_orphan_32] at hf
          cases hf
        | succ n2 ih2 =>
          intro x1 x2 x3 x4 x5 τ hf H locs hP hD hS ls hl
          rw [gM_orphan_32] at hf
          refine lv_iload hx hb dM_orphan_32 (lv_at hl 5 rfl) ?_
          refine lv_aload_n hx hb dM_orphan_34 rfl (lv_at hl 0 rfl) ?_
          refine aM_get_links (σ := τ) (v := (m_links τ)) rfl hx hb hts hown hK hP dM_orphan_35 ?_
          refine lv_icmp_ge (tgt := 92) hx hb dM_orphan_38 (by decide) (fun c_4 => ?_) (fun c_4 => ?_)
          · replace hf := it_t hf c_4
            refine lv_iload hx hb dM_orphan_92 (lv_at hl 4 rfl) ?_
            refine lv_if_eq (tgt := 107) hx hb dM_orphan_94 (by decide) (fun c_5 => ?_) (fun c_5 => ?_)
            · replace hf := it_t hf c_5
              refine lv_iinc (v := (x3 + 1)) (lv' := [(3, .int (x3 + 1)), (0, .ref (a 0)), (1, .int x1), (2, .int x2), (4, .int x4), (5, .int x5)]) hx hb dM_orphan_107 hl (k := 3) rfl (congrArg (HAdd.hAdd _) (by decide : Int32.ofInt (1) = (1 : Int32))) (by decide) rfl (fun ls hl => ?_)
              refine lv_goto (tgt := 9) hx hb dM_orphan_110 (by decide) ?_
              exact ih x1 x2 (x3 + 1) τ hf _ _ hP hD hS _ (lv_sub hl [1, 2, 3, 0] rfl)
            · replace hf := it_f hf c_5
              refine lv_iload_n hx hb dM_orphan_97 rfl (lv_at hl 2 rfl) ?_
              refine lv_iload_n hx hb dM_orphan_98 rfl (lv_at hl 1 rfl) ?_
              refine lv_icmp_ne (tgt := 104) hx hb dM_orphan_99 (by decide) (fun c_6 => ?_) (fun c_6 => ?_)
              · replace hf := it_f hf c_6
                refine lv_iinc (v := (x2 + 1)) (lv' := [(2, .int (x2 + 1)), (0, .ref (a 0)), (1, .int x1), (3, .int x3), (4, .int x4), (5, .int x5)]) hx hb dM_orphan_104 hl (k := 2) rfl (congrArg (HAdd.hAdd _) (by decide : Int32.ofInt (1) = (1 : Int32))) (by decide) rfl (fun ls hl => ?_)
                refine lv_iinc (v := (x3 + 1)) (lv' := [(3, .int (x3 + 1)), (2, .int (x2 + 1)), (0, .ref (a 0)), (1, .int x1), (4, .int x4), (5, .int x5)]) hx hb dM_orphan_107 hl (k := 3) rfl (congrArg (HAdd.hAdd _) (by decide : Int32.ofInt (1) = (1 : Int32))) (by decide) rfl (fun ls hl => ?_)
                refine lv_goto (tgt := 9) hx hb dM_orphan_110 (by decide) ?_
                exact ih x1 (x2 + 1) (x3 + 1) τ hf _ _ hP hD hS _ (lv_sub hl [2, 3, 1, 0] rfl)
              · replace hf := it_t hf c_6
                refine lv_iload_n hx hb dM_orphan_102 rfl (lv_at hl 3 rfl) ?_
                exact xw_iret (wf := (w_M a cI cZ)) hx hb hr hlocks rfl hK hP hD hS hf dM_orphan_103
          · replace hf := it_f hf c_4
            refine lv_iload hx hb dM_orphan_41 (lv_at hl 4 rfl) ?_
            refine lv_if_eq (tgt := 83) hx hb dM_orphan_43 (by decide) (fun c_7 => ?_) (fun c_7 => ?_)
            · replace hf := it_t hf c_7
              refine lv_iconst (v := (0 : Int32)) hx hb dM_orphan_83 (by decide) ?_
              refine lv_istore (lv' := [(4, .int (0 : Int32)), (0, .ref (a 0)), (1, .int x1), (2, .int x2), (3, .int x3), (5, .int x5)]) hx hb dM_orphan_84 hl (by decide) rfl (fun ls hl => ?_)
              refine lv_iinc (v := (x5 + 1)) (lv' := [(5, .int (x5 + 1)), (4, .int (0 : Int32)), (0, .ref (a 0)), (1, .int x1), (2, .int x2), (3, .int x3)]) hx hb dM_orphan_86 hl (k := 5) rfl (congrArg (HAdd.hAdd _) (by decide : Int32.ofInt (1) = (1 : Int32))) (by decide) rfl (fun ls hl => ?_)
              refine lv_goto (tgt := 32) hx hb dM_orphan_89 (by decide) ?_
              exact ih2 x1 x2 x3 (0 : Int32) (x5 + 1) τ hf _ _ hP hD hS _ (lv_sub hl [2, 3, 4, 5, 1, 0] rfl)
            · replace hf := it_f hf c_7
              refine lv_aload_n hx hb dM_orphan_46 rfl (lv_at hl 0 rfl) ?_
              refine aM_get_from hx hb hts hown hK hP dM_orphan_47 ?_
              refine lv_iload hx hb dM_orphan_50 (lv_at hl 5 rfl) ?_
              obtain ⟨g_8, hf⟩ := gd_f hf
              refine aM_ld_from (σ := τ) (f := (m_from τ)) rfl hx hb hK hP g_8 dM_orphan_52 ?_
              refine lv_iload_n hx hb dM_orphan_53 rfl (lv_at hl 3 rfl) ?_
              refine lv_icmp_eq (tgt := 83) hx hb dM_orphan_54 (by decide) (fun c_9 => ?_) (fun c_9 => ?_)
              · replace hf := it_t hf c_9
                refine lv_iconst (v := (0 : Int32)) hx hb dM_orphan_83 (by decide) ?_
                refine lv_istore (lv' := [(4, .int (0 : Int32)), (0, .ref (a 0)), (1, .int x1), (2, .int x2), (3, .int x3), (5, .int x5)]) hx hb dM_orphan_84 hl (by decide) rfl (fun ls hl => ?_)
                refine lv_iinc (v := (x5 + 1)) (lv' := [(5, .int (x5 + 1)), (4, .int (0 : Int32)), (0, .ref (a 0)), (1, .int x1), (2, .int x2), (3, .int x3)]) hx hb dM_orphan_86 hl (k := 5) rfl (congrArg (HAdd.hAdd _) (by decide : Int32.ofInt (1) = (1 : Int32))) (by decide) rfl (fun ls hl => ?_)
                refine lv_goto (tgt := 32) hx hb dM_orphan_89 (by decide) ?_
                exact ih2 x1 x2 x3 (0 : Int32) (x5 + 1) τ hf _ _ hP hD hS _ (lv_sub hl [2, 3, 4, 5, 1, 0] rfl)
              · replace hf := it_f hf c_9
                refine lv_aload_n hx hb dM_orphan_57 rfl (lv_at hl 0 rfl) ?_
                refine aM_get_field hx hb hts hown hK hP dM_orphan_58 ?_
                refine lv_iload hx hb dM_orphan_61 (lv_at hl 5 rfl) ?_
                obtain ⟨g_10, hf⟩ := gd_f hf
                refine aM_ld_field (σ := τ) (f := (m_field τ)) rfl hx hb hK hP g_10 dM_orphan_63 ?_
                refine lv_iconst (v := (3 : Int32)) hx hb dM_orphan_64 (by decide) ?_
                refine lv_icmp_gt (tgt := 79) hx hb dM_orphan_65 (by decide) (fun c_11 => ?_) (fun c_11 => ?_)
                · replace hf := it_t hf c_11
                  refine lv_iconst (v := (1 : Int32)) hx hb dM_orphan_79 (by decide) ?_
                  refine lv_goto (tgt := 84) hx hb dM_orphan_80 (by decide) ?_
                  refine lv_istore (lv' := [(4, .int (1 : Int32)), (0, .ref (a 0)), (1, .int x1), (2, .int x2), (3, .int x3), (5, .int x5)]) hx hb dM_orphan_84 hl (by decide) rfl (fun ls hl => ?_)
                  refine lv_iinc (v := (x5 + 1)) (lv' := [(5, .int (x5 + 1)), (4, .int (1 : Int32)), (0, .ref (a 0)), (1, .int x1), (2, .int x2), (3, .int x3)]) hx hb dM_orphan_86 hl (k := 5) rfl (congrArg (HAdd.hAdd _) (by decide : Int32.ofInt (1) = (1 : Int32))) (by decide) rfl (fun ls hl => ?_)
                  refine lv_goto (tgt := 32) hx hb dM_orphan_89 (by decide) ?_
                  exact ih2 x1 x2 x3 (1 : Int32) (x5 + 1) τ hf _ _ hP hD hS _ (lv_sub hl [2, 3, 4, 5, 1, 0] rfl)
                · replace hf := it_f hf c_11
                  refine lv_aload_n hx hb dM_orphan_68 rfl (lv_at hl 0 rfl) ?_
                  refine aM_get_to hx hb hts hown hK hP dM_orphan_69 ?_
                  refine lv_iload hx hb dM_orphan_72 (lv_at hl 5 rfl) ?_
                  obtain ⟨g_12, hf⟩ := gd_f hf
                  refine aM_ld_to (σ := τ) (f := (m_to τ)) rfl hx hb hK hP g_12 dM_orphan_74 ?_
                  refine lv_iload_n hx hb dM_orphan_75 rfl (lv_at hl 3 rfl) ?_
                  refine lv_icmp_eq (tgt := 83) hx hb dM_orphan_76 (by decide) (fun c_13 => ?_) (fun c_13 => ?_)
                  · replace hf := it_t hf c_13
                    refine lv_iconst (v := (0 : Int32)) hx hb dM_orphan_83 (by decide) ?_
                    refine lv_istore (lv' := [(4, .int (0 : Int32)), (0, .ref (a 0)), (1, .int x1), (2, .int x2), (3, .int x3), (5, .int x5)]) hx hb dM_orphan_84 hl (by decide) rfl (fun ls hl => ?_)
                    refine lv_iinc (v := (x5 + 1)) (lv' := [(5, .int (x5 + 1)), (4, .int (0 : Int32)), (0, .ref (a 0)), (1, .int x1), (2, .int x2), (3, .int x3)]) hx hb dM_orphan_86 hl (k := 5) rfl (congrArg (HAdd.hAdd _) (by decide : Int32.ofInt (1) = (1 : Int32))) (by decide) rfl (fun ls hl => ?_)
                    refine lv_goto (tgt := 32) hx hb dM_orphan_89 (by decide) ?_
                    exact ih2 x1 x2 x3 (0 : Int32) (x5 + 1) τ hf _ _ hP hD hS _ (lv_sub hl [2, 3, 4, 5, 1, 0] rfl)
                  · replace hf := it_f hf c_13
                    refine lv_iconst (v := (1 : Int32)) hx hb dM_orphan_79 (by decide) ?_
                    refine lv_goto (tgt := 84) hx hb dM_orphan_80 (by decide) ?_
                    refine lv_istore (lv' := [(4, .int (1 : Int32)), (0, .ref (a 0)), (1, .int x1), (2, .int x2), (3, .int x3), (5, .int x5)]) hx hb dM_orphan_84 hl (by decide) rfl (fun ls hl => ?_)
                    refine lv_iinc (v := (x5 + 1)) (lv' := [(5, .int (x5 + 1)), (4, .int (1 : Int32)), (0, .ref (a 0)), (1, .int x1), (2, .int x2), (3, .int x3)]) hx hb dM_orphan_86 hl (k := 5) rfl (congrArg (HAdd.hAdd _) (by decide : Int32.ofInt (1) = (1 : Int32))) (by decide) rfl (fun ls hl => ?_)
                    refine lv_goto (tgt := 32) hx hb dM_orphan_89 (by decide) ?_
                    exact ih2 x1 x2 x3 (1 : Int32) (x5 + 1) τ hf _ _ hP hD hS _ (lv_sub hl [2, 3, 4, 5, 1, 0] rfl)
      refine lv_iload_n hx hb dM_orphan_9 rfl (lv_at hl 3 rfl) ?_
      refine lv_aload_n hx hb dM_orphan_10 rfl (lv_at hl 0 rfl) ?_
      refine aM_get_records (σ := τ) (v := (m_records τ)) rfl hx hb hts hown hK hP dM_orphan_11 ?_
      refine lv_icmp_gt (tgt := 113) hx hb dM_orphan_14 (by decide) (fun c_1 => ?_) (fun c_1 => ?_)
      · replace hf := it_t hf c_1
        refine lv_iconst (v := (0 : Int32)) hx hb dM_orphan_113 (by decide) ?_
        exact xw_iret (wf := (w_M a cI cZ)) hx hb hr hlocks rfl hK hP hD hS hf dM_orphan_114
      · replace hf := it_f hf c_1
        refine lv_iload_n hx hb dM_orphan_17 rfl (lv_at hl 1 rfl) ?_
        refine lv_if_lt (tgt := 113) hx hb dM_orphan_18 (by decide) (fun c_2 => ?_) (fun c_2 => ?_)
        · replace hf := it_t hf c_2
          refine lv_iconst (v := (0 : Int32)) hx hb dM_orphan_113 (by decide) ?_
          exact xw_iret (wf := (w_M a cI cZ)) hx hb hr hlocks rfl hK hP hD hS hf dM_orphan_114
        · replace hf := it_f hf c_2
          refine lv_aload_n hx hb dM_orphan_21 rfl (lv_at hl 0 rfl) ?_
          refine aM_get_live hx hb hts hown hK hP dM_orphan_22 ?_
          refine lv_iload_n hx hb dM_orphan_25 rfl (lv_at hl 3 rfl) ?_
          obtain ⟨g_3, hf⟩ := gd_f hf
          refine aM_ld_live (σ := τ) (f := (m_live τ)) rfl hx hb hK hP g_3 dM_orphan_26 ?_
          refine lv_istore (lv' := [(4, .int ((m_live τ) x3.toNatClampNeg)), (0, .ref (a 0)), (1, .int x1), (2, .int x2), (3, .int x3)]) hx hb dM_orphan_27 hl (by decide) rfl (fun ls hl => ?_)
          refine lv_iconst (v := (0 : Int32)) hx hb dM_orphan_29 (by decide) ?_
          refine lv_istore (lv' := [(5, .int (0 : Int32)), (4, .int ((m_live τ) x3.toNatClampNeg)), (0, .ref (a 0)), (1, .int x1), (2, .int x2), (3, .int x3)]) hx hb dM_orphan_30 hl (by decide) rfl (fun ls hl => ?_)
          exact L_32 K x1 x2 x3 ((m_live τ) x3.toNatClampNeg) (0 : Int32) τ hf _ _ hP hD hS _ (lv_sub hl [2, 3, 4, 5, 1, 0] rfl)
  unfold fM_orphan at hf
  refine lv_aload_n hx hb dM_orphan_0 rfl (lv_at hl 0 rfl) ?_
  refine lv_iconst (v := (0 : Int32)) hx hb dM_orphan_1 (by decide) ?_
  refine aM_put_thrown (σ := σ) (v := (0 : Int32)) (τ := (m_pthrown σ (0 : Int32))) rfl hx hb hts hown hK hP hD hS dM_orphan_2 (fun H locs hP hD hS => ?_)
  refine lv_iconst (v := (0 : Int32)) hx hb dM_orphan_5 (by decide) ?_
  refine lv_istore_n (lv' := [(2, .int (0 : Int32)), (0, .ref (a 0)), (1, .int p1)]) hx hb dM_orphan_6 rfl hl (by decide) rfl (fun ls hl => ?_)
  refine lv_iconst (v := (1 : Int32)) hx hb dM_orphan_7 (by decide) ?_
  refine lv_istore_n (lv' := [(3, .int (1 : Int32)), (2, .int (0 : Int32)), (0, .ref (a 0)), (1, .int p1)]) hx hb dM_orphan_8 rfl hl (by decide) rfl (fun ls hl => ?_)
  exact L_9 K p1 (0 : Int32) (1 : Int32) (m_pthrown σ (0 : Int32)) hf _ _ hP hD hS _ (lv_sub hl [2, 3, 1, 0] rfl)
def fM_house (K : Nat) (p1 : Int32) (σ : MSt) : Option (Int32 × MSt) := (if p1 < (1 : Int32) then some ((-1 : Int32), (m_pthrown σ (0 : Int32))) else (if p1 ≤ (m_records σ) then (if p1 < 0 ∨ 61 ≤ p1.toNatClampNeg then none else some (((m_houses σ) p1.toNatClampNeg), (m_pthrown σ (0 : Int32)))) else some ((-1 : Int32), (m_pthrown σ (0 : Int32)))))
set_option maxHeartbeats 4000000 in
set_option maxRecDepth 100000 in
theorem kM_house (l : Launch) (dC : Nat → ClassId) (dI : Nat → Nat → Nat) (a : Nat → Nat) (cI cZ : ClassId) (tb : Nat) (K : Nat) (p1 : Int32) (σ σ' : MSt) (r : Int32) (hf : fM_house K p1 σ = some (r, σ')) : xw_Ct l yM_house wdM_house ({ frames := 0, cells := 0, slots := 0, locals := 0 } : Room) (dC, dI) vwCl [(cI, .int), (cZ, .boolean)] (zz tb) ((w_M a cI cZ) σ) ((w_M a cI cZ) σ') [.ref (a 0), .int p1] r := by
  refine xw_ofW (cc := cM_house) (maxL := 2) (ret := (some .int)) (lv := [(0, .ref (a 0)), (1, .int p1)]) (by decide) rfl (Nat.le_of_ble_eq_true rfl) rfl ?_
  intro p e s m below meth c A hAt hP hD hS ls hl
  obtain ⟨hx, hb, hr, hml, hown, hts, hlocks, hK, hZ, hA⟩ := hAt
  replace hts : ∀ w ∈ lw_g, w.before _ s = true := fun w h => hts w (List.mem_cons_of_mem _ h)
  unfold fM_house at hf
  refine lv_aload_n hx hb dM_house_0 rfl (lv_at hl 0 rfl) ?_
  refine lv_iconst (v := (0 : Int32)) hx hb dM_house_1 (by decide) ?_
  refine aM_put_thrown (σ := σ) (v := (0 : Int32)) (τ := (m_pthrown σ (0 : Int32))) rfl hx hb hts hown hK hP hD hS dM_house_2 (fun H locs hP hD hS => ?_)
  refine lv_iload_n hx hb dM_house_5 rfl (lv_at hl 1 rfl) ?_
  refine lv_iconst (v := (1 : Int32)) hx hb dM_house_6 (by decide) ?_
  refine lv_icmp_lt (tgt := 18) hx hb dM_house_7 (by decide) (fun c_1 => ?_) (fun c_1 => ?_)
  · replace hf := it_t hf c_1
    refine lv_iconst (v := (-1 : Int32)) hx hb dM_house_18 (by decide) ?_
    refine lv_goto (tgt := 28) hx hb dM_house_19 (by decide) ?_
    exact xw_iret (wf := (w_M a cI cZ)) hx hb hr hlocks rfl hK hP hD hS hf dM_house_28
  · replace hf := it_f hf c_1
    refine lv_iload_n hx hb dM_house_10 rfl (lv_at hl 1 rfl) ?_
    refine lv_aload_n hx hb dM_house_11 rfl (lv_at hl 0 rfl) ?_
    refine aM_get_records (σ := (m_pthrown σ (0 : Int32))) (v := (m_records σ)) rfl hx hb hts hown hK hP dM_house_12 ?_
    refine lv_icmp_le (tgt := 22) hx hb dM_house_15 (by decide) (fun c_2 => ?_) (fun c_2 => ?_)
    · replace hf := it_t hf c_2
      refine lv_aload_n hx hb dM_house_22 rfl (lv_at hl 0 rfl) ?_
      refine aM_get_houses hx hb hts hown hK hP dM_house_23 ?_
      refine lv_iload_n hx hb dM_house_26 rfl (lv_at hl 1 rfl) ?_
      obtain ⟨g_3, hf⟩ := gd_f hf
      refine aM_ld_houses (σ := (m_pthrown σ (0 : Int32))) (f := (m_houses σ)) rfl hx hb hK hP g_3 dM_house_27 ?_
      exact xw_iret (wf := (w_M a cI cZ)) hx hb hr hlocks rfl hK hP hD hS hf dM_house_28
    · replace hf := it_f hf c_2
      refine lv_iconst (v := (-1 : Int32)) hx hb dM_house_18 (by decide) ?_
      refine lv_goto (tgt := 28) hx hb dM_house_19 (by decide) ?_
      exact xw_iret (wf := (w_M a cI cZ)) hx hb hr hlocks rfl hK hP hD hS hf dM_house_28
def gM_goes_11 (K : Nat) : Nat → Int32 → Int32 → Int32 → Int32 → Int32 → MSt → Option (Int32 × MSt)
  | 0, _, _, _, _, _, _ => none
  | n + 1, x1, x2, x3, x4, x5, τ => (if (m_links τ) ≤ x5 then some ((0 : Int32), τ) else (if x3 < 0 then some ((0 : Int32), τ) else (if x5 < 0 ∨ 200 ≤ x5.toNatClampNeg then none else (if ((m_from τ) x5.toNatClampNeg) = x1 then (if x5 < 0 ∨ 200 ≤ x5.toNatClampNeg then none else (if ((m_field τ) x5.toNatClampNeg) = x2 then (if x4 = x3 then (if x5 < 0 ∨ 200 ≤ x5.toNatClampNeg then none else some (((m_to τ) x5.toNatClampNeg), τ)) else (gM_goes_11 K n x1 x2 x3 (x4 + 1) (x5 + 1) τ)) else (gM_goes_11 K n x1 x2 x3 x4 (x5 + 1) τ))) else (gM_goes_11 K n x1 x2 x3 x4 (x5 + 1) τ)))))
def fM_goes (K : Nat) (p1 p2 p3 : Int32) (σ : MSt) : Option (Int32 × MSt) := (gM_goes_11 K K p1 p2 p3 (0 : Int32) (0 : Int32) (m_pthrown σ (0 : Int32)))
set_option maxHeartbeats 4000000 in
set_option maxRecDepth 100000 in
theorem kM_goes (l : Launch) (dC : Nat → ClassId) (dI : Nat → Nat → Nat) (a : Nat → Nat) (cI cZ : ClassId) (tb : Nat) (K : Nat) (p1 p2 p3 : Int32) (σ σ' : MSt) (r : Int32) (hf : fM_goes K p1 p2 p3 σ = some (r, σ')) : xw_Ct l yM_goes wdM_goes ({ frames := 0, cells := 0, slots := 0, locals := 0 } : Room) (dC, dI) vwCl [(cI, .int), (cZ, .boolean)] (zz tb) ((w_M a cI cZ) σ) ((w_M a cI cZ) σ') [.ref (a 0), .int p1, .int p2, .int p3] r := by
  refine xw_ofW (cc := cM_goes) (maxL := 6) (ret := (some .int)) (lv := [(0, .ref (a 0)), (1, .int p1), (2, .int p2), (3, .int p3)]) (by decide) rfl (Nat.le_of_ble_eq_true rfl) rfl ?_
  intro p e s m below meth c A hAt hP hD hS ls hl
  obtain ⟨hx, hb, hr, hml, hown, hts, hlocks, hK, hZ, hA⟩ := hAt
  replace hts : ∀ w ∈ lw_g, w.before _ s = true := fun w h => hts w (List.mem_cons_of_mem _ h)
  have L_11 : ∀ (n : Nat) (x1 x2 x3 x4 x5 : Int32) (τ : MSt), gM_goes_11 K n x1 x2 x3 x4 x5 τ = some (r, σ') → ∀ (H : Heap) (locs : List Loc), va_P (dC, dI) vwCl ((w_M a cI cZ) τ) H → va_D A ((w_M a cI cZ) τ) → va_S A s.heap H locs → ∀ (ls : Array Slot), lv_has ls 6 [(0, .ref (a 0)), (1, .int x1), (2, .int x2), (3, .int x3), (4, .int x4), (5, .int x5)] → W p l e ({ frames := 0, cells := 0, slots := 0, locals := 0 } : Room) s m ([.ref (a 0), .int p1, .int p2, .int p3] : List Value).toArray below meth c H locs 0 0 (MQ below (va_Qi (fun (r2 : Int32) (_ : Unit) => r2 = r) (fun _ t => xw_B (dC, dI) vwCl [(cI, .int), (cZ, .boolean)] A ((w_M a cI cZ) σ') t) A) ([.ref (a 0), .int p1, .int p2, .int p3] : List Value).toArray s 0 0 A) (F0 m 11 ls []) := by
    intro n
    induction n with
    | zero =>
      intro x1 x2 x3 x4 x5 τ hf
      rw [gM_goes_11] at hf
      cases hf
    | succ n ih =>
      intro x1 x2 x3 x4 x5 τ hf H locs hP hD hS ls hl
      rw [gM_goes_11] at hf
      refine lv_iload hx hb dM_goes_11 (lv_at hl 5 rfl) ?_
      refine lv_aload_n hx hb dM_goes_13 rfl (lv_at hl 0 rfl) ?_
      refine aM_get_links (σ := τ) (v := (m_links τ)) rfl hx hb hts hown hK hP dM_goes_14 ?_
      refine lv_icmp_ge (tgt := 69) hx hb dM_goes_17 (by decide) (fun c_1 => ?_) (fun c_1 => ?_)
      · replace hf := it_t hf c_1
        refine lv_iconst (v := (0 : Int32)) hx hb dM_goes_69 (by decide) ?_
        exact xw_iret (wf := (w_M a cI cZ)) hx hb hr hlocks rfl hK hP hD hS hf dM_goes_70
      · replace hf := it_f hf c_1
        refine lv_iload_n hx hb dM_goes_20 rfl (lv_at hl 3 rfl) ?_
        refine lv_if_lt (tgt := 69) hx hb dM_goes_21 (by decide) (fun c_2 => ?_) (fun c_2 => ?_)
        · replace hf := it_t hf c_2
          refine lv_iconst (v := (0 : Int32)) hx hb dM_goes_69 (by decide) ?_
          exact xw_iret (wf := (w_M a cI cZ)) hx hb hr hlocks rfl hK hP hD hS hf dM_goes_70
        · replace hf := it_f hf c_2
          refine lv_aload_n hx hb dM_goes_24 rfl (lv_at hl 0 rfl) ?_
          refine aM_get_from hx hb hts hown hK hP dM_goes_25 ?_
          refine lv_iload hx hb dM_goes_28 (lv_at hl 5 rfl) ?_
          obtain ⟨g_3, hf⟩ := gd_f hf
          refine aM_ld_from (σ := τ) (f := (m_from τ)) rfl hx hb hK hP g_3 dM_goes_30 ?_
          refine lv_iload_n hx hb dM_goes_31 rfl (lv_at hl 1 rfl) ?_
          refine lv_icmp_ne (tgt := 63) hx hb dM_goes_32 (by decide) (fun c_4 => ?_) (fun c_4 => ?_)
          · replace hf := it_f hf c_4
            refine lv_iinc (v := (x5 + 1)) (lv' := [(5, .int (x5 + 1)), (0, .ref (a 0)), (1, .int x1), (2, .int x2), (3, .int x3), (4, .int x4)]) hx hb dM_goes_63 hl (k := 5) rfl (congrArg (HAdd.hAdd _) (by decide : Int32.ofInt (1) = (1 : Int32))) (by decide) rfl (fun ls hl => ?_)
            refine lv_goto (tgt := 11) hx hb dM_goes_66 (by decide) ?_
            exact ih x1 x2 x3 x4 (x5 + 1) τ hf _ _ hP hD hS _ (lv_sub hl [1, 2, 3, 4, 5, 0] rfl)
          · replace hf := it_t hf c_4
            refine lv_aload_n hx hb dM_goes_35 rfl (lv_at hl 0 rfl) ?_
            refine aM_get_field hx hb hts hown hK hP dM_goes_36 ?_
            refine lv_iload hx hb dM_goes_39 (lv_at hl 5 rfl) ?_
            obtain ⟨g_5, hf⟩ := gd_f hf
            refine aM_ld_field (σ := τ) (f := (m_field τ)) rfl hx hb hK hP g_5 dM_goes_41 ?_
            refine lv_iload_n hx hb dM_goes_42 rfl (lv_at hl 2 rfl) ?_
            refine lv_icmp_ne (tgt := 63) hx hb dM_goes_43 (by decide) (fun c_6 => ?_) (fun c_6 => ?_)
            · replace hf := it_f hf c_6
              refine lv_iinc (v := (x5 + 1)) (lv' := [(5, .int (x5 + 1)), (0, .ref (a 0)), (1, .int x1), (2, .int x2), (3, .int x3), (4, .int x4)]) hx hb dM_goes_63 hl (k := 5) rfl (congrArg (HAdd.hAdd _) (by decide : Int32.ofInt (1) = (1 : Int32))) (by decide) rfl (fun ls hl => ?_)
              refine lv_goto (tgt := 11) hx hb dM_goes_66 (by decide) ?_
              exact ih x1 x2 x3 x4 (x5 + 1) τ hf _ _ hP hD hS _ (lv_sub hl [1, 2, 3, 4, 5, 0] rfl)
            · replace hf := it_t hf c_6
              refine lv_iload hx hb dM_goes_46 (lv_at hl 4 rfl) ?_
              refine lv_iload_n hx hb dM_goes_48 rfl (lv_at hl 3 rfl) ?_
              refine lv_icmp_ne (tgt := 60) hx hb dM_goes_49 (by decide) (fun c_7 => ?_) (fun c_7 => ?_)
              · replace hf := it_f hf c_7
                refine lv_iinc (v := (x4 + 1)) (lv' := [(4, .int (x4 + 1)), (0, .ref (a 0)), (1, .int x1), (2, .int x2), (3, .int x3), (5, .int x5)]) hx hb dM_goes_60 hl (k := 4) rfl (congrArg (HAdd.hAdd _) (by decide : Int32.ofInt (1) = (1 : Int32))) (by decide) rfl (fun ls hl => ?_)
                refine lv_iinc (v := (x5 + 1)) (lv' := [(5, .int (x5 + 1)), (4, .int (x4 + 1)), (0, .ref (a 0)), (1, .int x1), (2, .int x2), (3, .int x3)]) hx hb dM_goes_63 hl (k := 5) rfl (congrArg (HAdd.hAdd _) (by decide : Int32.ofInt (1) = (1 : Int32))) (by decide) rfl (fun ls hl => ?_)
                refine lv_goto (tgt := 11) hx hb dM_goes_66 (by decide) ?_
                exact ih x1 x2 x3 (x4 + 1) (x5 + 1) τ hf _ _ hP hD hS _ (lv_sub hl [2, 3, 4, 5, 1, 0] rfl)
              · replace hf := it_t hf c_7
                refine lv_aload_n hx hb dM_goes_52 rfl (lv_at hl 0 rfl) ?_
                refine aM_get_to hx hb hts hown hK hP dM_goes_53 ?_
                refine lv_iload hx hb dM_goes_56 (lv_at hl 5 rfl) ?_
                obtain ⟨g_8, hf⟩ := gd_f hf
                refine aM_ld_to (σ := τ) (f := (m_to τ)) rfl hx hb hK hP g_8 dM_goes_58 ?_
                exact xw_iret (wf := (w_M a cI cZ)) hx hb hr hlocks rfl hK hP hD hS hf dM_goes_59
  unfold fM_goes at hf
  refine lv_aload_n hx hb dM_goes_0 rfl (lv_at hl 0 rfl) ?_
  refine lv_iconst (v := (0 : Int32)) hx hb dM_goes_1 (by decide) ?_
  refine aM_put_thrown (σ := σ) (v := (0 : Int32)) (τ := (m_pthrown σ (0 : Int32))) rfl hx hb hts hown hK hP hD hS dM_goes_2 (fun H locs hP hD hS => ?_)
  refine lv_iconst (v := (0 : Int32)) hx hb dM_goes_5 (by decide) ?_
  refine lv_istore (lv' := [(4, .int (0 : Int32)), (0, .ref (a 0)), (1, .int p1), (2, .int p2), (3, .int p3)]) hx hb dM_goes_6 hl (by decide) rfl (fun ls hl => ?_)
  refine lv_iconst (v := (0 : Int32)) hx hb dM_goes_8 (by decide) ?_
  refine lv_istore (lv' := [(5, .int (0 : Int32)), (4, .int (0 : Int32)), (0, .ref (a 0)), (1, .int p1), (2, .int p2), (3, .int p3)]) hx hb dM_goes_9 hl (by decide) rfl (fun ls hl => ?_)
  exact L_11 K p1 p2 p3 (0 : Int32) (0 : Int32) (m_pthrown σ (0 : Int32)) hf _ _ hP hD hS _ (lv_sub hl [2, 3, 4, 5, 1, 0] rfl)
end
section
def x_zero : XSt := ((fun _ => 0), (fun _ => 0), (fun _ => 0), (fun _ => 0), (fun _ => 0), 0, (fun _ => 0), (fun _ => 0), (fun _ => 0), 0, (fun _ => 0), 0, 0)
def at_X (dC : Nat → ClassId) (dI : Nat → Nat → Nat) (A : Nat → Prop) (h0 : Nat) (t : State) : Prop := ∃ (a : Nat → Nat) (cI cZ : ClassId), a 0 = h0 ∧ va_P (dC, dI) vwCl (w_X a cI cZ x_zero) t.heap ∧ va_K (dC, dI) vwCl [(cI, .int), (cZ, .boolean)] t ∧ va_D A (w_X a cI cZ x_zero)
set_option maxHeartbeats 4000000 in
set_option maxRecDepth 100000 in
theorem kX_init (l : Launch) (dC : Nat → ClassId) (dI : Nat → Nat → Nat) (h0 : Nat) (sz : Nat) : Met l yX_init wdX_init ({ frames := 1, cells := 9, slots := 3344, locals := 12 } : Room) (va_Pc [.ref h0] (fun U => U.heap.size = sz ∧ va_P (dC, dI) vwCl [(h0, .inr (0, [.null, .null, .null, .null, .null, .int 0, .null, .null, .null, .int 0, .null, .int 0, .int 0]))] U.heap ∧ va_K (dC, dI) vwCl [] U ∧ va_D (fun _ => True) [(h0, .inr (0, [.null, .null, .null, .null, .null, .int 0, .null, .null, .null, .int 0, .null, .int 0, .int 0]))])) (va_Qv (fun _ : Unit => True) (fun _ t => at_X dC dI (va_A [(h0, .inr (0, [.null, .null, .null, .null, .null, .int 0, .null, .null, .null, .int 0, .null, .int 0, .int 0]))] sz) h0 t) (va_A [(h0, .inr (0, [.null, .null, .null, .null, .null, .int 0, .null, .null, .null, .int 0, .null, .int 0, .int 0]))] sz)) 9 3344 (va_A [(h0, .inr (0, [.null, .null, .null, .null, .null, .int 0, .null, .null, .null, .int 0, .null, .int 0, .int 0]))] sz) := by
  refine Met.ofW (cc := cX_init) (maxL := 1) (ret := none) (by decide) rfl ?_
  intro p e s m args below meth c s₁ B hml hv
  obtain ⟨rfl, hsz, hP, hK, hD0⟩ := hv
  have hx := B.exec
  have hb := B.bytes
  have hr := B.returns
  have hts0 := atoms_spec (ws := wdX_init) B.pre
  have hts : ∀ w ∈ lw_g, w.before _ s = true := fun w h => hts0 w (List.mem_cons_of_mem _ h)
  have hown : s.vm.findClass RX = some m.cls := findClass_of_methodNamed B.named
  have hlocks := B.notSynchronized
  have hin : meth.name = "<init>" := (name_of_methodNamed B.named B.method).1
  subst hsz
  have hD := hD0.self (sz := s.heap.size)
  generalize hAe : va_A [(h0, .inr (0, [.null, .null, .null, .null, .null, .int 0, .null, .null, .null, .int 0, .null, .int 0, .int 0]))] s.heap.size = A at hD ⊢
  have hA : ∀ q : Nat, s.heap.size ≤ q → A q := fun q h => by rw [← hAe]; exact Or.inr h
  have hS : va_S A s.heap s.heap [] := va_S.rf
  have hl := lv_entry ([.ref h0]) (n := 1) (Nat.le_of_ble_eq_true rfl)
  rw [lg_entry_eq]
  generalize (lg_sl ([.ref h0]) ++ List.replicate (1 - (lg_sl ([.ref h0])).length) Slot.unset).toArray = ls at hl ⊢
  have hl : lv_has ls 1 [(0, .ref h0)] := hl
  refine lv_aload_n hx hb dX_init_0 rfl (lv_at hl 0 rfl) ?_
  refine W.objInit hx hb hown (hts _ mt_34) (hts _ mt_35) (hts _ mt_36) rfl (by rw [hml]; exact hl.1) rfl dX_init_1 (Nat.le_of_ble_eq_true rfl) (Nat.le_of_ble_eq_true rfl) ?_
  refine W.eq (g2 := F0 m 4 ls []) rfl ?_
  refine lv_aload_n hx hb dX_init_4 rfl (lv_at hl 0 rfl) ?_
  refine lv_bipush (v := (61 : Int32)) hx hb dX_init_5 (by decide) ?_
  refine va_newa (atype := .boolean) (ty := .boolean) (a0 := (61, .inl (fun _ => 0))) (N' := 61) hx hb (hts _ mt_77) rfl hK hP hD hS hA (fun cA => rfl) (by decide) rfl (Nat.le_of_ble_eq_true rfl) (Nat.le_of_ble_eq_true rfl) (Nat.le_of_ble_eq_true rfl) dX_init_7 (fun q1 c1 H hK hP hD hS => ?_)
  have hP : va_P (dC, dI) vwCl [(h0, .inr (0, [.null, .null, .null, .null, .null, .int 0, .null, .null, .null, .int 0, .null, .int 0, .int 0])), (q1, .inl (c1, 61, .inl (fun _ => 0)))] H := hP
  have hD : va_D A [(h0, .inr (0, [.null, .null, .null, .null, .null, .int 0, .null, .null, .null, .int 0, .null, .int 0, .int 0])), (q1, .inl (c1, 61, .inl (fun _ => 0)))] := hD
  refine W.widen (k := 1) (n := 61) (Nat.le_of_ble_eq_true rfl) (Nat.le_of_ble_eq_true rfl) ?_
  refine va_putF (D := (dC, dI)) (ci := 0) (v := .ref q1) (ty := .array .boolean) (C := RX) (T := TX) (N := 13) hx hb hts inX tyX tyX_ok nmX hown hK hP hD hS 0 rfl rfl 0 (by decide) (hts _ mt_37) (fun _ h9 => h9) rfl hin rfl (by decide +kernel) rfl rfl (Nat.le_of_ble_eq_true rfl) dX_init_9 (fun H locs hP hD hS => ?_)
  have hP : va_P (dC, dI) vwCl [(h0, .inr (0, [.ref q1, .null, .null, .null, .null, .int 0, .null, .null, .null, .int 0, .null, .int 0, .int 0])), (q1, .inl (c1, 61, .inl (fun _ => 0)))] H := hP
  have hD : va_D A [(h0, .inr (0, [.ref q1, .null, .null, .null, .null, .int 0, .null, .null, .null, .int 0, .null, .int 0, .int 0])), (q1, .inl (c1, 61, .inl (fun _ => 0)))] := hD
  refine lv_aload_n hx hb dX_init_12 rfl (lv_at hl 0 rfl) ?_
  refine lv_bipush (v := (61 : Int32)) hx hb dX_init_13 (by decide) ?_
  refine va_newa (atype := .int) (ty := .int) (a0 := (61, .inl (fun _ => 0))) (N' := 61) hx hb (hts _ mt_78) rfl hK hP hD hS hA (fun cA => rfl) (by decide) rfl (Nat.le_of_ble_eq_true rfl) (Nat.le_of_ble_eq_true rfl) (Nat.le_of_ble_eq_true rfl) dX_init_15 (fun q2 c2 H hK hP hD hS => ?_)
  have hP : va_P (dC, dI) vwCl [(h0, .inr (0, [.ref q1, .null, .null, .null, .null, .int 0, .null, .null, .null, .int 0, .null, .int 0, .int 0])), (q1, .inl (c1, 61, .inl (fun _ => 0))), (q2, .inl (c2, 61, .inl (fun _ => 0)))] H := hP
  have hD : va_D A [(h0, .inr (0, [.ref q1, .null, .null, .null, .null, .int 0, .null, .null, .null, .int 0, .null, .int 0, .int 0])), (q1, .inl (c1, 61, .inl (fun _ => 0))), (q2, .inl (c2, 61, .inl (fun _ => 0)))] := hD
  refine W.widen (k := 2) (n := 122) (Nat.le_of_ble_eq_true rfl) (Nat.le_of_ble_eq_true rfl) ?_
  refine va_putF (D := (dC, dI)) (ci := 0) (v := .ref q2) (ty := .array .int) (C := RX) (T := TX) (N := 13) hx hb hts inX tyX tyX_ok nmX hown hK hP hD hS 0 rfl rfl 1 (by decide) (hts _ mt_38) (fun _ h9 => h9) rfl hin rfl (by decide +kernel) rfl rfl (Nat.le_of_ble_eq_true rfl) dX_init_17 (fun H locs hP hD hS => ?_)
  have hP : va_P (dC, dI) vwCl [(h0, .inr (0, [.ref q1, .ref q2, .null, .null, .null, .int 0, .null, .null, .null, .int 0, .null, .int 0, .int 0])), (q1, .inl (c1, 61, .inl (fun _ => 0))), (q2, .inl (c2, 61, .inl (fun _ => 0)))] H := hP
  have hD : va_D A [(h0, .inr (0, [.ref q1, .ref q2, .null, .null, .null, .int 0, .null, .null, .null, .int 0, .null, .int 0, .int 0])), (q1, .inl (c1, 61, .inl (fun _ => 0))), (q2, .inl (c2, 61, .inl (fun _ => 0)))] := hD
  refine lv_aload_n hx hb dX_init_20 rfl (lv_at hl 0 rfl) ?_
  refine lv_bipush (v := (61 : Int32)) hx hb dX_init_21 (by decide) ?_
  refine va_newa (atype := .int) (ty := .int) (a0 := (61, .inl (fun _ => 0))) (N' := 61) hx hb (hts _ mt_78) rfl hK hP hD hS hA (fun cA => rfl) (by decide) rfl (Nat.le_of_ble_eq_true rfl) (Nat.le_of_ble_eq_true rfl) (Nat.le_of_ble_eq_true rfl) dX_init_23 (fun q3 c3 H hK hP hD hS => ?_)
  have hP : va_P (dC, dI) vwCl [(h0, .inr (0, [.ref q1, .ref q2, .null, .null, .null, .int 0, .null, .null, .null, .int 0, .null, .int 0, .int 0])), (q1, .inl (c1, 61, .inl (fun _ => 0))), (q2, .inl (c2, 61, .inl (fun _ => 0))), (q3, .inl (c3, 61, .inl (fun _ => 0)))] H := hP
  have hD : va_D A [(h0, .inr (0, [.ref q1, .ref q2, .null, .null, .null, .int 0, .null, .null, .null, .int 0, .null, .int 0, .int 0])), (q1, .inl (c1, 61, .inl (fun _ => 0))), (q2, .inl (c2, 61, .inl (fun _ => 0))), (q3, .inl (c3, 61, .inl (fun _ => 0)))] := hD
  refine W.widen (k := 3) (n := 183) (Nat.le_of_ble_eq_true rfl) (Nat.le_of_ble_eq_true rfl) ?_
  refine va_putF (D := (dC, dI)) (ci := 0) (v := .ref q3) (ty := .array .int) (C := RX) (T := TX) (N := 13) hx hb hts inX tyX tyX_ok nmX hown hK hP hD hS 0 rfl rfl 2 (by decide) (hts _ mt_39) (fun _ h9 => h9) rfl hin rfl (by decide +kernel) rfl rfl (Nat.le_of_ble_eq_true rfl) dX_init_25 (fun H locs hP hD hS => ?_)
  have hP : va_P (dC, dI) vwCl [(h0, .inr (0, [.ref q1, .ref q2, .ref q3, .null, .null, .int 0, .null, .null, .null, .int 0, .null, .int 0, .int 0])), (q1, .inl (c1, 61, .inl (fun _ => 0))), (q2, .inl (c2, 61, .inl (fun _ => 0))), (q3, .inl (c3, 61, .inl (fun _ => 0)))] H := hP
  have hD : va_D A [(h0, .inr (0, [.ref q1, .ref q2, .ref q3, .null, .null, .int 0, .null, .null, .null, .int 0, .null, .int 0, .int 0])), (q1, .inl (c1, 61, .inl (fun _ => 0))), (q2, .inl (c2, 61, .inl (fun _ => 0))), (q3, .inl (c3, 61, .inl (fun _ => 0)))] := hD
  refine lv_aload_n hx hb dX_init_28 rfl (lv_at hl 0 rfl) ?_
  refine lv_bipush (v := (61 : Int32)) hx hb dX_init_29 (by decide) ?_
  refine va_newa (atype := .int) (ty := .int) (a0 := (61, .inl (fun _ => 0))) (N' := 61) hx hb (hts _ mt_78) rfl hK hP hD hS hA (fun cA => rfl) (by decide) rfl (Nat.le_of_ble_eq_true rfl) (Nat.le_of_ble_eq_true rfl) (Nat.le_of_ble_eq_true rfl) dX_init_31 (fun q4 c4 H hK hP hD hS => ?_)
  have hP : va_P (dC, dI) vwCl [(h0, .inr (0, [.ref q1, .ref q2, .ref q3, .null, .null, .int 0, .null, .null, .null, .int 0, .null, .int 0, .int 0])), (q1, .inl (c1, 61, .inl (fun _ => 0))), (q2, .inl (c2, 61, .inl (fun _ => 0))), (q3, .inl (c3, 61, .inl (fun _ => 0))), (q4, .inl (c4, 61, .inl (fun _ => 0)))] H := hP
  have hD : va_D A [(h0, .inr (0, [.ref q1, .ref q2, .ref q3, .null, .null, .int 0, .null, .null, .null, .int 0, .null, .int 0, .int 0])), (q1, .inl (c1, 61, .inl (fun _ => 0))), (q2, .inl (c2, 61, .inl (fun _ => 0))), (q3, .inl (c3, 61, .inl (fun _ => 0))), (q4, .inl (c4, 61, .inl (fun _ => 0)))] := hD
  refine W.widen (k := 4) (n := 244) (Nat.le_of_ble_eq_true rfl) (Nat.le_of_ble_eq_true rfl) ?_
  refine va_putF (D := (dC, dI)) (ci := 0) (v := .ref q4) (ty := .array .int) (C := RX) (T := TX) (N := 13) hx hb hts inX tyX tyX_ok nmX hown hK hP hD hS 0 rfl rfl 3 (by decide) (hts _ mt_40) (fun _ h9 => h9) rfl hin rfl (by decide +kernel) rfl rfl (Nat.le_of_ble_eq_true rfl) dX_init_33 (fun H locs hP hD hS => ?_)
  have hP : va_P (dC, dI) vwCl [(h0, .inr (0, [.ref q1, .ref q2, .ref q3, .ref q4, .null, .int 0, .null, .null, .null, .int 0, .null, .int 0, .int 0])), (q1, .inl (c1, 61, .inl (fun _ => 0))), (q2, .inl (c2, 61, .inl (fun _ => 0))), (q3, .inl (c3, 61, .inl (fun _ => 0))), (q4, .inl (c4, 61, .inl (fun _ => 0)))] H := hP
  have hD : va_D A [(h0, .inr (0, [.ref q1, .ref q2, .ref q3, .ref q4, .null, .int 0, .null, .null, .null, .int 0, .null, .int 0, .int 0])), (q1, .inl (c1, 61, .inl (fun _ => 0))), (q2, .inl (c2, 61, .inl (fun _ => 0))), (q3, .inl (c3, 61, .inl (fun _ => 0))), (q4, .inl (c4, 61, .inl (fun _ => 0)))] := hD
  refine lv_aload_n hx hb dX_init_36 rfl (lv_at hl 0 rfl) ?_
  refine lv_sipush (v := (2440 : Int32)) hx hb dX_init_37 (by decide) ?_
  refine va_newa (atype := .int) (ty := .int) (a0 := (2440, .inl (fun _ => 0))) (N' := 2440) hx hb (hts _ mt_78) rfl hK hP hD hS hA (fun cA => rfl) (by decide) rfl (Nat.le_of_ble_eq_true rfl) (Nat.le_of_ble_eq_true rfl) (Nat.le_of_ble_eq_true rfl) dX_init_40 (fun q5 c5 H hK hP hD hS => ?_)
  have hP : va_P (dC, dI) vwCl [(h0, .inr (0, [.ref q1, .ref q2, .ref q3, .ref q4, .null, .int 0, .null, .null, .null, .int 0, .null, .int 0, .int 0])), (q1, .inl (c1, 61, .inl (fun _ => 0))), (q2, .inl (c2, 61, .inl (fun _ => 0))), (q3, .inl (c3, 61, .inl (fun _ => 0))), (q4, .inl (c4, 61, .inl (fun _ => 0))), (q5, .inl (c5, 2440, .inl (fun _ => 0)))] H := hP
  have hD : va_D A [(h0, .inr (0, [.ref q1, .ref q2, .ref q3, .ref q4, .null, .int 0, .null, .null, .null, .int 0, .null, .int 0, .int 0])), (q1, .inl (c1, 61, .inl (fun _ => 0))), (q2, .inl (c2, 61, .inl (fun _ => 0))), (q3, .inl (c3, 61, .inl (fun _ => 0))), (q4, .inl (c4, 61, .inl (fun _ => 0))), (q5, .inl (c5, 2440, .inl (fun _ => 0)))] := hD
  refine W.widen (k := 5) (n := 2684) (Nat.le_of_ble_eq_true rfl) (Nat.le_of_ble_eq_true rfl) ?_
  refine va_putF (D := (dC, dI)) (ci := 0) (v := .ref q5) (ty := .array .int) (C := RX) (T := TX) (N := 13) hx hb hts inX tyX tyX_ok nmX hown hK hP hD hS 0 rfl rfl 4 (by decide) (hts _ mt_41) (fun _ h9 => h9) rfl hin rfl (by decide +kernel) rfl rfl (Nat.le_of_ble_eq_true rfl) dX_init_42 (fun H locs hP hD hS => ?_)
  have hP : va_P (dC, dI) vwCl [(h0, .inr (0, [.ref q1, .ref q2, .ref q3, .ref q4, .ref q5, .int 0, .null, .null, .null, .int 0, .null, .int 0, .int 0])), (q1, .inl (c1, 61, .inl (fun _ => 0))), (q2, .inl (c2, 61, .inl (fun _ => 0))), (q3, .inl (c3, 61, .inl (fun _ => 0))), (q4, .inl (c4, 61, .inl (fun _ => 0))), (q5, .inl (c5, 2440, .inl (fun _ => 0)))] H := hP
  have hD : va_D A [(h0, .inr (0, [.ref q1, .ref q2, .ref q3, .ref q4, .ref q5, .int 0, .null, .null, .null, .int 0, .null, .int 0, .int 0])), (q1, .inl (c1, 61, .inl (fun _ => 0))), (q2, .inl (c2, 61, .inl (fun _ => 0))), (q3, .inl (c3, 61, .inl (fun _ => 0))), (q4, .inl (c4, 61, .inl (fun _ => 0))), (q5, .inl (c5, 2440, .inl (fun _ => 0)))] := hD
  refine lv_aload_n hx hb dX_init_45 rfl (lv_at hl 0 rfl) ?_
  refine lv_iconst (v := (0 : Int32)) hx hb dX_init_46 (by decide) ?_
  refine va_put (D := (dC, dI)) (ci := 0) (v := .int 0) (ty := .int) (C := RX) (T := TX) (N := 13) hx hb hts inX tyX tyX_ok nmX hown hK hP hD hS 0 rfl rfl 5 (by decide) (hts _ mt_42) (fun _ h9 => h9) rfl (by decide +kernel) rfl rfl (Nat.le_of_ble_eq_true rfl) dX_init_47 (fun H locs hP hD hS => ?_)
  have hP : va_P (dC, dI) vwCl [(h0, .inr (0, [.ref q1, .ref q2, .ref q3, .ref q4, .ref q5, .int 0, .null, .null, .null, .int 0, .null, .int 0, .int 0])), (q1, .inl (c1, 61, .inl (fun _ => 0))), (q2, .inl (c2, 61, .inl (fun _ => 0))), (q3, .inl (c3, 61, .inl (fun _ => 0))), (q4, .inl (c4, 61, .inl (fun _ => 0))), (q5, .inl (c5, 2440, .inl (fun _ => 0)))] H := hP
  have hD : va_D A [(h0, .inr (0, [.ref q1, .ref q2, .ref q3, .ref q4, .ref q5, .int 0, .null, .null, .null, .int 0, .null, .int 0, .int 0])), (q1, .inl (c1, 61, .inl (fun _ => 0))), (q2, .inl (c2, 61, .inl (fun _ => 0))), (q3, .inl (c3, 61, .inl (fun _ => 0))), (q4, .inl (c4, 61, .inl (fun _ => 0))), (q5, .inl (c5, 2440, .inl (fun _ => 0)))] := hD
  refine lv_aload_n hx hb dX_init_50 rfl (lv_at hl 0 rfl) ?_
  refine lv_sipush (v := (200 : Int32)) hx hb dX_init_51 (by decide) ?_
  refine va_newa (atype := .int) (ty := .int) (a0 := (200, .inl (fun _ => 0))) (N' := 200) hx hb (hts _ mt_78) rfl hK hP hD hS hA (fun cA => rfl) (by decide) rfl (Nat.le_of_ble_eq_true rfl) (Nat.le_of_ble_eq_true rfl) (Nat.le_of_ble_eq_true rfl) dX_init_54 (fun q6 c6 H hK hP hD hS => ?_)
  have hP : va_P (dC, dI) vwCl [(h0, .inr (0, [.ref q1, .ref q2, .ref q3, .ref q4, .ref q5, .int 0, .null, .null, .null, .int 0, .null, .int 0, .int 0])), (q1, .inl (c1, 61, .inl (fun _ => 0))), (q2, .inl (c2, 61, .inl (fun _ => 0))), (q3, .inl (c3, 61, .inl (fun _ => 0))), (q4, .inl (c4, 61, .inl (fun _ => 0))), (q5, .inl (c5, 2440, .inl (fun _ => 0))), (q6, .inl (c6, 200, .inl (fun _ => 0)))] H := hP
  have hD : va_D A [(h0, .inr (0, [.ref q1, .ref q2, .ref q3, .ref q4, .ref q5, .int 0, .null, .null, .null, .int 0, .null, .int 0, .int 0])), (q1, .inl (c1, 61, .inl (fun _ => 0))), (q2, .inl (c2, 61, .inl (fun _ => 0))), (q3, .inl (c3, 61, .inl (fun _ => 0))), (q4, .inl (c4, 61, .inl (fun _ => 0))), (q5, .inl (c5, 2440, .inl (fun _ => 0))), (q6, .inl (c6, 200, .inl (fun _ => 0)))] := hD
  refine W.widen (k := 6) (n := 2884) (Nat.le_of_ble_eq_true rfl) (Nat.le_of_ble_eq_true rfl) ?_
  refine va_putF (D := (dC, dI)) (ci := 0) (v := .ref q6) (ty := .array .int) (C := RX) (T := TX) (N := 13) hx hb hts inX tyX tyX_ok nmX hown hK hP hD hS 0 rfl rfl 6 (by decide) (hts _ mt_43) (fun _ h9 => h9) rfl hin rfl (by decide +kernel) rfl rfl (Nat.le_of_ble_eq_true rfl) dX_init_56 (fun H locs hP hD hS => ?_)
  have hP : va_P (dC, dI) vwCl [(h0, .inr (0, [.ref q1, .ref q2, .ref q3, .ref q4, .ref q5, .int 0, .ref q6, .null, .null, .int 0, .null, .int 0, .int 0])), (q1, .inl (c1, 61, .inl (fun _ => 0))), (q2, .inl (c2, 61, .inl (fun _ => 0))), (q3, .inl (c3, 61, .inl (fun _ => 0))), (q4, .inl (c4, 61, .inl (fun _ => 0))), (q5, .inl (c5, 2440, .inl (fun _ => 0))), (q6, .inl (c6, 200, .inl (fun _ => 0)))] H := hP
  have hD : va_D A [(h0, .inr (0, [.ref q1, .ref q2, .ref q3, .ref q4, .ref q5, .int 0, .ref q6, .null, .null, .int 0, .null, .int 0, .int 0])), (q1, .inl (c1, 61, .inl (fun _ => 0))), (q2, .inl (c2, 61, .inl (fun _ => 0))), (q3, .inl (c3, 61, .inl (fun _ => 0))), (q4, .inl (c4, 61, .inl (fun _ => 0))), (q5, .inl (c5, 2440, .inl (fun _ => 0))), (q6, .inl (c6, 200, .inl (fun _ => 0)))] := hD
  refine lv_aload_n hx hb dX_init_59 rfl (lv_at hl 0 rfl) ?_
  refine lv_sipush (v := (200 : Int32)) hx hb dX_init_60 (by decide) ?_
  refine va_newa (atype := .int) (ty := .int) (a0 := (200, .inl (fun _ => 0))) (N' := 200) hx hb (hts _ mt_78) rfl hK hP hD hS hA (fun cA => rfl) (by decide) rfl (Nat.le_of_ble_eq_true rfl) (Nat.le_of_ble_eq_true rfl) (Nat.le_of_ble_eq_true rfl) dX_init_63 (fun q7 c7 H hK hP hD hS => ?_)
  have hP : va_P (dC, dI) vwCl [(h0, .inr (0, [.ref q1, .ref q2, .ref q3, .ref q4, .ref q5, .int 0, .ref q6, .null, .null, .int 0, .null, .int 0, .int 0])), (q1, .inl (c1, 61, .inl (fun _ => 0))), (q2, .inl (c2, 61, .inl (fun _ => 0))), (q3, .inl (c3, 61, .inl (fun _ => 0))), (q4, .inl (c4, 61, .inl (fun _ => 0))), (q5, .inl (c5, 2440, .inl (fun _ => 0))), (q6, .inl (c6, 200, .inl (fun _ => 0))), (q7, .inl (c7, 200, .inl (fun _ => 0)))] H := hP
  have hD : va_D A [(h0, .inr (0, [.ref q1, .ref q2, .ref q3, .ref q4, .ref q5, .int 0, .ref q6, .null, .null, .int 0, .null, .int 0, .int 0])), (q1, .inl (c1, 61, .inl (fun _ => 0))), (q2, .inl (c2, 61, .inl (fun _ => 0))), (q3, .inl (c3, 61, .inl (fun _ => 0))), (q4, .inl (c4, 61, .inl (fun _ => 0))), (q5, .inl (c5, 2440, .inl (fun _ => 0))), (q6, .inl (c6, 200, .inl (fun _ => 0))), (q7, .inl (c7, 200, .inl (fun _ => 0)))] := hD
  refine W.widen (k := 7) (n := 3084) (Nat.le_of_ble_eq_true rfl) (Nat.le_of_ble_eq_true rfl) ?_
  refine va_putF (D := (dC, dI)) (ci := 0) (v := .ref q7) (ty := .array .int) (C := RX) (T := TX) (N := 13) hx hb hts inX tyX tyX_ok nmX hown hK hP hD hS 0 rfl rfl 7 (by decide) (hts _ mt_44) (fun _ h9 => h9) rfl hin rfl (by decide +kernel) rfl rfl (Nat.le_of_ble_eq_true rfl) dX_init_65 (fun H locs hP hD hS => ?_)
  have hP : va_P (dC, dI) vwCl [(h0, .inr (0, [.ref q1, .ref q2, .ref q3, .ref q4, .ref q5, .int 0, .ref q6, .ref q7, .null, .int 0, .null, .int 0, .int 0])), (q1, .inl (c1, 61, .inl (fun _ => 0))), (q2, .inl (c2, 61, .inl (fun _ => 0))), (q3, .inl (c3, 61, .inl (fun _ => 0))), (q4, .inl (c4, 61, .inl (fun _ => 0))), (q5, .inl (c5, 2440, .inl (fun _ => 0))), (q6, .inl (c6, 200, .inl (fun _ => 0))), (q7, .inl (c7, 200, .inl (fun _ => 0)))] H := hP
  have hD : va_D A [(h0, .inr (0, [.ref q1, .ref q2, .ref q3, .ref q4, .ref q5, .int 0, .ref q6, .ref q7, .null, .int 0, .null, .int 0, .int 0])), (q1, .inl (c1, 61, .inl (fun _ => 0))), (q2, .inl (c2, 61, .inl (fun _ => 0))), (q3, .inl (c3, 61, .inl (fun _ => 0))), (q4, .inl (c4, 61, .inl (fun _ => 0))), (q5, .inl (c5, 2440, .inl (fun _ => 0))), (q6, .inl (c6, 200, .inl (fun _ => 0))), (q7, .inl (c7, 200, .inl (fun _ => 0)))] := hD
  refine lv_aload_n hx hb dX_init_68 rfl (lv_at hl 0 rfl) ?_
  refine lv_sipush (v := (200 : Int32)) hx hb dX_init_69 (by decide) ?_
  refine va_newa (atype := .int) (ty := .int) (a0 := (200, .inl (fun _ => 0))) (N' := 200) hx hb (hts _ mt_78) rfl hK hP hD hS hA (fun cA => rfl) (by decide) rfl (Nat.le_of_ble_eq_true rfl) (Nat.le_of_ble_eq_true rfl) (Nat.le_of_ble_eq_true rfl) dX_init_72 (fun q8 c8 H hK hP hD hS => ?_)
  have hP : va_P (dC, dI) vwCl [(h0, .inr (0, [.ref q1, .ref q2, .ref q3, .ref q4, .ref q5, .int 0, .ref q6, .ref q7, .null, .int 0, .null, .int 0, .int 0])), (q1, .inl (c1, 61, .inl (fun _ => 0))), (q2, .inl (c2, 61, .inl (fun _ => 0))), (q3, .inl (c3, 61, .inl (fun _ => 0))), (q4, .inl (c4, 61, .inl (fun _ => 0))), (q5, .inl (c5, 2440, .inl (fun _ => 0))), (q6, .inl (c6, 200, .inl (fun _ => 0))), (q7, .inl (c7, 200, .inl (fun _ => 0))), (q8, .inl (c8, 200, .inl (fun _ => 0)))] H := hP
  have hD : va_D A [(h0, .inr (0, [.ref q1, .ref q2, .ref q3, .ref q4, .ref q5, .int 0, .ref q6, .ref q7, .null, .int 0, .null, .int 0, .int 0])), (q1, .inl (c1, 61, .inl (fun _ => 0))), (q2, .inl (c2, 61, .inl (fun _ => 0))), (q3, .inl (c3, 61, .inl (fun _ => 0))), (q4, .inl (c4, 61, .inl (fun _ => 0))), (q5, .inl (c5, 2440, .inl (fun _ => 0))), (q6, .inl (c6, 200, .inl (fun _ => 0))), (q7, .inl (c7, 200, .inl (fun _ => 0))), (q8, .inl (c8, 200, .inl (fun _ => 0)))] := hD
  refine W.widen (k := 8) (n := 3284) (Nat.le_of_ble_eq_true rfl) (Nat.le_of_ble_eq_true rfl) ?_
  refine va_putF (D := (dC, dI)) (ci := 0) (v := .ref q8) (ty := .array .int) (C := RX) (T := TX) (N := 13) hx hb hts inX tyX tyX_ok nmX hown hK hP hD hS 0 rfl rfl 8 (by decide) (hts _ mt_45) (fun _ h9 => h9) rfl hin rfl (by decide +kernel) rfl rfl (Nat.le_of_ble_eq_true rfl) dX_init_74 (fun H locs hP hD hS => ?_)
  have hP : va_P (dC, dI) vwCl [(h0, .inr (0, [.ref q1, .ref q2, .ref q3, .ref q4, .ref q5, .int 0, .ref q6, .ref q7, .ref q8, .int 0, .null, .int 0, .int 0])), (q1, .inl (c1, 61, .inl (fun _ => 0))), (q2, .inl (c2, 61, .inl (fun _ => 0))), (q3, .inl (c3, 61, .inl (fun _ => 0))), (q4, .inl (c4, 61, .inl (fun _ => 0))), (q5, .inl (c5, 2440, .inl (fun _ => 0))), (q6, .inl (c6, 200, .inl (fun _ => 0))), (q7, .inl (c7, 200, .inl (fun _ => 0))), (q8, .inl (c8, 200, .inl (fun _ => 0)))] H := hP
  have hD : va_D A [(h0, .inr (0, [.ref q1, .ref q2, .ref q3, .ref q4, .ref q5, .int 0, .ref q6, .ref q7, .ref q8, .int 0, .null, .int 0, .int 0])), (q1, .inl (c1, 61, .inl (fun _ => 0))), (q2, .inl (c2, 61, .inl (fun _ => 0))), (q3, .inl (c3, 61, .inl (fun _ => 0))), (q4, .inl (c4, 61, .inl (fun _ => 0))), (q5, .inl (c5, 2440, .inl (fun _ => 0))), (q6, .inl (c6, 200, .inl (fun _ => 0))), (q7, .inl (c7, 200, .inl (fun _ => 0))), (q8, .inl (c8, 200, .inl (fun _ => 0)))] := hD
  refine lv_aload_n hx hb dX_init_77 rfl (lv_at hl 0 rfl) ?_
  refine lv_iconst (v := (0 : Int32)) hx hb dX_init_78 (by decide) ?_
  refine va_put (D := (dC, dI)) (ci := 0) (v := .int 0) (ty := .int) (C := RX) (T := TX) (N := 13) hx hb hts inX tyX tyX_ok nmX hown hK hP hD hS 0 rfl rfl 9 (by decide) (hts _ mt_46) (fun _ h9 => h9) rfl (by decide +kernel) rfl rfl (Nat.le_of_ble_eq_true rfl) dX_init_79 (fun H locs hP hD hS => ?_)
  have hP : va_P (dC, dI) vwCl [(h0, .inr (0, [.ref q1, .ref q2, .ref q3, .ref q4, .ref q5, .int 0, .ref q6, .ref q7, .ref q8, .int 0, .null, .int 0, .int 0])), (q1, .inl (c1, 61, .inl (fun _ => 0))), (q2, .inl (c2, 61, .inl (fun _ => 0))), (q3, .inl (c3, 61, .inl (fun _ => 0))), (q4, .inl (c4, 61, .inl (fun _ => 0))), (q5, .inl (c5, 2440, .inl (fun _ => 0))), (q6, .inl (c6, 200, .inl (fun _ => 0))), (q7, .inl (c7, 200, .inl (fun _ => 0))), (q8, .inl (c8, 200, .inl (fun _ => 0)))] H := hP
  have hD : va_D A [(h0, .inr (0, [.ref q1, .ref q2, .ref q3, .ref q4, .ref q5, .int 0, .ref q6, .ref q7, .ref q8, .int 0, .null, .int 0, .int 0])), (q1, .inl (c1, 61, .inl (fun _ => 0))), (q2, .inl (c2, 61, .inl (fun _ => 0))), (q3, .inl (c3, 61, .inl (fun _ => 0))), (q4, .inl (c4, 61, .inl (fun _ => 0))), (q5, .inl (c5, 2440, .inl (fun _ => 0))), (q6, .inl (c6, 200, .inl (fun _ => 0))), (q7, .inl (c7, 200, .inl (fun _ => 0))), (q8, .inl (c8, 200, .inl (fun _ => 0)))] := hD
  refine lv_aload_n hx hb dX_init_82 rfl (lv_at hl 0 rfl) ?_
  refine lv_bipush (v := (60 : Int32)) hx hb dX_init_83 (by decide) ?_
  refine va_newa (atype := .int) (ty := .int) (a0 := (60, .inl (fun _ => 0))) (N' := 60) hx hb (hts _ mt_78) rfl hK hP hD hS hA (fun cA => rfl) (by decide) rfl (Nat.le_of_ble_eq_true rfl) (Nat.le_of_ble_eq_true rfl) (Nat.le_of_ble_eq_true rfl) dX_init_85 (fun q9 c9 H hK hP hD hS => ?_)
  have hP : va_P (dC, dI) vwCl [(h0, .inr (0, [.ref q1, .ref q2, .ref q3, .ref q4, .ref q5, .int 0, .ref q6, .ref q7, .ref q8, .int 0, .null, .int 0, .int 0])), (q1, .inl (c1, 61, .inl (fun _ => 0))), (q2, .inl (c2, 61, .inl (fun _ => 0))), (q3, .inl (c3, 61, .inl (fun _ => 0))), (q4, .inl (c4, 61, .inl (fun _ => 0))), (q5, .inl (c5, 2440, .inl (fun _ => 0))), (q6, .inl (c6, 200, .inl (fun _ => 0))), (q7, .inl (c7, 200, .inl (fun _ => 0))), (q8, .inl (c8, 200, .inl (fun _ => 0))), (q9, .inl (c9, 60, .inl (fun _ => 0)))] H := hP
  have hD : va_D A [(h0, .inr (0, [.ref q1, .ref q2, .ref q3, .ref q4, .ref q5, .int 0, .ref q6, .ref q7, .ref q8, .int 0, .null, .int 0, .int 0])), (q1, .inl (c1, 61, .inl (fun _ => 0))), (q2, .inl (c2, 61, .inl (fun _ => 0))), (q3, .inl (c3, 61, .inl (fun _ => 0))), (q4, .inl (c4, 61, .inl (fun _ => 0))), (q5, .inl (c5, 2440, .inl (fun _ => 0))), (q6, .inl (c6, 200, .inl (fun _ => 0))), (q7, .inl (c7, 200, .inl (fun _ => 0))), (q8, .inl (c8, 200, .inl (fun _ => 0))), (q9, .inl (c9, 60, .inl (fun _ => 0)))] := hD
  refine W.widen (k := 9) (n := 3344) (Nat.le_of_ble_eq_true rfl) (Nat.le_of_ble_eq_true rfl) ?_
  refine va_putF (D := (dC, dI)) (ci := 0) (v := .ref q9) (ty := .array .int) (C := RX) (T := TX) (N := 13) hx hb hts inX tyX tyX_ok nmX hown hK hP hD hS 0 rfl rfl 10 (by decide) (hts _ mt_47) (fun _ h9 => h9) rfl hin rfl (by decide +kernel) rfl rfl (Nat.le_of_ble_eq_true rfl) dX_init_87 (fun H locs hP hD hS => ?_)
  have hP : va_P (dC, dI) vwCl [(h0, .inr (0, [.ref q1, .ref q2, .ref q3, .ref q4, .ref q5, .int 0, .ref q6, .ref q7, .ref q8, .int 0, .ref q9, .int 0, .int 0])), (q1, .inl (c1, 61, .inl (fun _ => 0))), (q2, .inl (c2, 61, .inl (fun _ => 0))), (q3, .inl (c3, 61, .inl (fun _ => 0))), (q4, .inl (c4, 61, .inl (fun _ => 0))), (q5, .inl (c5, 2440, .inl (fun _ => 0))), (q6, .inl (c6, 200, .inl (fun _ => 0))), (q7, .inl (c7, 200, .inl (fun _ => 0))), (q8, .inl (c8, 200, .inl (fun _ => 0))), (q9, .inl (c9, 60, .inl (fun _ => 0)))] H := hP
  have hD : va_D A [(h0, .inr (0, [.ref q1, .ref q2, .ref q3, .ref q4, .ref q5, .int 0, .ref q6, .ref q7, .ref q8, .int 0, .ref q9, .int 0, .int 0])), (q1, .inl (c1, 61, .inl (fun _ => 0))), (q2, .inl (c2, 61, .inl (fun _ => 0))), (q3, .inl (c3, 61, .inl (fun _ => 0))), (q4, .inl (c4, 61, .inl (fun _ => 0))), (q5, .inl (c5, 2440, .inl (fun _ => 0))), (q6, .inl (c6, 200, .inl (fun _ => 0))), (q7, .inl (c7, 200, .inl (fun _ => 0))), (q8, .inl (c8, 200, .inl (fun _ => 0))), (q9, .inl (c9, 60, .inl (fun _ => 0)))] := hD
  refine lv_aload_n hx hb dX_init_90 rfl (lv_at hl 0 rfl) ?_
  refine lv_iconst (v := (0 : Int32)) hx hb dX_init_91 (by decide) ?_
  refine va_put (D := (dC, dI)) (ci := 0) (v := .int 0) (ty := .int) (C := RX) (T := TX) (N := 13) hx hb hts inX tyX tyX_ok nmX hown hK hP hD hS 0 rfl rfl 11 (by decide) (hts _ mt_48) (fun _ h9 => h9) rfl (by decide +kernel) rfl rfl (Nat.le_of_ble_eq_true rfl) dX_init_92 (fun H locs hP hD hS => ?_)
  have hP : va_P (dC, dI) vwCl [(h0, .inr (0, [.ref q1, .ref q2, .ref q3, .ref q4, .ref q5, .int 0, .ref q6, .ref q7, .ref q8, .int 0, .ref q9, .int 0, .int 0])), (q1, .inl (c1, 61, .inl (fun _ => 0))), (q2, .inl (c2, 61, .inl (fun _ => 0))), (q3, .inl (c3, 61, .inl (fun _ => 0))), (q4, .inl (c4, 61, .inl (fun _ => 0))), (q5, .inl (c5, 2440, .inl (fun _ => 0))), (q6, .inl (c6, 200, .inl (fun _ => 0))), (q7, .inl (c7, 200, .inl (fun _ => 0))), (q8, .inl (c8, 200, .inl (fun _ => 0))), (q9, .inl (c9, 60, .inl (fun _ => 0)))] H := hP
  have hD : va_D A [(h0, .inr (0, [.ref q1, .ref q2, .ref q3, .ref q4, .ref q5, .int 0, .ref q6, .ref q7, .ref q8, .int 0, .ref q9, .int 0, .int 0])), (q1, .inl (c1, 61, .inl (fun _ => 0))), (q2, .inl (c2, 61, .inl (fun _ => 0))), (q3, .inl (c3, 61, .inl (fun _ => 0))), (q4, .inl (c4, 61, .inl (fun _ => 0))), (q5, .inl (c5, 2440, .inl (fun _ => 0))), (q6, .inl (c6, 200, .inl (fun _ => 0))), (q7, .inl (c7, 200, .inl (fun _ => 0))), (q8, .inl (c8, 200, .inl (fun _ => 0))), (q9, .inl (c9, 60, .inl (fun _ => 0)))] := hD
  refine lv_aload_n hx hb dX_init_95 rfl (lv_at hl 0 rfl) ?_
  refine lv_iconst (v := (0 : Int32)) hx hb dX_init_96 (by decide) ?_
  refine va_put (D := (dC, dI)) (ci := 0) (v := .int 0) (ty := .int) (C := RX) (T := TX) (N := 13) hx hb hts inX tyX tyX_ok nmX hown hK hP hD hS 0 rfl rfl 12 (by decide) (hts _ mt_49) (fun _ h9 => h9) rfl (by decide +kernel) rfl rfl (Nat.le_of_ble_eq_true rfl) dX_init_97 (fun H locs hP hD hS => ?_)
  have hP : va_P (dC, dI) vwCl [(h0, .inr (0, [.ref q1, .ref q2, .ref q3, .ref q4, .ref q5, .int 0, .ref q6, .ref q7, .ref q8, .int 0, .ref q9, .int 0, .int 0])), (q1, .inl (c1, 61, .inl (fun _ => 0))), (q2, .inl (c2, 61, .inl (fun _ => 0))), (q3, .inl (c3, 61, .inl (fun _ => 0))), (q4, .inl (c4, 61, .inl (fun _ => 0))), (q5, .inl (c5, 2440, .inl (fun _ => 0))), (q6, .inl (c6, 200, .inl (fun _ => 0))), (q7, .inl (c7, 200, .inl (fun _ => 0))), (q8, .inl (c8, 200, .inl (fun _ => 0))), (q9, .inl (c9, 60, .inl (fun _ => 0)))] H := hP
  have hD : va_D A [(h0, .inr (0, [.ref q1, .ref q2, .ref q3, .ref q4, .ref q5, .int 0, .ref q6, .ref q7, .ref q8, .int 0, .ref q9, .int 0, .int 0])), (q1, .inl (c1, 61, .inl (fun _ => 0))), (q2, .inl (c2, 61, .inl (fun _ => 0))), (q3, .inl (c3, 61, .inl (fun _ => 0))), (q4, .inl (c4, 61, .inl (fun _ => 0))), (q5, .inl (c5, 2440, .inl (fun _ => 0))), (q6, .inl (c6, 200, .inl (fun _ => 0))), (q7, .inl (c7, 200, .inl (fun _ => 0))), (q8, .inl (c8, 200, .inl (fun _ => 0))), (q9, .inl (c9, 60, .inl (fun _ => 0)))] := hD
  have e3 : c2 = c3 := Option.some.inj ((show s.vm.findClass ("[" ++ FieldType.int.toString) = some c2 from (hK.2 1 _ rfl).2).symm.trans (show s.vm.findClass ("[" ++ FieldType.int.toString) = some c3 from (hK.2 2 _ rfl).2))
  subst e3
  have e4 : c2 = c4 := Option.some.inj ((show s.vm.findClass ("[" ++ FieldType.int.toString) = some c2 from (hK.2 1 _ rfl).2).symm.trans (show s.vm.findClass ("[" ++ FieldType.int.toString) = some c4 from (hK.2 3 _ rfl).2))
  subst e4
  have e5 : c2 = c5 := Option.some.inj ((show s.vm.findClass ("[" ++ FieldType.int.toString) = some c2 from (hK.2 1 _ rfl).2).symm.trans (show s.vm.findClass ("[" ++ FieldType.int.toString) = some c5 from (hK.2 4 _ rfl).2))
  subst e5
  have e6 : c2 = c6 := Option.some.inj ((show s.vm.findClass ("[" ++ FieldType.int.toString) = some c2 from (hK.2 1 _ rfl).2).symm.trans (show s.vm.findClass ("[" ++ FieldType.int.toString) = some c6 from (hK.2 5 _ rfl).2))
  subst e6
  have e7 : c2 = c7 := Option.some.inj ((show s.vm.findClass ("[" ++ FieldType.int.toString) = some c2 from (hK.2 1 _ rfl).2).symm.trans (show s.vm.findClass ("[" ++ FieldType.int.toString) = some c7 from (hK.2 6 _ rfl).2))
  subst e7
  have e8 : c2 = c8 := Option.some.inj ((show s.vm.findClass ("[" ++ FieldType.int.toString) = some c2 from (hK.2 1 _ rfl).2).symm.trans (show s.vm.findClass ("[" ++ FieldType.int.toString) = some c8 from (hK.2 7 _ rfl).2))
  subst e8
  have e9 : c2 = c9 := Option.some.inj ((show s.vm.findClass ("[" ++ FieldType.int.toString) = some c2 from (hK.2 1 _ rfl).2).symm.trans (show s.vm.findClass ("[" ++ FieldType.int.toString) = some c9 from (hK.2 8 _ rfl).2))
  subst e9
  have hK9 := hK.sub (tys' := [(c2, .int), (c1, .boolean)]) [1, 0] rfl
  exact W.vret hx hb hr (fun t ht hW => ⟨⟨(), rfl, trivial, fun k => match k with
    | 0 => h0
    | 1 => q1
    | 2 => q2
    | 3 => q3
    | 4 => q4
    | 5 => q5
    | 6 => q6
    | 7 => q7
    | 8 => q8
    | _ => q9, c2, c1, rfl, by rw [ht]; exact hP, va_K.moved hW.alike hK9, hD⟩, hS.F ht⟩) hS.2.2 dX_init_100
def m_zero : MSt := (0, 0, (fun _ => 0), (fun _ => 0), (fun _ => 0), (fun _ => 0), (fun _ => 0), 0, 0, (fun _ => 0), (fun _ => 0), (fun _ => 0), (fun _ => 0), 0)
def at_M (dC : Nat → ClassId) (dI : Nat → Nat → Nat) (A : Nat → Prop) (h0 : Nat) (t : State) : Prop := ∃ (a : Nat → Nat) (cI cZ : ClassId), a 0 = h0 ∧ va_P (dC, dI) vwCl (w_M a cI cZ m_zero) t.heap ∧ va_K (dC, dI) vwCl [(cI, .int), (cZ, .boolean)] t ∧ va_D A (w_M a cI cZ m_zero)
set_option maxHeartbeats 4000000 in
set_option maxRecDepth 100000 in
theorem kM_init (l : Launch) (dC : Nat → ClassId) (dI : Nat → Nat → Nat) (h0 : Nat) (sz : Nat) : Met l yM_init wdM_init ({ frames := 1, cells := 9, slots := 3345, locals := 12 } : Room) (va_Pc [.ref h0] (fun U => U.heap.size = sz ∧ va_P (dC, dI) vwCl [(h0, .inr (1, [.int 0, .int 0, .null, .null, .null, .null, .null, .int 0, .int 0, .null, .null, .null, .null, .int 0]))] U.heap ∧ va_K (dC, dI) vwCl [] U ∧ va_D (fun _ => True) [(h0, .inr (1, [.int 0, .int 0, .null, .null, .null, .null, .null, .int 0, .int 0, .null, .null, .null, .null, .int 0]))])) (va_Qv (fun _ : Unit => True) (fun _ t => at_M dC dI (va_A [(h0, .inr (1, [.int 0, .int 0, .null, .null, .null, .null, .null, .int 0, .int 0, .null, .null, .null, .null, .int 0]))] sz) h0 t) (va_A [(h0, .inr (1, [.int 0, .int 0, .null, .null, .null, .null, .null, .int 0, .int 0, .null, .null, .null, .null, .int 0]))] sz)) 9 3345 (va_A [(h0, .inr (1, [.int 0, .int 0, .null, .null, .null, .null, .null, .int 0, .int 0, .null, .null, .null, .null, .int 0]))] sz) := by
  refine Met.ofW (cc := cM_init) (maxL := 1) (ret := none) (by decide) rfl ?_
  intro p e s m args below meth c s₁ B hml hv
  obtain ⟨rfl, hsz, hP, hK, hD0⟩ := hv
  have hx := B.exec
  have hb := B.bytes
  have hr := B.returns
  have hts0 := atoms_spec (ws := wdM_init) B.pre
  have hts : ∀ w ∈ lw_g, w.before _ s = true := fun w h => hts0 w (List.mem_cons_of_mem _ h)
  have hown : s.vm.findClass RM = some m.cls := findClass_of_methodNamed B.named
  have hlocks := B.notSynchronized
  have hin : meth.name = "<init>" := (name_of_methodNamed B.named B.method).1
  subst hsz
  have hD := hD0.self (sz := s.heap.size)
  generalize hAe : va_A [(h0, .inr (1, [.int 0, .int 0, .null, .null, .null, .null, .null, .int 0, .int 0, .null, .null, .null, .null, .int 0]))] s.heap.size = A at hD ⊢
  have hA : ∀ q : Nat, s.heap.size ≤ q → A q := fun q h => by rw [← hAe]; exact Or.inr h
  have hS : va_S A s.heap s.heap [] := va_S.rf
  have hl := lv_entry ([.ref h0]) (n := 1) (Nat.le_of_ble_eq_true rfl)
  rw [lg_entry_eq]
  generalize (lg_sl ([.ref h0]) ++ List.replicate (1 - (lg_sl ([.ref h0])).length) Slot.unset).toArray = ls at hl ⊢
  have hl : lv_has ls 1 [(0, .ref h0)] := hl
  refine lv_aload_n hx hb dM_init_0 rfl (lv_at hl 0 rfl) ?_
  refine W.objInit hx hb hown (hts _ mt_211) (hts _ mt_35) (hts _ mt_36) rfl (by rw [hml]; exact hl.1) rfl dM_init_1 (Nat.le_of_ble_eq_true rfl) (Nat.le_of_ble_eq_true rfl) ?_
  refine W.eq (g2 := F0 m 4 ls []) rfl ?_
  refine lv_aload_n hx hb dM_init_4 rfl (lv_at hl 0 rfl) ?_
  refine lv_bipush (v := (61 : Int32)) hx hb dM_init_5 (by decide) ?_
  refine va_newa (atype := .boolean) (ty := .boolean) (a0 := (61, .inl (fun _ => 0))) (N' := 61) hx hb (hts _ mt_77) rfl hK hP hD hS hA (fun cA => rfl) (by decide) rfl (Nat.le_of_ble_eq_true rfl) (Nat.le_of_ble_eq_true rfl) (Nat.le_of_ble_eq_true rfl) dM_init_7 (fun q1 c1 H hK hP hD hS => ?_)
  have hP : va_P (dC, dI) vwCl [(h0, .inr (1, [.int 0, .int 0, .null, .null, .null, .null, .null, .int 0, .int 0, .null, .null, .null, .null, .int 0])), (q1, .inl (c1, 61, .inl (fun _ => 0)))] H := hP
  have hD : va_D A [(h0, .inr (1, [.int 0, .int 0, .null, .null, .null, .null, .null, .int 0, .int 0, .null, .null, .null, .null, .int 0])), (q1, .inl (c1, 61, .inl (fun _ => 0)))] := hD
  refine W.widen (k := 1) (n := 61) (Nat.le_of_ble_eq_true rfl) (Nat.le_of_ble_eq_true rfl) ?_
  refine va_putF (D := (dC, dI)) (ci := 1) (v := .ref q1) (ty := .array .boolean) (C := RM) (T := TM) (N := 14) hx hb hts inM tyM tyM_ok nmM hown hK hP hD hS 0 rfl rfl 2 (by decide) (hts _ mt_214) (fun _ h9 => h9) rfl hin rfl (by decide +kernel) rfl rfl (Nat.le_of_ble_eq_true rfl) dM_init_9 (fun H locs hP hD hS => ?_)
  have hP : va_P (dC, dI) vwCl [(h0, .inr (1, [.int 0, .int 0, .ref q1, .null, .null, .null, .null, .int 0, .int 0, .null, .null, .null, .null, .int 0])), (q1, .inl (c1, 61, .inl (fun _ => 0)))] H := hP
  have hD : va_D A [(h0, .inr (1, [.int 0, .int 0, .ref q1, .null, .null, .null, .null, .int 0, .int 0, .null, .null, .null, .null, .int 0])), (q1, .inl (c1, 61, .inl (fun _ => 0)))] := hD
  refine lv_aload_n hx hb dM_init_12 rfl (lv_at hl 0 rfl) ?_
  refine lv_bipush (v := (61 : Int32)) hx hb dM_init_13 (by decide) ?_
  refine va_newa (atype := .int) (ty := .int) (a0 := (61, .inl (fun _ => 0))) (N' := 61) hx hb (hts _ mt_78) rfl hK hP hD hS hA (fun cA => rfl) (by decide) rfl (Nat.le_of_ble_eq_true rfl) (Nat.le_of_ble_eq_true rfl) (Nat.le_of_ble_eq_true rfl) dM_init_15 (fun q2 c2 H hK hP hD hS => ?_)
  have hP : va_P (dC, dI) vwCl [(h0, .inr (1, [.int 0, .int 0, .ref q1, .null, .null, .null, .null, .int 0, .int 0, .null, .null, .null, .null, .int 0])), (q1, .inl (c1, 61, .inl (fun _ => 0))), (q2, .inl (c2, 61, .inl (fun _ => 0)))] H := hP
  have hD : va_D A [(h0, .inr (1, [.int 0, .int 0, .ref q1, .null, .null, .null, .null, .int 0, .int 0, .null, .null, .null, .null, .int 0])), (q1, .inl (c1, 61, .inl (fun _ => 0))), (q2, .inl (c2, 61, .inl (fun _ => 0)))] := hD
  refine W.widen (k := 2) (n := 122) (Nat.le_of_ble_eq_true rfl) (Nat.le_of_ble_eq_true rfl) ?_
  refine va_putF (D := (dC, dI)) (ci := 1) (v := .ref q2) (ty := .array .int) (C := RM) (T := TM) (N := 14) hx hb hts inM tyM tyM_ok nmM hown hK hP hD hS 0 rfl rfl 3 (by decide) (hts _ mt_215) (fun _ h9 => h9) rfl hin rfl (by decide +kernel) rfl rfl (Nat.le_of_ble_eq_true rfl) dM_init_17 (fun H locs hP hD hS => ?_)
  have hP : va_P (dC, dI) vwCl [(h0, .inr (1, [.int 0, .int 0, .ref q1, .ref q2, .null, .null, .null, .int 0, .int 0, .null, .null, .null, .null, .int 0])), (q1, .inl (c1, 61, .inl (fun _ => 0))), (q2, .inl (c2, 61, .inl (fun _ => 0)))] H := hP
  have hD : va_D A [(h0, .inr (1, [.int 0, .int 0, .ref q1, .ref q2, .null, .null, .null, .int 0, .int 0, .null, .null, .null, .null, .int 0])), (q1, .inl (c1, 61, .inl (fun _ => 0))), (q2, .inl (c2, 61, .inl (fun _ => 0)))] := hD
  refine lv_aload_n hx hb dM_init_20 rfl (lv_at hl 0 rfl) ?_
  refine lv_bipush (v := (61 : Int32)) hx hb dM_init_21 (by decide) ?_
  refine va_newa (atype := .int) (ty := .int) (a0 := (61, .inl (fun _ => 0))) (N' := 61) hx hb (hts _ mt_78) rfl hK hP hD hS hA (fun cA => rfl) (by decide) rfl (Nat.le_of_ble_eq_true rfl) (Nat.le_of_ble_eq_true rfl) (Nat.le_of_ble_eq_true rfl) dM_init_23 (fun q3 c3 H hK hP hD hS => ?_)
  have hP : va_P (dC, dI) vwCl [(h0, .inr (1, [.int 0, .int 0, .ref q1, .ref q2, .null, .null, .null, .int 0, .int 0, .null, .null, .null, .null, .int 0])), (q1, .inl (c1, 61, .inl (fun _ => 0))), (q2, .inl (c2, 61, .inl (fun _ => 0))), (q3, .inl (c3, 61, .inl (fun _ => 0)))] H := hP
  have hD : va_D A [(h0, .inr (1, [.int 0, .int 0, .ref q1, .ref q2, .null, .null, .null, .int 0, .int 0, .null, .null, .null, .null, .int 0])), (q1, .inl (c1, 61, .inl (fun _ => 0))), (q2, .inl (c2, 61, .inl (fun _ => 0))), (q3, .inl (c3, 61, .inl (fun _ => 0)))] := hD
  refine W.widen (k := 3) (n := 183) (Nat.le_of_ble_eq_true rfl) (Nat.le_of_ble_eq_true rfl) ?_
  refine va_putF (D := (dC, dI)) (ci := 1) (v := .ref q3) (ty := .array .int) (C := RM) (T := TM) (N := 14) hx hb hts inM tyM tyM_ok nmM hown hK hP hD hS 0 rfl rfl 4 (by decide) (hts _ mt_216) (fun _ h9 => h9) rfl hin rfl (by decide +kernel) rfl rfl (Nat.le_of_ble_eq_true rfl) dM_init_25 (fun H locs hP hD hS => ?_)
  have hP : va_P (dC, dI) vwCl [(h0, .inr (1, [.int 0, .int 0, .ref q1, .ref q2, .ref q3, .null, .null, .int 0, .int 0, .null, .null, .null, .null, .int 0])), (q1, .inl (c1, 61, .inl (fun _ => 0))), (q2, .inl (c2, 61, .inl (fun _ => 0))), (q3, .inl (c3, 61, .inl (fun _ => 0)))] H := hP
  have hD : va_D A [(h0, .inr (1, [.int 0, .int 0, .ref q1, .ref q2, .ref q3, .null, .null, .int 0, .int 0, .null, .null, .null, .null, .int 0])), (q1, .inl (c1, 61, .inl (fun _ => 0))), (q2, .inl (c2, 61, .inl (fun _ => 0))), (q3, .inl (c3, 61, .inl (fun _ => 0)))] := hD
  refine lv_aload_n hx hb dM_init_28 rfl (lv_at hl 0 rfl) ?_
  refine lv_sipush (v := (2440 : Int32)) hx hb dM_init_29 (by decide) ?_
  refine va_newa (atype := .int) (ty := .int) (a0 := (2440, .inl (fun _ => 0))) (N' := 2440) hx hb (hts _ mt_78) rfl hK hP hD hS hA (fun cA => rfl) (by decide) rfl (Nat.le_of_ble_eq_true rfl) (Nat.le_of_ble_eq_true rfl) (Nat.le_of_ble_eq_true rfl) dM_init_32 (fun q4 c4 H hK hP hD hS => ?_)
  have hP : va_P (dC, dI) vwCl [(h0, .inr (1, [.int 0, .int 0, .ref q1, .ref q2, .ref q3, .null, .null, .int 0, .int 0, .null, .null, .null, .null, .int 0])), (q1, .inl (c1, 61, .inl (fun _ => 0))), (q2, .inl (c2, 61, .inl (fun _ => 0))), (q3, .inl (c3, 61, .inl (fun _ => 0))), (q4, .inl (c4, 2440, .inl (fun _ => 0)))] H := hP
  have hD : va_D A [(h0, .inr (1, [.int 0, .int 0, .ref q1, .ref q2, .ref q3, .null, .null, .int 0, .int 0, .null, .null, .null, .null, .int 0])), (q1, .inl (c1, 61, .inl (fun _ => 0))), (q2, .inl (c2, 61, .inl (fun _ => 0))), (q3, .inl (c3, 61, .inl (fun _ => 0))), (q4, .inl (c4, 2440, .inl (fun _ => 0)))] := hD
  refine W.widen (k := 4) (n := 2623) (Nat.le_of_ble_eq_true rfl) (Nat.le_of_ble_eq_true rfl) ?_
  refine va_putF (D := (dC, dI)) (ci := 1) (v := .ref q4) (ty := .array .int) (C := RM) (T := TM) (N := 14) hx hb hts inM tyM tyM_ok nmM hown hK hP hD hS 0 rfl rfl 5 (by decide) (hts _ mt_217) (fun _ h9 => h9) rfl hin rfl (by decide +kernel) rfl rfl (Nat.le_of_ble_eq_true rfl) dM_init_34 (fun H locs hP hD hS => ?_)
  have hP : va_P (dC, dI) vwCl [(h0, .inr (1, [.int 0, .int 0, .ref q1, .ref q2, .ref q3, .ref q4, .null, .int 0, .int 0, .null, .null, .null, .null, .int 0])), (q1, .inl (c1, 61, .inl (fun _ => 0))), (q2, .inl (c2, 61, .inl (fun _ => 0))), (q3, .inl (c3, 61, .inl (fun _ => 0))), (q4, .inl (c4, 2440, .inl (fun _ => 0)))] H := hP
  have hD : va_D A [(h0, .inr (1, [.int 0, .int 0, .ref q1, .ref q2, .ref q3, .ref q4, .null, .int 0, .int 0, .null, .null, .null, .null, .int 0])), (q1, .inl (c1, 61, .inl (fun _ => 0))), (q2, .inl (c2, 61, .inl (fun _ => 0))), (q3, .inl (c3, 61, .inl (fun _ => 0))), (q4, .inl (c4, 2440, .inl (fun _ => 0)))] := hD
  refine lv_aload_n hx hb dM_init_37 rfl (lv_at hl 0 rfl) ?_
  refine lv_bipush (v := (61 : Int32)) hx hb dM_init_38 (by decide) ?_
  refine va_newa (atype := .int) (ty := .int) (a0 := (61, .inl (fun _ => 0))) (N' := 61) hx hb (hts _ mt_78) rfl hK hP hD hS hA (fun cA => rfl) (by decide) rfl (Nat.le_of_ble_eq_true rfl) (Nat.le_of_ble_eq_true rfl) (Nat.le_of_ble_eq_true rfl) dM_init_40 (fun q5 c5 H hK hP hD hS => ?_)
  have hP : va_P (dC, dI) vwCl [(h0, .inr (1, [.int 0, .int 0, .ref q1, .ref q2, .ref q3, .ref q4, .null, .int 0, .int 0, .null, .null, .null, .null, .int 0])), (q1, .inl (c1, 61, .inl (fun _ => 0))), (q2, .inl (c2, 61, .inl (fun _ => 0))), (q3, .inl (c3, 61, .inl (fun _ => 0))), (q4, .inl (c4, 2440, .inl (fun _ => 0))), (q5, .inl (c5, 61, .inl (fun _ => 0)))] H := hP
  have hD : va_D A [(h0, .inr (1, [.int 0, .int 0, .ref q1, .ref q2, .ref q3, .ref q4, .null, .int 0, .int 0, .null, .null, .null, .null, .int 0])), (q1, .inl (c1, 61, .inl (fun _ => 0))), (q2, .inl (c2, 61, .inl (fun _ => 0))), (q3, .inl (c3, 61, .inl (fun _ => 0))), (q4, .inl (c4, 2440, .inl (fun _ => 0))), (q5, .inl (c5, 61, .inl (fun _ => 0)))] := hD
  refine W.widen (k := 5) (n := 2684) (Nat.le_of_ble_eq_true rfl) (Nat.le_of_ble_eq_true rfl) ?_
  refine va_putF (D := (dC, dI)) (ci := 1) (v := .ref q5) (ty := .array .int) (C := RM) (T := TM) (N := 14) hx hb hts inM tyM tyM_ok nmM hown hK hP hD hS 0 rfl rfl 6 (by decide) (hts _ mt_218) (fun _ h9 => h9) rfl hin rfl (by decide +kernel) rfl rfl (Nat.le_of_ble_eq_true rfl) dM_init_42 (fun H locs hP hD hS => ?_)
  have hP : va_P (dC, dI) vwCl [(h0, .inr (1, [.int 0, .int 0, .ref q1, .ref q2, .ref q3, .ref q4, .ref q5, .int 0, .int 0, .null, .null, .null, .null, .int 0])), (q1, .inl (c1, 61, .inl (fun _ => 0))), (q2, .inl (c2, 61, .inl (fun _ => 0))), (q3, .inl (c3, 61, .inl (fun _ => 0))), (q4, .inl (c4, 2440, .inl (fun _ => 0))), (q5, .inl (c5, 61, .inl (fun _ => 0)))] H := hP
  have hD : va_D A [(h0, .inr (1, [.int 0, .int 0, .ref q1, .ref q2, .ref q3, .ref q4, .ref q5, .int 0, .int 0, .null, .null, .null, .null, .int 0])), (q1, .inl (c1, 61, .inl (fun _ => 0))), (q2, .inl (c2, 61, .inl (fun _ => 0))), (q3, .inl (c3, 61, .inl (fun _ => 0))), (q4, .inl (c4, 2440, .inl (fun _ => 0))), (q5, .inl (c5, 61, .inl (fun _ => 0)))] := hD
  refine lv_aload_n hx hb dM_init_45 rfl (lv_at hl 0 rfl) ?_
  refine lv_sipush (v := (200 : Int32)) hx hb dM_init_46 (by decide) ?_
  refine va_newa (atype := .int) (ty := .int) (a0 := (200, .inl (fun _ => 0))) (N' := 200) hx hb (hts _ mt_78) rfl hK hP hD hS hA (fun cA => rfl) (by decide) rfl (Nat.le_of_ble_eq_true rfl) (Nat.le_of_ble_eq_true rfl) (Nat.le_of_ble_eq_true rfl) dM_init_49 (fun q6 c6 H hK hP hD hS => ?_)
  have hP : va_P (dC, dI) vwCl [(h0, .inr (1, [.int 0, .int 0, .ref q1, .ref q2, .ref q3, .ref q4, .ref q5, .int 0, .int 0, .null, .null, .null, .null, .int 0])), (q1, .inl (c1, 61, .inl (fun _ => 0))), (q2, .inl (c2, 61, .inl (fun _ => 0))), (q3, .inl (c3, 61, .inl (fun _ => 0))), (q4, .inl (c4, 2440, .inl (fun _ => 0))), (q5, .inl (c5, 61, .inl (fun _ => 0))), (q6, .inl (c6, 200, .inl (fun _ => 0)))] H := hP
  have hD : va_D A [(h0, .inr (1, [.int 0, .int 0, .ref q1, .ref q2, .ref q3, .ref q4, .ref q5, .int 0, .int 0, .null, .null, .null, .null, .int 0])), (q1, .inl (c1, 61, .inl (fun _ => 0))), (q2, .inl (c2, 61, .inl (fun _ => 0))), (q3, .inl (c3, 61, .inl (fun _ => 0))), (q4, .inl (c4, 2440, .inl (fun _ => 0))), (q5, .inl (c5, 61, .inl (fun _ => 0))), (q6, .inl (c6, 200, .inl (fun _ => 0)))] := hD
  refine W.widen (k := 6) (n := 2884) (Nat.le_of_ble_eq_true rfl) (Nat.le_of_ble_eq_true rfl) ?_
  refine va_putF (D := (dC, dI)) (ci := 1) (v := .ref q6) (ty := .array .int) (C := RM) (T := TM) (N := 14) hx hb hts inM tyM tyM_ok nmM hown hK hP hD hS 0 rfl rfl 9 (by decide) (hts _ mt_221) (fun _ h9 => h9) rfl hin rfl (by decide +kernel) rfl rfl (Nat.le_of_ble_eq_true rfl) dM_init_51 (fun H locs hP hD hS => ?_)
  have hP : va_P (dC, dI) vwCl [(h0, .inr (1, [.int 0, .int 0, .ref q1, .ref q2, .ref q3, .ref q4, .ref q5, .int 0, .int 0, .ref q6, .null, .null, .null, .int 0])), (q1, .inl (c1, 61, .inl (fun _ => 0))), (q2, .inl (c2, 61, .inl (fun _ => 0))), (q3, .inl (c3, 61, .inl (fun _ => 0))), (q4, .inl (c4, 2440, .inl (fun _ => 0))), (q5, .inl (c5, 61, .inl (fun _ => 0))), (q6, .inl (c6, 200, .inl (fun _ => 0)))] H := hP
  have hD : va_D A [(h0, .inr (1, [.int 0, .int 0, .ref q1, .ref q2, .ref q3, .ref q4, .ref q5, .int 0, .int 0, .ref q6, .null, .null, .null, .int 0])), (q1, .inl (c1, 61, .inl (fun _ => 0))), (q2, .inl (c2, 61, .inl (fun _ => 0))), (q3, .inl (c3, 61, .inl (fun _ => 0))), (q4, .inl (c4, 2440, .inl (fun _ => 0))), (q5, .inl (c5, 61, .inl (fun _ => 0))), (q6, .inl (c6, 200, .inl (fun _ => 0)))] := hD
  refine lv_aload_n hx hb dM_init_54 rfl (lv_at hl 0 rfl) ?_
  refine lv_sipush (v := (200 : Int32)) hx hb dM_init_55 (by decide) ?_
  refine va_newa (atype := .int) (ty := .int) (a0 := (200, .inl (fun _ => 0))) (N' := 200) hx hb (hts _ mt_78) rfl hK hP hD hS hA (fun cA => rfl) (by decide) rfl (Nat.le_of_ble_eq_true rfl) (Nat.le_of_ble_eq_true rfl) (Nat.le_of_ble_eq_true rfl) dM_init_58 (fun q7 c7 H hK hP hD hS => ?_)
  have hP : va_P (dC, dI) vwCl [(h0, .inr (1, [.int 0, .int 0, .ref q1, .ref q2, .ref q3, .ref q4, .ref q5, .int 0, .int 0, .ref q6, .null, .null, .null, .int 0])), (q1, .inl (c1, 61, .inl (fun _ => 0))), (q2, .inl (c2, 61, .inl (fun _ => 0))), (q3, .inl (c3, 61, .inl (fun _ => 0))), (q4, .inl (c4, 2440, .inl (fun _ => 0))), (q5, .inl (c5, 61, .inl (fun _ => 0))), (q6, .inl (c6, 200, .inl (fun _ => 0))), (q7, .inl (c7, 200, .inl (fun _ => 0)))] H := hP
  have hD : va_D A [(h0, .inr (1, [.int 0, .int 0, .ref q1, .ref q2, .ref q3, .ref q4, .ref q5, .int 0, .int 0, .ref q6, .null, .null, .null, .int 0])), (q1, .inl (c1, 61, .inl (fun _ => 0))), (q2, .inl (c2, 61, .inl (fun _ => 0))), (q3, .inl (c3, 61, .inl (fun _ => 0))), (q4, .inl (c4, 2440, .inl (fun _ => 0))), (q5, .inl (c5, 61, .inl (fun _ => 0))), (q6, .inl (c6, 200, .inl (fun _ => 0))), (q7, .inl (c7, 200, .inl (fun _ => 0)))] := hD
  refine W.widen (k := 7) (n := 3084) (Nat.le_of_ble_eq_true rfl) (Nat.le_of_ble_eq_true rfl) ?_
  refine va_putF (D := (dC, dI)) (ci := 1) (v := .ref q7) (ty := .array .int) (C := RM) (T := TM) (N := 14) hx hb hts inM tyM tyM_ok nmM hown hK hP hD hS 0 rfl rfl 10 (by decide) (hts _ mt_222) (fun _ h9 => h9) rfl hin rfl (by decide +kernel) rfl rfl (Nat.le_of_ble_eq_true rfl) dM_init_60 (fun H locs hP hD hS => ?_)
  have hP : va_P (dC, dI) vwCl [(h0, .inr (1, [.int 0, .int 0, .ref q1, .ref q2, .ref q3, .ref q4, .ref q5, .int 0, .int 0, .ref q6, .ref q7, .null, .null, .int 0])), (q1, .inl (c1, 61, .inl (fun _ => 0))), (q2, .inl (c2, 61, .inl (fun _ => 0))), (q3, .inl (c3, 61, .inl (fun _ => 0))), (q4, .inl (c4, 2440, .inl (fun _ => 0))), (q5, .inl (c5, 61, .inl (fun _ => 0))), (q6, .inl (c6, 200, .inl (fun _ => 0))), (q7, .inl (c7, 200, .inl (fun _ => 0)))] H := hP
  have hD : va_D A [(h0, .inr (1, [.int 0, .int 0, .ref q1, .ref q2, .ref q3, .ref q4, .ref q5, .int 0, .int 0, .ref q6, .ref q7, .null, .null, .int 0])), (q1, .inl (c1, 61, .inl (fun _ => 0))), (q2, .inl (c2, 61, .inl (fun _ => 0))), (q3, .inl (c3, 61, .inl (fun _ => 0))), (q4, .inl (c4, 2440, .inl (fun _ => 0))), (q5, .inl (c5, 61, .inl (fun _ => 0))), (q6, .inl (c6, 200, .inl (fun _ => 0))), (q7, .inl (c7, 200, .inl (fun _ => 0)))] := hD
  refine lv_aload_n hx hb dM_init_63 rfl (lv_at hl 0 rfl) ?_
  refine lv_sipush (v := (200 : Int32)) hx hb dM_init_64 (by decide) ?_
  refine va_newa (atype := .int) (ty := .int) (a0 := (200, .inl (fun _ => 0))) (N' := 200) hx hb (hts _ mt_78) rfl hK hP hD hS hA (fun cA => rfl) (by decide) rfl (Nat.le_of_ble_eq_true rfl) (Nat.le_of_ble_eq_true rfl) (Nat.le_of_ble_eq_true rfl) dM_init_67 (fun q8 c8 H hK hP hD hS => ?_)
  have hP : va_P (dC, dI) vwCl [(h0, .inr (1, [.int 0, .int 0, .ref q1, .ref q2, .ref q3, .ref q4, .ref q5, .int 0, .int 0, .ref q6, .ref q7, .null, .null, .int 0])), (q1, .inl (c1, 61, .inl (fun _ => 0))), (q2, .inl (c2, 61, .inl (fun _ => 0))), (q3, .inl (c3, 61, .inl (fun _ => 0))), (q4, .inl (c4, 2440, .inl (fun _ => 0))), (q5, .inl (c5, 61, .inl (fun _ => 0))), (q6, .inl (c6, 200, .inl (fun _ => 0))), (q7, .inl (c7, 200, .inl (fun _ => 0))), (q8, .inl (c8, 200, .inl (fun _ => 0)))] H := hP
  have hD : va_D A [(h0, .inr (1, [.int 0, .int 0, .ref q1, .ref q2, .ref q3, .ref q4, .ref q5, .int 0, .int 0, .ref q6, .ref q7, .null, .null, .int 0])), (q1, .inl (c1, 61, .inl (fun _ => 0))), (q2, .inl (c2, 61, .inl (fun _ => 0))), (q3, .inl (c3, 61, .inl (fun _ => 0))), (q4, .inl (c4, 2440, .inl (fun _ => 0))), (q5, .inl (c5, 61, .inl (fun _ => 0))), (q6, .inl (c6, 200, .inl (fun _ => 0))), (q7, .inl (c7, 200, .inl (fun _ => 0))), (q8, .inl (c8, 200, .inl (fun _ => 0)))] := hD
  refine W.widen (k := 8) (n := 3284) (Nat.le_of_ble_eq_true rfl) (Nat.le_of_ble_eq_true rfl) ?_
  refine va_putF (D := (dC, dI)) (ci := 1) (v := .ref q8) (ty := .array .int) (C := RM) (T := TM) (N := 14) hx hb hts inM tyM tyM_ok nmM hown hK hP hD hS 0 rfl rfl 11 (by decide) (hts _ mt_223) (fun _ h9 => h9) rfl hin rfl (by decide +kernel) rfl rfl (Nat.le_of_ble_eq_true rfl) dM_init_69 (fun H locs hP hD hS => ?_)
  have hP : va_P (dC, dI) vwCl [(h0, .inr (1, [.int 0, .int 0, .ref q1, .ref q2, .ref q3, .ref q4, .ref q5, .int 0, .int 0, .ref q6, .ref q7, .ref q8, .null, .int 0])), (q1, .inl (c1, 61, .inl (fun _ => 0))), (q2, .inl (c2, 61, .inl (fun _ => 0))), (q3, .inl (c3, 61, .inl (fun _ => 0))), (q4, .inl (c4, 2440, .inl (fun _ => 0))), (q5, .inl (c5, 61, .inl (fun _ => 0))), (q6, .inl (c6, 200, .inl (fun _ => 0))), (q7, .inl (c7, 200, .inl (fun _ => 0))), (q8, .inl (c8, 200, .inl (fun _ => 0)))] H := hP
  have hD : va_D A [(h0, .inr (1, [.int 0, .int 0, .ref q1, .ref q2, .ref q3, .ref q4, .ref q5, .int 0, .int 0, .ref q6, .ref q7, .ref q8, .null, .int 0])), (q1, .inl (c1, 61, .inl (fun _ => 0))), (q2, .inl (c2, 61, .inl (fun _ => 0))), (q3, .inl (c3, 61, .inl (fun _ => 0))), (q4, .inl (c4, 2440, .inl (fun _ => 0))), (q5, .inl (c5, 61, .inl (fun _ => 0))), (q6, .inl (c6, 200, .inl (fun _ => 0))), (q7, .inl (c7, 200, .inl (fun _ => 0))), (q8, .inl (c8, 200, .inl (fun _ => 0)))] := hD
  refine lv_aload_n hx hb dM_init_72 rfl (lv_at hl 0 rfl) ?_
  refine lv_bipush (v := (61 : Int32)) hx hb dM_init_73 (by decide) ?_
  refine va_newa (atype := .int) (ty := .int) (a0 := (61, .inl (fun _ => 0))) (N' := 61) hx hb (hts _ mt_78) rfl hK hP hD hS hA (fun cA => rfl) (by decide) rfl (Nat.le_of_ble_eq_true rfl) (Nat.le_of_ble_eq_true rfl) (Nat.le_of_ble_eq_true rfl) dM_init_75 (fun q9 c9 H hK hP hD hS => ?_)
  have hP : va_P (dC, dI) vwCl [(h0, .inr (1, [.int 0, .int 0, .ref q1, .ref q2, .ref q3, .ref q4, .ref q5, .int 0, .int 0, .ref q6, .ref q7, .ref q8, .null, .int 0])), (q1, .inl (c1, 61, .inl (fun _ => 0))), (q2, .inl (c2, 61, .inl (fun _ => 0))), (q3, .inl (c3, 61, .inl (fun _ => 0))), (q4, .inl (c4, 2440, .inl (fun _ => 0))), (q5, .inl (c5, 61, .inl (fun _ => 0))), (q6, .inl (c6, 200, .inl (fun _ => 0))), (q7, .inl (c7, 200, .inl (fun _ => 0))), (q8, .inl (c8, 200, .inl (fun _ => 0))), (q9, .inl (c9, 61, .inl (fun _ => 0)))] H := hP
  have hD : va_D A [(h0, .inr (1, [.int 0, .int 0, .ref q1, .ref q2, .ref q3, .ref q4, .ref q5, .int 0, .int 0, .ref q6, .ref q7, .ref q8, .null, .int 0])), (q1, .inl (c1, 61, .inl (fun _ => 0))), (q2, .inl (c2, 61, .inl (fun _ => 0))), (q3, .inl (c3, 61, .inl (fun _ => 0))), (q4, .inl (c4, 2440, .inl (fun _ => 0))), (q5, .inl (c5, 61, .inl (fun _ => 0))), (q6, .inl (c6, 200, .inl (fun _ => 0))), (q7, .inl (c7, 200, .inl (fun _ => 0))), (q8, .inl (c8, 200, .inl (fun _ => 0))), (q9, .inl (c9, 61, .inl (fun _ => 0)))] := hD
  refine W.widen (k := 9) (n := 3345) (Nat.le_of_ble_eq_true rfl) (Nat.le_of_ble_eq_true rfl) ?_
  refine va_putF (D := (dC, dI)) (ci := 1) (v := .ref q9) (ty := .array .int) (C := RM) (T := TM) (N := 14) hx hb hts inM tyM tyM_ok nmM hown hK hP hD hS 0 rfl rfl 12 (by decide) (hts _ mt_224) (fun _ h9 => h9) rfl hin rfl (by decide +kernel) rfl rfl (Nat.le_of_ble_eq_true rfl) dM_init_77 (fun H locs hP hD hS => ?_)
  have hP : va_P (dC, dI) vwCl [(h0, .inr (1, [.int 0, .int 0, .ref q1, .ref q2, .ref q3, .ref q4, .ref q5, .int 0, .int 0, .ref q6, .ref q7, .ref q8, .ref q9, .int 0])), (q1, .inl (c1, 61, .inl (fun _ => 0))), (q2, .inl (c2, 61, .inl (fun _ => 0))), (q3, .inl (c3, 61, .inl (fun _ => 0))), (q4, .inl (c4, 2440, .inl (fun _ => 0))), (q5, .inl (c5, 61, .inl (fun _ => 0))), (q6, .inl (c6, 200, .inl (fun _ => 0))), (q7, .inl (c7, 200, .inl (fun _ => 0))), (q8, .inl (c8, 200, .inl (fun _ => 0))), (q9, .inl (c9, 61, .inl (fun _ => 0)))] H := hP
  have hD : va_D A [(h0, .inr (1, [.int 0, .int 0, .ref q1, .ref q2, .ref q3, .ref q4, .ref q5, .int 0, .int 0, .ref q6, .ref q7, .ref q8, .ref q9, .int 0])), (q1, .inl (c1, 61, .inl (fun _ => 0))), (q2, .inl (c2, 61, .inl (fun _ => 0))), (q3, .inl (c3, 61, .inl (fun _ => 0))), (q4, .inl (c4, 2440, .inl (fun _ => 0))), (q5, .inl (c5, 61, .inl (fun _ => 0))), (q6, .inl (c6, 200, .inl (fun _ => 0))), (q7, .inl (c7, 200, .inl (fun _ => 0))), (q8, .inl (c8, 200, .inl (fun _ => 0))), (q9, .inl (c9, 61, .inl (fun _ => 0)))] := hD
  have e3 : c2 = c3 := Option.some.inj ((show s.vm.findClass ("[" ++ FieldType.int.toString) = some c2 from (hK.2 1 _ rfl).2).symm.trans (show s.vm.findClass ("[" ++ FieldType.int.toString) = some c3 from (hK.2 2 _ rfl).2))
  subst e3
  have e4 : c2 = c4 := Option.some.inj ((show s.vm.findClass ("[" ++ FieldType.int.toString) = some c2 from (hK.2 1 _ rfl).2).symm.trans (show s.vm.findClass ("[" ++ FieldType.int.toString) = some c4 from (hK.2 3 _ rfl).2))
  subst e4
  have e5 : c2 = c5 := Option.some.inj ((show s.vm.findClass ("[" ++ FieldType.int.toString) = some c2 from (hK.2 1 _ rfl).2).symm.trans (show s.vm.findClass ("[" ++ FieldType.int.toString) = some c5 from (hK.2 4 _ rfl).2))
  subst e5
  have e6 : c2 = c6 := Option.some.inj ((show s.vm.findClass ("[" ++ FieldType.int.toString) = some c2 from (hK.2 1 _ rfl).2).symm.trans (show s.vm.findClass ("[" ++ FieldType.int.toString) = some c6 from (hK.2 5 _ rfl).2))
  subst e6
  have e7 : c2 = c7 := Option.some.inj ((show s.vm.findClass ("[" ++ FieldType.int.toString) = some c2 from (hK.2 1 _ rfl).2).symm.trans (show s.vm.findClass ("[" ++ FieldType.int.toString) = some c7 from (hK.2 6 _ rfl).2))
  subst e7
  have e8 : c2 = c8 := Option.some.inj ((show s.vm.findClass ("[" ++ FieldType.int.toString) = some c2 from (hK.2 1 _ rfl).2).symm.trans (show s.vm.findClass ("[" ++ FieldType.int.toString) = some c8 from (hK.2 7 _ rfl).2))
  subst e8
  have e9 : c2 = c9 := Option.some.inj ((show s.vm.findClass ("[" ++ FieldType.int.toString) = some c2 from (hK.2 1 _ rfl).2).symm.trans (show s.vm.findClass ("[" ++ FieldType.int.toString) = some c9 from (hK.2 8 _ rfl).2))
  subst e9
  have hK9 := hK.sub (tys' := [(c2, .int), (c1, .boolean)]) [1, 0] rfl
  exact W.vret hx hb hr (fun t ht hW => ⟨⟨(), rfl, trivial, fun k => match k with
    | 0 => h0
    | 1 => q1
    | 2 => q2
    | 3 => q3
    | 4 => q4
    | 5 => q5
    | 6 => q6
    | 7 => q7
    | 8 => q8
    | _ => q9, c2, c1, rfl, by rw [ht]; exact hP, va_K.moved hW.alike hK9, hD⟩, hS.F ht⟩) hS.2.2 dM_init_80
end
section
def gL (xs : Nat → Int32) (L K : Nat) : Nat → Int32 → XSt → MSt → Option Int32
  | 0, _, _, _ => none
  | n + 1, x3, σ, τ => (if ((Int32.ofNat L) - (4 : Int32)) < x3 then some (1 : Int32) else (if x3 < 0 ∨ L ≤ x3.toNatClampNeg then none else (if ((xs x3.toNatClampNeg) &&& (15 : Int32)) = 0 then ((fX_record K σ).bind fun q_4 => ((fM_record K τ).bind fun q_5 => (if q_4.1 = q_5.1 then (gL xs L K n (x3 + 4) q_4.2 q_5.2) else some (0 : Int32)))) else (if ((xs x3.toNatClampNeg) &&& (15 : Int32)) = 1 then (if (x3 + (1 : Int32)) < 0 ∨ L ≤ (x3 + (1 : Int32)).toNatClampNeg then none else (if (x3 + (2 : Int32)) < 0 ∨ L ≤ (x3 + (2 : Int32)).toNatClampNeg then none else (if (x3 + (3 : Int32)) < 0 ∨ L ≤ (x3 + (3 : Int32)).toNatClampNeg then none else ((fX_link K (xs (x3 + (1 : Int32)).toNatClampNeg) (xs (x3 + (2 : Int32)).toNatClampNeg) (xs (x3 + (3 : Int32)).toNatClampNeg) σ).bind fun q_11 => (if (x3 + (1 : Int32)) < 0 ∨ L ≤ (x3 + (1 : Int32)).toNatClampNeg then none else (if (x3 + (2 : Int32)) < 0 ∨ L ≤ (x3 + (2 : Int32)).toNatClampNeg then none else (if (x3 + (3 : Int32)) < 0 ∨ L ≤ (x3 + (3 : Int32)).toNatClampNeg then none else ((fM_link K (xs (x3 + (1 : Int32)).toNatClampNeg) (xs (x3 + (2 : Int32)).toNatClampNeg) (xs (x3 + (3 : Int32)).toNatClampNeg) τ).bind fun q_15 => (if q_11.1 = q_15.1 then (gL xs L K n (x3 + 4) q_11.2 q_15.2) else some (0 : Int32)))))))))) else (if ((xs x3.toNatClampNeg) &&& (15 : Int32)) = 2 then (if (x3 + (1 : Int32)) < 0 ∨ L ≤ (x3 + (1 : Int32)).toNatClampNeg then none else (if (x3 + (2 : Int32)) < 0 ∨ L ≤ (x3 + (2 : Int32)).toNatClampNeg then none else ((fX_change K (xs (x3 + (1 : Int32)).toNatClampNeg) (xs (x3 + (2 : Int32)).toNatClampNeg) σ).bind fun q_20 => (if (x3 + (1 : Int32)) < 0 ∨ L ≤ (x3 + (1 : Int32)).toNatClampNeg then none else (if (x3 + (2 : Int32)) < 0 ∨ L ≤ (x3 + (2 : Int32)).toNatClampNeg then none else ((fM_change K (xs (x3 + (1 : Int32)).toNatClampNeg) (xs (x3 + (2 : Int32)).toNatClampNeg) τ).bind fun q_23 => (if q_20.1 = q_23.1 then (gL xs L K n (x3 + 4) q_20.2 q_23.2) else some (0 : Int32)))))))) else (if ((xs x3.toNatClampNeg) &&& (15 : Int32)) = 3 then (if (x3 + (1 : Int32)) < 0 ∨ L ≤ (x3 + (1 : Int32)).toNatClampNeg then none else (if (x3 + (2 : Int32)) < 0 ∨ L ≤ (x3 + (2 : Int32)).toNatClampNeg then none else ((fX_broken K (xs (x3 + (1 : Int32)).toNatClampNeg) (xs (x3 + (2 : Int32)).toNatClampNeg) σ).bind fun q_28 => (if (x3 + (1 : Int32)) < 0 ∨ L ≤ (x3 + (1 : Int32)).toNatClampNeg then none else (if (x3 + (2 : Int32)) < 0 ∨ L ≤ (x3 + (2 : Int32)).toNatClampNeg then none else ((fM_broken K (xs (x3 + (1 : Int32)).toNatClampNeg) (xs (x3 + (2 : Int32)).toNatClampNeg) τ).bind fun q_31 => (if q_28.1 = q_31.1 then (gL xs L K n (x3 + 4) q_28.2 q_31.2) else some (0 : Int32)))))))) else (if ((xs x3.toNatClampNeg) &&& (15 : Int32)) = 4 then (if (x3 + (1 : Int32)) < 0 ∨ L ≤ (x3 + (1 : Int32)).toNatClampNeg then none else ((fX_repair K (xs (x3 + (1 : Int32)).toNatClampNeg) σ).bind fun q_35 => (if (x3 + (1 : Int32)) < 0 ∨ L ≤ (x3 + (1 : Int32)).toNatClampNeg then none else ((fM_repair K (xs (x3 + (1 : Int32)).toNatClampNeg) τ).bind fun q_37 => (if q_35.1 = q_37.1 then (gL xs L K n (x3 + 4) q_35.2 q_37.2) else some (0 : Int32)))))) else (if ((xs x3.toNatClampNeg) &&& (15 : Int32)) = 5 then (if (x3 + (1 : Int32)) < 0 ∨ L ≤ (x3 + (1 : Int32)).toNatClampNeg then none else (if (x3 + (2 : Int32)) < 0 ∨ L ≤ (x3 + (2 : Int32)).toNatClampNeg then none else ((fX_chain K (xs (x3 + (1 : Int32)).toNatClampNeg) (xs (x3 + (2 : Int32)).toNatClampNeg) σ).bind fun q_42 => (if (x3 + (1 : Int32)) < 0 ∨ L ≤ (x3 + (1 : Int32)).toNatClampNeg then none else (if (x3 + (2 : Int32)) < 0 ∨ L ≤ (x3 + (2 : Int32)).toNatClampNeg then none else ((fM_chain K (xs (x3 + (1 : Int32)).toNatClampNeg) (xs (x3 + (2 : Int32)).toNatClampNeg) τ).bind fun q_45 => (if q_42.1 = q_45.1 then (gL xs L K n (x3 + 4) q_42.2 q_45.2) else some (0 : Int32)))))))) else (if ((xs x3.toNatClampNeg) &&& (15 : Int32)) = 6 then (if (x3 + (1 : Int32)) < 0 ∨ L ≤ (x3 + (1 : Int32)).toNatClampNeg then none else ((fX_ring K (xs (x3 + (1 : Int32)).toNatClampNeg) σ).bind fun q_49 => (if (x3 + (1 : Int32)) < 0 ∨ L ≤ (x3 + (1 : Int32)).toNatClampNeg then none else ((fM_ring K (xs (x3 + (1 : Int32)).toNatClampNeg) τ).bind fun q_51 => (if q_49.1 = q_51.1 then (gL xs L K n (x3 + 4) q_49.2 q_51.2) else some (0 : Int32)))))) else (if ((xs x3.toNatClampNeg) &&& (15 : Int32)) = 7 then (if (x3 + (1 : Int32)) < 0 ∨ L ≤ (x3 + (1 : Int32)).toNatClampNeg then none else ((fX_host K (xs (x3 + (1 : Int32)).toNatClampNeg) σ).bind fun q_55 => (if (x3 + (1 : Int32)) < 0 ∨ L ≤ (x3 + (1 : Int32)).toNatClampNeg then none else ((fM_host K (xs (x3 + (1 : Int32)).toNatClampNeg) τ).bind fun q_57 => (if q_55.1 = q_57.1 then (gL xs L K n (x3 + 4) q_55.2 q_57.2) else some (0 : Int32)))))) else (if ((xs x3.toNatClampNeg) &&& (15 : Int32)) = 8 then (if (x3 + (1 : Int32)) < 0 ∨ L ≤ (x3 + (1 : Int32)).toNatClampNeg then none else (if (x3 + (2 : Int32)) < 0 ∨ L ≤ (x3 + (2 : Int32)).toNatClampNeg then none else ((fX_move K (xs (x3 + (1 : Int32)).toNatClampNeg) (xs (x3 + (2 : Int32)).toNatClampNeg) σ).bind fun q_62 => (if (x3 + (1 : Int32)) < 0 ∨ L ≤ (x3 + (1 : Int32)).toNatClampNeg then none else (if (x3 + (2 : Int32)) < 0 ∨ L ≤ (x3 + (2 : Int32)).toNatClampNeg then none else ((fM_move K (xs (x3 + (1 : Int32)).toNatClampNeg) (xs (x3 + (2 : Int32)).toNatClampNeg) τ).bind fun q_65 => (if q_62.1 = q_65.1 then (gL xs L K n (x3 + 4) q_62.2 q_65.2) else some (0 : Int32)))))))) else (if ((xs x3.toNatClampNeg) &&& (15 : Int32)) = 9 then (if (x3 + (1 : Int32)) < 0 ∨ L ≤ (x3 + (1 : Int32)).toNatClampNeg then none else ((fX_delete K (xs (x3 + (1 : Int32)).toNatClampNeg) σ).bind fun q_69 => (if (x3 + (1 : Int32)) < 0 ∨ L ≤ (x3 + (1 : Int32)).toNatClampNeg then none else ((fM_delete K (xs (x3 + (1 : Int32)).toNatClampNeg) τ).bind fun q_71 => (if q_69.1 = q_71.1 then (gL xs L K n (x3 + 4) q_69.2 q_71.2) else some (0 : Int32)))))) else (if ((xs x3.toNatClampNeg) &&& (15 : Int32)) = 10 then (if (x3 + (1 : Int32)) < 0 ∨ L ≤ (x3 + (1 : Int32)).toNatClampNeg then none else (if (x3 + (2 : Int32)) < 0 ∨ L ≤ (x3 + (2 : Int32)).toNatClampNeg then none else ((fX_times K (xs (x3 + (1 : Int32)).toNatClampNeg) (xs (x3 + (2 : Int32)).toNatClampNeg) σ).bind fun q_76 => (if (x3 + (1 : Int32)) < 0 ∨ L ≤ (x3 + (1 : Int32)).toNatClampNeg then none else (if (x3 + (2 : Int32)) < 0 ∨ L ≤ (x3 + (2 : Int32)).toNatClampNeg then none else ((fM_times K (xs (x3 + (1 : Int32)).toNatClampNeg) (xs (x3 + (2 : Int32)).toNatClampNeg) τ).bind fun q_79 => (if q_76.1 = q_79.1 then (gL xs L K n (x3 + 4) q_76.2 q_79.2) else some (0 : Int32)))))))) else (if ((xs x3.toNatClampNeg) &&& (15 : Int32)) = 11 then (if (x3 + (1 : Int32)) < 0 ∨ L ≤ (x3 + (1 : Int32)).toNatClampNeg then none else ((fX_orphan K (xs (x3 + (1 : Int32)).toNatClampNeg) σ).bind fun q_83 => (if (x3 + (1 : Int32)) < 0 ∨ L ≤ (x3 + (1 : Int32)).toNatClampNeg then none else ((fM_orphan K (xs (x3 + (1 : Int32)).toNatClampNeg) τ).bind fun q_85 => (if q_83.1 = q_85.1 then (gL xs L K n (x3 + 4) q_83.2 q_85.2) else some (0 : Int32)))))) else (if ((xs x3.toNatClampNeg) &&& (15 : Int32)) = 12 then (if (x3 + (1 : Int32)) < 0 ∨ L ≤ (x3 + (1 : Int32)).toNatClampNeg then none else ((fX_house K (xs (x3 + (1 : Int32)).toNatClampNeg) σ).bind fun q_89 => (if (x3 + (1 : Int32)) < 0 ∨ L ≤ (x3 + (1 : Int32)).toNatClampNeg then none else ((fM_house K (xs (x3 + (1 : Int32)).toNatClampNeg) τ).bind fun q_91 => (if q_89.1 = q_91.1 then (gL xs L K n (x3 + 4) q_89.2 q_91.2) else some (0 : Int32)))))) else (if ((xs x3.toNatClampNeg) &&& (15 : Int32)) = 13 then (if (x3 + (1 : Int32)) < 0 ∨ L ≤ (x3 + (1 : Int32)).toNatClampNeg then none else (if (x3 + (2 : Int32)) < 0 ∨ L ≤ (x3 + (2 : Int32)).toNatClampNeg then none else (if (x3 + (3 : Int32)) < 0 ∨ L ≤ (x3 + (3 : Int32)).toNatClampNeg then none else ((fX_goes K (xs (x3 + (1 : Int32)).toNatClampNeg) (xs (x3 + (2 : Int32)).toNatClampNeg) (xs (x3 + (3 : Int32)).toNatClampNeg) σ).bind fun q_97 => (if (x3 + (1 : Int32)) < 0 ∨ L ≤ (x3 + (1 : Int32)).toNatClampNeg then none else (if (x3 + (2 : Int32)) < 0 ∨ L ≤ (x3 + (2 : Int32)).toNatClampNeg then none else (if (x3 + (3 : Int32)) < 0 ∨ L ≤ (x3 + (3 : Int32)).toNatClampNeg then none else ((fM_goes K (xs (x3 + (1 : Int32)).toNatClampNeg) (xs (x3 + (2 : Int32)).toNatClampNeg) (xs (x3 + (3 : Int32)).toNatClampNeg) τ).bind fun q_101 => (if q_97.1 = q_101.1 then (gL xs L K n (x3 + 4) q_97.2 q_101.2) else some (0 : Int32)))))))))) else (gL xs L K n (x3 + 4) σ τ)))))))))))))))))
/-! THE CLAIM OUT OF ONE WALK OF THE LAW'S BODY. Your part is whole_start (and what it stands on); all else here is the same for every law, but numbers. -/
def R_law : String := "LinkKeeperLaw"
def lw_P (b : Addr) (xs : List Int32) (args : Array Value) (s : State) : Prop := args = #[.ref b] ∧ s.IntsAt b xs ∧ xs.length ≤ 2048 ∧ (Jvm.Cond.and given_1 narrow_1).before args s = true
def lw_Q (_ : Array Value) (s : State) (o : Outcome) (t : State) : Prop := o = .returned (some (.int 1)) ∧ Framed s o t [] 20 6716
def lw_Z (below : List Frame) (a : Array Value) (s : State) : State → Prop := fun t => ∃ o, t.status = .running ∧ Ended t below o ∧ lw_Q a s o t
/-- the law's own end, with 1 on the stack, nothing written that was there before, its room as the claim has it -/
theorem lw_ret {p : Program} {l : Launch} {e : Env} {s : State} {m : MethodId} {below : List Frame} {meth : Method} {c : Code} {b : Nat} (hx : p.tables.exec = Jvm.exec) (hb : c.code = code) (hr : meth.sig.returnType = ret) (hlocks : meth.locks = false) {pc : Nat} {H : Heap} {ls : Array Slot} (hdg : decode code pc = .ok (.ireturn, 1)) : W p l e room_1 s m #[Value.ref b] below meth c H [] 20 6716 (lw_Z below #[Value.ref b] s) (F0 m pc ls [.int 1]) := by
  intro T hT X
  obtain ⟨fs, hret, hrun, hended, hW, hframe⟩ := X.leave (v := some (.int 1)) (hlocks := hlocks) (fun h => by rw [hr] at h; cases h)
  have hmeth' : T.vm.method? m = some meth := X.method'
  refine ⟨T.setFrames fs, ?_, .returned (some (.int 1)), hrun, hended, rfl, ⟨_, rfl⟩, hW, hframe⟩
  jvm_step X.here [X.here.top, hx, hb, hdg, hmeth', hr, ret, narrow_b1]
  (try refine ⟨rfl, ?_⟩); (try refine ⟨rfl, ?_⟩)
  first | (intro acts; rw [hret _ acts rfl rfl rfl]) | rw [hret _ _ rfl rfl rfl]
  exact Steps.refl _
/-- what holds at the law's entry: the machine, the code, the tables' words (any of lw_tbl by 'hts w (by decide +kernel)'), the script of L ints xs at the cell b, what the Statement gives of the start (any of its parts by flat_of_before) -/
def lw_At (p : Program) (s : State) (m : MethodId) (meth : Method) (c : Code) (b L : Nat) (xs : Nat → Int32) : Prop :=
  p.tables.exec = Jvm.exec ∧ c.code = code ∧ meth.sig.returnType = ret ∧ c.maxLocals = 4 ∧ s.vm.findClass R_law = some m.cls ∧ (∀ w ∈ lw_tbl, w.before #[Value.ref b] s = true) ∧ va_X b L xs s s.heap ∧ b < s.heap.size ∧ meth.locks = false ∧ (Jvm.Cond.and given_1 narrow_1).before #[Value.ref b] s = true

set_option maxHeartbeats 8000000 in
set_option maxRecDepth 100000 in
theorem law_loop {p : Program} {l : Launch} {e : Env} {s : State} {m : MethodId} {below : List Frame} {meth : Method} {c : Code} {dC : Nat → ClassId} {dI : Nat → Nat → Nat} {a b2 : Nat → Nat} {cI cZ : ClassId} {tb b L K : Nat} {xs : Nat → Int32} (C0 : lw_At p s m meth c b L xs) (hK : va_K (dC, dI) vwCl [(cI, .int), (cZ, .boolean)] s) (hZ : zt_ok (zz tb) (fun q : Nat => s.heap.size ≤ q) s s.heap) :
    ∀ (n : Nat) (x3 : Int32) (σ : XSt) (τ : MSt), gL xs L K n x3 σ τ = some 1 → ∀ (H : Heap) (locs : List Loc), va_P (dC, dI) vwCl (w_X a cI cZ σ ++ w_M b2 cI cZ τ) H → va_D (fun q : Nat => s.heap.size ≤ q) (w_X a cI cZ σ ++ w_M b2 cI cZ τ) → va_S (fun q : Nat => s.heap.size ≤ q) s.heap H locs → ∀ (ls : Array Slot), lv_has ls 4 [(0, .ref b), (1, .ref (a 0)), (2, .ref (b2 0)), (3, .int x3)] → W p l e room_1 s m #[Value.ref b] below meth c H locs 20 6716 (lw_Z below #[Value.ref b] s) (F0 m 18 ls []) := by
  obtain ⟨hx, hb, hr, hml, hown0, hts0, hX, hbl, hlocks, hgv⟩ := C0
  have hown : s.vm.findClass RL = some m.cls := hown0
  have hts : ∀ w ∈ lw_g, w.before #[Value.ref b] s = true := fun w h => hts0 w (lw_g_in w h)
  have hA : ∀ q : Nat, s.heap.size ≤ q → (fun q : Nat => s.heap.size ≤ q) q := fun _ h => h
  have hbA : ¬ (fun q : Nat => s.heap.size ≤ q) b := Nat.not_le.mpr hbl
  intro n
  induction n with
  | zero =>
    intro x3 σ τ hf
    rw [gL] at hf
    cases hf
  | succ n ih =>
    intro x3 σ τ hf H locs hP hD hS ls hl
    rw [gL] at hf
    refine lv_iload_n hx hb dL_18 rfl (lv_at hl 3 rfl) ?_
    refine lv_aload_n hx hb dL_19 rfl (lv_at hl 0 rfl) ?_
    refine va_slen hx hb hX hbl hbA hS dL_20 ?_
    refine lv_iconst (v := (4 : Int32)) hx hb dL_21 (by decide) ?_
    refine lv_isub hx hb dL_22 ?_
    refine lv_icmp_gt (tgt := 512) hx hb dL_23 (by decide) (fun c_1 => ?_) (fun c_1 => ?_)
    · replace hf := it_t hf c_1
      refine lv_iconst (v := (1 : Int32)) hx hb dL_512 (by decide) ?_
      refine va_forget (fun q hq => hS.2.2 q hq) ?_
      exact lw_ret hx hb hr hlocks dL_513
    · replace hf := it_f hf c_1
      refine lv_aload_n hx hb dL_26 rfl (lv_at hl 0 rfl) ?_
      refine lv_iload_n hx hb dL_27 rfl (lv_at hl 3 rfl) ?_
      obtain ⟨g_2, hf⟩ := gd_f hf
      refine va_sld hx hb hX hbl hbA hS g_2 dL_28 ?_
      refine lv_bipush (v := (15 : Int32)) hx hb dL_29 (by decide) ?_
      refine lv_iand hx hb dL_31 ?_
      by_cases c_3 : ((xs x3.toNatClampNeg) &&& (15 : Int32)) = 0
      · replace hf := it_t hf c_3
        refine lv_tableIn (off := 72) (tgt := 104) hx hb dL_32 (by rw [c_3]; decide) (by rw [c_3]; decide) (by rw [c_3]; rfl) (by decide) ?_
        refine lv_aload_n hx hb dL_104 rfl (lv_at hl 1 rfl) ?_
        obtain ⟨q_4, hq_4, hf⟩ := bd_s hf
        refine xw_callL (kX_record l dC dI a cI cZ tb K σ q_4.2 q_4.1 hq_4) ⟨hx, hb, hml, hown, hts⟩ (cwV 0 hts (gw_V mt_79 mt_80 mt_81 mt_25 mt_82) rfl rfl rfl hdX_record ⟨Nat.le_of_ble_eq_true rfl, Nat.le_of_ble_eq_true rfl⟩) hK hP hD hS hA hZ (q0 := 0) (ci := 0) rfl rfl rfl hl.1 rfl (Nat.le_of_ble_eq_true rfl) dL_105 ⟨Nat.le_of_ble_eq_true rfl, Nat.le_of_ble_eq_true rfl⟩ (fun H locs hP hD hS => ?_)
        refine lv_aload_n hx hb dL_108 rfl (lv_at hl 2 rfl) ?_
        obtain ⟨q_5, hq_5, hf⟩ := bd_s hf
        refine xw_callR (kM_record l dC dI b2 cI cZ tb K τ q_5.2 q_5.1 hq_5) ⟨hx, hb, hml, hown, hts⟩ (cwV 0 hts (gw_V mt_255 mt_256 mt_257 mt_26 mt_258) rfl rfl rfl hdM_record ⟨Nat.le_of_ble_eq_true rfl, Nat.le_of_ble_eq_true rfl⟩) hK hP hD hS hA hZ (q0 := 0) (ci := 1) rfl rfl rfl hl.1 rfl (Nat.le_of_ble_eq_true rfl) dL_109 ⟨Nat.le_of_ble_eq_true rfl, Nat.le_of_ble_eq_true rfl⟩ (fun H locs hP hD hS => ?_)
        refine lv_icmp_eq (tgt := 506) hx hb dL_112 (by decide) (fun c_6 => ?_) (fun c_6 => ?_)
        · replace hf := it_t hf c_6
          refine lv_iinc (v := (x3 + 4)) (lv' := [(3, .int (x3 + 4)), (0, .ref b), (1, .ref (a 0)), (2, .ref (b2 0))]) hx hb dL_506 hl (k := 3) rfl (congrArg (HAdd.hAdd _) (by decide : Int32.ofInt (4) = (4 : Int32))) (by decide) rfl (fun ls hl => ?_)
          refine lv_goto (tgt := 18) hx hb dL_509 (by decide) ?_
          exact ih (x3 + 4) q_4.2 q_5.2 hf _ _ hP hD hS _ (lv_sub hl [1, 2, 3, 0] rfl)
        · replace hf := it_f hf c_6
          refine lv_iconst (v := (0 : Int32)) hx hb dL_115 (by decide) ?_
          exact absurd (Option.some.inj hf) (by decide)
      · replace hf := it_f hf c_3
        by_cases c_7 : ((xs x3.toNatClampNeg) &&& (15 : Int32)) = 1
        · replace hf := it_t hf c_7
          refine lv_tableIn (off := 85) (tgt := 117) hx hb dL_32 (by rw [c_7]; decide) (by rw [c_7]; decide) (by rw [c_7]; rfl) (by decide) ?_
          refine lv_aload_n hx hb dL_117 rfl (lv_at hl 1 rfl) ?_
          refine lv_aload_n hx hb dL_118 rfl (lv_at hl 0 rfl) ?_
          refine lv_iload_n hx hb dL_119 rfl (lv_at hl 3 rfl) ?_
          refine lv_iconst (v := (1 : Int32)) hx hb dL_120 (by decide) ?_
          refine lv_iadd hx hb dL_121 ?_
          obtain ⟨g_8, hf⟩ := gd_f hf
          refine va_sld hx hb hX hbl hbA hS g_8 dL_122 ?_
          refine lv_aload_n hx hb dL_123 rfl (lv_at hl 0 rfl) ?_
          refine lv_iload_n hx hb dL_124 rfl (lv_at hl 3 rfl) ?_
          refine lv_iconst (v := (2 : Int32)) hx hb dL_125 (by decide) ?_
          refine lv_iadd hx hb dL_126 ?_
          obtain ⟨g_9, hf⟩ := gd_f hf
          refine va_sld hx hb hX hbl hbA hS g_9 dL_127 ?_
          refine lv_aload_n hx hb dL_128 rfl (lv_at hl 0 rfl) ?_
          refine lv_iload_n hx hb dL_129 rfl (lv_at hl 3 rfl) ?_
          refine lv_iconst (v := (3 : Int32)) hx hb dL_130 (by decide) ?_
          refine lv_iadd hx hb dL_131 ?_
          obtain ⟨g_10, hf⟩ := gd_f hf
          refine va_sld hx hb hX hbl hbA hS g_10 dL_132 ?_
          obtain ⟨q_11, hq_11, hf⟩ := bd_s hf
          refine xw_callL (kX_link l dC dI a cI cZ tb K (xs (x3 + (1 : Int32)).toNatClampNeg) (xs (x3 + (2 : Int32)).toNatClampNeg) (xs (x3 + (3 : Int32)).toNatClampNeg) σ q_11.2 q_11.1 hq_11) ⟨hx, hb, hml, hown, hts⟩ (cwV 3 hts (gw_V mt_83 mt_84 mt_85 mt_25 mt_86) rfl rfl rfl hdX_link ⟨Nat.le_of_ble_eq_true rfl, Nat.le_of_ble_eq_true rfl⟩) hK hP hD hS hA hZ (q0 := 0) (ci := 0) rfl rfl rfl hl.1 rfl (Nat.le_of_ble_eq_true rfl) dL_133 ⟨Nat.le_of_ble_eq_true rfl, Nat.le_of_ble_eq_true rfl⟩ (fun H locs hP hD hS => ?_)
          refine lv_aload_n hx hb dL_136 rfl (lv_at hl 2 rfl) ?_
          refine lv_aload_n hx hb dL_137 rfl (lv_at hl 0 rfl) ?_
          refine lv_iload_n hx hb dL_138 rfl (lv_at hl 3 rfl) ?_
          refine lv_iconst (v := (1 : Int32)) hx hb dL_139 (by decide) ?_
          refine lv_iadd hx hb dL_140 ?_
          obtain ⟨g_12, hf⟩ := gd_f hf
          refine va_sld hx hb hX hbl hbA hS g_12 dL_141 ?_
          refine lv_aload_n hx hb dL_142 rfl (lv_at hl 0 rfl) ?_
          refine lv_iload_n hx hb dL_143 rfl (lv_at hl 3 rfl) ?_
          refine lv_iconst (v := (2 : Int32)) hx hb dL_144 (by decide) ?_
          refine lv_iadd hx hb dL_145 ?_
          obtain ⟨g_13, hf⟩ := gd_f hf
          refine va_sld hx hb hX hbl hbA hS g_13 dL_146 ?_
          refine lv_aload_n hx hb dL_147 rfl (lv_at hl 0 rfl) ?_
          refine lv_iload_n hx hb dL_148 rfl (lv_at hl 3 rfl) ?_
          refine lv_iconst (v := (3 : Int32)) hx hb dL_149 (by decide) ?_
          refine lv_iadd hx hb dL_150 ?_
          obtain ⟨g_14, hf⟩ := gd_f hf
          refine va_sld hx hb hX hbl hbA hS g_14 dL_151 ?_
          obtain ⟨q_15, hq_15, hf⟩ := bd_s hf
          refine xw_callR (kM_link l dC dI b2 cI cZ tb K (xs (x3 + (1 : Int32)).toNatClampNeg) (xs (x3 + (2 : Int32)).toNatClampNeg) (xs (x3 + (3 : Int32)).toNatClampNeg) τ q_15.2 q_15.1 hq_15) ⟨hx, hb, hml, hown, hts⟩ (cwV 3 hts (gw_V mt_259 mt_260 mt_261 mt_26 mt_262) rfl rfl rfl hdM_link ⟨Nat.le_of_ble_eq_true rfl, Nat.le_of_ble_eq_true rfl⟩) hK hP hD hS hA hZ (q0 := 0) (ci := 1) rfl rfl rfl hl.1 rfl (Nat.le_of_ble_eq_true rfl) dL_152 ⟨Nat.le_of_ble_eq_true rfl, Nat.le_of_ble_eq_true rfl⟩ (fun H locs hP hD hS => ?_)
          refine lv_icmp_eq (tgt := 506) hx hb dL_155 (by decide) (fun c_16 => ?_) (fun c_16 => ?_)
          · replace hf := it_t hf c_16
            refine lv_iinc (v := (x3 + 4)) (lv' := [(3, .int (x3 + 4)), (0, .ref b), (1, .ref (a 0)), (2, .ref (b2 0))]) hx hb dL_506 hl (k := 3) rfl (congrArg (HAdd.hAdd _) (by decide : Int32.ofInt (4) = (4 : Int32))) (by decide) rfl (fun ls hl => ?_)
            refine lv_goto (tgt := 18) hx hb dL_509 (by decide) ?_
            exact ih (x3 + 4) q_11.2 q_15.2 hf _ _ hP hD hS _ (lv_sub hl [1, 2, 3, 0] rfl)
          · replace hf := it_f hf c_16
            refine lv_iconst (v := (0 : Int32)) hx hb dL_158 (by decide) ?_
            exact absurd (Option.some.inj hf) (by decide)
        · replace hf := it_f hf c_7
          by_cases c_17 : ((xs x3.toNatClampNeg) &&& (15 : Int32)) = 2
          · replace hf := it_t hf c_17
            refine lv_tableIn (off := 128) (tgt := 160) hx hb dL_32 (by rw [c_17]; decide) (by rw [c_17]; decide) (by rw [c_17]; rfl) (by decide) ?_
            refine lv_aload_n hx hb dL_160 rfl (lv_at hl 1 rfl) ?_
            refine lv_aload_n hx hb dL_161 rfl (lv_at hl 0 rfl) ?_
            refine lv_iload_n hx hb dL_162 rfl (lv_at hl 3 rfl) ?_
            refine lv_iconst (v := (1 : Int32)) hx hb dL_163 (by decide) ?_
            refine lv_iadd hx hb dL_164 ?_
            obtain ⟨g_18, hf⟩ := gd_f hf
            refine va_sld hx hb hX hbl hbA hS g_18 dL_165 ?_
            refine lv_aload_n hx hb dL_166 rfl (lv_at hl 0 rfl) ?_
            refine lv_iload_n hx hb dL_167 rfl (lv_at hl 3 rfl) ?_
            refine lv_iconst (v := (2 : Int32)) hx hb dL_168 (by decide) ?_
            refine lv_iadd hx hb dL_169 ?_
            obtain ⟨g_19, hf⟩ := gd_f hf
            refine va_sld hx hb hX hbl hbA hS g_19 dL_170 ?_
            obtain ⟨q_20, hq_20, hf⟩ := bd_s hf
            refine xw_callL (kX_change l dC dI a cI cZ tb K (xs (x3 + (1 : Int32)).toNatClampNeg) (xs (x3 + (2 : Int32)).toNatClampNeg) σ q_20.2 q_20.1 hq_20) ⟨hx, hb, hml, hown, hts⟩ (cwV 2 hts (gw_V mt_124 mt_125 mt_126 mt_25 mt_127) rfl rfl rfl hdX_change ⟨Nat.le_of_ble_eq_true rfl, Nat.le_of_ble_eq_true rfl⟩) hK hP hD hS hA hZ (q0 := 0) (ci := 0) rfl rfl rfl hl.1 rfl (Nat.le_of_ble_eq_true rfl) dL_171 ⟨Nat.le_of_ble_eq_true rfl, Nat.le_of_ble_eq_true rfl⟩ (fun H locs hP hD hS => ?_)
            refine lv_aload_n hx hb dL_174 rfl (lv_at hl 2 rfl) ?_
            refine lv_aload_n hx hb dL_175 rfl (lv_at hl 0 rfl) ?_
            refine lv_iload_n hx hb dL_176 rfl (lv_at hl 3 rfl) ?_
            refine lv_iconst (v := (1 : Int32)) hx hb dL_177 (by decide) ?_
            refine lv_iadd hx hb dL_178 ?_
            obtain ⟨g_21, hf⟩ := gd_f hf
            refine va_sld hx hb hX hbl hbA hS g_21 dL_179 ?_
            refine lv_aload_n hx hb dL_180 rfl (lv_at hl 0 rfl) ?_
            refine lv_iload_n hx hb dL_181 rfl (lv_at hl 3 rfl) ?_
            refine lv_iconst (v := (2 : Int32)) hx hb dL_182 (by decide) ?_
            refine lv_iadd hx hb dL_183 ?_
            obtain ⟨g_22, hf⟩ := gd_f hf
            refine va_sld hx hb hX hbl hbA hS g_22 dL_184 ?_
            obtain ⟨q_23, hq_23, hf⟩ := bd_s hf
            refine xw_callR (kM_change l dC dI b2 cI cZ tb K (xs (x3 + (1 : Int32)).toNatClampNeg) (xs (x3 + (2 : Int32)).toNatClampNeg) τ q_23.2 q_23.1 hq_23) ⟨hx, hb, hml, hown, hts⟩ (cwV 2 hts (gw_V mt_293 mt_294 mt_295 mt_26 mt_296) rfl rfl rfl hdM_change ⟨Nat.le_of_ble_eq_true rfl, Nat.le_of_ble_eq_true rfl⟩) hK hP hD hS hA hZ (q0 := 0) (ci := 1) rfl rfl rfl hl.1 rfl (Nat.le_of_ble_eq_true rfl) dL_185 ⟨Nat.le_of_ble_eq_true rfl, Nat.le_of_ble_eq_true rfl⟩ (fun H locs hP hD hS => ?_)
            refine lv_icmp_eq (tgt := 506) hx hb dL_188 (by decide) (fun c_24 => ?_) (fun c_24 => ?_)
            · replace hf := it_t hf c_24
              refine lv_iinc (v := (x3 + 4)) (lv' := [(3, .int (x3 + 4)), (0, .ref b), (1, .ref (a 0)), (2, .ref (b2 0))]) hx hb dL_506 hl (k := 3) rfl (congrArg (HAdd.hAdd _) (by decide : Int32.ofInt (4) = (4 : Int32))) (by decide) rfl (fun ls hl => ?_)
              refine lv_goto (tgt := 18) hx hb dL_509 (by decide) ?_
              exact ih (x3 + 4) q_20.2 q_23.2 hf _ _ hP hD hS _ (lv_sub hl [1, 2, 3, 0] rfl)
            · replace hf := it_f hf c_24
              refine lv_iconst (v := (0 : Int32)) hx hb dL_191 (by decide) ?_
              exact absurd (Option.some.inj hf) (by decide)
          · replace hf := it_f hf c_17
            by_cases c_25 : ((xs x3.toNatClampNeg) &&& (15 : Int32)) = 3
            · replace hf := it_t hf c_25
              refine lv_tableIn (off := 161) (tgt := 193) hx hb dL_32 (by rw [c_25]; decide) (by rw [c_25]; decide) (by rw [c_25]; rfl) (by decide) ?_
              refine lv_aload_n hx hb dL_193 rfl (lv_at hl 1 rfl) ?_
              refine lv_aload_n hx hb dL_194 rfl (lv_at hl 0 rfl) ?_
              refine lv_iload_n hx hb dL_195 rfl (lv_at hl 3 rfl) ?_
              refine lv_iconst (v := (1 : Int32)) hx hb dL_196 (by decide) ?_
              refine lv_iadd hx hb dL_197 ?_
              obtain ⟨g_26, hf⟩ := gd_f hf
              refine va_sld hx hb hX hbl hbA hS g_26 dL_198 ?_
              refine lv_aload_n hx hb dL_199 rfl (lv_at hl 0 rfl) ?_
              refine lv_iload_n hx hb dL_200 rfl (lv_at hl 3 rfl) ?_
              refine lv_iconst (v := (2 : Int32)) hx hb dL_201 (by decide) ?_
              refine lv_iadd hx hb dL_202 ?_
              obtain ⟨g_27, hf⟩ := gd_f hf
              refine va_sld hx hb hX hbl hbA hS g_27 dL_203 ?_
              obtain ⟨q_28, hq_28, hf⟩ := bd_s hf
              refine xw_callL (kX_broken l dC dI a cI cZ tb K (xs (x3 + (1 : Int32)).toNatClampNeg) (xs (x3 + (2 : Int32)).toNatClampNeg) σ q_28.2 q_28.1 hq_28) ⟨hx, hb, hml, hown, hts⟩ (cwV 2 hts (gw_V mt_146 mt_147 mt_148 mt_25 mt_149) rfl rfl rfl hdX_broken ⟨Nat.le_of_ble_eq_true rfl, Nat.le_of_ble_eq_true rfl⟩) hK hP hD hS hA hZ (q0 := 0) (ci := 0) rfl rfl rfl hl.1 rfl (Nat.le_of_ble_eq_true rfl) dL_204 ⟨Nat.le_of_ble_eq_true rfl, Nat.le_of_ble_eq_true rfl⟩ (fun H locs hP hD hS => ?_)
              refine lv_aload_n hx hb dL_207 rfl (lv_at hl 2 rfl) ?_
              refine lv_aload_n hx hb dL_208 rfl (lv_at hl 0 rfl) ?_
              refine lv_iload_n hx hb dL_209 rfl (lv_at hl 3 rfl) ?_
              refine lv_iconst (v := (1 : Int32)) hx hb dL_210 (by decide) ?_
              refine lv_iadd hx hb dL_211 ?_
              obtain ⟨g_29, hf⟩ := gd_f hf
              refine va_sld hx hb hX hbl hbA hS g_29 dL_212 ?_
              refine lv_aload_n hx hb dL_213 rfl (lv_at hl 0 rfl) ?_
              refine lv_iload_n hx hb dL_214 rfl (lv_at hl 3 rfl) ?_
              refine lv_iconst (v := (2 : Int32)) hx hb dL_215 (by decide) ?_
              refine lv_iadd hx hb dL_216 ?_
              obtain ⟨g_30, hf⟩ := gd_f hf
              refine va_sld hx hb hX hbl hbA hS g_30 dL_217 ?_
              obtain ⟨q_31, hq_31, hf⟩ := bd_s hf
              refine xw_callR (kM_broken l dC dI b2 cI cZ tb K (xs (x3 + (1 : Int32)).toNatClampNeg) (xs (x3 + (2 : Int32)).toNatClampNeg) τ q_31.2 q_31.1 hq_31) ⟨hx, hb, hml, hown, hts⟩ (cwV 2 hts (gw_V mt_301 mt_302 mt_303 mt_26 mt_304) rfl rfl rfl hdM_broken ⟨Nat.le_of_ble_eq_true rfl, Nat.le_of_ble_eq_true rfl⟩) hK hP hD hS hA hZ (q0 := 0) (ci := 1) rfl rfl rfl hl.1 rfl (Nat.le_of_ble_eq_true rfl) dL_218 ⟨Nat.le_of_ble_eq_true rfl, Nat.le_of_ble_eq_true rfl⟩ (fun H locs hP hD hS => ?_)
              refine lv_icmp_eq (tgt := 506) hx hb dL_221 (by decide) (fun c_32 => ?_) (fun c_32 => ?_)
              · replace hf := it_t hf c_32
                refine lv_iinc (v := (x3 + 4)) (lv' := [(3, .int (x3 + 4)), (0, .ref b), (1, .ref (a 0)), (2, .ref (b2 0))]) hx hb dL_506 hl (k := 3) rfl (congrArg (HAdd.hAdd _) (by decide : Int32.ofInt (4) = (4 : Int32))) (by decide) rfl (fun ls hl => ?_)
                refine lv_goto (tgt := 18) hx hb dL_509 (by decide) ?_
                exact ih (x3 + 4) q_28.2 q_31.2 hf _ _ hP hD hS _ (lv_sub hl [1, 2, 3, 0] rfl)
              · replace hf := it_f hf c_32
                refine lv_iconst (v := (0 : Int32)) hx hb dL_224 (by decide) ?_
                exact absurd (Option.some.inj hf) (by decide)
            · replace hf := it_f hf c_25
              by_cases c_33 : ((xs x3.toNatClampNeg) &&& (15 : Int32)) = 4
              · replace hf := it_t hf c_33
                refine lv_tableIn (off := 194) (tgt := 226) hx hb dL_32 (by rw [c_33]; decide) (by rw [c_33]; decide) (by rw [c_33]; rfl) (by decide) ?_
                refine lv_aload_n hx hb dL_226 rfl (lv_at hl 1 rfl) ?_
                refine lv_aload_n hx hb dL_227 rfl (lv_at hl 0 rfl) ?_
                refine lv_iload_n hx hb dL_228 rfl (lv_at hl 3 rfl) ?_
                refine lv_iconst (v := (1 : Int32)) hx hb dL_229 (by decide) ?_
                refine lv_iadd hx hb dL_230 ?_
                obtain ⟨g_34, hf⟩ := gd_f hf
                refine va_sld hx hb hX hbl hbA hS g_34 dL_231 ?_
                obtain ⟨q_35, hq_35, hf⟩ := bd_s hf
                refine xw_callL (kX_repair l dC dI a cI cZ tb K (xs (x3 + (1 : Int32)).toNatClampNeg) σ q_35.2 q_35.1 hq_35) ⟨hx, hb, hml, hown, hts⟩ (cwV 1 hts (gw_V mt_154 mt_155 mt_156 mt_25 mt_157) rfl rfl rfl hdX_repair ⟨Nat.le_of_ble_eq_true rfl, Nat.le_of_ble_eq_true rfl⟩) hK hP hD hS hA hZ (q0 := 0) (ci := 0) rfl rfl rfl hl.1 rfl (Nat.le_of_ble_eq_true rfl) dL_232 ⟨Nat.le_of_ble_eq_true rfl, Nat.le_of_ble_eq_true rfl⟩ (fun H locs hP hD hS => ?_)
                refine lv_aload_n hx hb dL_235 rfl (lv_at hl 2 rfl) ?_
                refine lv_aload_n hx hb dL_236 rfl (lv_at hl 0 rfl) ?_
                refine lv_iload_n hx hb dL_237 rfl (lv_at hl 3 rfl) ?_
                refine lv_iconst (v := (1 : Int32)) hx hb dL_238 (by decide) ?_
                refine lv_iadd hx hb dL_239 ?_
                obtain ⟨g_36, hf⟩ := gd_f hf
                refine va_sld hx hb hX hbl hbA hS g_36 dL_240 ?_
                obtain ⟨q_37, hq_37, hf⟩ := bd_s hf
                refine xw_callR (kM_repair l dC dI b2 cI cZ tb K (xs (x3 + (1 : Int32)).toNatClampNeg) τ q_37.2 q_37.1 hq_37) ⟨hx, hb, hml, hown, hts⟩ (cwV 1 hts (gw_V mt_313 mt_314 mt_315 mt_26 mt_316) rfl rfl rfl hdM_repair ⟨Nat.le_of_ble_eq_true rfl, Nat.le_of_ble_eq_true rfl⟩) hK hP hD hS hA hZ (q0 := 0) (ci := 1) rfl rfl rfl hl.1 rfl (Nat.le_of_ble_eq_true rfl) dL_241 ⟨Nat.le_of_ble_eq_true rfl, Nat.le_of_ble_eq_true rfl⟩ (fun H locs hP hD hS => ?_)
                refine lv_icmp_eq (tgt := 506) hx hb dL_244 (by decide) (fun c_38 => ?_) (fun c_38 => ?_)
                · replace hf := it_t hf c_38
                  refine lv_iinc (v := (x3 + 4)) (lv' := [(3, .int (x3 + 4)), (0, .ref b), (1, .ref (a 0)), (2, .ref (b2 0))]) hx hb dL_506 hl (k := 3) rfl (congrArg (HAdd.hAdd _) (by decide : Int32.ofInt (4) = (4 : Int32))) (by decide) rfl (fun ls hl => ?_)
                  refine lv_goto (tgt := 18) hx hb dL_509 (by decide) ?_
                  exact ih (x3 + 4) q_35.2 q_37.2 hf _ _ hP hD hS _ (lv_sub hl [1, 2, 3, 0] rfl)
                · replace hf := it_f hf c_38
                  refine lv_iconst (v := (0 : Int32)) hx hb dL_247 (by decide) ?_
                  exact absurd (Option.some.inj hf) (by decide)
              · replace hf := it_f hf c_33
                by_cases c_39 : ((xs x3.toNatClampNeg) &&& (15 : Int32)) = 5
                · replace hf := it_t hf c_39
                  refine lv_tableIn (off := 217) (tgt := 249) hx hb dL_32 (by rw [c_39]; decide) (by rw [c_39]; decide) (by rw [c_39]; rfl) (by decide) ?_
                  refine lv_aload_n hx hb dL_249 rfl (lv_at hl 1 rfl) ?_
                  refine lv_aload_n hx hb dL_250 rfl (lv_at hl 0 rfl) ?_
                  refine lv_iload_n hx hb dL_251 rfl (lv_at hl 3 rfl) ?_
                  refine lv_iconst (v := (1 : Int32)) hx hb dL_252 (by decide) ?_
                  refine lv_iadd hx hb dL_253 ?_
                  obtain ⟨g_40, hf⟩ := gd_f hf
                  refine va_sld hx hb hX hbl hbA hS g_40 dL_254 ?_
                  refine lv_aload_n hx hb dL_255 rfl (lv_at hl 0 rfl) ?_
                  refine lv_iload_n hx hb dL_256 rfl (lv_at hl 3 rfl) ?_
                  refine lv_iconst (v := (2 : Int32)) hx hb dL_257 (by decide) ?_
                  refine lv_iadd hx hb dL_258 ?_
                  obtain ⟨g_41, hf⟩ := gd_f hf
                  refine va_sld hx hb hX hbl hbA hS g_41 dL_259 ?_
                  obtain ⟨q_42, hq_42, hf⟩ := bd_s hf
                  refine xw_callL (kX_chain l dC dI a cI cZ tb K (xs (x3 + (1 : Int32)).toNatClampNeg) (xs (x3 + (2 : Int32)).toNatClampNeg) σ q_42.2 q_42.1 hq_42) ⟨hx, hb, hml, hown, hts⟩ (cwV 2 hts (gw_V mt_158 mt_159 mt_160 mt_25 mt_161) rfl rfl rfl hdX_chain ⟨Nat.le_of_ble_eq_true rfl, Nat.le_of_ble_eq_true rfl⟩) hK hP hD hS hA hZ (q0 := 0) (ci := 0) rfl rfl rfl hl.1 rfl (Nat.le_of_ble_eq_true rfl) dL_260 ⟨Nat.le_of_ble_eq_true rfl, Nat.le_of_ble_eq_true rfl⟩ (fun H locs hP hD hS => ?_)
                  refine lv_aload_n hx hb dL_263 rfl (lv_at hl 2 rfl) ?_
                  refine lv_aload_n hx hb dL_264 rfl (lv_at hl 0 rfl) ?_
                  refine lv_iload_n hx hb dL_265 rfl (lv_at hl 3 rfl) ?_
                  refine lv_iconst (v := (1 : Int32)) hx hb dL_266 (by decide) ?_
                  refine lv_iadd hx hb dL_267 ?_
                  obtain ⟨g_43, hf⟩ := gd_f hf
                  refine va_sld hx hb hX hbl hbA hS g_43 dL_268 ?_
                  refine lv_aload_n hx hb dL_269 rfl (lv_at hl 0 rfl) ?_
                  refine lv_iload_n hx hb dL_270 rfl (lv_at hl 3 rfl) ?_
                  refine lv_iconst (v := (2 : Int32)) hx hb dL_271 (by decide) ?_
                  refine lv_iadd hx hb dL_272 ?_
                  obtain ⟨g_44, hf⟩ := gd_f hf
                  refine va_sld hx hb hX hbl hbA hS g_44 dL_273 ?_
                  obtain ⟨q_45, hq_45, hf⟩ := bd_s hf
                  refine xw_callR (kM_chain l dC dI b2 cI cZ tb K (xs (x3 + (1 : Int32)).toNatClampNeg) (xs (x3 + (2 : Int32)).toNatClampNeg) τ q_45.2 q_45.1 hq_45) ⟨hx, hb, hml, hown, hts⟩ (cwV 2 hts (gw_V mt_317 mt_318 mt_319 mt_26 mt_320) rfl rfl rfl hdM_chain ⟨Nat.le_of_ble_eq_true rfl, Nat.le_of_ble_eq_true rfl⟩) hK hP hD hS hA hZ (q0 := 0) (ci := 1) rfl rfl rfl hl.1 rfl (Nat.le_of_ble_eq_true rfl) dL_274 ⟨Nat.le_of_ble_eq_true rfl, Nat.le_of_ble_eq_true rfl⟩ (fun H locs hP hD hS => ?_)
                  refine lv_icmp_eq (tgt := 506) hx hb dL_277 (by decide) (fun c_46 => ?_) (fun c_46 => ?_)
                  · replace hf := it_t hf c_46
                    refine lv_iinc (v := (x3 + 4)) (lv' := [(3, .int (x3 + 4)), (0, .ref b), (1, .ref (a 0)), (2, .ref (b2 0))]) hx hb dL_506 hl (k := 3) rfl (congrArg (HAdd.hAdd _) (by decide : Int32.ofInt (4) = (4 : Int32))) (by decide) rfl (fun ls hl => ?_)
                    refine lv_goto (tgt := 18) hx hb dL_509 (by decide) ?_
                    exact ih (x3 + 4) q_42.2 q_45.2 hf _ _ hP hD hS _ (lv_sub hl [1, 2, 3, 0] rfl)
                  · replace hf := it_f hf c_46
                    refine lv_iconst (v := (0 : Int32)) hx hb dL_280 (by decide) ?_
                    exact absurd (Option.some.inj hf) (by decide)
                · replace hf := it_f hf c_39
                  by_cases c_47 : ((xs x3.toNatClampNeg) &&& (15 : Int32)) = 6
                  · replace hf := it_t hf c_47
                    refine lv_tableIn (off := 250) (tgt := 282) hx hb dL_32 (by rw [c_47]; decide) (by rw [c_47]; decide) (by rw [c_47]; rfl) (by decide) ?_
                    refine lv_aload_n hx hb dL_282 rfl (lv_at hl 1 rfl) ?_
                    refine lv_aload_n hx hb dL_283 rfl (lv_at hl 0 rfl) ?_
                    refine lv_iload_n hx hb dL_284 rfl (lv_at hl 3 rfl) ?_
                    refine lv_iconst (v := (1 : Int32)) hx hb dL_285 (by decide) ?_
                    refine lv_iadd hx hb dL_286 ?_
                    obtain ⟨g_48, hf⟩ := gd_f hf
                    refine va_sld hx hb hX hbl hbA hS g_48 dL_287 ?_
                    obtain ⟨q_49, hq_49, hf⟩ := bd_s hf
                    refine xw_callL (kX_ring l dC dI a cI cZ tb K (xs (x3 + (1 : Int32)).toNatClampNeg) σ q_49.2 q_49.1 hq_49) ⟨hx, hb, hml, hown, hts⟩ (cwV 1 hts (gw_V mt_162 mt_163 mt_164 mt_25 mt_165) rfl rfl rfl hdX_ring ⟨Nat.le_of_ble_eq_true rfl, Nat.le_of_ble_eq_true rfl⟩) hK hP hD hS hA hZ (q0 := 0) (ci := 0) rfl rfl rfl hl.1 rfl (Nat.le_of_ble_eq_true rfl) dL_288 ⟨Nat.le_of_ble_eq_true rfl, Nat.le_of_ble_eq_true rfl⟩ (fun H locs hP hD hS => ?_)
                    refine lv_aload_n hx hb dL_291 rfl (lv_at hl 2 rfl) ?_
                    refine lv_aload_n hx hb dL_292 rfl (lv_at hl 0 rfl) ?_
                    refine lv_iload_n hx hb dL_293 rfl (lv_at hl 3 rfl) ?_
                    refine lv_iconst (v := (1 : Int32)) hx hb dL_294 (by decide) ?_
                    refine lv_iadd hx hb dL_295 ?_
                    obtain ⟨g_50, hf⟩ := gd_f hf
                    refine va_sld hx hb hX hbl hbA hS g_50 dL_296 ?_
                    obtain ⟨q_51, hq_51, hf⟩ := bd_s hf
                    refine xw_callR (kM_ring l dC dI b2 cI cZ tb K (xs (x3 + (1 : Int32)).toNatClampNeg) τ q_51.2 q_51.1 hq_51) ⟨hx, hb, hml, hown, hts⟩ (cwV 1 hts (gw_V mt_321 mt_322 mt_323 mt_26 mt_324) rfl rfl rfl hdM_ring ⟨Nat.le_of_ble_eq_true rfl, Nat.le_of_ble_eq_true rfl⟩) hK hP hD hS hA hZ (q0 := 0) (ci := 1) rfl rfl rfl hl.1 rfl (Nat.le_of_ble_eq_true rfl) dL_297 ⟨Nat.le_of_ble_eq_true rfl, Nat.le_of_ble_eq_true rfl⟩ (fun H locs hP hD hS => ?_)
                    refine lv_icmp_eq (tgt := 506) hx hb dL_300 (by decide) (fun c_52 => ?_) (fun c_52 => ?_)
                    · replace hf := it_t hf c_52
                      refine lv_iinc (v := (x3 + 4)) (lv' := [(3, .int (x3 + 4)), (0, .ref b), (1, .ref (a 0)), (2, .ref (b2 0))]) hx hb dL_506 hl (k := 3) rfl (congrArg (HAdd.hAdd _) (by decide : Int32.ofInt (4) = (4 : Int32))) (by decide) rfl (fun ls hl => ?_)
                      refine lv_goto (tgt := 18) hx hb dL_509 (by decide) ?_
                      exact ih (x3 + 4) q_49.2 q_51.2 hf _ _ hP hD hS _ (lv_sub hl [1, 2, 3, 0] rfl)
                    · replace hf := it_f hf c_52
                      refine lv_iconst (v := (0 : Int32)) hx hb dL_303 (by decide) ?_
                      exact absurd (Option.some.inj hf) (by decide)
                  · replace hf := it_f hf c_47
                    by_cases c_53 : ((xs x3.toNatClampNeg) &&& (15 : Int32)) = 7
                    · replace hf := it_t hf c_53
                      refine lv_tableIn (off := 273) (tgt := 305) hx hb dL_32 (by rw [c_53]; decide) (by rw [c_53]; decide) (by rw [c_53]; rfl) (by decide) ?_
                      refine lv_aload_n hx hb dL_305 rfl (lv_at hl 1 rfl) ?_
                      refine lv_aload_n hx hb dL_306 rfl (lv_at hl 0 rfl) ?_
                      refine lv_iload_n hx hb dL_307 rfl (lv_at hl 3 rfl) ?_
                      refine lv_iconst (v := (1 : Int32)) hx hb dL_308 (by decide) ?_
                      refine lv_iadd hx hb dL_309 ?_
                      obtain ⟨g_54, hf⟩ := gd_f hf
                      refine va_sld hx hb hX hbl hbA hS g_54 dL_310 ?_
                      obtain ⟨q_55, hq_55, hf⟩ := bd_s hf
                      refine xw_callL (kX_host l dC dI a cI cZ tb K (xs (x3 + (1 : Int32)).toNatClampNeg) σ q_55.2 q_55.1 hq_55) ⟨hx, hb, hml, hown, hts⟩ (cwV 1 hts (gw_V mt_166 mt_167 mt_168 mt_25 mt_169) rfl rfl rfl hdX_host ⟨Nat.le_of_ble_eq_true rfl, Nat.le_of_ble_eq_true rfl⟩) hK hP hD hS hA hZ (q0 := 0) (ci := 0) rfl rfl rfl hl.1 rfl (Nat.le_of_ble_eq_true rfl) dL_311 ⟨Nat.le_of_ble_eq_true rfl, Nat.le_of_ble_eq_true rfl⟩ (fun H locs hP hD hS => ?_)
                      refine lv_aload_n hx hb dL_314 rfl (lv_at hl 2 rfl) ?_
                      refine lv_aload_n hx hb dL_315 rfl (lv_at hl 0 rfl) ?_
                      refine lv_iload_n hx hb dL_316 rfl (lv_at hl 3 rfl) ?_
                      refine lv_iconst (v := (1 : Int32)) hx hb dL_317 (by decide) ?_
                      refine lv_iadd hx hb dL_318 ?_
                      obtain ⟨g_56, hf⟩ := gd_f hf
                      refine va_sld hx hb hX hbl hbA hS g_56 dL_319 ?_
                      obtain ⟨q_57, hq_57, hf⟩ := bd_s hf
                      refine xw_callR (kM_host l dC dI b2 cI cZ tb K (xs (x3 + (1 : Int32)).toNatClampNeg) τ q_57.2 q_57.1 hq_57) ⟨hx, hb, hml, hown, hts⟩ (cwV 1 hts (gw_V mt_325 mt_326 mt_327 mt_26 mt_328) rfl rfl rfl hdM_host ⟨Nat.le_of_ble_eq_true rfl, Nat.le_of_ble_eq_true rfl⟩) hK hP hD hS hA hZ (q0 := 0) (ci := 1) rfl rfl rfl hl.1 rfl (Nat.le_of_ble_eq_true rfl) dL_320 ⟨Nat.le_of_ble_eq_true rfl, Nat.le_of_ble_eq_true rfl⟩ (fun H locs hP hD hS => ?_)
                      refine lv_icmp_eq (tgt := 506) hx hb dL_323 (by decide) (fun c_58 => ?_) (fun c_58 => ?_)
                      · replace hf := it_t hf c_58
                        refine lv_iinc (v := (x3 + 4)) (lv' := [(3, .int (x3 + 4)), (0, .ref b), (1, .ref (a 0)), (2, .ref (b2 0))]) hx hb dL_506 hl (k := 3) rfl (congrArg (HAdd.hAdd _) (by decide : Int32.ofInt (4) = (4 : Int32))) (by decide) rfl (fun ls hl => ?_)
                        refine lv_goto (tgt := 18) hx hb dL_509 (by decide) ?_
                        exact ih (x3 + 4) q_55.2 q_57.2 hf _ _ hP hD hS _ (lv_sub hl [1, 2, 3, 0] rfl)
                      · replace hf := it_f hf c_58
                        refine lv_iconst (v := (0 : Int32)) hx hb dL_326 (by decide) ?_
                        exact absurd (Option.some.inj hf) (by decide)
                    · replace hf := it_f hf c_53
                      by_cases c_59 : ((xs x3.toNatClampNeg) &&& (15 : Int32)) = 8
                      · replace hf := it_t hf c_59
                        refine lv_tableIn (off := 296) (tgt := 328) hx hb dL_32 (by rw [c_59]; decide) (by rw [c_59]; decide) (by rw [c_59]; rfl) (by decide) ?_
                        refine lv_aload_n hx hb dL_328 rfl (lv_at hl 1 rfl) ?_
                        refine lv_aload_n hx hb dL_329 rfl (lv_at hl 0 rfl) ?_
                        refine lv_iload_n hx hb dL_330 rfl (lv_at hl 3 rfl) ?_
                        refine lv_iconst (v := (1 : Int32)) hx hb dL_331 (by decide) ?_
                        refine lv_iadd hx hb dL_332 ?_
                        obtain ⟨g_60, hf⟩ := gd_f hf
                        refine va_sld hx hb hX hbl hbA hS g_60 dL_333 ?_
                        refine lv_aload_n hx hb dL_334 rfl (lv_at hl 0 rfl) ?_
                        refine lv_iload_n hx hb dL_335 rfl (lv_at hl 3 rfl) ?_
                        refine lv_iconst (v := (2 : Int32)) hx hb dL_336 (by decide) ?_
                        refine lv_iadd hx hb dL_337 ?_
                        obtain ⟨g_61, hf⟩ := gd_f hf
                        refine va_sld hx hb hX hbl hbA hS g_61 dL_338 ?_
                        obtain ⟨q_62, hq_62, hf⟩ := bd_s hf
                        refine xw_callL (kX_move l dC dI a cI cZ tb K (xs (x3 + (1 : Int32)).toNatClampNeg) (xs (x3 + (2 : Int32)).toNatClampNeg) σ q_62.2 q_62.1 hq_62) ⟨hx, hb, hml, hown, hts⟩ (cwV 2 hts (gw_V mt_170 mt_171 mt_172 mt_25 mt_173) rfl rfl rfl hdX_move ⟨Nat.le_of_ble_eq_true rfl, Nat.le_of_ble_eq_true rfl⟩) hK hP hD hS hA hZ (q0 := 0) (ci := 0) rfl rfl rfl hl.1 rfl (Nat.le_of_ble_eq_true rfl) dL_339 ⟨Nat.le_of_ble_eq_true rfl, Nat.le_of_ble_eq_true rfl⟩ (fun H locs hP hD hS => ?_)
                        refine lv_aload_n hx hb dL_342 rfl (lv_at hl 2 rfl) ?_
                        refine lv_aload_n hx hb dL_343 rfl (lv_at hl 0 rfl) ?_
                        refine lv_iload_n hx hb dL_344 rfl (lv_at hl 3 rfl) ?_
                        refine lv_iconst (v := (1 : Int32)) hx hb dL_345 (by decide) ?_
                        refine lv_iadd hx hb dL_346 ?_
                        obtain ⟨g_63, hf⟩ := gd_f hf
                        refine va_sld hx hb hX hbl hbA hS g_63 dL_347 ?_
                        refine lv_aload_n hx hb dL_348 rfl (lv_at hl 0 rfl) ?_
                        refine lv_iload_n hx hb dL_349 rfl (lv_at hl 3 rfl) ?_
                        refine lv_iconst (v := (2 : Int32)) hx hb dL_350 (by decide) ?_
                        refine lv_iadd hx hb dL_351 ?_
                        obtain ⟨g_64, hf⟩ := gd_f hf
                        refine va_sld hx hb hX hbl hbA hS g_64 dL_352 ?_
                        obtain ⟨q_65, hq_65, hf⟩ := bd_s hf
                        refine xw_callR (kM_move l dC dI b2 cI cZ tb K (xs (x3 + (1 : Int32)).toNatClampNeg) (xs (x3 + (2 : Int32)).toNatClampNeg) τ q_65.2 q_65.1 hq_65) ⟨hx, hb, hml, hown, hts⟩ (cwV 2 hts (gw_V mt_329 mt_330 mt_331 mt_26 mt_332) rfl rfl rfl hdM_move ⟨Nat.le_of_ble_eq_true rfl, Nat.le_of_ble_eq_true rfl⟩) hK hP hD hS hA hZ (q0 := 0) (ci := 1) rfl rfl rfl hl.1 rfl (Nat.le_of_ble_eq_true rfl) dL_353 ⟨Nat.le_of_ble_eq_true rfl, Nat.le_of_ble_eq_true rfl⟩ (fun H locs hP hD hS => ?_)
                        refine lv_icmp_eq (tgt := 506) hx hb dL_356 (by decide) (fun c_66 => ?_) (fun c_66 => ?_)
                        · replace hf := it_t hf c_66
                          refine lv_iinc (v := (x3 + 4)) (lv' := [(3, .int (x3 + 4)), (0, .ref b), (1, .ref (a 0)), (2, .ref (b2 0))]) hx hb dL_506 hl (k := 3) rfl (congrArg (HAdd.hAdd _) (by decide : Int32.ofInt (4) = (4 : Int32))) (by decide) rfl (fun ls hl => ?_)
                          refine lv_goto (tgt := 18) hx hb dL_509 (by decide) ?_
                          exact ih (x3 + 4) q_62.2 q_65.2 hf _ _ hP hD hS _ (lv_sub hl [1, 2, 3, 0] rfl)
                        · replace hf := it_f hf c_66
                          refine lv_iconst (v := (0 : Int32)) hx hb dL_359 (by decide) ?_
                          exact absurd (Option.some.inj hf) (by decide)
                      · replace hf := it_f hf c_59
                        by_cases c_67 : ((xs x3.toNatClampNeg) &&& (15 : Int32)) = 9
                        · replace hf := it_t hf c_67
                          refine lv_tableIn (off := 329) (tgt := 361) hx hb dL_32 (by rw [c_67]; decide) (by rw [c_67]; decide) (by rw [c_67]; rfl) (by decide) ?_
                          refine lv_aload_n hx hb dL_361 rfl (lv_at hl 1 rfl) ?_
                          refine lv_aload_n hx hb dL_362 rfl (lv_at hl 0 rfl) ?_
                          refine lv_iload_n hx hb dL_363 rfl (lv_at hl 3 rfl) ?_
                          refine lv_iconst (v := (1 : Int32)) hx hb dL_364 (by decide) ?_
                          refine lv_iadd hx hb dL_365 ?_
                          obtain ⟨g_68, hf⟩ := gd_f hf
                          refine va_sld hx hb hX hbl hbA hS g_68 dL_366 ?_
                          obtain ⟨q_69, hq_69, hf⟩ := bd_s hf
                          refine xw_callL (kX_delete l dC dI a cI cZ tb K (xs (x3 + (1 : Int32)).toNatClampNeg) σ q_69.2 q_69.1 hq_69) ⟨hx, hb, hml, hown, hts⟩ (cwV 1 hts (gw_V mt_174 mt_175 mt_176 mt_25 mt_177) rfl rfl rfl hdX_delete ⟨Nat.le_of_ble_eq_true rfl, Nat.le_of_ble_eq_true rfl⟩) hK hP hD hS hA hZ (q0 := 0) (ci := 0) rfl rfl rfl hl.1 rfl (Nat.le_of_ble_eq_true rfl) dL_367 ⟨Nat.le_of_ble_eq_true rfl, Nat.le_of_ble_eq_true rfl⟩ (fun H locs hP hD hS => ?_)
                          refine lv_aload_n hx hb dL_370 rfl (lv_at hl 2 rfl) ?_
                          refine lv_aload_n hx hb dL_371 rfl (lv_at hl 0 rfl) ?_
                          refine lv_iload_n hx hb dL_372 rfl (lv_at hl 3 rfl) ?_
                          refine lv_iconst (v := (1 : Int32)) hx hb dL_373 (by decide) ?_
                          refine lv_iadd hx hb dL_374 ?_
                          obtain ⟨g_70, hf⟩ := gd_f hf
                          refine va_sld hx hb hX hbl hbA hS g_70 dL_375 ?_
                          obtain ⟨q_71, hq_71, hf⟩ := bd_s hf
                          refine xw_callR (kM_delete l dC dI b2 cI cZ tb K (xs (x3 + (1 : Int32)).toNatClampNeg) τ q_71.2 q_71.1 hq_71) ⟨hx, hb, hml, hown, hts⟩ (cwV 1 hts (gw_V mt_333 mt_334 mt_335 mt_26 mt_336) rfl rfl rfl hdM_delete ⟨Nat.le_of_ble_eq_true rfl, Nat.le_of_ble_eq_true rfl⟩) hK hP hD hS hA hZ (q0 := 0) (ci := 1) rfl rfl rfl hl.1 rfl (Nat.le_of_ble_eq_true rfl) dL_376 ⟨Nat.le_of_ble_eq_true rfl, Nat.le_of_ble_eq_true rfl⟩ (fun H locs hP hD hS => ?_)
                          refine lv_icmp_eq (tgt := 506) hx hb dL_379 (by decide) (fun c_72 => ?_) (fun c_72 => ?_)
                          · replace hf := it_t hf c_72
                            refine lv_iinc (v := (x3 + 4)) (lv' := [(3, .int (x3 + 4)), (0, .ref b), (1, .ref (a 0)), (2, .ref (b2 0))]) hx hb dL_506 hl (k := 3) rfl (congrArg (HAdd.hAdd _) (by decide : Int32.ofInt (4) = (4 : Int32))) (by decide) rfl (fun ls hl => ?_)
                            refine lv_goto (tgt := 18) hx hb dL_509 (by decide) ?_
                            exact ih (x3 + 4) q_69.2 q_71.2 hf _ _ hP hD hS _ (lv_sub hl [1, 2, 3, 0] rfl)
                          · replace hf := it_f hf c_72
                            refine lv_iconst (v := (0 : Int32)) hx hb dL_382 (by decide) ?_
                            exact absurd (Option.some.inj hf) (by decide)
                        · replace hf := it_f hf c_67
                          by_cases c_73 : ((xs x3.toNatClampNeg) &&& (15 : Int32)) = 10
                          · replace hf := it_t hf c_73
                            refine lv_tableIn (off := 352) (tgt := 384) hx hb dL_32 (by rw [c_73]; decide) (by rw [c_73]; decide) (by rw [c_73]; rfl) (by decide) ?_
                            refine lv_aload_n hx hb dL_384 rfl (lv_at hl 1 rfl) ?_
                            refine lv_aload_n hx hb dL_385 rfl (lv_at hl 0 rfl) ?_
                            refine lv_iload_n hx hb dL_386 rfl (lv_at hl 3 rfl) ?_
                            refine lv_iconst (v := (1 : Int32)) hx hb dL_387 (by decide) ?_
                            refine lv_iadd hx hb dL_388 ?_
                            obtain ⟨g_74, hf⟩ := gd_f hf
                            refine va_sld hx hb hX hbl hbA hS g_74 dL_389 ?_
                            refine lv_aload_n hx hb dL_390 rfl (lv_at hl 0 rfl) ?_
                            refine lv_iload_n hx hb dL_391 rfl (lv_at hl 3 rfl) ?_
                            refine lv_iconst (v := (2 : Int32)) hx hb dL_392 (by decide) ?_
                            refine lv_iadd hx hb dL_393 ?_
                            obtain ⟨g_75, hf⟩ := gd_f hf
                            refine va_sld hx hb hX hbl hbA hS g_75 dL_394 ?_
                            obtain ⟨q_76, hq_76, hf⟩ := bd_s hf
                            refine xw_callL (kX_times l dC dI a cI cZ tb K (xs (x3 + (1 : Int32)).toNatClampNeg) (xs (x3 + (2 : Int32)).toNatClampNeg) σ q_76.2 q_76.1 hq_76) ⟨hx, hb, hml, hown, hts⟩ (cwV 2 hts (gw_V mt_186 mt_187 mt_188 mt_25 mt_189) rfl rfl rfl hdX_times ⟨Nat.le_of_ble_eq_true rfl, Nat.le_of_ble_eq_true rfl⟩) hK hP hD hS hA hZ (q0 := 0) (ci := 0) rfl rfl rfl hl.1 rfl (Nat.le_of_ble_eq_true rfl) dL_395 ⟨Nat.le_of_ble_eq_true rfl, Nat.le_of_ble_eq_true rfl⟩ (fun H locs hP hD hS => ?_)
                            refine lv_aload_n hx hb dL_398 rfl (lv_at hl 2 rfl) ?_
                            refine lv_aload_n hx hb dL_399 rfl (lv_at hl 0 rfl) ?_
                            refine lv_iload_n hx hb dL_400 rfl (lv_at hl 3 rfl) ?_
                            refine lv_iconst (v := (1 : Int32)) hx hb dL_401 (by decide) ?_
                            refine lv_iadd hx hb dL_402 ?_
                            obtain ⟨g_77, hf⟩ := gd_f hf
                            refine va_sld hx hb hX hbl hbA hS g_77 dL_403 ?_
                            refine lv_aload_n hx hb dL_404 rfl (lv_at hl 0 rfl) ?_
                            refine lv_iload_n hx hb dL_405 rfl (lv_at hl 3 rfl) ?_
                            refine lv_iconst (v := (2 : Int32)) hx hb dL_406 (by decide) ?_
                            refine lv_iadd hx hb dL_407 ?_
                            obtain ⟨g_78, hf⟩ := gd_f hf
                            refine va_sld hx hb hX hbl hbA hS g_78 dL_408 ?_
                            obtain ⟨q_79, hq_79, hf⟩ := bd_s hf
                            refine xw_callR (kM_times l dC dI b2 cI cZ tb K (xs (x3 + (1 : Int32)).toNatClampNeg) (xs (x3 + (2 : Int32)).toNatClampNeg) τ q_79.2 q_79.1 hq_79) ⟨hx, hb, hml, hown, hts⟩ (cwV 2 hts (gw_V mt_337 mt_338 mt_339 mt_26 mt_340) rfl rfl rfl hdM_times ⟨Nat.le_of_ble_eq_true rfl, Nat.le_of_ble_eq_true rfl⟩) hK hP hD hS hA hZ (q0 := 0) (ci := 1) rfl rfl rfl hl.1 rfl (Nat.le_of_ble_eq_true rfl) dL_409 ⟨Nat.le_of_ble_eq_true rfl, Nat.le_of_ble_eq_true rfl⟩ (fun H locs hP hD hS => ?_)
                            refine lv_icmp_eq (tgt := 506) hx hb dL_412 (by decide) (fun c_80 => ?_) (fun c_80 => ?_)
                            · replace hf := it_t hf c_80
                              refine lv_iinc (v := (x3 + 4)) (lv' := [(3, .int (x3 + 4)), (0, .ref b), (1, .ref (a 0)), (2, .ref (b2 0))]) hx hb dL_506 hl (k := 3) rfl (congrArg (HAdd.hAdd _) (by decide : Int32.ofInt (4) = (4 : Int32))) (by decide) rfl (fun ls hl => ?_)
                              refine lv_goto (tgt := 18) hx hb dL_509 (by decide) ?_
                              exact ih (x3 + 4) q_76.2 q_79.2 hf _ _ hP hD hS _ (lv_sub hl [1, 2, 3, 0] rfl)
                            · replace hf := it_f hf c_80
                              refine lv_iconst (v := (0 : Int32)) hx hb dL_415 (by decide) ?_
                              exact absurd (Option.some.inj hf) (by decide)
                          · replace hf := it_f hf c_73
                            by_cases c_81 : ((xs x3.toNatClampNeg) &&& (15 : Int32)) = 11
                            · replace hf := it_t hf c_81
                              refine lv_tableIn (off := 385) (tgt := 417) hx hb dL_32 (by rw [c_81]; decide) (by rw [c_81]; decide) (by rw [c_81]; rfl) (by decide) ?_
                              refine lv_aload_n hx hb dL_417 rfl (lv_at hl 1 rfl) ?_
                              refine lv_aload_n hx hb dL_418 rfl (lv_at hl 0 rfl) ?_
                              refine lv_iload_n hx hb dL_419 rfl (lv_at hl 3 rfl) ?_
                              refine lv_iconst (v := (1 : Int32)) hx hb dL_420 (by decide) ?_
                              refine lv_iadd hx hb dL_421 ?_
                              obtain ⟨g_82, hf⟩ := gd_f hf
                              refine va_sld hx hb hX hbl hbA hS g_82 dL_422 ?_
                              obtain ⟨q_83, hq_83, hf⟩ := bd_s hf
                              refine xw_callL (kX_orphan l dC dI a cI cZ tb K (xs (x3 + (1 : Int32)).toNatClampNeg) σ q_83.2 q_83.1 hq_83) ⟨hx, hb, hml, hown, hts⟩ (cwV 1 hts (gw_V mt_190 mt_191 mt_192 mt_25 mt_193) rfl rfl rfl hdX_orphan ⟨Nat.le_of_ble_eq_true rfl, Nat.le_of_ble_eq_true rfl⟩) hK hP hD hS hA hZ (q0 := 0) (ci := 0) rfl rfl rfl hl.1 rfl (Nat.le_of_ble_eq_true rfl) dL_423 ⟨Nat.le_of_ble_eq_true rfl, Nat.le_of_ble_eq_true rfl⟩ (fun H locs hP hD hS => ?_)
                              refine lv_aload_n hx hb dL_426 rfl (lv_at hl 2 rfl) ?_
                              refine lv_aload_n hx hb dL_427 rfl (lv_at hl 0 rfl) ?_
                              refine lv_iload_n hx hb dL_428 rfl (lv_at hl 3 rfl) ?_
                              refine lv_iconst (v := (1 : Int32)) hx hb dL_429 (by decide) ?_
                              refine lv_iadd hx hb dL_430 ?_
                              obtain ⟨g_84, hf⟩ := gd_f hf
                              refine va_sld hx hb hX hbl hbA hS g_84 dL_431 ?_
                              obtain ⟨q_85, hq_85, hf⟩ := bd_s hf
                              refine xw_callR (kM_orphan l dC dI b2 cI cZ tb K (xs (x3 + (1 : Int32)).toNatClampNeg) τ q_85.2 q_85.1 hq_85) ⟨hx, hb, hml, hown, hts⟩ (cwV 1 hts (gw_V mt_341 mt_342 mt_343 mt_26 mt_344) rfl rfl rfl hdM_orphan ⟨Nat.le_of_ble_eq_true rfl, Nat.le_of_ble_eq_true rfl⟩) hK hP hD hS hA hZ (q0 := 0) (ci := 1) rfl rfl rfl hl.1 rfl (Nat.le_of_ble_eq_true rfl) dL_432 ⟨Nat.le_of_ble_eq_true rfl, Nat.le_of_ble_eq_true rfl⟩ (fun H locs hP hD hS => ?_)
                              refine lv_icmp_eq (tgt := 506) hx hb dL_435 (by decide) (fun c_86 => ?_) (fun c_86 => ?_)
                              · replace hf := it_t hf c_86
                                refine lv_iinc (v := (x3 + 4)) (lv' := [(3, .int (x3 + 4)), (0, .ref b), (1, .ref (a 0)), (2, .ref (b2 0))]) hx hb dL_506 hl (k := 3) rfl (congrArg (HAdd.hAdd _) (by decide : Int32.ofInt (4) = (4 : Int32))) (by decide) rfl (fun ls hl => ?_)
                                refine lv_goto (tgt := 18) hx hb dL_509 (by decide) ?_
                                exact ih (x3 + 4) q_83.2 q_85.2 hf _ _ hP hD hS _ (lv_sub hl [1, 2, 3, 0] rfl)
                              · replace hf := it_f hf c_86
                                refine lv_iconst (v := (0 : Int32)) hx hb dL_438 (by decide) ?_
                                exact absurd (Option.some.inj hf) (by decide)
                            · replace hf := it_f hf c_81
                              by_cases c_87 : ((xs x3.toNatClampNeg) &&& (15 : Int32)) = 12
                              · replace hf := it_t hf c_87
                                refine lv_tableIn (off := 408) (tgt := 440) hx hb dL_32 (by rw [c_87]; decide) (by rw [c_87]; decide) (by rw [c_87]; rfl) (by decide) ?_
                                refine lv_aload_n hx hb dL_440 rfl (lv_at hl 1 rfl) ?_
                                refine lv_aload_n hx hb dL_441 rfl (lv_at hl 0 rfl) ?_
                                refine lv_iload_n hx hb dL_442 rfl (lv_at hl 3 rfl) ?_
                                refine lv_iconst (v := (1 : Int32)) hx hb dL_443 (by decide) ?_
                                refine lv_iadd hx hb dL_444 ?_
                                obtain ⟨g_88, hf⟩ := gd_f hf
                                refine va_sld hx hb hX hbl hbA hS g_88 dL_445 ?_
                                obtain ⟨q_89, hq_89, hf⟩ := bd_s hf
                                refine xw_callL (kX_house l dC dI a cI cZ tb K (xs (x3 + (1 : Int32)).toNatClampNeg) σ q_89.2 q_89.1 hq_89) ⟨hx, hb, hml, hown, hts⟩ (cwV 1 hts (gw_V mt_198 mt_199 mt_200 mt_25 mt_201) rfl rfl rfl hdX_house ⟨Nat.le_of_ble_eq_true rfl, Nat.le_of_ble_eq_true rfl⟩) hK hP hD hS hA hZ (q0 := 0) (ci := 0) rfl rfl rfl hl.1 rfl (Nat.le_of_ble_eq_true rfl) dL_446 ⟨Nat.le_of_ble_eq_true rfl, Nat.le_of_ble_eq_true rfl⟩ (fun H locs hP hD hS => ?_)
                                refine lv_aload_n hx hb dL_449 rfl (lv_at hl 2 rfl) ?_
                                refine lv_aload_n hx hb dL_450 rfl (lv_at hl 0 rfl) ?_
                                refine lv_iload_n hx hb dL_451 rfl (lv_at hl 3 rfl) ?_
                                refine lv_iconst (v := (1 : Int32)) hx hb dL_452 (by decide) ?_
                                refine lv_iadd hx hb dL_453 ?_
                                obtain ⟨g_90, hf⟩ := gd_f hf
                                refine va_sld hx hb hX hbl hbA hS g_90 dL_454 ?_
                                obtain ⟨q_91, hq_91, hf⟩ := bd_s hf
                                refine xw_callR (kM_house l dC dI b2 cI cZ tb K (xs (x3 + (1 : Int32)).toNatClampNeg) τ q_91.2 q_91.1 hq_91) ⟨hx, hb, hml, hown, hts⟩ (cwV 1 hts (gw_V mt_345 mt_346 mt_347 mt_26 mt_348) rfl rfl rfl hdM_house ⟨Nat.le_of_ble_eq_true rfl, Nat.le_of_ble_eq_true rfl⟩) hK hP hD hS hA hZ (q0 := 0) (ci := 1) rfl rfl rfl hl.1 rfl (Nat.le_of_ble_eq_true rfl) dL_455 ⟨Nat.le_of_ble_eq_true rfl, Nat.le_of_ble_eq_true rfl⟩ (fun H locs hP hD hS => ?_)
                                refine lv_icmp_eq (tgt := 506) hx hb dL_458 (by decide) (fun c_92 => ?_) (fun c_92 => ?_)
                                · replace hf := it_t hf c_92
                                  refine lv_iinc (v := (x3 + 4)) (lv' := [(3, .int (x3 + 4)), (0, .ref b), (1, .ref (a 0)), (2, .ref (b2 0))]) hx hb dL_506 hl (k := 3) rfl (congrArg (HAdd.hAdd _) (by decide : Int32.ofInt (4) = (4 : Int32))) (by decide) rfl (fun ls hl => ?_)
                                  refine lv_goto (tgt := 18) hx hb dL_509 (by decide) ?_
                                  exact ih (x3 + 4) q_89.2 q_91.2 hf _ _ hP hD hS _ (lv_sub hl [1, 2, 3, 0] rfl)
                                · replace hf := it_f hf c_92
                                  refine lv_iconst (v := (0 : Int32)) hx hb dL_461 (by decide) ?_
                                  exact absurd (Option.some.inj hf) (by decide)
                              · replace hf := it_f hf c_87
                                by_cases c_93 : ((xs x3.toNatClampNeg) &&& (15 : Int32)) = 13
                                · replace hf := it_t hf c_93
                                  refine lv_tableIn (off := 431) (tgt := 463) hx hb dL_32 (by rw [c_93]; decide) (by rw [c_93]; decide) (by rw [c_93]; rfl) (by decide) ?_
                                  refine lv_aload_n hx hb dL_463 rfl (lv_at hl 1 rfl) ?_
                                  refine lv_aload_n hx hb dL_464 rfl (lv_at hl 0 rfl) ?_
                                  refine lv_iload_n hx hb dL_465 rfl (lv_at hl 3 rfl) ?_
                                  refine lv_iconst (v := (1 : Int32)) hx hb dL_466 (by decide) ?_
                                  refine lv_iadd hx hb dL_467 ?_
                                  obtain ⟨g_94, hf⟩ := gd_f hf
                                  refine va_sld hx hb hX hbl hbA hS g_94 dL_468 ?_
                                  refine lv_aload_n hx hb dL_469 rfl (lv_at hl 0 rfl) ?_
                                  refine lv_iload_n hx hb dL_470 rfl (lv_at hl 3 rfl) ?_
                                  refine lv_iconst (v := (2 : Int32)) hx hb dL_471 (by decide) ?_
                                  refine lv_iadd hx hb dL_472 ?_
                                  obtain ⟨g_95, hf⟩ := gd_f hf
                                  refine va_sld hx hb hX hbl hbA hS g_95 dL_473 ?_
                                  refine lv_aload_n hx hb dL_474 rfl (lv_at hl 0 rfl) ?_
                                  refine lv_iload_n hx hb dL_475 rfl (lv_at hl 3 rfl) ?_
                                  refine lv_iconst (v := (3 : Int32)) hx hb dL_476 (by decide) ?_
                                  refine lv_iadd hx hb dL_477 ?_
                                  obtain ⟨g_96, hf⟩ := gd_f hf
                                  refine va_sld hx hb hX hbl hbA hS g_96 dL_478 ?_
                                  obtain ⟨q_97, hq_97, hf⟩ := bd_s hf
                                  refine xw_callL (kX_goes l dC dI a cI cZ tb K (xs (x3 + (1 : Int32)).toNatClampNeg) (xs (x3 + (2 : Int32)).toNatClampNeg) (xs (x3 + (3 : Int32)).toNatClampNeg) σ q_97.2 q_97.1 hq_97) ⟨hx, hb, hml, hown, hts⟩ (cwV 3 hts (gw_V mt_202 mt_203 mt_204 mt_25 mt_205) rfl rfl rfl hdX_goes ⟨Nat.le_of_ble_eq_true rfl, Nat.le_of_ble_eq_true rfl⟩) hK hP hD hS hA hZ (q0 := 0) (ci := 0) rfl rfl rfl hl.1 rfl (Nat.le_of_ble_eq_true rfl) dL_479 ⟨Nat.le_of_ble_eq_true rfl, Nat.le_of_ble_eq_true rfl⟩ (fun H locs hP hD hS => ?_)
                                  refine lv_aload_n hx hb dL_482 rfl (lv_at hl 2 rfl) ?_
                                  refine lv_aload_n hx hb dL_483 rfl (lv_at hl 0 rfl) ?_
                                  refine lv_iload_n hx hb dL_484 rfl (lv_at hl 3 rfl) ?_
                                  refine lv_iconst (v := (1 : Int32)) hx hb dL_485 (by decide) ?_
                                  refine lv_iadd hx hb dL_486 ?_
                                  obtain ⟨g_98, hf⟩ := gd_f hf
                                  refine va_sld hx hb hX hbl hbA hS g_98 dL_487 ?_
                                  refine lv_aload_n hx hb dL_488 rfl (lv_at hl 0 rfl) ?_
                                  refine lv_iload_n hx hb dL_489 rfl (lv_at hl 3 rfl) ?_
                                  refine lv_iconst (v := (2 : Int32)) hx hb dL_490 (by decide) ?_
                                  refine lv_iadd hx hb dL_491 ?_
                                  obtain ⟨g_99, hf⟩ := gd_f hf
                                  refine va_sld hx hb hX hbl hbA hS g_99 dL_492 ?_
                                  refine lv_aload_n hx hb dL_493 rfl (lv_at hl 0 rfl) ?_
                                  refine lv_iload_n hx hb dL_494 rfl (lv_at hl 3 rfl) ?_
                                  refine lv_iconst (v := (3 : Int32)) hx hb dL_495 (by decide) ?_
                                  refine lv_iadd hx hb dL_496 ?_
                                  obtain ⟨g_100, hf⟩ := gd_f hf
                                  refine va_sld hx hb hX hbl hbA hS g_100 dL_497 ?_
                                  obtain ⟨q_101, hq_101, hf⟩ := bd_s hf
                                  refine xw_callR (kM_goes l dC dI b2 cI cZ tb K (xs (x3 + (1 : Int32)).toNatClampNeg) (xs (x3 + (2 : Int32)).toNatClampNeg) (xs (x3 + (3 : Int32)).toNatClampNeg) τ q_101.2 q_101.1 hq_101) ⟨hx, hb, hml, hown, hts⟩ (cwV 3 hts (gw_V mt_349 mt_350 mt_351 mt_26 mt_352) rfl rfl rfl hdM_goes ⟨Nat.le_of_ble_eq_true rfl, Nat.le_of_ble_eq_true rfl⟩) hK hP hD hS hA hZ (q0 := 0) (ci := 1) rfl rfl rfl hl.1 rfl (Nat.le_of_ble_eq_true rfl) dL_498 ⟨Nat.le_of_ble_eq_true rfl, Nat.le_of_ble_eq_true rfl⟩ (fun H locs hP hD hS => ?_)
                                  refine lv_icmp_eq (tgt := 506) hx hb dL_501 (by decide) (fun c_102 => ?_) (fun c_102 => ?_)
                                  · replace hf := it_t hf c_102
                                    refine lv_iinc (v := (x3 + 4)) (lv' := [(3, .int (x3 + 4)), (0, .ref b), (1, .ref (a 0)), (2, .ref (b2 0))]) hx hb dL_506 hl (k := 3) rfl (congrArg (HAdd.hAdd _) (by decide : Int32.ofInt (4) = (4 : Int32))) (by decide) rfl (fun ls hl => ?_)
                                    refine lv_goto (tgt := 18) hx hb dL_509 (by decide) ?_
                                    exact ih (x3 + 4) q_97.2 q_101.2 hf _ _ hP hD hS _ (lv_sub hl [1, 2, 3, 0] rfl)
                                  · replace hf := it_f hf c_102
                                    refine lv_iconst (v := (0 : Int32)) hx hb dL_504 (by decide) ?_
                                    exact absurd (Option.some.inj hf) (by decide)
                                · replace hf := it_f hf c_93
                                  refine lv_tableOut (tgt := 506) hx hb dL_32 (by have n_0 := lv_neT c_3 (a := 0) (by decide); have n_1 := lv_neT c_7 (a := 1) (by decide); have n_2 := lv_neT c_17 (a := 2) (by decide); have n_3 := lv_neT c_25 (a := 3) (by decide); have n_4 := lv_neT c_33 (a := 4) (by decide); have n_5 := lv_neT c_39 (a := 5) (by decide); have n_6 := lv_neT c_47 (a := 6) (by decide); have n_7 := lv_neT c_53 (a := 7) (by decide); have n_8 := lv_neT c_59 (a := 8) (by decide); have n_9 := lv_neT c_67 (a := 9) (by decide); have n_10 := lv_neT c_73 (a := 10) (by decide); have n_11 := lv_neT c_81 (a := 11) (by decide); have n_12 := lv_neT c_87 (a := 12) (by decide); have n_13 := lv_neT c_93 (a := 13) (by decide); omega) (by decide) ?_
                                  refine lv_iinc (v := (x3 + 4)) (lv' := [(3, .int (x3 + 4)), (0, .ref b), (1, .ref (a 0)), (2, .ref (b2 0))]) hx hb dL_506 hl (k := 3) rfl (congrArg (HAdd.hAdd _) (by decide : Int32.ofInt (4) = (4 : Int32))) (by decide) rfl (fun ls hl => ?_)
                                  refine lv_goto (tgt := 18) hx hb dL_509 (by decide) ?_
                                  exact ih (x3 + 4) σ τ hf _ _ hP hD hS _ (lv_sub hl [1, 2, 3, 0] rfl)
end
section
/-! the abstract state, how both states stand for it, what is kept -/
abbrev Lk : Type := Nat × Nat × Nat
def b2i (b : Bool) : Int32 := if b = true then 1 else 0
theorem b2i_0 {b : Bool} : b2i b = 0 ↔ b = false := by cases b <;> decide
theorem b2i_n {b : Bool} : ¬ b2i b = 0 ↔ b = true := by cases b <;> decide
theorem b2i_01 (b : Bool) : b2i b = 0 ∨ b2i b = 1 := by cases b <;> decide
theorem b2i_t : b2i true = 1 := rfl
theorem b2i_f : b2i false = 0 := rfl
theorem nar1 : vp_nar .boolean (1 : Int32) = 1 := by decide
theorem nar0 : vp_nar .boolean (0 : Int32) = 0 := by decide
/-- a function changed at a place -/
def up {α : Type} (f : Nat → α) (k : Nat) (v : α) : Nat → α := fun j => if j = k then v else f j
theorem up_s {α : Type} {f : Nat → α} {k : Nat} {v : α} : up f k v k = v := by simp [up]
theorem up_n {α : Type} {f : Nat → α} {k j : Nat} {v : α} (h : j ≠ k) : up f k v j = f j := by simp [up, h]
theorem upd_nI (f : Nat → Nat) (k v : Nat) : upd (fun j => nI (f j)) k (nI v) = fun j => nI (up f k v j) := by
  funext j
  by_cases h : j = k
  · subst h; simp [upd, up]
  · simp [upd, up, h]
theorem upd_b (f : Nat → Bool) (k : Nat) (b : Bool) : upd (fun j => b2i (f j)) k (b2i b) = fun j => b2i (up f k b j) := by
  funext j
  by_cases h : j = k
  · subst h; simp [upd, up]
  · simp [upd, up, h]
/-- the links' arrays -/
def LR (lf li lt : Nat → Int32) (n : Int32) (L : List Lk) : Prop := n = nI L.length ∧ ∀ (k : Nat) (e : Lk), L[k]? = some e → lf k = nI e.1 ∧ li k = nI e.2.1 ∧ lt k = nI e.2.2
/-- the way's array -/
def RG (w : Nat → Int32) (n : Int32) (g : List Nat) : Prop := n = nI g.length ∧ ∀ (k v : Nat), g[k]? = some v → w k = nI v
def rX (σ : XSt) (R : Nat) (lv : Nat → Bool) (hs : Nat → Int32) (ho cc : Nat → Nat) (cm : Nat → Int32) (L : List Lk) (g : List Nat) (mo : Int32) : Prop :=
  x_records σ = nI R ∧ x_live σ = (fun j => b2i (lv j)) ∧ x_houses σ = hs ∧ x_hosts σ = (fun j => nI (ho j)) ∧ x_changeCounts σ = (fun j => nI (cc j)) ∧ x_changeMoments σ = cm ∧ LR (x_linkFrom σ) (x_linkField σ) (x_linkTo σ) (x_links σ) L ∧ RG (x_refusedWay σ) (x_refusedWayLength σ) g ∧ x_moment σ = mo
def rM (τ : MSt) (R : Nat) (lv : Nat → Bool) (hs : Nat → Int32) (hh cc : Nat → Nat) (cm : Nat → Int32) (L : List Lk) (g : List Nat) (mo : Int32) : Prop :=
  m_records τ = nI R ∧ m_live τ = (fun j => b2i (lv j)) ∧ m_houses τ = hs ∧ m_hadHost τ = (fun j => nI (hh j)) ∧ m_timeCount τ = (fun j => nI (cc j)) ∧ m_times τ = cm ∧ LR (m_from τ) (m_field τ) (m_to τ) (m_links τ) L ∧ RG (m_ring τ) (m_ringLength τ) g ∧ m_moment τ = mo
/-- the way outwards from r, r first -/
def Chn (ho : Nat → Nat) : Nat → List Nat → Prop
  | r, [] => r = 0
  | r, x :: c => r = x ∧ ¬ x = 0 ∧ Chn ho (ho x) c
def cntF (L : List Lk) (f d : Nat) : Nat := L.countP (fun e => e.1 == f && e.2.1 == d)
def mostN : Nat → Nat := fun k => match k with
  | 0 => 1
  | 1 => 2
  | 2 => 5
  | 3 => 5
  | _ => 3
/-- what is kept of the links and records -/
def IL (R : Nat) (lv : Nat → Bool) (L : List Lk) : Prop :=
  (∀ e ∈ L, lv e.1 = true ∧ e.2.1 ≤ 9 ∧ (e.2.1 < 4 → 1 ≤ e.2.2 ∧ e.2.2 ≤ R) ∧ (4 ≤ e.2.1 → 1 ≤ e.2.2 ∧ e.2.2 ≤ 99)) ∧ L.Nodup ∧ L.length ≤ 200 ∧ ∀ f d, cntF L f d ≤ mostN d
def IH (lv : Nat → Bool) (ho : Nat → Nat) (L : List Lk) : Prop :=
  (∀ r t, (r, 0, t) ∈ L → ho r = t) ∧ (∀ r, lv r = true → ¬ ho r = 0 → (r, 0, ho r) ∈ L) ∧ (∀ r, lv r = true → ∃ c, Chn ho r c ∧ ∀ x ∈ c, lv x = true)
def IN (R : Nat) (lv : Nat → Bool) (ho hh cc : Nat → Nat) (g : List Nat) : Prop :=
  R ≤ 60 ∧ (∀ j, lv j = true → 1 ≤ j ∧ j ≤ R) ∧ (∀ j, cc j ≤ 40) ∧ ho 0 = 0 ∧ (∀ j, R < j → ho j = 0) ∧ (∀ j, ho j ≤ R) ∧ (∀ j, 1 ≤ j → j ≤ R → lv j = false → hh j = ho j) ∧ g.length ≤ 60
def Rel (σ : XSt) (τ : MSt) : Prop := ∃ (R : Nat) (lv : Nat → Bool) (hs : Nat → Int32) (ho hh cc : Nat → Nat) (cm : Nat → Int32) (L : List Lk) (g : List Nat) (mo : Int32),
  rX σ R lv hs ho cc cm L g mo ∧ rM τ R lv hs hh cc cm L g mo ∧ IL R lv L ∧ IH lv ho L ∧ IN R lv ho hh cc g
/-- one call, on both sides -/
def Sim (x : Option (Int32 × XSt)) (m : Option (Int32 × MSt)) : Prop := ∃ (r : Int32) (σ : XSt) (τ : MSt), x = some (r, σ) ∧ m = some (r, τ) ∧ Rel σ τ
-- numbers
theorem nI_inj {a b : Nat} (ha : a < 2 ^ 31) (hb : b < 2 ^ 31) (h : nI a = nI b) : a = b := (nI_eq ha hb).mp h
theorem nI_1' : nI 1 = 1 := by decide
theorem nI_2' : nI 2 = 2 := by decide
theorem nI_60 : nI 60 = 60 := by decide
theorem ofN (n : Nat) : Int32.ofNat n = nI n := rfl
/-- an Int32 is a record's number, or isn't -/
theorem rec_cases (p : Int32) {R : Nat} (hR : R < 2 ^ 30) : p < 1 ∨ (¬ p < 1 ∧ nI R < p) ∨ ∃ r : Nat, 1 ≤ r ∧ r ≤ R ∧ p = nI r := by
  rcases Int32.lt_or_le p 1 with h | h
  · exact Or.inl h
  · have h0 : ¬ p < 1 := Int32.not_lt.mpr h
    refine Or.inr ?_
    have h1 : (1 : Int) ≤ p.toInt := by
      have := Int32.le_iff_toInt_le.mp h
      simpa using this
    by_cases h2 : nI R < p
    · exact Or.inl ⟨h0, h2⟩
    · have h3 : p.toInt ≤ (R : Int) := by
        have := Int32.le_iff_toInt_le.mp (Int32.not_lt.mp h2)
        rw [nI_toInt (by omega)] at this
        exact this
      have hn : ¬ p < 0 := by
        intro hc
        have := Int32.lt_iff_toInt_lt.mp hc
        simp at this
        omega
      obtain ⟨j, hj, rfl⟩ := nI_of hn
      rw [nI_toInt hj] at h1 h3
      exact Or.inr ⟨j, by omega, by omega, rfl⟩
end
section
/-! the reads that need no loop -/
section RD
variable {σ : XSt} {τ : MSt} {R : Nat} {lv : Nat → Bool} {hs : Nat → Int32} {ho hh cc : Nat → Nat} {cm : Nat → Int32} {L : List Lk} {g : List Nat} {mo : Int32} {K : Nat}
def liveI (R : Nat) (lv : Nat → Bool) (p : Int32) : Bool := if p < 1 then false else if nI R < p then false else lv p.toNatClampNeg
theorem liveI_r {r : Nat} (h1 : 1 ≤ r) (h2 : r ≤ R) (hR : R ≤ 60) : liveI R lv (nI r) = lv r := by
  have n1 : ¬ nI r < 1 := nI_nlt (a := r) (b := 1) h1 (by omega)
  have n2 : ¬ nI R < nI r := nI_nlt h2 (by omega)
  unfold liveI
  rw [if_neg n1, if_neg n2, nI_clamp (by omega)]
theorem liveI_t {p : Int32} (hR : R ≤ 60) (h : liveI R lv p = true) : ∃ r : Nat, 1 ≤ r ∧ r ≤ R ∧ p = nI r ∧ lv r = true := by
  rcases rec_cases p (R := R) (by omega) with c | ⟨c, c2⟩ | ⟨r, r1, r2, rfl⟩
  · simp [liveI, c] at h
  · simp [liveI, c2] at h
  · exact ⟨r, r1, r2, rfl, by rw [liveI_r r1 r2 hR] at h; exact h⟩
theorem inN {r N : Nat} (h : r < N) (hN : N < 2 ^ 31) : ¬ (nI r < 0 ∨ N ≤ (nI r).toNatClampNeg) := nI_in h hN
theorem xLive (h : rX σ R lv hs ho cc cm L g mo) (hR : R ≤ 60) (p : Int32) : fX_isLive K p σ = some (b2i (liveI R lv p), σ) := by
  obtain ⟨h1, h2, -⟩ := h
  unfold fX_isLive fX_isRecord
  rw [h1]
  rcases rec_cases p (R := R) (by omega) with c | ⟨c, c2⟩ | ⟨r, r1, r2, rfl⟩
  · simp [c, liveI, b2i]
  · simp [c, c2, liveI, b2i]
  · have n1 : ¬ nI r < 1 := nI_nlt (a := r) (b := 1) r1 (by omega)
    have n2 : ¬ nI R < nI r := nI_nlt r2 (by omega)
    rw [liveI_r r1 r2 hR, if_neg n1, if_neg n2, Option.bind_some, if_neg (show ¬ (1 : Int32) = 0 by decide), if_neg (inN (by omega) (by omega)), nI_clamp (by omega), h2]
    cases hb : lv r <;> simp [b2i, hb]
theorem mLive (h : rM τ R lv hs hh cc cm L g mo) (hR : R ≤ 60) (p : Int32) : fM_isLive K p τ = some (b2i (liveI R lv p), τ) := by
  obtain ⟨h1, h2, -⟩ := h
  unfold fM_isLive
  rw [h1]
  have hc : p ≤ 0 ↔ p < 1 := by
    rw [Int32.le_iff_toInt_le, Int32.lt_iff_toInt_lt]
    simp
    omega
  rcases rec_cases p (R := R) (by omega) with c | ⟨c, c2⟩ | ⟨r, r1, r2, rfl⟩
  · simp [hc, c, liveI, b2i]
  · simp [hc, c, c2, liveI, b2i]
  · have n1 : ¬ nI r < 1 := nI_nlt (a := r) (b := 1) r1 (by omega)
    have n2 : ¬ nI R < nI r := nI_nlt r2 (by omega)
    rw [liveI_r r1 r2 hR, if_neg (fun q => n1 (hc.mp q)), if_neg n2, if_neg (inN (by omega) (by omega)), nI_clamp (by omega), h2]
    cases hb : lv r <;> simp [b2i, hb]
def headI (p : Int32) : Bool := decide (1 ≤ p ∧ p ≤ 99)
theorem xHead (p : Int32) : fX_isHeading K p σ = some (b2i (headI p), σ) := by
  unfold fX_isHeading headI
  by_cases c : p < 1
  · have : ¬ 1 ≤ p := Int32.not_le.mpr c
    simp [c, this, b2i]
  · have h1 : 1 ≤ p := Int32.not_lt.mp c
    by_cases c2 : 99 < p
    · have : ¬ p ≤ 99 := Int32.not_le.mpr c2
      simp [c, c2, this, b2i]
    · have : p ≤ 99 := Int32.not_lt.mp c2
      simp [c, c2, this, h1, b2i]
theorem mHead (p : Int32) : fM_isHeading K p τ = some (b2i (headI p), τ) := by
  unfold fM_isHeading headI
  have hc : p ≤ 0 ↔ ¬ 1 ≤ p := by
    rw [Int32.le_iff_toInt_le, Int32.le_iff_toInt_le]
    simp
    omega
  have hd : (100 : Int32) ≤ p ↔ ¬ p ≤ 99 := by
    rw [Int32.le_iff_toInt_le, Int32.le_iff_toInt_le]
    simp
    omega
  by_cases c : 1 ≤ p
  · by_cases c2 : p ≤ 99
    · simp [hc, hd, c, c2, b2i]
    · simp [hc, hd, c, c2, b2i]
  · simp [hc, c, b2i]
theorem headI_t {p : Int32} (h : headI p = true) : ∃ t : Nat, 1 ≤ t ∧ t ≤ 99 ∧ p = nI t := by
  have h := of_decide_eq_true h
  have hn : ¬ p < 0 := by
    intro c
    have h1 := Int32.le_iff_toInt_le.mp h.1
    have h2 := Int32.lt_iff_toInt_lt.mp c
    simp at h1 h2
    omega
  obtain ⟨j, hj, rfl⟩ := nI_of hn
  have h1 := Int32.le_iff_toInt_le.mp h.1
  have h2 := Int32.le_iff_toInt_le.mp h.2
  rw [nI_toInt hj] at h1 h2
  simp at h1 h2
  exact ⟨j, by omega, by omega, rfl⟩
-- thrown changes nothing
theorem rM_thrown (h : rM τ R lv hs hh cc cm L g mo) (v : Int32) : rM (m_pthrown τ v) R lv hs hh cc cm L g mo := h
theorem rM_mom (h : rM τ R lv hs hh cc cm L g mo) (v w : Int32) : rM (m_pmoment (m_pthrown τ v) w) R lv hs hh cc cm L g w := by
  obtain ⟨h1, h2, h3, h4, h5, h6, h7, h8, h9⟩ := h
  exact ⟨h1, h2, h3, h4, h5, h6, h7, h8, rfl⟩
theorem rX_mom (h : rX σ R lv hs ho cc cm L g mo) (w : Int32) : rX (x_pmoment σ w) R lv hs ho cc cm L g w := by
  obtain ⟨h1, h2, h3, h4, h5, h6, h7, h8, h9⟩ := h
  exact ⟨h1, h2, h3, h4, h5, h6, h7, h8, rfl⟩
theorem sim_ring (hR : Rel σ τ) (p : Int32) : Sim (fX_ring K p σ) (fM_ring K p τ) := by
  obtain ⟨R, lv, hs, ho, hh, cc, cm, L, g, mo, hx, hm, hL, hH, hN⟩ := hR
  have hr : Rel σ (m_pthrown τ 0) := ⟨R, lv, hs, ho, hh, cc, cm, L, g, mo, hx, rM_thrown hm 0, hL, hH, hN⟩
  obtain ⟨gx, gw⟩ := hx.2.2.2.2.2.2.2.1
  obtain ⟨gm, gv⟩ := hm.2.2.2.2.2.2.2.1
  have hg : g.length ≤ 60 := hN.2.2.2.2.2.2.2
  unfold fX_ring fM_ring
  rw [gx, gm]
  by_cases c : p < 0
  · rw [if_pos c, if_pos c]
    exact ⟨_, _, _, rfl, rfl, hr⟩
  · rw [if_neg c, if_neg c]
    obtain ⟨j, hj, rfl⟩ := nI_of c
    by_cases c2 : g.length ≤ j
    · rw [if_pos (nI_le c2 hj), if_neg (nI_nlt c2 hj)]
      exact ⟨_, _, _, rfl, rfl, hr⟩
    · have hlt : j < g.length := by omega
      rw [if_neg (nI_ge hlt (by omega)), if_pos (nI_lt hlt (by omega)), if_neg (inN (by omega) (by omega)), if_neg (inN (by omega) (by omega)), nI_clamp hj]
      have e1 := gw j g[j] (List.getElem?_eq_getElem hlt)
      have e2 := gv j g[j] (List.getElem?_eq_getElem hlt)
      rw [e1, e2]
      exact ⟨_, _, _, rfl, rfl, hr⟩
theorem sim_house (hR : Rel σ τ) (p : Int32) : Sim (fX_house K p σ) (fM_house K p τ) := by
  obtain ⟨R, lv, hs, ho, hh, cc, cm, L, g, mo, hx, hm, hL, hH, hN⟩ := hR
  have hr : Rel σ (m_pthrown τ 0) := ⟨R, lv, hs, ho, hh, cc, cm, L, g, mo, hx, rM_thrown hm 0, hL, hH, hN⟩
  have h60 : R ≤ 60 := hN.1
  obtain ⟨h1, h2, h3, -⟩ := hx
  obtain ⟨k1, k2, k3, -⟩ := hm
  unfold fX_house fM_house fX_isRecord
  rw [h1, k1]
  rcases rec_cases p (R := R) (by omega) with c | ⟨c, c2⟩ | ⟨r, r1, r2, rfl⟩
  · rw [if_pos c, if_pos c]
    exact ⟨_, _, _, rfl, rfl, hr⟩
  · rw [if_neg c, if_pos c2, if_neg c, if_neg (Int32.not_le.mpr c2)]
    exact ⟨_, _, _, rfl, rfl, hr⟩
  · have n1 : ¬ nI r < 1 := nI_nlt (a := r) (b := 1) r1 (by omega)
    have n2 : ¬ nI R < nI r := nI_nlt r2 (by omega)
    rw [if_neg n1, if_neg n2, Option.bind_some, if_neg (show ¬ (1 : Int32) = 0 by decide), if_neg (inN (by omega) (by omega)), if_neg n1, if_pos (nI_le r2 (by omega)), if_neg (inN (by omega) (by omega)), nI_clamp (by omega), k3]
    dsimp only
    rw [h3]
    exact ⟨_, _, _, rfl, rfl, hr⟩
theorem sim_times (hR : Rel σ τ) (p q : Int32) : Sim (fX_times K p q σ) (fM_times K p q τ) := by
  obtain ⟨R, lv, hs, ho, hh, cc, cm, L, g, mo, hx, hm, hL, hH, hN⟩ := hR
  have hr : Rel σ (m_pthrown τ 0) := ⟨R, lv, hs, ho, hh, cc, cm, L, g, mo, hx, rM_thrown hm 0, hL, hH, hN⟩
  have h60 : R ≤ 60 := hN.1
  have h40 := hN.2.2.1
  obtain ⟨h1, h2, h3, h4, h5, h6, -⟩ := hx
  obtain ⟨k1, k2, k3, k4, k5, k6, -⟩ := hm
  unfold fX_times fM_times fX_isRecord
  rw [h1, k1]
  rcases rec_cases p (R := R) (by omega) with c | ⟨c, c2⟩ | ⟨r, r1, r2, rfl⟩
  · rw [if_pos c, if_pos c]
    exact ⟨_, _, _, rfl, rfl, hr⟩
  · rw [if_neg c, if_pos c2, if_neg c, if_pos c2]
    exact ⟨_, _, _, rfl, rfl, hr⟩
  · have n1 : ¬ nI r < 1 := nI_nlt (a := r) (b := 1) r1 (by omega)
    have n2 : ¬ nI R < nI r := nI_nlt r2 (by omega)
    have h40r := h40 r
    rw [if_neg n1, if_neg n2, Option.bind_some, if_neg (show ¬ (1 : Int32) = 0 by decide), if_neg n1, if_neg n2]
    dsimp only
    by_cases c : q < 0
    · rw [if_pos c, if_pos c]
      exact ⟨_, _, _, rfl, rfl, hr⟩
    · rw [if_neg c, if_neg c, if_neg (inN (by omega) (by omega)), if_neg (inN (by omega) (by omega)), nI_clamp (by omega), h5, k5]
      obtain ⟨j, hj, rfl⟩ := nI_of c
      by_cases c2 : j < cc r
      · have e1 : nI r * 40 + nI j = nI (40 * r + j) := by
          rw [show (40 : Int32) = nI 40 by decide, pk_mul, nI_add, Nat.mul_comm]
        have e2 : 40 * nI r + nI j = nI (40 * r + j) := by
          rw [show (40 : Int32) = nI 40 by decide, pk_mul, nI_add]
        rw [if_pos (nI_lt c2 (by omega)), if_pos (nI_lt c2 (by omega)), e1, e2, if_neg (inN (by omega) (by omega)), if_neg (inN (by omega) (by omega)), h6, k6]
        exact ⟨_, _, _, rfl, rfl, hr⟩
      · rw [if_neg (nI_nlt (by omega) hj), if_neg (nI_nlt (by omega) hj)]
        exact ⟨_, _, _, rfl, rfl, hr⟩
end RD
end
section
/-! scans over the links -/
theorem bT : ¬ b2i true = 0 := by decide
theorem bF : b2i false = 0 := by decide
theorem dr_nil {α : Type} {L : List α} {i : Nat} (h : L.drop i = []) : L.length ≤ i := List.drop_eq_nil_iff.mp h
theorem dr_cons {α : Type} {L l : List α} {i : Nat} {e : α} (h : L.drop i = e :: l) : i < L.length ∧ L[i]? = some e ∧ L.drop (i + 1) = l := by
  have hi : i < L.length := by
    rcases Nat.lt_or_ge i L.length with q | q
    · exact q
    · rw [List.drop_eq_nil_iff.mpr q] at h; cases h
  rw [List.drop_eq_getElem_cons hi] at h
  cases h
  exact ⟨hi, List.getElem?_eq_getElem hi, rfl⟩
section SC
variable {σ : XSt} {τ : MSt} {R : Nat} {lv : Nat → Bool} {hs : Nat → Int32} {ho hh cc : Nat → Nat} {cm : Nat → Int32} {L : List Lk} {g : List Nat} {mo : Int32} {K : Nat}
def goS (p q i : Int32) : List Lk → Int32 → Int32
  | [], _ => 0
  | e :: l, s => if nI e.1 = p then (if nI e.2.1 = q then (if s = i then nI e.2.2 else goS p q i l (s + 1)) else goS p q i l s) else goS p q i l s
theorem xGoes {p q i : Int32} (hL : LR (x_linkFrom σ) (x_linkField σ) (x_linkTo σ) (x_links σ) L) (hl : L.length ≤ 200) : ∀ (l : List Lk) (j n : Nat) (s : Int32), L.drop j = l → j ≤ L.length → l.length < n → gX_goes_12 K n p q i s (nI j) σ = some (goS p q i l s, σ) := by
  intro l
  induction l with
  | nil =>
    intro j n s hd hj hn
    cases n with
    | zero => omega
    | succ n =>
      rw [gX_goes_12, hL.1, if_pos (nI_le (dr_nil hd) (by omega))]
      rfl
  | cons e l ih =>
    intro j n s hd hj hn
    cases n with
    | zero => omega
    | succ n =>
      obtain ⟨h1, h2, h3⟩ := dr_cons hd
      obtain ⟨e1, e2, e3⟩ := hL.2 j e h2
      have hin := inN (r := j) (N := 200) (by omega) (by omega)
      have hcl : (nI j).toNatClampNeg = j := nI_clamp (by omega)
      rw [gX_goes_12, hL.1, if_neg (nI_ge h1 (by omega))]
      simp only [if_neg hin]
      have i1 := fun s => ih (j + 1) n s h3 (by omega) (by simp at hn; omega)
      simp only [hcl, e1, e2, e3, nI_1, i1, goS]
      by_cases c1 : nI e.1 = p
      · by_cases c2 : nI e.2.1 = q
        · by_cases c3 : s = i <;> simp [c1, c2, c3]
        · simp [c1, c2]
      · simp [c1]
theorem mGoes {p q i : Int32} (hi0 : ¬ i < 0) (hL : LR (m_from τ) (m_field τ) (m_to τ) (m_links τ) L) (hl : L.length ≤ 200) : ∀ (l : List Lk) (j n : Nat) (s : Int32), L.drop j = l → j ≤ L.length → l.length < n → gM_goes_11 K n p q i s (nI j) τ = some (goS p q i l s, τ) := by
  intro l
  induction l with
  | nil =>
    intro j n s hd hj hn
    cases n with
    | zero => omega
    | succ n =>
      rw [gM_goes_11, hL.1, if_pos (nI_le (dr_nil hd) (by omega))]
      rfl
  | cons e l ih =>
    intro j n s hd hj hn
    cases n with
    | zero => omega
    | succ n =>
      obtain ⟨h1, h2, h3⟩ := dr_cons hd
      obtain ⟨e1, e2, e3⟩ := hL.2 j e h2
      have hin := inN (r := j) (N := 200) (by omega) (by omega)
      have hcl : (nI j).toNatClampNeg = j := nI_clamp (by omega)
      rw [gM_goes_11, hL.1, if_neg (nI_ge h1 (by omega)), if_neg hi0]
      simp only [if_neg hin]
      have i1 := fun s => ih (j + 1) n s h3 (by omega) (by simp at hn; omega)
      simp only [hcl, e1, e2, e3, nI_1, i1, goS]
      by_cases c1 : nI e.1 = p
      · by_cases c2 : nI e.2.1 = q
        · by_cases c3 : s = i <;> simp [c1, c2, c3]
        · simp [c1, c2]
      · simp [c1]
theorem sim_goes (hK : 300 ≤ K) (hR : Rel σ τ) (p q i : Int32) : Sim (fX_goes K p q i σ) (fM_goes K p q i τ) := by
  obtain ⟨R, lv, hs, ho, hh, cc, cm, L, g, mo, hx, hm, hL, hH, hN⟩ := hR
  have hm' := rM_thrown hm 0
  have hr : Rel σ (m_pthrown τ 0) := ⟨R, lv, hs, ho, hh, cc, cm, L, g, mo, hx, hm', hL, hH, hN⟩
  have h200 : L.length ≤ 200 := hL.2.2.1
  have hxl := hx.2.2.2.2.2.2.1
  have hml := hm'.2.2.2.2.2.2.1
  unfold fX_goes fM_goes
  by_cases c : i < 0
  · rw [if_neg (Int32.not_le.mpr c)]
    refine ⟨0, σ, m_pthrown τ 0, rfl, ?_, hr⟩
    obtain ⟨K, rfl⟩ : ∃ k, K = k + 1 := ⟨K - 1, by omega⟩
    rw [gM_goes_11]
    by_cases c2 : m_links (m_pthrown τ 0) ≤ 0
    · rw [if_pos c2]
    · rw [if_neg c2, if_pos c]
  · rw [if_pos (Int32.not_lt.mp c)]
    exact ⟨_, _, _, xGoes hxl h200 L 0 K 0 rfl (by omega) (by omega), mGoes c hml h200 L 0 K 0 rfl (by omega) (by omega), hr⟩
/-- the host, read off the links -/
def hoS (r : Nat) : List Lk → Nat
  | [] => 0
  | e :: l => if e.1 = r ∧ e.2.1 = 0 then e.2.2 else hoS r l
theorem mHost {r : Nat} (hr : r < 2 ^ 30) (hb : ∀ e ∈ L, e.1 ≤ 60 ∧ e.2.1 ≤ 9) (hL : LR (m_from τ) (m_field τ) (m_to τ) (m_links τ) L) (hl : L.length ≤ 200) : ∀ (l : List Lk) (j n : Nat), L.drop j = l → j ≤ L.length → l.length < n → gM_hostOf_2 K n (nI r) (nI j) τ = some (nI (hoS r l), τ) := by
  intro l
  induction l with
  | nil =>
    intro j n hd hj hn
    cases n with
    | zero => omega
    | succ n =>
      rw [gM_hostOf_2, hL.1, if_pos (nI_le (dr_nil hd) (by omega))]
      rfl
  | cons e l ih =>
    intro j n hd hj hn
    cases n with
    | zero => omega
    | succ n =>
      obtain ⟨h1, h2, h3⟩ := dr_cons hd
      obtain ⟨e1, e2, e3⟩ := hL.2 j e h2
      obtain ⟨b1, b2⟩ := hb e (List.mem_of_getElem? h2)
      have hin := inN (r := j) (N := 200) (by omega) (by omega)
      have hcl : (nI j).toNatClampNeg = j := nI_clamp (by omega)
      rw [gM_hostOf_2, hL.1, if_neg (nI_ge h1 (by omega))]
      simp only [if_neg hin]
      have i1 := ih (j + 1) n h3 (by omega) (by simp at hn; omega)
      have q1 : nI e.1 = nI r ↔ e.1 = r := nI_eq (by omega) (by omega)
      have q2 : nI e.2.1 = 0 ↔ e.2.1 = 0 := nI_eq (b := 0) (by omega) (by omega)
      simp only [hcl, e1, e2, e3, nI_1, i1, hoS, q1, q2]
      by_cases c1 : e.1 = r
      · by_cases c2 : e.2.1 = 0 <;> simp [c1, c2]
      · simp [c1]
theorem hoS_mem {r : Nat} : ∀ {l : List Lk}, (∃ t, (r, 0, t) ∈ l) → (r, 0, hoS r l) ∈ l := by
  intro l
  induction l with
  | nil => rintro ⟨t, h⟩; simp at h
  | cons e l ih =>
    rintro ⟨t, h⟩
    unfold hoS
    by_cases c : e.1 = r ∧ e.2.1 = 0
    · rw [if_pos c]
      obtain ⟨a, b, d⟩ := e
      obtain ⟨rfl, rfl⟩ := c
      exact List.mem_cons_self
    · rw [if_neg c]
      refine List.mem_cons_of_mem _ (ih ⟨t, ?_⟩)
      rcases List.mem_cons.mp h with q | q
      · subst q; exact absurd ⟨rfl, rfl⟩ c
      · exact q
theorem hoS_0 {r : Nat} : ∀ {l : List Lk}, (∀ t, ¬ (r, 0, t) ∈ l) → hoS r l = 0 := by
  intro l
  induction l with
  | nil => intro _; rfl
  | cons e l ih =>
    intro h
    unfold hoS
    by_cases c : e.1 = r ∧ e.2.1 = 0
    · obtain ⟨a, b, d⟩ := e
      obtain ⟨rfl, rfl⟩ := c
      exact absurd List.mem_cons_self (h d)
    · rw [if_neg c]
      exact ih (fun t q => h t (List.mem_cons_of_mem _ q))
theorem hoS_ho {r : Nat} (hH : IH lv ho L) (hr : lv r = true) : hoS r L = ho r := by
  by_cases c : ∃ t, (r, 0, t) ∈ L
  · exact (hH.1 _ _ (hoS_mem c)).symm
  · have h0 : hoS r L = 0 := hoS_0 (fun t q => c ⟨t, q⟩)
    rw [h0]
    by_cases c2 : ho r = 0
    · exact c2.symm
    · exact absurd ⟨_, hH.2.1 r hr c2⟩ c
theorem IL.b (hL : IL R lv L) (h60 : R ≤ 60) (hlv : ∀ j, lv j = true → 1 ≤ j ∧ j ≤ R) : ∀ e ∈ L, e.1 ≤ 60 ∧ e.2.1 ≤ 9 ∧ e.2.2 ≤ 99 := by
  intro e he
  obtain ⟨h1, h2, h3, h4⟩ := hL.1 e he
  have := hlv _ h1
  refine ⟨by omega, h2, ?_⟩
  by_cases c : e.2.1 < 4
  · have := h3 c; omega
  · have := h4 (by omega); omega
theorem mHostOf {r : Nat} (hK : 300 ≤ K) (hm : rM τ R lv hs hh cc cm L g mo) (hL : IL R lv L) (hH : IH lv ho L) (h60 : R ≤ 60) (hlv : ∀ j, lv j = true → 1 ≤ j ∧ j ≤ R) (hr : lv r = true) : fM_hostOf K (nI r) τ = some (nI (ho r), τ) := by
  have h200 : L.length ≤ 200 := hL.2.2.1
  have hb := hL.b h60 hlv
  have := hlv _ hr
  unfold fM_hostOf
  rw [← hoS_ho hH hr]
  exact mHost (by omega) (fun e he => ⟨(hb e he).1, (hb e he).2.1⟩) hm.2.2.2.2.2.2.1 h200 L 0 K rfl (by omega) (by omega)
theorem sim_host (hK : 300 ≤ K) (hR : Rel σ τ) (p : Int32) : Sim (fX_host K p σ) (fM_host K p τ) := by
  obtain ⟨R, lv, hs, ho, hh, cc, cm, L, g, mo, hx, hm, hL, hH, hN⟩ := hR
  have hm' := rM_thrown hm 0
  have hr : Rel σ (m_pthrown τ 0) := ⟨R, lv, hs, ho, hh, cc, cm, L, g, mo, hx, hm', hL, hH, hN⟩
  unfold fX_host fM_host
  rw [xLive hx hN.1, mLive hm' hN.1, Option.bind_some, Option.bind_some]
  dsimp only
  by_cases c : liveI R lv p = true
  · obtain ⟨r, r1, r2, rfl, hl⟩ := liveI_t hN.1 c
    have h60 := hN.1
    rw [c, if_neg bT, if_neg bT, if_neg (inN (by omega) (by omega)), nI_clamp (by omega), mHostOf hK hm' hL hH hN.1 hN.2.1 hl, Option.bind_some]
    dsimp only
    rw [hx.2.2.2.1]
    exact ⟨_, _, _, rfl, rfl, hr⟩
  · have c : liveI R lv p = false := by simpa using c
    rw [c, if_pos bF, if_pos bF]
    exact ⟨_, _, _, rfl, rfl, hr⟩
end SC
end
section
/-! broken, orphan, record -/
section BR
variable {σ : XSt} {τ : MSt} {R : Nat} {lv : Nat → Bool} {hs : Nat → Int32} {ho hh cc : Nat → Nat} {cm : Nat → Int32} {L : List Lk} {g : List Nat} {mo : Int32} {K : Nat}
def isBr (lv : Nat → Bool) (e : Lk) : Bool := decide (e.2.1 < 4) && !(lv e.2.2)
def brS (lv : Nat → Bool) (i : Int32) : List Lk → Int32 → Nat → Option Nat
  | [], _, _ => none
  | e :: l, s, k => if isBr lv e = true then (if s = i then some k else brS lv i l (s + 1) (k + 1)) else brS lv i l s (k + 1)
def o2i (o : Option Nat) : Int32 := match o with
  | none => -1
  | some k => nI k
theorem xBrok {i : Int32} (hx : rX σ R lv hs ho cc cm L g mo) (hI : IL R lv L) (h60 : R ≤ 60) : ∀ (l : List Lk) (j n : Nat) (s : Int32), L.drop j = l → j ≤ L.length → l.length < n → gX_findBroken_10 K n i s (nI j) σ = some (o2i (brS lv i l s j), σ) := by
  have hL := hx.2.2.2.2.2.2.1
  have hv := hx.2.1
  have hl : L.length ≤ 200 := hI.2.2.1
  intro l
  induction l with
  | nil =>
    intro j n s hd hj hn
    cases n with
    | zero => omega
    | succ n =>
      rw [gX_findBroken_10, hL.1, if_pos (nI_le (dr_nil hd) (by omega))]
      rfl
  | cons e l ih =>
    intro j n s hd hj hn
    cases n with
    | zero => omega
    | succ n =>
      obtain ⟨h1, h2, h3⟩ := dr_cons hd
      obtain ⟨e1, e2, e3⟩ := hL.2 j e h2
      obtain ⟨b1, b2, b3, b4⟩ := hI.1 e (List.mem_of_getElem? h2)
      have hin := inN (r := j) (N := 200) (by omega) (by omega)
      have hcl : (nI j).toNatClampNeg = j := nI_clamp (by omega)
      rw [gX_findBroken_10, hL.1, if_neg (nI_ge h1 (by omega))]
      simp only [if_neg hin]
      have i1 := fun s => ih (j + 1) n s h3 (by omega) (by simp at hn; omega)
      simp only [hcl, e1, e2, e3, nI_1, i1, brS]
      by_cases c1 : e.2.1 < 4
      · have n1 : ¬ (4 : Int32) ≤ nI e.2.1 := nI_ge (b := 4) c1 (by omega)
        obtain ⟨t1, t2⟩ := b3 c1
        rw [if_neg n1, if_neg (inN (by omega) (by omega)), nI_clamp (by omega), hv]
        cases hb : lv e.2.2
        · have q : isBr lv e = true := by simp [isBr, c1, hb]
          rw [if_pos q, if_pos (by simp [hb, b2i])]
          by_cases c3 : s = i <;> simp [c3, o2i]
        · have q : ¬ isBr lv e = true := by simp [isBr, hb]
          rw [if_neg q, if_neg (by simp [hb, b2i])]
      · have n1 : (4 : Int32) ≤ nI e.2.1 := nI_le (a := 4) (by omega) (by omega)
        have q : ¬ isBr lv e = true := by simp [isBr, c1]
        rw [if_pos n1, if_neg q]
theorem mIsBr {j : Nat} {e : Lk} (hm : rM τ R lv hs hh cc cm L g mo) (hI : IL R lv L) (h60 : R ≤ 60) (he : L[j]? = some e) : fM_isBroken K (nI j) τ = some (b2i (isBr lv e), τ) := by
  have hL := hm.2.2.2.2.2.2.1
  have hv := hm.2.1
  have hl : L.length ≤ 200 := hI.2.2.1
  have h1 : j < L.length := (List.getElem?_eq_some_iff.mp he).1
  obtain ⟨e1, e2, e3⟩ := hL.2 j e he
  obtain ⟨b1, b2, b3, b4⟩ := hI.1 e (List.mem_of_getElem? he)
  have hin := inN (r := j) (N := 200) (by omega) (by omega)
  have hcl : (nI j).toNatClampNeg = j := nI_clamp (by omega)
  unfold fM_isBroken
  simp only [if_neg hin]
  simp only [hcl, e1, e2, e3]
  by_cases c1 : e.2.1 < 4
  · have n1 : ¬ (4 : Int32) ≤ nI e.2.1 := nI_ge (b := 4) c1 (by omega)
    obtain ⟨t1, t2⟩ := b3 c1
    rw [if_neg n1, if_neg (inN (by omega) (by omega)), nI_clamp (by omega), hv]
    cases hb : lv e.2.2
    · simp [isBr, c1, hb, b2i]
    · simp [isBr, hb, b2i]
  · have n1 : (4 : Int32) ≤ nI e.2.1 := nI_le (a := 4) (by omega) (by omega)
    rw [if_pos n1]
    simp [isBr, c1, b2i]
theorem mBrok {i : Int32} (hi0 : ¬ i < 0) (hm : rM τ R lv hs hh cc cm L g mo) (hI : IL R lv L) (h60 : R ≤ 60) : ∀ (l : List Lk) (j n : Nat) (s : Int32), L.drop j = l → j ≤ L.length → l.length < n → gM_brokenAt_4 K n i s (nI j) τ = some (o2i (brS lv i l s j), τ) := by
  have hL := hm.2.2.2.2.2.2.1
  have hl : L.length ≤ 200 := hI.2.2.1
  intro l
  induction l with
  | nil =>
    intro j n s hd hj hn
    cases n with
    | zero => omega
    | succ n =>
      rw [gM_brokenAt_4, hL.1, if_pos (nI_le (dr_nil hd) (by omega))]
      rfl
  | cons e l ih =>
    intro j n s hd hj hn
    cases n with
    | zero => omega
    | succ n =>
      obtain ⟨h1, h2, h3⟩ := dr_cons hd
      have i1 := fun s => ih (j + 1) n s h3 (by omega) (by simp at hn; omega)
      rw [gM_brokenAt_4, hL.1, if_neg (nI_ge h1 (by omega)), if_neg hi0, mIsBr hm hI h60 h2, Option.bind_some]
      simp only [nI_1, i1, brS]
      cases hb : isBr lv e
      · simp [b2i]
      · by_cases c3 : s = i <;> simp [c3, o2i, b2i]
theorem brS_some {i : Int32} : ∀ {l : List Lk} {s : Int32} {j k : Nat}, brS lv i l s j = some k → ∃ e, j ≤ k ∧ l[k - j]? = some e ∧ isBr lv e = true := by
  intro l
  induction l with
  | nil => intro s j k h; simp [brS] at h
  | cons e l ih =>
    intro s j k h
    unfold brS at h
    have up : ∀ {s : Int32}, brS lv i l s (j + 1) = some k → ∃ e', j ≤ k ∧ (e :: l)[k - j]? = some e' ∧ isBr lv e' = true := by
      intro s h
      obtain ⟨e', q1, q2, q3⟩ := ih h
      refine ⟨e', by omega, ?_, q3⟩
      rw [show k - j = (k - (j + 1)) + 1 by omega, List.getElem?_cons_succ]
      exact q2
    by_cases c : isBr lv e = true
    · rw [if_pos c] at h
      by_cases c2 : s = i
      · rw [if_pos c2] at h
        cases h
        exact ⟨e, Nat.le_refl _, by rw [Nat.sub_self]; rfl, c⟩
      · rw [if_neg c2] at h
        exact up h
    · rw [if_neg c] at h
      exact up h
theorem xFindB {i : Int32} (hK : 300 ≤ K) (hx : rX σ R lv hs ho cc cm L g mo) (hI : IL R lv L) (h60 : R ≤ 60) : fX_findBroken K i σ = some (o2i (if i < 0 then none else brS lv i L 0 0), σ) := by
  have hl : L.length ≤ 200 := hI.2.2.1
  unfold fX_findBroken
  by_cases c : i < 0
  · rw [if_neg (Int32.not_le.mpr c), if_pos c]; rfl
  · rw [if_pos (Int32.not_lt.mp c), if_neg c]
    exact xBrok hx hI h60 L 0 K 0 rfl (by omega) (by omega)
theorem mBrokenAt {i : Int32} (hK : 300 ≤ K) (hm : rM τ R lv hs hh cc cm L g mo) (hI : IL R lv L) (h60 : R ≤ 60) : fM_brokenAt K i τ = some (o2i (if i < 0 then none else brS lv i L 0 0), τ) := by
  have hl : L.length ≤ 200 := hI.2.2.1
  unfold fM_brokenAt
  by_cases c : i < 0
  · rw [if_pos c]
    obtain ⟨K, rfl⟩ : ∃ k, K = k + 1 := ⟨K - 1, by omega⟩
    rw [gM_brokenAt_4]
    by_cases c2 : m_links τ ≤ 0
    · rw [if_pos c2]; rfl
    · rw [if_neg c2, if_pos c]; rfl
  · rw [if_neg c]
    exact mBrok c hm hI h60 L 0 K 0 rfl (by omega) (by omega)
theorem nI_m1 {k : Nat} (h : k < 2 ^ 31) : ¬ nI k = -1 := by
  intro q
  have := congrArg Int32.toInt q
  rw [nI_toInt h] at this
  have e : (-1 : Int32).toInt = -1 := by decide
  rw [e] at this
  omega
theorem sim_broken (hK : 300 ≤ K) (hR : Rel σ τ) (i w : Int32) : Sim (fX_broken K i w σ) (fM_broken K i w τ) := by
  obtain ⟨R, lv, hs, ho, hh, cc, cm, L, g, mo, hx, hm, hL, hH, hN⟩ := hR
  have hm' := rM_thrown hm 0
  have hr : Rel σ (m_pthrown τ 0) := ⟨R, lv, hs, ho, hh, cc, cm, L, g, mo, hx, hm', hL, hH, hN⟩
  have hl : L.length ≤ 200 := hL.2.2.1
  unfold fX_broken fM_broken
  rw [xFindB hK hx hL hN.1, mBrokenAt hK hm' hL hN.1, Option.bind_some, Option.bind_some]
  dsimp only
  cases hb : (if i < 0 then none else brS lv i L 0 0) with
  | none => exact ⟨_, _, _, rfl, rfl, hr⟩
  | some k =>
    have hb : brS lv i L 0 0 = some k := by
      by_cases c : i < 0
      · rw [if_pos c] at hb; cases hb
      · rw [if_neg c] at hb; exact hb
    obtain ⟨e, -, he, -⟩ := brS_some hb
    rw [Nat.sub_zero] at he
    have hk : k < L.length := (List.getElem?_eq_some_iff.mp he).1
    obtain ⟨a1, a2, a3⟩ := hx.2.2.2.2.2.2.1.2 k e he
    obtain ⟨d1, d2, d3⟩ := hm'.2.2.2.2.2.2.1.2 k e he
    have hin := inN (r := k) (N := 200) (by omega) (by omega)
    have hcl : (nI k).toNatClampNeg = k := nI_clamp (by omega)
    have h1 : ¬ nI k = -1 := nI_m1 (by omega)
    rw [show o2i (some k) = nI k from rfl, if_neg h1, if_neg h1]
    simp only [if_neg hin]
    simp only [hcl, a1, a2, a3, d1, d2, d3]
    by_cases c0 : w = 0
    · rw [if_pos c0, if_pos c0]; exact ⟨_, _, _, rfl, rfl, hr⟩
    · rw [if_neg c0, if_neg c0]
      by_cases c1 : w = 1
      · rw [if_pos c1, if_pos c1]; exact ⟨_, _, _, rfl, rfl, hr⟩
      · rw [if_neg c1, if_neg c1]
        by_cases c2 : w = 2
        · rw [if_pos c2, if_pos c2]; exact ⟨_, _, _, rfl, rfl, hr⟩
        · rw [if_neg c2, if_neg c2]; exact ⟨_, _, _, rfl, rfl, hr⟩
/-- a link at a record -/
def lnk (k : Nat) (e : Lk) : Bool := e.1 == k || (decide (e.2.1 < 4) && e.2.2 == k)
theorem xLinked {k : Nat} (hk : k < 2 ^ 30) (hx : rX σ R lv hs ho cc cm L g mo) (hb : ∀ e ∈ L, e.1 ≤ 60 ∧ e.2.1 ≤ 9 ∧ e.2.2 ≤ 99) (hl : L.length ≤ 200) : ∀ (l : List Lk) (j n : Nat), L.drop j = l → j ≤ L.length → l.length < n → gX_isLinked_2 K n (nI k) (nI j) σ = some (b2i (l.any (lnk k)), σ) := by
  have hL := hx.2.2.2.2.2.2.1
  intro l
  induction l with
  | nil =>
    intro j n hd hj hn
    cases n with
    | zero => omega
    | succ n =>
      rw [gX_isLinked_2, hL.1, if_pos (nI_le (dr_nil hd) (by omega))]
      rfl
  | cons e l ih =>
    intro j n hd hj hn
    cases n with
    | zero => omega
    | succ n =>
      obtain ⟨h1, h2, h3⟩ := dr_cons hd
      obtain ⟨e1, e2, e3⟩ := hL.2 j e h2
      obtain ⟨b1, b2, b3⟩ := hb e (List.mem_of_getElem? h2)
      have hin := inN (r := j) (N := 200) (by omega) (by omega)
      have hcl : (nI j).toNatClampNeg = j := nI_clamp (by omega)
      rw [gX_isLinked_2, hL.1, if_neg (nI_ge h1 (by omega))]
      simp only [if_neg hin]
      have i1 := ih (j + 1) n h3 (by omega) (by simp at hn; omega)
      have q1 : nI e.1 = nI k ↔ e.1 = k := nI_eq (by omega) (by omega)
      have q2 : nI e.2.2 = nI k ↔ e.2.2 = k := nI_eq (by omega) (by omega)
      have q3 : (4 : Int32) ≤ nI e.2.1 ↔ 4 ≤ e.2.1 := nI_leI (a := 4) (by omega) (by omega)
      simp only [hcl, e1, e2, e3, nI_1, i1, q1, q2, q3]
      rw [List.any_cons]
      by_cases c1 : e.1 = k
      · have q : lnk k e = true := by simp [lnk, c1]
        rw [q, Bool.true_or, b2i_t]
        by_cases c2 : 4 ≤ e.2.1
        · rw [if_pos c2, if_pos c1]
        · rw [if_neg c2]
          by_cases c3 : e.2.2 = k
          · rw [if_pos c3]
          · rw [if_neg c3, if_pos c1]
      · by_cases c2 : 4 ≤ e.2.1
        · have c2' : ¬ e.2.1 < 4 := by omega
          have q : lnk k e = false := by simp [lnk, c1]; omega
          rw [q, Bool.false_or, if_pos c2, if_neg c1]
        · have c2' : e.2.1 < 4 := by omega
          rw [if_neg c2]
          by_cases c3 : e.2.2 = k
          · have q : lnk k e = true := by simp [lnk, c3]; omega
            rw [q, Bool.true_or, b2i_t, if_pos c3]
          · have q : lnk k e = false := by simp [lnk, c1, c3]
            rw [q, Bool.false_or, if_neg c3, if_neg c1]
/-- the i-th of those with P, from k on, m numbers -/
def orS (P : Nat → Bool) (i : Int32) : Nat → Nat → Int32 → Int32
  | 0, _, _ => 0
  | m + 1, k, s => if P k = true then (if s = i then nI k else orS P i m (k + 1) (s + 1)) else orS P i m (k + 1) s
def isOr (lv : Nat → Bool) (L : List Lk) (k : Nat) : Bool := lv k && !(L.any (lnk k))
theorem xOrph {i : Int32} (hK : 300 ≤ K) (hx : rX σ R lv hs ho cc cm L g mo) (hb : ∀ e ∈ L, e.1 ≤ 60 ∧ e.2.1 ≤ 9 ∧ e.2.2 ≤ 99) (hl : L.length ≤ 200) (h60 : R ≤ 60) : ∀ (m k n : Nat) (s : Int32), 1 ≤ k → k + m = R + 1 → m < n → gX_orphan_10 K n i s (nI k) σ = some (orS (isOr lv L) i m k s, σ) := by
  have hv := hx.2.1
  have hr := hx.1
  intro m
  induction m with
  | zero =>
    intro k n s h1 h2 h3
    cases n with
    | zero => omega
    | succ n =>
      rw [gX_orphan_10, hr, if_pos (nI_lt (by omega) (by omega))]
      rfl
  | succ m ih =>
    intro k n s h1 h2 h3
    cases n with
    | zero => omega
    | succ n =>
      have i1 := fun s => ih (k + 1) n s (by omega) (by omega) (by omega)
      rw [gX_orphan_10, hr, if_neg (nI_nlt (by omega) (by omega)), if_neg (inN (by omega) (by omega)), nI_clamp (by omega), hv]
      have hlk : fX_isLinked K (nI k) σ = some (b2i (L.any (lnk k)), σ) := xLinked (by omega) hx hb hl L 0 K rfl (by omega) (by omega)
      simp only [hlk, Option.bind_some, nI_1, i1, orS]
      cases hb1 : lv k
      · have q : ¬ isOr lv L k = true := by simp [isOr, hb1]
        rw [if_neg q, if_pos bF]
      · cases hb2 : L.any (lnk k)
        · have q : isOr lv L k = true := by simp only [isOr, hb1, hb2]; rfl
          rw [if_pos q, if_neg bT, if_pos bF]
          by_cases c3 : s = i <;> simp [c3]
        · have q : ¬ isOr lv L k = true := by simp only [isOr, hb1, hb2]; decide
          rw [if_neg q, if_neg bT, if_neg bT]
theorem mOrIn {i x2 : Int32} {c : Int32 → Int32 → Int32 → MSt → Option (Int32 × MSt)} {k : Nat} (hk : k < 2 ^ 30) (hm : rM τ R lv hs hh cc cm L g mo) (hb : ∀ e ∈ L, e.1 ≤ 60 ∧ e.2.1 ≤ 9 ∧ e.2.2 ≤ 99) (hl : L.length ≤ 200) : ∀ (l : List Lk) (j n : Nat) (b : Bool), L.drop j = l → j ≤ L.length → l.length < n → gM_orphan_32 K c n i x2 (nI k) (b2i b) (nI j) τ = if (b && !(l.any (lnk k))) = true then (if x2 = i then some (nI k, τ) else c i (x2 + 1) (nI (k + 1)) τ) else c i x2 (nI (k + 1)) τ := by
  have hL := hm.2.2.2.2.2.2.1
  intro l
  induction l with
  | nil =>
    intro j n b hd hj hn
    cases n with
    | zero => omega
    | succ n =>
      rw [gM_orphan_32, hL.1, if_pos (nI_le (dr_nil hd) (by omega)), nI_1]
      cases b <;> simp [b2i]
  | cons e l ih =>
    intro j n b hd hj hn
    cases n with
    | zero => omega
    | succ n =>
      obtain ⟨h1, h2, h3⟩ := dr_cons hd
      obtain ⟨e1, e2, e3⟩ := hL.2 j e h2
      obtain ⟨b1, b2, b3⟩ := hb e (List.mem_of_getElem? h2)
      have hin := inN (r := j) (N := 200) (by omega) (by omega)
      have hcl : (nI j).toNatClampNeg = j := nI_clamp (by omega)
      have i0 := ih (j + 1) n false h3 (by omega) (by simp at hn; omega)
      have i1 := ih (j + 1) n true h3 (by omega) (by simp at hn; omega)
      rw [b2i_f] at i0
      rw [b2i_t] at i1
      rw [gM_orphan_32, hL.1, if_neg (nI_ge h1 (by omega))]
      simp only [if_neg hin]
      have q1 : nI e.1 = nI k ↔ e.1 = k := nI_eq (by omega) (by omega)
      have q2 : nI e.2.2 = nI k ↔ e.2.2 = k := nI_eq (by omega) (by omega)
      have q3 : (3 : Int32) < nI e.2.1 ↔ 3 < e.2.1 := nI_ltI (a := 3) (by omega) (by omega)
      simp only [hcl, e1, e2, e3, nI_1, i0, i1, q1, q2, q3]
      rw [List.any_cons]
      cases b
      · rw [if_pos bF, Bool.false_and, Bool.false_and]
      · rw [if_neg bT]
        by_cases c1 : e.1 = k
        · have q : lnk k e = true := by simp [lnk, c1]
          rw [q, Bool.true_or, if_pos c1]
          rfl
        · rw [if_neg c1]
          by_cases c2 : 3 < e.2.1
          · have q : lnk k e = false := by simp [lnk, c1]; omega
            rw [q, Bool.false_or, if_pos c2]
          · rw [if_neg c2]
            by_cases c3 : e.2.2 = k
            · have q : lnk k e = true := by simp [lnk, c3]; omega
              rw [q, Bool.true_or, if_pos c3]
              rfl
            · have q : lnk k e = false := by simp [lnk, c1, c3]
              rw [q, Bool.false_or, if_neg c3]
theorem mOrph {i : Int32} (hi0 : ¬ i < 0) (hK : 300 ≤ K) (hm : rM τ R lv hs hh cc cm L g mo) (hb : ∀ e ∈ L, e.1 ≤ 60 ∧ e.2.1 ≤ 9 ∧ e.2.2 ≤ 99) (hl : L.length ≤ 200) (h60 : R ≤ 60) : ∀ (m k n : Nat) (s : Int32), 1 ≤ k → k + m = R + 1 → m < n → gM_orphan_9 K n i s (nI k) τ = some (orS (isOr lv L) i m k s, τ) := by
  have hv := hm.2.1
  have hr := hm.1
  intro m
  induction m with
  | zero =>
    intro k n s h1 h2 h3
    cases n with
    | zero => omega
    | succ n =>
      rw [gM_orphan_9, hr, if_pos (nI_lt (by omega) (by omega))]
      rfl
  | succ m ih =>
    intro k n s h1 h2 h3
    cases n with
    | zero => omega
    | succ n =>
      have i1 := fun s => ih (k + 1) n s (by omega) (by omega) (by omega)
      rw [gM_orphan_9, hr, if_neg (nI_nlt (by omega) (by omega)), if_neg hi0, if_neg (inN (by omega) (by omega)), nI_clamp (by omega), hv]
      have hin : gM_orphan_32 K (fun (y0 y1 y2 : Int32) (t : MSt) => gM_orphan_9 K n y0 y1 y2 t) K i s (nI k) (b2i (lv k)) 0 τ = _ := mOrIn (by omega) hm hb hl L 0 K (lv k) rfl (by omega) (by omega)
      rw [hin]
      simp only [i1, orS]
      by_cases q : isOr lv L k = true
      · rw [if_pos (show (lv k && !L.any (lnk k)) = true from q), if_pos q]
        by_cases c3 : s = i <;> simp [c3]
      · rw [if_neg (show ¬ (lv k && !L.any (lnk k)) = true from q), if_neg q]
theorem sim_orphan (hK : 300 ≤ K) (hR : Rel σ τ) (i : Int32) : Sim (fX_orphan K i σ) (fM_orphan K i τ) := by
  obtain ⟨R, lv, hs, ho, hh, cc, cm, L, g, mo, hx, hm, hL, hH, hN⟩ := hR
  have hm' := rM_thrown hm 0
  have hr : Rel σ (m_pthrown τ 0) := ⟨R, lv, hs, ho, hh, cc, cm, L, g, mo, hx, hm', hL, hH, hN⟩
  have hl : L.length ≤ 200 := hL.2.2.1
  have hb := hL.b hN.1 hN.2.1
  have h60 := hN.1
  unfold fX_orphan fM_orphan
  by_cases c : i < 0
  · rw [if_neg (Int32.not_le.mpr c)]
    refine ⟨0, σ, m_pthrown τ 0, rfl, ?_, hr⟩
    obtain ⟨K, rfl⟩ : ∃ k, K = k + 1 := ⟨K - 1, by omega⟩
    rw [gM_orphan_9]
    by_cases c2 : m_records (m_pthrown τ 0) < 1
    · rw [if_pos c2]
    · rw [if_neg c2, if_pos c]
  · rw [if_pos (Int32.not_lt.mp c)]
    exact ⟨_, _, _, xOrph hK hx hb hl h60 R 1 K 0 (by omega) (by omega) (by omega), mOrph c hK hm' hb hl h60 R 1 K 0 (by omega) (by omega) (by omega), hr⟩
end BR
end
section
/-! chains of hosts: chain, move; record -/
theorem Chn_uniq {ho : Nat → Nat} : ∀ {c d : List Nat} {r : Nat}, Chn ho r c → Chn ho r d → c = d := by
  intro c
  induction c with
  | nil =>
    intro d r h1 h2
    cases d with
    | nil => rfl
    | cons y d => obtain ⟨q1, q2, -⟩ := h2; exact absurd (q1.symm.trans h1) q2
  | cons x c ih =>
    intro d r h1 h2
    obtain ⟨p1, p2, p3⟩ := h1
    cases d with
    | nil => exact absurd (p1.symm.trans h2) p2
    | cons y d =>
      obtain ⟨q1, q2, q3⟩ := h2
      have e : x = y := p1.symm.trans q1
      subst e
      rw [ih p3 q3]
theorem Chn_suf {ho : Nat → Nat} {x : Nat} {b : List Nat} : ∀ {a : List Nat} {r : Nat}, Chn ho r (a ++ x :: b) → Chn ho x (x :: b) := by
  intro a
  induction a with
  | nil => intro r h; obtain ⟨h1, h2, h3⟩ := h; exact ⟨rfl, h2, h3⟩
  | cons y a ih => intro r h; exact ih h.2.2
theorem Chn_nodup {ho : Nat → Nat} : ∀ {c : List Nat} {r : Nat}, Chn ho r c → c.Nodup := by
  intro c
  induction c with
  | nil => intro r _; exact List.nodup_nil
  | cons x c ih =>
    intro r h
    refine List.nodup_cons.mpr ⟨fun hx => ?_, ih h.2.2⟩
    obtain ⟨a, b, rfl⟩ := List.append_of_mem hx
    have h1 : Chn ho x (x :: b) := Chn_suf h.2.2
    have h2 : Chn ho x (x :: (a ++ x :: b)) := ⟨rfl, h.2.1, h.2.2⟩
    have e := congrArg List.length (Chn_uniq h1 h2)
    simp at e
    omega
theorem nd_le {α : Type} [BEq α] [LawfulBEq α] : ∀ {l d : List α}, l.Nodup → (∀ x ∈ l, x ∈ d) → l.length ≤ d.length := by
  intro l
  induction l with
  | nil => intro d _ _; exact Nat.zero_le _
  | cons x l ih =>
    intro d h1 h2
    obtain ⟨n1, n2⟩ := List.nodup_cons.mp h1
    have hx := h2 x List.mem_cons_self
    have h3 := ih (d := d.erase x) n2 (fun y hy => (List.mem_erase_of_ne (fun (e : y = x) => n1 (e ▸ hy))).mpr (h2 y (List.mem_cons_of_mem _ hy)))
    rw [List.length_erase_of_mem hx] at h3
    have := List.length_pos_of_mem hx
    simp only [List.length_cons]
    omega
theorem Chn_len {ho : Nat → Nat} {lv : Nat → Bool} {R r : Nat} {c : List Nat} (hR : R ≤ 60) (hlv : ∀ j, lv j = true → 1 ≤ j ∧ j ≤ R) (h : Chn ho r c) (hc : ∀ x ∈ c, lv x = true) : c.length ≤ 60 := by
  have h1 := nd_le (d := List.range' 1 60) (Chn_nodup h) (fun x hx => by
    have := hlv x (hc x hx)
    rw [List.mem_range'_1]
    omega)
  rw [List.length_range'] at h1
  exact h1
section CH
variable {σ : XSt} {τ : MSt} {R : Nat} {lv : Nat → Bool} {hs : Nat → Int32} {ho hh cc : Nat → Nat} {cm : Nat → Int32} {L : List Lk} {g : List Nat} {mo : Int32} {K : Nat}
theorem xLies {p : Int32} {b : Nat} (hb : b < 2 ^ 30) (hx : rX σ R lv hs ho cc cm L g mo) (h60 : R ≤ 60) (hlv : ∀ j, lv j = true → 1 ≤ j ∧ j ≤ R) : ∀ (c : List Nat) (at_ st n : Nat), Chn ho at_ c → (∀ x ∈ c, lv x = true) → st + c.length ≤ 60 → c.length < n → gX_liesIn_10 K n p (nI b) (nI at_) (nI st) σ = some (b2i (decide (b ∈ c)), σ) := by
  have hh := hx.2.2.2.1
  intro c
  induction c with
  | nil =>
    intro at_ st n h1 h2 h3 h4
    cases n with
    | zero => simp at h4
    | succ n =>
      have e : at_ = 0 := h1
      subst e
      simp at h3
      rw [gX_liesIn_10]
      by_cases c1 : (60 : Int32) ≤ nI st
      · rw [if_pos c1]; simp [b2i]
      · rw [if_neg c1, if_pos (show nI 0 = 0 from rfl)]; simp [b2i]
  | cons x c ih =>
    intro at_ st n h1 h2 h3 h4
    cases n with
    | zero => simp at h4
    | succ n =>
      obtain ⟨rfl, p2, p3⟩ := h1
      simp only [List.length_cons] at h3 h4
      have hx1 := hlv at_ (h2 at_ List.mem_cons_self)
      rw [gX_liesIn_10, if_neg (show ¬ (60 : Int32) ≤ nI st from nI_ge (a := st) (b := 60) (by omega) (by omega)), if_neg (nI_ne0 (by omega) (by omega))]
      by_cases c1 : at_ = b
      · subst c1
        rw [if_pos rfl]
        simp [b2i]
      · rw [if_neg (fun q => c1 (nI_inj (by omega) (by omega) q)), if_neg (inN (by omega) (by omega)), nI_clamp (by omega), hh]
        dsimp only
        rw [nI_1, ih (ho at_) (st + 1) n p3 (fun y hy => h2 y (List.mem_cons_of_mem _ hy)) (by omega) (by omega)]
        have e : decide (b ∈ at_ :: c) = decide (b ∈ c) := by
          have : ¬ b = at_ := fun q => c1 q.symm
          simp [this]
        rw [e]
theorem xLiesIn {a b : Nat} {c : List Nat} (hK : 300 ≤ K) (hb : b < 2 ^ 30) (hx : rX σ R lv hs ho cc cm L g mo) (h60 : R ≤ 60) (hlv : ∀ j, lv j = true → 1 ≤ j ∧ j ≤ R) (ha : lv a = true) (hc : Chn ho a c) (hcl : ∀ x ∈ c, lv x = true) (hab : ¬ a = b) : fX_liesIn K (nI a) (nI b) σ = some (b2i (decide (b ∈ c)), σ) := by
  have ha1 := hlv a ha
  unfold fX_liesIn
  rw [if_neg (inN (by omega) (by omega)), nI_clamp (by omega), hx.2.2.2.1]
  cases c with
  | nil => have : a = 0 := hc; omega
  | cons x c =>
    have hlen := Chn_len h60 hlv hc hcl
    obtain ⟨rfl, p2, p3⟩ := hc
    simp only [List.length_cons] at hlen
    have e : decide (b ∈ a :: c) = decide (b ∈ c) := by
      have : ¬ b = a := fun q => hab q.symm
      simp [this]
    rw [e]
    exact xLies hb hx h60 hlv c (ho a) 0 K p3 (fun y hy => hcl y (List.mem_cons_of_mem _ hy)) (by omega) (by omega)
theorem mLies {p : Int32} {b : Nat} (hK : 300 ≤ K) (hb : b < 2 ^ 30) (hb0 : 1 ≤ b) (hm : rM τ R lv hs hh cc cm L g mo) (hL : IL R lv L) (hH : IH lv ho L) (h60 : R ≤ 60) (hlv : ∀ j, lv j = true → 1 ≤ j ∧ j ≤ R) : ∀ (c : List Nat) (at_ n : Nat), Chn ho at_ c → (∀ x ∈ c, lv x = true) → c.length < n → gM_liesIn_2 K n p (nI b) (nI at_) τ = some (b2i (decide (b ∈ c)), τ) := by
  intro c
  induction c with
  | nil =>
    intro at_ n h1 h2 h4
    cases n with
    | zero => simp at h4
    | succ n =>
      have e : at_ = 0 := h1
      subst e
      rw [gM_liesIn_2, if_pos (show nI 0 = 0 from rfl), if_neg (fun q => by have := nI_inj (by omega) (by omega) q; omega)]
      simp [b2i]
  | cons x c ih =>
    intro at_ n h1 h2 h4
    cases n with
    | zero => simp at h4
    | succ n =>
      obtain ⟨rfl, p2, p3⟩ := h1
      simp only [List.length_cons] at h4
      have hx0 := h2 at_ List.mem_cons_self
      have hx1 := hlv at_ hx0
      rw [gM_liesIn_2, if_neg (nI_ne0 (by omega) (by omega))]
      by_cases c1 : at_ = b
      · subst c1
        rw [if_pos rfl, if_pos rfl]
        simp [b2i]
      · rw [if_neg (fun q => c1 (nI_inj (by omega) (by omega) q)), mHostOf hK hm hL hH h60 hlv hx0, Option.bind_some]
        dsimp only
        rw [ih (ho at_) n p3 (fun y hy => h2 y (List.mem_cons_of_mem _ hy)) (by omega)]
        have e : decide (b ∈ at_ :: c) = decide (b ∈ c) := by
          have : ¬ b = at_ := fun q => c1 q.symm
          simp [this]
        rw [e]
theorem mLiesIn {a b : Nat} {c : List Nat} (hK : 300 ≤ K) (hb : b < 2 ^ 30) (hb0 : 1 ≤ b) (hm : rM τ R lv hs hh cc cm L g mo) (hL : IL R lv L) (hH : IH lv ho L) (h60 : R ≤ 60) (hlv : ∀ j, lv j = true → 1 ≤ j ∧ j ≤ R) (hc : Chn ho a c) (hcl : ∀ x ∈ c, lv x = true) : fM_liesIn K (nI a) (nI b) τ = some (b2i (decide (b ∈ c)), τ) := by
  have hlen := Chn_len h60 hlv hc hcl
  unfold fM_liesIn
  exact mLies hK hb hb0 hm hL hH h60 hlv c a K hc hcl (by omega)
theorem xChn {p : Int32} {i : Nat} (hi : i ≤ 60) (hx : rX σ R lv hs ho cc cm L g mo) (h60 : R ≤ 60) (hlv : ∀ j, lv j = true → 1 ≤ j ∧ j ≤ R) (h00 : ho 0 = 0) : ∀ (m at_ st n : Nat) (c : List Nat), Chn ho at_ c → (∀ x ∈ c, lv x = true) → st + m = i → m < n → gX_chain_30 K n p (nI i) (nI at_) (nI st) σ = some (nI (c.getD m 0), σ) := by
  have hh := hx.2.2.2.1
  intro m
  induction m with
  | zero =>
    intro at_ st n c h1 h2 h3 h4
    cases n with
    | zero => omega
    | succ n =>
      rw [gX_chain_30, if_pos (nI_le (by omega) (by omega))]
      cases c with
      | nil => have e : at_ = 0 := h1; subst e; rfl
      | cons x c => obtain ⟨rfl, -⟩ := h1; rfl
  | succ m ih =>
    intro at_ st n c h1 h2 h3 h4
    cases n with
    | zero => omega
    | succ n =>
      rw [gX_chain_30, if_neg (nI_ge (by omega) (by omega)), nI_1]
      cases c with
      | nil =>
        have e : at_ = 0 := h1
        subst e
        rw [if_neg (inN (by omega) (by omega)), nI_clamp (by omega), hh]
        dsimp only
        rw [h00, ih 0 (st + 1) n [] rfl (fun x hx => by simp at hx) (by omega) (by omega)]
        rfl
      | cons x c =>
        obtain ⟨rfl, p2, p3⟩ := h1
        have hx1 := hlv at_ (h2 at_ List.mem_cons_self)
        rw [if_neg (inN (by omega) (by omega)), nI_clamp (by omega), hh]
        dsimp only
        rw [ih (ho at_) (st + 1) n c p3 (fun y hy => h2 y (List.mem_cons_of_mem _ hy)) (by omega) (by omega)]
        rfl
theorem mChn {p : Int32} {i : Nat} (hi : i < 2 ^ 31) (hK : 300 ≤ K) (hm : rM τ R lv hs hh cc cm L g mo) (hL : IL R lv L) (hH : IH lv ho L) (h60 : R ≤ 60) (hlv : ∀ j, lv j = true → 1 ≤ j ∧ j ≤ R) : ∀ (c : List Nat) (at_ st n : Nat), Chn ho at_ c → (∀ x ∈ c, lv x = true) → st ≤ i → c.length < n → gM_chain_28 K n p (nI i) (nI at_) (nI st) τ = some (nI (c.getD (i - st) 0), τ) := by
  intro c
  induction c with
  | nil =>
    intro at_ st n h1 h2 h3 h4
    cases n with
    | zero => simp at h4
    | succ n =>
      have e : at_ = 0 := h1
      subst e
      rw [gM_chain_28, if_pos (show nI 0 = 0 from rfl)]
      simp
  | cons x c ih =>
    intro at_ st n h1 h2 h3 h4
    cases n with
    | zero => simp at h4
    | succ n =>
      obtain ⟨rfl, p2, p3⟩ := h1
      simp only [List.length_cons] at h4
      have hx0 := h2 at_ List.mem_cons_self
      have hx1 := hlv at_ hx0
      rw [gM_chain_28]
      by_cases c1 : i ≤ st
      · rw [if_pos (nI_le c1 (by omega)), show i - st = 0 by omega]
        rfl
      · rw [if_neg (nI_ge (by omega) (by omega)), if_neg (nI_ne0 (by omega) (by omega)), mHostOf hK hm hL hH h60 hlv hx0, Option.bind_some]
        dsimp only
        rw [nI_1, ih (ho at_) (st + 1) n p3 (fun y hy => h2 y (List.mem_cons_of_mem _ hy)) (by omega) (by omega), show i - st = (i - (st + 1)) + 1 by omega]
        rfl
theorem sim_chain (hK : 300 ≤ K) (hR : Rel σ τ) (p i : Int32) : Sim (fX_chain K p i σ) (fM_chain K p i τ) := by
  obtain ⟨R, lv, hs, ho, hh, cc, cm, L, g, mo, hx, hm, hL, hH, hN⟩ := hR
  have hm' := rM_thrown hm 0
  have hr : Rel σ (m_pthrown τ 0) := ⟨R, lv, hs, ho, hh, cc, cm, L, g, mo, hx, hm', hL, hH, hN⟩
  have h60 := hN.1
  have hlv := hN.2.1
  unfold fX_chain fM_chain
  rw [xLive hx hN.1, mLive hm' hN.1, Option.bind_some, Option.bind_some]
  dsimp only
  by_cases c : liveI R lv p = true
  · obtain ⟨r, r1, r2, rfl, hl⟩ := liveI_t hN.1 c
    rw [c, if_neg bT, if_neg bT]
    by_cases c0 : i < 0
    · rw [if_pos c0, if_neg (Int32.not_le.mpr c0)]
      exact ⟨_, _, _, rfl, rfl, hr⟩
    · rw [if_neg c0, if_pos (Int32.not_lt.mp c0), mHostOf hK hm' hL hH h60 hlv hl, Option.bind_some]
      dsimp only
      obtain ⟨j, hj, rfl⟩ := nI_of c0
      obtain ⟨ch, hch, hcl⟩ := hH.2.2 r hl
      cases ch with
      | nil => have : r = 0 := hch; omega
      | cons x ch =>
        have hlen := Chn_len h60 hlv hch hcl
        obtain ⟨rfl, p2, p3⟩ := hch
        simp only [List.length_cons] at hlen
        have hcl' : ∀ y ∈ ch, lv y = true := fun y hy => hcl y (List.mem_cons_of_mem _ hy)
        have em := mChn (τ := m_pthrown τ 0) (p := nI r) (i := j) hj hK hm' hL hH h60 hlv ch (ho r) 0 K p3 hcl' (by omega) (by omega)
        rw [show gM_chain_28 K K (nI r) (nI j) (nI (ho r)) 0 (m_pthrown τ 0) = some (nI (ch.getD j 0), m_pthrown τ 0) from em]
        by_cases c1 : j < 60
        · rw [if_pos (show nI j < 60 from nI_lt (a := j) (b := 60) c1 (by omega)), if_neg (inN (by omega) (by omega)), nI_clamp (by omega), hx.2.2.2.1]
          dsimp only
          exact ⟨_, _, _, xChn (i := j) (by omega) hx h60 hlv hN.2.2.2.1 j (ho r) 0 K ch p3 hcl' (by omega) (by omega), rfl, hr⟩
        · rw [if_neg (show ¬ nI j < 60 from nI_nlt (a := j) (b := 60) (by omega) (by omega))]
          have e : ch.getD j 0 = 0 := by
            rw [List.getD_eq_getElem?_getD, List.getElem?_eq_none (by omega)]
            rfl
          rw [e]
          exact ⟨_, _, _, rfl, rfl, hr⟩
  · have c : liveI R lv p = false := by simpa using c
    rw [c, if_pos bF, if_pos bF]
    exact ⟨_, _, _, rfl, rfl, hr⟩
/-- k lies in r, or is it -/
noncomputable def inC (lv : Nat → Bool) (ho : Nat → Nat) (r k : Nat) : Bool := lv k && @decide (∃ c, Chn ho k c ∧ r ∈ c) (Classical.propDecidable _)
theorem inC_c {r k : Nat} {c : List Nat} (hk : lv k = true) (hc : Chn ho k c) : inC lv ho r k = decide (r ∈ c) := by
  unfold inC
  rw [hk, Bool.true_and]
  by_cases h : r ∈ c
  · rw [decide_eq_true h]
    exact @decide_eq_true _ (Classical.propDecidable _) ⟨c, hc, h⟩
  · rw [decide_eq_false h]
    refine @decide_eq_false _ (Classical.propDecidable _) ?_
    rintro ⟨d, hd, q⟩
    rw [Chn_uniq hd hc] at q
    exact h q
def mvS (P : Nat → Bool) (w : Int32) : Nat → Nat → Int32 → (Nat → Int32) → Int32 × (Nat → Int32)
  | 0, _, c, h => (c, h)
  | m + 1, k, c, h => if P k = true then (if h k = w then mvS P w m (k + 1) c h else mvS P w m (k + 1) (c + 1) (upd h k w)) else mvS P w m (k + 1) c h
theorem upd_id {f : Nat → Int32} {k : Nat} {v : Int32} (h : f k = v) : upd f k v = f := by
  funext j
  by_cases c : j = k
  · subst c; simp [upd, h]
  · simp [upd, c]
theorem xMove {r : Nat} {w : Int32} (hK : 300 ≤ K) (hrl : lv r = true) (hH : IH lv ho L) (h60 : R ≤ 60) (hlv : ∀ j, lv j = true → 1 ≤ j ∧ j ≤ R) : ∀ (m k n : Nat) (c : Int32) (σ : XSt) (hs : Nat → Int32), rX σ R lv hs ho cc cm L g mo → 1 ≤ k → k + m = R + 1 → m < n → ∃ σ', gX_move_35 K n (nI r) w c (nI k) σ = some ((mvS (inC lv ho r) w m k c hs).1, σ') ∧ rX σ' R lv (mvS (inC lv ho r) w m k c hs).2 ho cc cm L g mo := by
  intro m
  induction m with
  | zero =>
    intro k n c σ hs hx h1 h2 h3
    cases n with
    | zero => omega
    | succ n =>
      refine ⟨σ, ?_, hx⟩
      rw [gX_move_35, hx.1, if_pos (nI_lt (by omega) (by omega))]
      rfl
  | succ m ih =>
    intro k n c σ hs hx h1 h2 h3
    cases n with
    | zero => omega
    | succ n =>
      have hr1 := hlv r hrl
      have hin := inN (r := k) (N := 61) (by omega) (by omega)
      have hcl : (nI k).toNatClampNeg = k := nI_clamp (by omega)
      have hh := hx.2.2.1
      have hv := hx.2.1
      have hup : ∀ v, rX (x_phouses σ (upd hs k v)) R lv (upd hs k v) ho cc cm L g mo := by
        intro v
        obtain ⟨a1, a2, a3, a4, a5, a6, a7, a8, a9⟩ := hx
        exact ⟨a1, a2, rfl, a4, a5, a6, a7, a8, a9⟩
      obtain ⟨σ1, i1, j1⟩ := ih (k + 1) n c σ hs hx (by omega) (by omega) (by omega)
      obtain ⟨σ2, i2, j2⟩ := ih (k + 1) n (c + 1) (x_phouses σ (upd hs k w)) (upd hs k w) (hup w) (by omega) (by omega) (by omega)
      rw [gX_move_35, hx.1, if_neg (nI_nlt (by omega) (by omega))]
      simp only [if_neg hin]
      simp only [hcl, hh, hv, nI_1, mvS]
      have step : inC lv ho r k = true → ∃ σ', (if hs k = w then gX_move_35 K n (nI r) w c (nI (k + 1)) σ else gX_move_35 K n (nI r) w (c + 1) (nI (k + 1)) (x_phouses σ (upd hs k w))) = some ((if inC lv ho r k = true then (if hs k = w then mvS (inC lv ho r) w m (k + 1) c hs else mvS (inC lv ho r) w m (k + 1) (c + 1) (upd hs k w)) else mvS (inC lv ho r) w m (k + 1) c hs).1, σ') ∧ rX σ' R lv (if inC lv ho r k = true then (if hs k = w then mvS (inC lv ho r) w m (k + 1) c hs else mvS (inC lv ho r) w m (k + 1) (c + 1) (upd hs k w)) else mvS (inC lv ho r) w m (k + 1) c hs).2 ho cc cm L g mo := by
        intro hq
        rw [if_pos hq]
        by_cases c2 : hs k = w
        · rw [if_pos c2, if_pos c2]
          exact ⟨σ1, i1, j1⟩
        · rw [if_neg c2, if_neg c2]
          exact ⟨σ2, i2, j2⟩
      by_cases c1 : k = r
      · subst c1
        rw [if_pos rfl]
        obtain ⟨ch, hch, hcl⟩ := hH.2.2 k hrl
        have hq : inC lv ho k k = true := by
          rw [inC_c hrl hch]
          cases ch with
          | nil => have : k = 0 := hch; omega
          | cons x ch => obtain ⟨rfl, -⟩ := hch; simp
        exact step hq
      · rw [if_neg (fun q => c1 (nI_inj (by omega) (by omega) q))]
        cases hb : lv k
        · have hq : ¬ inC lv ho r k = true := by simp [inC, hb]
          rw [if_pos bF, if_neg hq]
          exact ⟨σ1, i1, j1⟩
        · obtain ⟨ch, hch, hcl⟩ := hH.2.2 k hb
          have hq := inC_c (r := r) hb hch
          rw [if_neg bT, xLiesIn hK (by omega) hx h60 hlv hb hch hcl c1, Option.bind_some]
          dsimp only
          simp only [hh]
          by_cases c3 : r ∈ ch
          · rw [decide_eq_true c3, if_neg bT]
            exact step (by rw [hq, decide_eq_true c3])
          · rw [decide_eq_false c3, if_pos bF]
            rw [if_neg (show ¬ inC lv ho r k = true by rw [hq, decide_eq_false c3]; decide)]
            exact ⟨σ1, i1, j1⟩
theorem mMove {r : Nat} {w : Int32} (hK : 300 ≤ K) (hrl : lv r = true) (hL : IL R lv L) (hH : IH lv ho L) (h60 : R ≤ 60) (hlv : ∀ j, lv j = true → 1 ≤ j ∧ j ≤ R) : ∀ (m k n : Nat) (c : Int32) (τ : MSt) (hs : Nat → Int32), rM τ R lv hs hh cc cm L g mo → 1 ≤ k → k + m = R + 1 → m < n → ∃ τ', gM_move_40 K n (nI r) w c (nI k) τ = some ((mvS (inC lv ho r) w m k c hs).1, τ') ∧ rM τ' R lv (mvS (inC lv ho r) w m k c hs).2 hh cc cm L g mo := by
  intro m
  induction m with
  | zero =>
    intro k n c τ hs hx h1 h2 h3
    cases n with
    | zero => omega
    | succ n =>
      refine ⟨τ, ?_, hx⟩
      rw [gM_move_40, hx.1, if_pos (nI_lt (by omega) (by omega))]
      rfl
  | succ m ih =>
    intro k n c τ hs hx h1 h2 h3
    cases n with
    | zero => omega
    | succ n =>
      have hr1 := hlv r hrl
      have hin := inN (r := k) (N := 61) (by omega) (by omega)
      have hcl : (nI k).toNatClampNeg = k := nI_clamp (by omega)
      have hhs := hx.2.2.1
      have hv := hx.2.1
      have hup : ∀ v, rM (m_phouses τ (upd hs k v)) R lv (upd hs k v) hh cc cm L g mo := by
        intro v
        obtain ⟨a1, a2, a3, a4, a5, a6, a7, a8, a9⟩ := hx
        exact ⟨a1, a2, rfl, a4, a5, a6, a7, a8, a9⟩
      obtain ⟨σ1, i1, j1⟩ := ih (k + 1) n c τ hs hx (by omega) (by omega) (by omega)
      obtain ⟨σ2, i2, j2⟩ := ih (k + 1) n (c + 1) (m_phouses τ (upd hs k w)) (upd hs k w) (hup w) (by omega) (by omega) (by omega)
      rw [gM_move_40, hx.1, if_neg (nI_nlt (by omega) (by omega))]
      simp only [if_neg hin]
      simp only [hcl, hv, nI_1, mvS]
      cases hb : lv k
      · have hq : ¬ inC lv ho r k = true := by simp [inC, hb]
        rw [if_pos bF, if_neg hq]
        exact ⟨σ1, i1, j1⟩
      · obtain ⟨ch, hch, hcl⟩ := hH.2.2 k hb
        have hq := inC_c (r := r) hb hch
        rw [if_neg bT, mLiesIn hK (by omega) (by omega) hx hL hH h60 hlv hch hcl, Option.bind_some]
        dsimp only
        simp only [hhs]
        by_cases c3 : r ∈ ch
        · rw [decide_eq_true c3, if_neg bT, if_pos (show inC lv ho r k = true by rw [hq, decide_eq_true c3])]
          by_cases c2 : hs k = w
          · rw [if_pos c2, if_pos c2]
            obtain ⟨σ3, i3, j3⟩ := ih (k + 1) n c (m_phouses τ (upd hs k w)) (upd hs k w) (hup w) (by omega) (by omega) (by omega)
            rw [upd_id c2] at i3 j3 ⊢
            rw [Int32.add_zero]
            exact ⟨σ3, i3, j3⟩
          · rw [if_neg c2, if_neg c2]
            exact ⟨σ2, i2, j2⟩
        · rw [decide_eq_false c3, if_pos bF, if_neg (show ¬ inC lv ho r k = true by rw [hq, decide_eq_false c3]; decide)]
          exact ⟨σ1, i1, j1⟩
theorem sim_move (hK : 300 ≤ K) (hR : Rel σ τ) (p w : Int32) : Sim (fX_move K p w σ) (fM_move K p w τ) := by
  obtain ⟨R, lv, hs, ho, hh, cc, cm, L, g, mo, hx, hm, hL, hH, hN⟩ := hR
  have h60 := hN.1
  have hlv := hN.2.1
  unfold fX_move fM_move
  rw [hx.2.2.2.2.2.2.2.2, hm.2.2.2.2.2.2.2.2]
  have hx' := rX_mom hx (mo + 1)
  have hm' := rM_mom hm 0 (mo + 1)
  generalize x_pmoment σ (mo + 1) = σ at hx' ⊢
  generalize m_pmoment (m_pthrown τ 0) (mo + 1) = τ at hm' ⊢
  have hr : Rel σ τ := ⟨R, lv, hs, ho, hh, cc, cm, L, g, mo + 1, hx', hm', hL, hH, hN⟩
  rw [xLive hx' hN.1, mLive hm' hN.1, Option.bind_some, Option.bind_some]
  dsimp only
  by_cases c : liveI R lv p = true
  · obtain ⟨r, r1, r2, rfl, hl⟩ := liveI_t hN.1 c
    rw [c, if_neg bT, if_neg bT]
    by_cases c0 : w < 0
    · rw [if_pos c0, if_pos c0]
      exact ⟨_, _, _, rfl, rfl, hr⟩
    · rw [if_neg c0, if_neg c0]
      by_cases c1 : w ≤ 9
      · rw [if_pos c1, if_pos c1]
        obtain ⟨σ', a1, a2⟩ := xMove (w := w) hK hl hH h60 hlv R 1 K 0 σ hs hx' (by omega) (by omega) (by omega)
        obtain ⟨τ', b1, b2⟩ := mMove (w := w) hK hl hL hH h60 hlv R 1 K 0 τ hs hm' (by omega) (by omega) (by omega)
        exact ⟨_, _, _, a1, b1, R, lv, _, ho, hh, cc, cm, L, g, mo + 1, a2, b2, hL, hH, hN⟩
      · rw [if_neg c1, if_neg c1]
        exact ⟨_, _, _, rfl, rfl, hr⟩
  · have c : liveI R lv p = false := by simpa using c
    rw [c, if_pos bF, if_pos bF]
    exact ⟨_, _, _, rfl, rfl, hr⟩
end CH
end
section
/-! record; notes of changes; the links' arrays under change -/
section NT
variable {σ : XSt} {τ : MSt} {R : Nat} {lv : Nat → Bool} {hs : Nat → Int32} {ho hh cc : Nat → Nat} {cm : Nat → Int32} {L : List Lk} {g : List Nat} {mo : Int32} {K : Nat}
theorem sim_record (hR : Rel σ τ) : Sim (fX_record K σ) (fM_record K τ) := by
  obtain ⟨R, lv, hs, ho, hh, cc, cm, L, g, mo, hx, hm, hL, hH, hN⟩ := hR
  obtain ⟨a1, a2, a3, a4, a5, a6, a7, a8, a9⟩ := hx
  obtain ⟨b1, b2, b3, b4, b5, b6, b7, b8, b9⟩ := hm
  obtain ⟨n1, n2, n3, n4, n5, n6, n7, n8⟩ := hN
  unfold fX_record fM_record
  rw [a1, b1]
  by_cases c : R = 60
  · subst c
    rw [if_neg (by decide), if_pos (by decide)]
    exact ⟨_, _, _, rfl, rfl, 60, lv, hs, ho, hh, cc, cm, L, g, mo, ⟨a1, a2, a3, a4, a5, a6, a7, a8, a9⟩, ⟨b1, b2, b3, b4, b5, b6, b7, b8, b9⟩, hL, hH, n1, n2, n3, n4, n5, n6, n7, n8⟩
  · rw [if_pos (show nI R < 60 from nI_lt (a := R) (b := 60) (by omega) (by omega)), if_neg (show ¬ nI R = 60 from fun q => c (nI_inj (b := 60) (by omega) (by omega) q)), nI_1, if_neg (inN (by omega) (by omega)), if_neg (inN (by omega) (by omega)), nI_clamp (by omega), a2, b2, nar1, show (1 : Int32) = b2i true from rfl, upd_b]
    refine ⟨_, _, _, rfl, rfl, R + 1, up lv (R + 1) true, hs, ho, hh, cc, cm, L, g, mo, ⟨rfl, rfl, a3, a4, a5, a6, a7, a8, a9⟩, ⟨rfl, rfl, b3, b4, b5, b6, b7, b8, b9⟩, ⟨fun e he => ?_, hL.2⟩, ⟨hH.1, fun r hr h0 => ?_, fun r hr => ?_⟩, by omega, fun j hj => ?_, n3, n4, fun j hj => n5 j (by omega), fun j => by have := n6 j; omega, fun j h1 h2 h3 => ?_, n8⟩
    · obtain ⟨q1, q2, q3, q4⟩ := hL.1 e he
      have := n2 _ q1
      refine ⟨by rw [up_n (by omega)]; exact q1, q2, fun h => ?_, q4⟩
      have := q3 h
      omega
    · by_cases c1 : r = R + 1
      · subst c1
        exact absurd (n5 (R + 1) (by omega)) h0
      · rw [up_n c1] at hr
        exact hH.2.1 r hr h0
    · by_cases c1 : r = R + 1
      · subst c1
        refine ⟨[R + 1], ⟨rfl, by omega, ?_⟩, fun x hx => ?_⟩
        · show ho (R + 1) = 0
          exact n5 (R + 1) (by omega)
        · rw [List.mem_singleton.mp hx]; exact up_s
      · rw [up_n c1] at hr
        obtain ⟨ch, q1, q2⟩ := hH.2.2 r hr
        refine ⟨ch, q1, fun x hx => ?_⟩
        have := n2 x (q2 x hx)
        rw [up_n (by omega)]
        exact q2 x hx
    · by_cases c1 : j = R + 1
      · omega
      · rw [up_n c1] at hj
        have := n2 j hj
        omega
    · by_cases c1 : j = R + 1
      · subst c1
        rw [up_s] at h3
        cases h3
      · rw [up_n c1] at h3
        exact n7 j h1 (by omega) h3
/-- is a change of r noted -/
def nC (mo : Int32) (cc : Nat → Nat) (cm : Nat → Int32) (r : Nat) : Bool := decide (cc r < 40) && !(decide (0 < cc r) && decide (cm (40 * r + cc r - 1) = mo))
def ntC (mo : Int32) (cc : Nat → Nat) (cm : Nat → Int32) (r : Nat) : Nat → Nat := if nC mo cc cm r = true then up cc r (cc r + 1) else cc
def ntM (mo : Int32) (cc : Nat → Nat) (cm : Nat → Int32) (r : Nat) : Nat → Int32 := if nC mo cc cm r = true then upd cm (40 * r + cc r) mo else cm
theorem ix1 (r j : Nat) : nI r * 40 + nI j = nI (40 * r + j) := by
  rw [show (40 : Int32) = nI 40 by decide, pk_mul, nI_add, Nat.mul_comm]
theorem ix2 (r j : Nat) : 40 * nI r + nI j = nI (40 * r + j) := by
  rw [show (40 : Int32) = nI 40 by decide, pk_mul, nI_add]
theorem nI_s1 {n : Nat} (h : 0 < n) : nI n - 1 = nI (n - 1) := by
  obtain ⟨k, rfl⟩ : ∃ k, n = k + 1 := ⟨n - 1, by omega⟩
  exact nI_pred k
theorem xNote {r : Nat} (hr : r ≤ 60) (hc : cc r ≤ 40) (hx : rX σ R lv hs ho cc cm L g mo) : ∃ σ', fX_noteChange K (nI r) σ = some (0, σ') ∧ rX σ' R lv hs ho (ntC mo cc cm r) (ntM mo cc cm r) L g mo := by
  obtain ⟨a1, a2, a3, a4, a5, a6, a7, a8, a9⟩ := hx
  have hin := inN (r := r) (N := 61) (by omega) (by omega)
  have hcl : (nI r).toNatClampNeg = r := nI_clamp (by omega)
  unfold fX_noteChange ntC ntM
  simp only [if_neg hin]
  simp only [hcl, a5, a6, a9]
  rw [ix1]
  have q1 : nI (cc r) < (40 : Int32) ↔ cc r < 40 := nI_ltI (b := 40) (by omega) (by omega)
  have q2 : nI (cc r) ≤ 0 ↔ cc r ≤ 0 := nI_leI (b := 0) (by omega) (by omega)
  by_cases c1 : cc r < 40
  · rw [if_pos (q1.mpr c1)]
    have hin2 := inN (r := 40 * r + cc r) (N := 2440) (by omega) (by omega)
    have hw : some ((0 : Int32), x_pchangeMoments (x_pchangeCounts σ (upd (fun j => nI (cc j)) r (nI (cc r) + 1))) (upd cm (nI (40 * r + cc r)).toNatClampNeg mo)) = some (0, x_pchangeMoments (x_pchangeCounts σ (fun j => nI (up cc r (cc r + 1) j))) (upd cm (40 * r + cc r) mo)) := by
      rw [nI_1, upd_nI, nI_clamp (by omega)]
    by_cases c2 : cc r ≤ 0
    · have hq : nC mo cc cm r = true := by simp [nC, c1]; omega
      rw [if_pos (q2.mpr c2), if_neg hin2, hw, if_pos hq, if_pos hq]
      exact ⟨_, rfl, a1, a2, a3, a4, rfl, rfl, a7, a8, a9⟩
    · have hin3 := inN (r := 40 * r + cc r - 1) (N := 2440) (by omega) (by omega)
      rw [if_neg (fun q => c2 (q2.mp q)), nI_s1 (by omega), if_neg hin3, nI_clamp (n := 40 * r + cc r - 1) (by omega)]
      by_cases c3 : cm (40 * r + cc r - 1) = mo
      · have hq : ¬ nC mo cc cm r = true := by simp [nC, c1, c3]; omega
        rw [if_pos c3, if_neg hq, if_neg hq]
        exact ⟨_, rfl, a1, a2, a3, a4, a5, a6, a7, a8, a9⟩
      · have hq : nC mo cc cm r = true := by simp [nC, c1, c3]
        rw [if_neg c3, if_neg hin2, hw, if_pos hq, if_pos hq]
        exact ⟨_, rfl, a1, a2, a3, a4, rfl, rfl, a7, a8, a9⟩
  · have hq : ¬ nC mo cc cm r = true := by simp [nC, c1]
    rw [if_neg (fun q => c1 (q1.mp q)), if_neg hq, if_neg hq]
    exact ⟨_, rfl, a1, a2, a3, a4, a5, a6, a7, a8, a9⟩
theorem mNote {r : Nat} (hr : r ≤ 60) (hc : cc r ≤ 40) (hm : rM τ R lv hs hh cc cm L g mo) : ∃ τ', fM_changed K (nI r) τ = some (0, τ') ∧ rM τ' R lv hs hh (ntC mo cc cm r) (ntM mo cc cm r) L g mo := by
  obtain ⟨a1, a2, a3, a4, a5, a6, a7, a8, a9⟩ := hm
  have hin := inN (r := r) (N := 61) (by omega) (by omega)
  have hcl : (nI r).toNatClampNeg = r := nI_clamp (by omega)
  unfold fM_changed ntC ntM
  simp only [if_neg hin]
  simp only [hcl, a5, a6, a9]
  rw [ix2]
  have q1 : (40 : Int32) ≤ nI (cc r) ↔ 40 ≤ cc r := nI_leI (a := 40) (by omega) (by omega)
  have q3 : ¬ (41 : Int32) ≤ nI (cc r) := nI_ge (b := 41) (by omega) (by omega)
  have q2 : nI (cc r) ≤ 0 ↔ cc r ≤ 0 := nI_leI (b := 0) (by omega) (by omega)
  have hw : cc r < 40 → some ((0 : Int32), m_ptimeCount (m_ptimes τ (upd cm (nI (40 * r + cc r)).toNatClampNeg mo)) (upd (fun j => nI (cc j)) r (nI (cc r) + 1))) = some (0, m_ptimeCount (m_ptimes τ (upd cm (40 * r + cc r) mo)) (fun j => nI (up cc r (cc r + 1) j))) := by
    intro h
    rw [nI_1, upd_nI, nI_clamp (by omega)]
  rw [if_neg q3]
  by_cases c1 : cc r < 40
  · have hin2 := inN (r := 40 * r + cc r) (N := 2440) (by omega) (by omega)
    have n1 : ¬ (40 : Int32) ≤ nI (cc r) := fun q => absurd (q1.mp q) (by omega)
    simp only [if_neg n1, if_neg hin2]
    rw [hw c1]
    by_cases c2 : cc r ≤ 0
    · have hq : nC mo cc cm r = true := by simp [nC, c1]; omega
      rw [if_pos (q2.mpr c2), if_pos hq, if_pos hq]
      exact ⟨_, rfl, a1, a2, a3, a4, rfl, rfl, a7, a8, a9⟩
    · have hin3 := inN (r := 40 * r + cc r - 1) (N := 2440) (by omega) (by omega)
      rw [if_neg (fun q => c2 (q2.mp q)), nI_s1 (by omega), if_neg hin3, nI_clamp (n := 40 * r + cc r - 1) (by omega)]
      by_cases c3 : cm (40 * r + cc r - 1) = mo
      · have hq : ¬ nC mo cc cm r = true := by simp [nC, c1, c3]; omega
        rw [if_pos c3, if_neg hq, if_neg hq]
        exact ⟨_, rfl, a1, a2, a3, a4, a5, a6, a7, a8, a9⟩
      · have hq : nC mo cc cm r = true := by simp [nC, c1, c3]
        rw [if_neg c3, if_pos hq, if_pos hq]
        exact ⟨_, rfl, a1, a2, a3, a4, rfl, rfl, a7, a8, a9⟩
  · have hq : ¬ nC mo cc cm r = true := by simp [nC, c1]
    have n1 : (40 : Int32) ≤ nI (cc r) := q1.mpr (by omega)
    have hin3 := inN (r := 40 * r + cc r - 1) (N := 2440) (by omega) (by omega)
    simp only [if_pos n1]
    rw [if_neg (fun q => absurd (q2.mp q) (by omega)), nI_s1 (by omega), if_neg hin3, if_neg hq, if_neg hq]
    by_cases c3 : cm (nI (40 * r + cc r - 1)).toNatClampNeg = mo
    · rw [if_pos c3]
      exact ⟨_, rfl, a1, a2, a3, a4, a5, a6, a7, a8, a9⟩
    · rw [if_neg c3]
      exact ⟨_, rfl, a1, a2, a3, a4, a5, a6, a7, a8, a9⟩
theorem ntC_le {r : Nat} (hc : ∀ j, cc j ≤ 40) : ∀ j, ntC mo cc cm r j ≤ 40 := by
  intro j
  unfold ntC
  by_cases c : nC mo cc cm r = true
  · rw [if_pos c]
    by_cases q : j = r
    · subst q
      rw [up_s]
      have : cc j < 40 := by
        simp [nC] at c
        exact c.1
      omega
    · rw [up_n q]; exact hc j
  · rw [if_neg c]; exact hc j
-- the links' arrays
theorem LR_app {lf li lt : Nat → Int32} {n : Int32} {f d t : Nat} (h : LR lf li lt n L) : LR (upd lf L.length (nI f)) (upd li L.length (nI d)) (upd lt L.length (nI t)) (nI (L.length + 1)) (L ++ [(f, d, t)]) := by
  refine ⟨by simp, fun k e hk => ?_⟩
  by_cases c : k < L.length
  · rw [List.getElem?_append_left c] at hk
    have hn : k ≠ L.length := by omega
    rw [pk_un hn, pk_un hn, pk_un hn]
    exact h.2 k e hk
  · rw [List.getElem?_append_right (by omega)] at hk
    have hz : k - L.length < 1 := (List.getElem?_eq_some_iff.mp hk).1
    have hk0 : k = L.length := by omega
    subst hk0
    rw [Nat.sub_self] at hk
    cases hk
    rw [pk_us, pk_us, pk_us]
    exact ⟨rfl, rfl, rfl⟩
theorem LR_set {lf li lt : Nat → Int32} {n : Int32} {k t : Nat} {e : Lk} (h : LR lf li lt n L) (he : L[k]? = some e) : LR lf li (upd lt k (nI t)) n (L.set k (e.1, e.2.1, t)) := by
  have hk := (List.getElem?_eq_some_iff.mp he).1
  refine ⟨by rw [List.length_set]; exact h.1, fun j x hj => ?_⟩
  by_cases c : j = k
  · subst c
    rw [List.getElem?_set_self hk] at hj
    cases hj
    obtain ⟨q1, q2, -⟩ := h.2 j e he
    exact ⟨q1, q2, pk_us⟩
  · rw [List.getElem?_set_ne (Ne.symm c)] at hj
    rw [pk_un c]
    exact h.2 j x hj
theorem LR_cpy {lf li lt : Nat → Int32} {n : Int32} {k : Nat} (h : LR lf li lt n L) (hk : k < L.length) : LR (va_cpy lf lf (k + 1) k (L.length - k - 1)) (va_cpy li li (k + 1) k (L.length - k - 1)) (va_cpy lt lt (k + 1) k (L.length - k - 1)) (nI (L.length - 1)) (L.eraseIdx k) := by
  refine ⟨by rw [List.length_eraseIdx_of_lt hk], fun j x hj => ?_⟩
  by_cases c : j < k
  · rw [List.getElem?_eraseIdx_of_lt c] at hj
    rw [pk_cpy_out (Or.inl c), pk_cpy_out (Or.inl c), pk_cpy_out (Or.inl c)]
    exact h.2 j x hj
  · rw [List.getElem?_eraseIdx_of_ge (by omega)] at hj
    have hl := (List.getElem?_eq_some_iff.mp hj).1
    rw [pk_cpy_in (by omega) (by omega), pk_cpy_in (by omega) (by omega), pk_cpy_in (by omega) (by omega), show k + 1 + (j - k) = j + 1 by omega]
    exact h.2 (j + 1) x hj
theorem xRemove {k : Nat} (hk : k < L.length) (hl : L.length ≤ 200) (hx : rX σ R lv hs ho cc cm L g mo) : ∃ σ', fX_removeLink K (nI k) σ = some (0, σ') ∧ rX σ' R lv hs ho cc cm (L.eraseIdx k) g mo := by
  obtain ⟨a1, a2, a3, a4, a5, a6, a7, a8, a9⟩ := hx
  unfold fX_removeLink
  rw [a7.1]
  have e1 : nI L.length - nI k - 1 = nI (L.length - k - 1) := by
    rw [pk_sub (by omega), nI_s1 (by omega)]
  have e2 : nI L.length - 1 = nI (L.length - 1) := nI_s1 (by omega)
  rw [e1, e2, nI_1]
  have hg : ¬ (nI (k + 1) < 0 ∨ nI k < 0 ∨ nI (L.length - k - 1) < 0 ∨ 200 < (nI (k + 1)).toNatClampNeg + (nI (L.length - k - 1)).toNatClampNeg ∨ 200 < (nI k).toNatClampNeg + (nI (L.length - k - 1)).toNatClampNeg) := by
    rw [nI_clamp (n := k + 1) (by omega), nI_clamp (n := k) (by omega), nI_clamp (n := L.length - k - 1) (by omega)]
    rintro (q | q | q | q | q)
    · exact nI_pos (by omega) q
    · exact nI_pos (by omega) q
    · exact nI_pos (by omega) q
    · omega
    · omega
  simp only [if_neg hg]
  rw [nI_clamp (n := k + 1) (by omega), nI_clamp (n := k) (by omega), nI_clamp (n := L.length - k - 1) (by omega)]
  exact ⟨_, rfl, a1, a2, a3, a4, a5, a6, LR_cpy a7 hk, a8, a9⟩
/-- while the reference shifts: below i the new list, from i on the old one -/
def LSh (lf li lt : Nat → Int32) (k i : Nat) (L : List Lk) : Prop := ∀ (j : Nat) (e : Lk), (j < i → (L.eraseIdx k)[j]? = some e → lf j = nI e.1 ∧ li j = nI e.2.1 ∧ lt j = nI e.2.2) ∧ (i ≤ j → L[j]? = some e → lf j = nI e.1 ∧ li j = nI e.2.1 ∧ lt j = nI e.2.2)
theorem mDropL {k : Nat} {p : Int32} (hk : k < L.length) (hl : L.length ≤ 200) : ∀ (m i n : Nat) (τ : MSt), m_records τ = nI R ∧ m_live τ = (fun j => b2i (lv j)) ∧ m_houses τ = hs ∧ m_hadHost τ = (fun j => nI (hh j)) ∧ m_timeCount τ = (fun j => nI (cc j)) ∧ m_times τ = cm ∧ m_links τ = nI (L.length - 1) ∧ RG (m_ring τ) (m_ringLength τ) g ∧ m_moment τ = mo → LSh (m_from τ) (m_field τ) (m_to τ) k i L → k ≤ i → i + m = L.length - 1 → m < n → ∃ τ', gM_drop_12 K n p (nI i) τ = some (0, τ') ∧ rM τ' R lv hs hh cc cm (L.eraseIdx k) g mo := by
  intro m
  induction m with
  | zero =>
    intro i n τ ⟨a1, a2, a3, a4, a5, a6, a7, a8, a9⟩ hS h1 h2 h3
    cases n with
    | zero => omega
    | succ n =>
      rw [gM_drop_12, a7, if_pos (nI_le (by omega) (by omega))]
      refine ⟨τ, rfl, a1, a2, a3, a4, a5, a6, ⟨by rw [a7, List.length_eraseIdx_of_lt hk], fun j e hj => ?_⟩, a8, a9⟩
      have hjl := (List.getElem?_eq_some_iff.mp hj).1
      rw [List.length_eraseIdx_of_lt hk] at hjl
      exact (hS j e).1 (by omega) hj
  | succ m ih =>
    intro i n τ ⟨a1, a2, a3, a4, a5, a6, a7, a8, a9⟩ hS h1 h2 h3
    cases n with
    | zero => omega
    | succ n =>
      have hin := inN (r := i) (N := 200) (by omega) (by omega)
      have hin1 := inN (r := i + 1) (N := 200) (by omega) (by omega)
      rw [gM_drop_12, a7, if_neg (nI_ge (by omega) (by omega)), nI_1]
      simp only [if_neg hin, if_neg hin1]
      rw [nI_clamp (n := i) (by omega), nI_clamp (n := i + 1) (by omega)]
      refine ih (i + 1) n _ ⟨a1, a2, a3, a4, a5, a6, a7, a8, a9⟩ ?_ (by omega) (by omega) (by omega)
      intro j e
      have hi1 : i + 1 < L.length := by omega
      obtain ⟨q1, q2, q3⟩ := (hS (i + 1) L[i + 1]).2 (by omega) (List.getElem?_eq_getElem hi1)
      refine ⟨fun hj hje => ?_, fun hj hje => ?_⟩
      · show upd (m_from τ) i _ j = _ ∧ upd (m_field τ) i _ j = _ ∧ upd (m_to τ) i _ j = _
        by_cases c : j = i
        · subst c
          rw [pk_us, pk_us, pk_us]
          rw [List.getElem?_eraseIdx_of_ge h1, List.getElem?_eq_getElem hi1] at hje
          cases hje
          exact ⟨q1, q2, q3⟩
        · rw [pk_un c, pk_un c, pk_un c]
          exact (hS j e).1 (by omega) hje
      · show upd (m_from τ) i _ j = _ ∧ upd (m_field τ) i _ j = _ ∧ upd (m_to τ) i _ j = _
        have c : j ≠ i := by omega
        rw [pk_un c, pk_un c, pk_un c]
        exact (hS j e).2 (by omega) hje
theorem mDrop {k : Nat} (hK : 300 ≤ K) (hk : k < L.length) (hl : L.length ≤ 200) (hm : rM τ R lv hs hh cc cm L g mo) : ∃ τ', fM_drop K (nI k) τ = some (0, τ') ∧ rM τ' R lv hs hh cc cm (L.eraseIdx k) g mo := by
  obtain ⟨a1, a2, a3, a4, a5, a6, a7, a8, a9⟩ := hm
  unfold fM_drop
  rw [a7.1, nI_s1 (by omega)]
  refine mDropL hk hl (L.length - 1 - k) k K _ ⟨a1, a2, a3, a4, a5, a6, rfl, a8, a9⟩ ?_ (Nat.le_refl _) (by omega) (by omega)
  intro j e
  refine ⟨fun hj hje => ?_, fun hj hje => a7.2 j e hje⟩
  rw [List.getElem?_eraseIdx_of_lt hj] at hje
  exact a7.2 j e hje
end NT
end
