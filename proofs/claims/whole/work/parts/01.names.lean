-- ===== PART A: goes FIRST, ahead of the names: the tables' words, and 'selects' of the private methods out of them =====
/-- a private method of a class that the tables say can be made, by its rows of tables_1 -/
def lw_okq (q : MethodName × Nat) : Prop := (q.1.cls ≠ "java/lang/invoke/MethodHandle" ∧ q.1.cls ≠ "java/lang/invoke/VarHandle") ∧ Cond.instantiable q.1.cls q.2 ∈ tables_1 ∧ Cond.privateMethod q.1 ∈ tables_1 ∧ Cond.instanceMethod q.1 ∈ tables_1
theorem lw_p0 : lw_okq (⟨"HookTrays", "hasTray", "(I)Z"⟩, 5) := ⟨⟨by decide +kernel, by decide +kernel⟩, List.mem_of_getElem? (i := 13) (by decide +kernel), List.mem_of_getElem? (i := 305) (by decide +kernel), List.mem_of_getElem? (i := 306) (by decide +kernel)⟩
theorem lw_p1 : lw_okq (⟨"HookTrays", "placeOnDraft", "(LHookTrays$Tray;I)Z"⟩, 5) := ⟨⟨by decide +kernel, by decide +kernel⟩, List.mem_of_getElem? (i := 13) (by decide +kernel), List.mem_of_getElem? (i := 341) (by decide +kernel), List.mem_of_getElem? (i := 342) (by decide +kernel)⟩
theorem lw_p2 : lw_okq (⟨"HookTrays$Desk", "beginCall", "(I)I"⟩, 5) := ⟨⟨by decide +kernel, by decide +kernel⟩, List.mem_of_getElem? (i := 21) (by decide +kernel), List.mem_of_getElem? (i := 353) (by decide +kernel), List.mem_of_getElem? (i := 354) (by decide +kernel)⟩
theorem lw_p3 : lw_okq (⟨"HookTrays", "keepDraft", "(LHookTrays$Tray;Z)I"⟩, 5) := ⟨⟨by decide +kernel, by decide +kernel⟩, List.mem_of_getElem? (i := 13) (by decide +kernel), List.mem_of_getElem? (i := 396) (by decide +kernel), List.mem_of_getElem? (i := 397) (by decide +kernel)⟩
theorem lw_p4 : lw_okq (⟨"HookTrays", "removeOnDraft", "(LHookTrays$Tray;I)Z"⟩, 5) := ⟨⟨by decide +kernel, by decide +kernel⟩, List.mem_of_getElem? (i := 13) (by decide +kernel), List.mem_of_getElem? (i := 405) (by decide +kernel), List.mem_of_getElem? (i := 406) (by decide +kernel)⟩
theorem lw_p5 : lw_okq (⟨"HookTrays", "sortDraftAnew", "(I)Z"⟩, 5) := ⟨⟨by decide +kernel, by decide +kernel⟩, List.mem_of_getElem? (i := 13) (by decide +kernel), List.mem_of_getElem? (i := 431) (by decide +kernel), List.mem_of_getElem? (i := 432) (by decide +kernel)⟩
theorem lw_p6 : lw_okq (⟨"HookTrays", "judgeOntoDraft", "(LHookTrays$Row;I)Z"⟩, 5) := ⟨⟨by decide +kernel, by decide +kernel⟩, List.mem_of_getElem? (i := 13) (by decide +kernel), List.mem_of_getElem? (i := 447) (by decide +kernel), List.mem_of_getElem? (i := 448) (by decide +kernel)⟩
theorem lw_p7 : lw_okq (⟨"HookTrays$Desk", "numberOf", "(I)I"⟩, 5) := ⟨⟨by decide +kernel, by decide +kernel⟩, List.mem_of_getElem? (i := 21) (by decide +kernel), List.mem_of_getElem? (i := 455) (by decide +kernel), List.mem_of_getElem? (i := 456) (by decide +kernel)⟩
theorem lw_p8 : lw_okq (⟨"HookTrays", "placeAllOnDraft", "(LHookTrays$Tray;LHookTrays$Row;)Z"⟩, 5) := ⟨⟨by decide +kernel, by decide +kernel⟩, List.mem_of_getElem? (i := 13) (by decide +kernel), List.mem_of_getElem? (i := 460) (by decide +kernel), List.mem_of_getElem? (i := 461) (by decide +kernel)⟩
theorem lw_p9 : lw_okq (⟨"HookTrays", "changeCards", "(LHookTrays$Row;I)Z"⟩, 5) := ⟨⟨by decide +kernel, by decide +kernel⟩, List.mem_of_getElem? (i := 13) (by decide +kernel), List.mem_of_getElem? (i := 468) (by decide +kernel), List.mem_of_getElem? (i := 469) (by decide +kernel)⟩
theorem lw_p10 : lw_okq (⟨"HookTrays", "mergeIntoDraft", "(LHookTrays$Row;I)Z"⟩, 5) := ⟨⟨by decide +kernel, by decide +kernel⟩, List.mem_of_getElem? (i := 13) (by decide +kernel), List.mem_of_getElem? (i := 482) (by decide +kernel), List.mem_of_getElem? (i := 483) (by decide +kernel)⟩
theorem lw_p11 : lw_okq (⟨"HookTrays", "isWhole", "(LHookTrays$Tray;)Z"⟩, 5) := ⟨⟨by decide +kernel, by decide +kernel⟩, List.mem_of_getElem? (i := 13) (by decide +kernel), List.mem_of_getElem? (i := 494) (by decide +kernel), List.mem_of_getElem? (i := 495) (by decide +kernel)⟩
theorem lw_p12 : lw_okq (⟨"HookTraysModel", "isCard", "(I)Z"⟩, 29) := ⟨⟨by decide +kernel, by decide +kernel⟩, List.mem_of_getElem? (i := 515) (by decide +kernel), List.mem_of_getElem? (i := 621) (by decide +kernel), List.mem_of_getElem? (i := 622) (by decide +kernel)⟩
theorem lw_p13 : lw_okq (⟨"HookTraysModel", "isHook", "(I)Z"⟩, 29) := ⟨⟨by decide +kernel, by decide +kernel⟩, List.mem_of_getElem? (i := 515) (by decide +kernel), List.mem_of_getElem? (i := 635) (by decide +kernel), List.mem_of_getElem? (i := 636) (by decide +kernel)⟩
theorem lw_p14 : lw_okq (⟨"HookTraysModel", "planOf", "(II)I"⟩, 29) := ⟨⟨by decide +kernel, by decide +kernel⟩, List.mem_of_getElem? (i := 515) (by decide +kernel), List.mem_of_getElem? (i := 641) (by decide +kernel), List.mem_of_getElem? (i := 642) (by decide +kernel)⟩
theorem lw_p15 : lw_okq (⟨"HookTraysModel", "dropPlan", "(I)V"⟩, 29) := ⟨⟨by decide +kernel, by decide +kernel⟩, List.mem_of_getElem? (i := 515) (by decide +kernel), List.mem_of_getElem? (i := 645) (by decide +kernel), List.mem_of_getElem? (i := 646) (by decide +kernel)⟩
def lw_privs_1 : List (MethodName × Nat) := [(⟨"HookTrays", "hasTray", "(I)Z"⟩, 5), (⟨"HookTrays", "placeOnDraft", "(LHookTrays$Tray;I)Z"⟩, 5), (⟨"HookTrays$Desk", "beginCall", "(I)I"⟩, 5), (⟨"HookTrays", "keepDraft", "(LHookTrays$Tray;Z)I"⟩, 5), (⟨"HookTrays", "removeOnDraft", "(LHookTrays$Tray;I)Z"⟩, 5), (⟨"HookTrays", "sortDraftAnew", "(I)Z"⟩, 5), (⟨"HookTrays", "judgeOntoDraft", "(LHookTrays$Row;I)Z"⟩, 5), (⟨"HookTrays$Desk", "numberOf", "(I)I"⟩, 5), (⟨"HookTrays", "placeAllOnDraft", "(LHookTrays$Tray;LHookTrays$Row;)Z"⟩, 5), (⟨"HookTrays", "changeCards", "(LHookTrays$Row;I)Z"⟩, 5), (⟨"HookTrays", "mergeIntoDraft", "(LHookTrays$Row;I)Z"⟩, 5), (⟨"HookTrays", "isWhole", "(LHookTrays$Tray;)Z"⟩, 5), (⟨"HookTraysModel", "isCard", "(I)Z"⟩, 29), (⟨"HookTraysModel", "isHook", "(I)Z"⟩, 29), (⟨"HookTraysModel", "planOf", "(II)I"⟩, 29), (⟨"HookTraysModel", "dropPlan", "(I)V"⟩, 29)]
theorem lw_r1 : ∀ q ∈ lw_privs_1, lw_okq q := List.forall_mem_cons.mpr ⟨lw_p0, List.forall_mem_cons.mpr ⟨lw_p1, List.forall_mem_cons.mpr ⟨lw_p2, List.forall_mem_cons.mpr ⟨lw_p3, List.forall_mem_cons.mpr ⟨lw_p4, List.forall_mem_cons.mpr ⟨lw_p5, List.forall_mem_cons.mpr ⟨lw_p6, List.forall_mem_cons.mpr ⟨lw_p7, List.forall_mem_cons.mpr ⟨lw_p8, List.forall_mem_cons.mpr ⟨lw_p9, List.forall_mem_cons.mpr ⟨lw_p10, List.forall_mem_cons.mpr ⟨lw_p11, List.forall_mem_cons.mpr ⟨lw_p12, List.forall_mem_cons.mpr ⟨lw_p13, List.forall_mem_cons.mpr ⟨lw_p14, List.forall_mem_cons.mpr ⟨lw_p15, fun _ h => absurd h List.not_mem_nil⟩⟩⟩⟩⟩⟩⟩⟩⟩⟩⟩⟩⟩⟩⟩⟩
theorem lw_p16 : lw_okq (⟨"HookTraysModel", "compares", "(I)Z"⟩, 29) := ⟨⟨by decide +kernel, by decide +kernel⟩, List.mem_of_getElem? (i := 515) (by decide +kernel), List.mem_of_getElem? (i := 661) (by decide +kernel), List.mem_of_getElem? (i := 662) (by decide +kernel)⟩
theorem lw_p17 : lw_okq (⟨"HookTraysModel", "isTray", "(I)Z"⟩, 29) := ⟨⟨by decide +kernel, by decide +kernel⟩, List.mem_of_getElem? (i := 515) (by decide +kernel), List.mem_of_getElem? (i := 669) (by decide +kernel), List.mem_of_getElem? (i := 670) (by decide +kernel)⟩
theorem lw_p18 : lw_okq (⟨"HookTraysModel", "beginAct", "()V"⟩, 29) := ⟨⟨by decide +kernel, by decide +kernel⟩, List.mem_of_getElem? (i := 515) (by decide +kernel), List.mem_of_getElem? (i := 673) (by decide +kernel), List.mem_of_getElem? (i := 674) (by decide +kernel)⟩
theorem lw_p19 : lw_okq (⟨"HookTraysModel", "load", "(I)V"⟩, 29) := ⟨⟨by decide +kernel, by decide +kernel⟩, List.mem_of_getElem? (i := 515) (by decide +kernel), List.mem_of_getElem? (i := 677) (by decide +kernel), List.mem_of_getElem? (i := 678) (by decide +kernel)⟩
theorem lw_p20 : lw_okq (⟨"HookTraysModel", "comes", "(III)V"⟩, 29) := ⟨⟨by decide +kernel, by decide +kernel⟩, List.mem_of_getElem? (i := 515) (by decide +kernel), List.mem_of_getElem? (i := 681) (by decide +kernel), List.mem_of_getElem? (i := 682) (by decide +kernel)⟩
theorem lw_p21 : lw_okq (⟨"HookTraysModel", "halving", "(II)I"⟩, 29) := ⟨⟨by decide +kernel, by decide +kernel⟩, List.mem_of_getElem? (i := 515) (by decide +kernel), List.mem_of_getElem? (i := 685) (by decide +kernel), List.mem_of_getElem? (i := 686) (by decide +kernel)⟩
theorem lw_p22 : lw_okq (⟨"HookTraysModel", "isAhead", "(III)Z"⟩, 29) := ⟨⟨by decide +kernel, by decide +kernel⟩, List.mem_of_getElem? (i := 515) (by decide +kernel), List.mem_of_getElem? (i := 689) (by decide +kernel), List.mem_of_getElem? (i := 690) (by decide +kernel)⟩
theorem lw_p23 : lw_okq (⟨"HookTraysModel", "begins", "(I)Z"⟩, 29) := ⟨⟨by decide +kernel, by decide +kernel⟩, List.mem_of_getElem? (i := 515) (by decide +kernel), List.mem_of_getElem? (i := 693) (by decide +kernel), List.mem_of_getElem? (i := 694) (by decide +kernel)⟩
theorem lw_p24 : lw_okq (⟨"HookTraysModel", "truth", "(III)I"⟩, 29) := ⟨⟨by decide +kernel, by decide +kernel⟩, List.mem_of_getElem? (i := 515) (by decide +kernel), List.mem_of_getElem? (i := 697) (by decide +kernel), List.mem_of_getElem? (i := 698) (by decide +kernel)⟩
theorem lw_p25 : lw_okq (⟨"HookTraysModel", "insert", "(II)V"⟩, 29) := ⟨⟨by decide +kernel, by decide +kernel⟩, List.mem_of_getElem? (i := 515) (by decide +kernel), List.mem_of_getElem? (i := 704) (by decide +kernel), List.mem_of_getElem? (i := 705) (by decide +kernel)⟩
theorem lw_p26 : lw_okq (⟨"HookTraysModel", "up", "(II)Z"⟩, 29) := ⟨⟨by decide +kernel, by decide +kernel⟩, List.mem_of_getElem? (i := 515) (by decide +kernel), List.mem_of_getElem? (i := 708) (by decide +kernel), List.mem_of_getElem? (i := 709) (by decide +kernel)⟩
theorem lw_p27 : lw_okq (⟨"HookTraysModel", "turn", "(II)V"⟩, 29) := ⟨⟨by decide +kernel, by decide +kernel⟩, List.mem_of_getElem? (i := 515) (by decide +kernel), List.mem_of_getElem? (i := 712) (by decide +kernel), List.mem_of_getElem? (i := 713) (by decide +kernel)⟩
theorem lw_p28 : lw_okq (⟨"HookTraysModel", "ends", "(I)I"⟩, 29) := ⟨⟨by decide +kernel, by decide +kernel⟩, List.mem_of_getElem? (i := 515) (by decide +kernel), List.mem_of_getElem? (i := 716) (by decide +kernel), List.mem_of_getElem? (i := 717) (by decide +kernel)⟩
theorem lw_p29 : lw_okq (⟨"HookTraysModel", "give", "(I)V"⟩, 29) := ⟨⟨by decide +kernel, by decide +kernel⟩, List.mem_of_getElem? (i := 515) (by decide +kernel), List.mem_of_getElem? (i := 720) (by decide +kernel), List.mem_of_getElem? (i := 721) (by decide +kernel)⟩
theorem lw_p30 : lw_okq (⟨"HookTraysModel", "goes", "(II)V"⟩, 29) := ⟨⟨by decide +kernel, by decide +kernel⟩, List.mem_of_getElem? (i := 515) (by decide +kernel), List.mem_of_getElem? (i := 728) (by decide +kernel), List.mem_of_getElem? (i := 729) (by decide +kernel)⟩
theorem lw_p31 : lw_okq (⟨"HookTraysModel", "remove", "(I)V"⟩, 29) := ⟨⟨by decide +kernel, by decide +kernel⟩, List.mem_of_getElem? (i := 515) (by decide +kernel), List.mem_of_getElem? (i := 732) (by decide +kernel), List.mem_of_getElem? (i := 733) (by decide +kernel)⟩
def lw_privs_2 : List (MethodName × Nat) := [(⟨"HookTraysModel", "compares", "(I)Z"⟩, 29), (⟨"HookTraysModel", "isTray", "(I)Z"⟩, 29), (⟨"HookTraysModel", "beginAct", "()V"⟩, 29), (⟨"HookTraysModel", "load", "(I)V"⟩, 29), (⟨"HookTraysModel", "comes", "(III)V"⟩, 29), (⟨"HookTraysModel", "halving", "(II)I"⟩, 29), (⟨"HookTraysModel", "isAhead", "(III)Z"⟩, 29), (⟨"HookTraysModel", "begins", "(I)Z"⟩, 29), (⟨"HookTraysModel", "truth", "(III)I"⟩, 29), (⟨"HookTraysModel", "insert", "(II)V"⟩, 29), (⟨"HookTraysModel", "up", "(II)Z"⟩, 29), (⟨"HookTraysModel", "turn", "(II)V"⟩, 29), (⟨"HookTraysModel", "ends", "(I)I"⟩, 29), (⟨"HookTraysModel", "give", "(I)V"⟩, 29), (⟨"HookTraysModel", "goes", "(II)V"⟩, 29), (⟨"HookTraysModel", "remove", "(I)V"⟩, 29)]
theorem lw_r2 : ∀ q ∈ lw_privs_2, lw_okq q := List.forall_mem_cons.mpr ⟨lw_p16, List.forall_mem_cons.mpr ⟨lw_p17, List.forall_mem_cons.mpr ⟨lw_p18, List.forall_mem_cons.mpr ⟨lw_p19, List.forall_mem_cons.mpr ⟨lw_p20, List.forall_mem_cons.mpr ⟨lw_p21, List.forall_mem_cons.mpr ⟨lw_p22, List.forall_mem_cons.mpr ⟨lw_p23, List.forall_mem_cons.mpr ⟨lw_p24, List.forall_mem_cons.mpr ⟨lw_p25, List.forall_mem_cons.mpr ⟨lw_p26, List.forall_mem_cons.mpr ⟨lw_p27, List.forall_mem_cons.mpr ⟨lw_p28, List.forall_mem_cons.mpr ⟨lw_p29, List.forall_mem_cons.mpr ⟨lw_p30, List.forall_mem_cons.mpr ⟨lw_p31, fun _ h => absurd h List.not_mem_nil⟩⟩⟩⟩⟩⟩⟩⟩⟩⟩⟩⟩⟩⟩⟩⟩
theorem lw_p32 : lw_okq (⟨"HookTraysModel", "down", "(II)V"⟩, 29) := ⟨⟨by decide +kernel, by decide +kernel⟩, List.mem_of_getElem? (i := 515) (by decide +kernel), List.mem_of_getElem? (i := 736) (by decide +kernel), List.mem_of_getElem? (i := 737) (by decide +kernel)⟩
theorem lw_p33 : lw_okq (⟨"HookTraysModel", "merge", "(IIII)V"⟩, 29) := ⟨⟨by decide +kernel, by decide +kernel⟩, List.mem_of_getElem? (i := 515) (by decide +kernel), List.mem_of_getElem? (i := 752) (by decide +kernel), List.mem_of_getElem? (i := 753) (by decide +kernel)⟩
theorem lw_p34 : lw_okq (⟨"HookTraysModel", "isKept", "(II)Z"⟩, 29) := ⟨⟨by decide +kernel, by decide +kernel⟩, List.mem_of_getElem? (i := 515) (by decide +kernel), List.mem_of_getElem? (i := 760) (by decide +kernel), List.mem_of_getElem? (i := 761) (by decide +kernel)⟩
def lw_privs_3 : List (MethodName × Nat) := [(⟨"HookTraysModel", "down", "(II)V"⟩, 29), (⟨"HookTraysModel", "merge", "(IIII)V"⟩, 29), (⟨"HookTraysModel", "isKept", "(II)Z"⟩, 29)]
theorem lw_r3 : ∀ q ∈ lw_privs_3, lw_okq q := List.forall_mem_cons.mpr ⟨lw_p32, List.forall_mem_cons.mpr ⟨lw_p33, List.forall_mem_cons.mpr ⟨lw_p34, fun _ h => absurd h List.not_mem_nil⟩⟩⟩
def lw_privs : List (MethodName × Nat) := lw_privs_1 ++ (lw_privs_2 ++ (lw_privs_3))
def lw_tbl : List Cond := k2_sels lw_privs ++ tables_1
theorem lw_privs_ok : ∀ q ∈ lw_privs, lw_okq q := by
  show ∀ q ∈ lw_privs_1 ++ (lw_privs_2 ++ (lw_privs_3)), lw_okq q
  exact List.forall_mem_append.mpr ⟨lw_r1, List.forall_mem_append.mpr ⟨lw_r2, lw_r3⟩⟩

def RX0 : String := "HookTrays$Deck"
def TX0 : u_T := fun k => match k with
  | 0 => ("HookTrays$Deck", "weights", "[I", true)
  | 1 => ("HookTrays$Deck", "marks", "[I", true)
  | _ => ("HookTrays$Deck", "size", "I", false)
def tyX0 : Nat → FieldType := fun k => match k with
  | 0 => .array .int
  | 1 => .array .int
  | _ => .int
abbrev wsX00 : List Cond := u_ws RX0 TX0 3
theorem nmX0 : ∀ a, a < 3 → ∀ b, b < 3 → a ≠ b → (TX0 a).2.1 ≠ (TX0 b).2.1 := by decide +kernel
theorem tyX0_ok : ∀ k, k < 3 → parseFieldDescriptor (TX0 k).2.2.1 = some (tyX0 k) := by decide +kernel
abbrev cX0_init : ByteArray := prog_2_method_1_code
def yX0_init : MethodName := ⟨RX0, "<init>", "()V"⟩
abbrev cX0_has : ByteArray := prog_2_method_2_code
def yX0_has : MethodName := ⟨RX0, "has", "(I)Z"⟩
abbrev cX0_add : ByteArray := prog_2_method_3_code
def yX0_add : MethodName := ⟨RX0, "add", "(II)I"⟩
abbrev cX0_weightOf : ByteArray := prog_2_method_4_code
def yX0_weightOf : MethodName := ⟨RX0, "weightOf", "(I)I"⟩
abbrev cX0_markOf : ByteArray := prog_2_method_5_code
def yX0_markOf : MethodName := ⟨RX0, "markOf", "(I)I"⟩
def RX1 : String := "HookTrays$Desk"
def TX1 : u_T := fun k => match k with
  | 0 => ("HookTrays$Desk", "deck", "LHookTrays$Deck;", true)
  | 1 => ("HookTrays$Desk", "plans", "LHookTrays$Plans;", true)
  | 2 => ("HookTrays$Desk", "latest", "LHookTrays$LatestAct;", true)
  | 3 => ("HookTrays$Desk", "hooks", "[LHookTrays$Hook;", true)
  | _ => ("HookTrays$Desk", "hookCount", "I", false)
def tyX1 : Nat → FieldType := fun k => match k with
  | 0 => .object "HookTrays$Deck"
  | 1 => .object "HookTrays$Plans"
  | 2 => .object "HookTrays$LatestAct"
  | 3 => .array (.object "HookTrays$Hook")
  | _ => .int
abbrev wsX10 : List Cond := u_ws RX1 TX1 5
theorem nmX1 : ∀ a, a < 5 → ∀ b, b < 5 → a ≠ b → (TX1 a).2.1 ≠ (TX1 b).2.1 := by decide +kernel
theorem tyX1_ok : ∀ k, k < 5 → parseFieldDescriptor (TX1 k).2.2.1 = some (tyX1 k) := by decide +kernel
abbrev cX1_init : ByteArray := prog_3_method_1_code
def yX1_init : MethodName := ⟨RX1, "<init>", "()V"⟩
abbrev cX1_hasHook : ByteArray := prog_3_method_2_code
def yX1_hasHook : MethodName := ⟨RX1, "hasHook", "(I)Z"⟩
abbrev cX1_addHook : ByteArray := prog_3_method_3_code
def yX1_addHook : MethodName := ⟨RX1, "addHook", "(II)I"⟩
abbrev cX1_kindOf : ByteArray := prog_3_method_4_code
def yX1_kindOf : MethodName := ⟨RX1, "kindOf", "(I)I"⟩
abbrev cX1_compares : ByteArray := prog_3_method_5_code
def yX1_compares : MethodName := ⟨RX1, "compares", "(I)Z"⟩
abbrev cX1_callsOf : ByteArray := prog_3_method_6_code
def yX1_callsOf : MethodName := ⟨RX1, "callsOf", "(I)I"⟩
abbrev cX1_latestCallsOf : ByteArray := prog_3_method_7_code
def yX1_latestCallsOf : MethodName := ⟨RX1, "latestCallsOf", "(I)I"⟩
abbrev cX1_misusesOf : ByteArray := prog_3_method_8_code
def yX1_misusesOf : MethodName := ⟨RX1, "misusesOf", "(I)I"⟩
abbrev cX1_beginAct : ByteArray := prog_3_method_9_code
def yX1_beginAct : MethodName := ⟨RX1, "beginAct", "()V"⟩
abbrev cX1_askComparing : ByteArray := prog_3_method_10_code
def yX1_askComparing : MethodName := ⟨RX1, "askComparing", "(III)I"⟩
abbrev cX1_askKeeping : ByteArray := prog_3_method_11_code
def yX1_askKeeping : MethodName := ⟨RX1, "askKeeping", "(II)I"⟩
abbrev cX1_askAdding : ByteArray := prog_3_method_12_code
def yX1_askAdding : MethodName := ⟨RX1, "askAdding", "(II)I"⟩
abbrev cX1_compareTruly : ByteArray := prog_3_method_13_code
def yX1_compareTruly : MethodName := ⟨RX1, "compareTruly", "(III)I"⟩
abbrev cX1_numberOf : ByteArray := prog_3_method_14_code
def yX1_numberOf : MethodName := ⟨RX1, "numberOf", "(I)I"⟩
abbrev cX1_beginCall : ByteArray := prog_3_method_15_code
def yX1_beginCall : MethodName := ⟨RX1, "beginCall", "(I)I"⟩
def RX2 : String := "HookTrays$Hook"
def TX2 : u_T := fun k => match k with
  | 0 => ("HookTrays$Hook", "kind", "I", false)
  | 1 => ("HookTrays$Hook", "a", "I", false)
  | 2 => ("HookTrays$Hook", "calls", "I", false)
  | 3 => ("HookTrays$Hook", "latestCalls", "I", false)
  | _ => ("HookTrays$Hook", "misuses", "I", false)
def tyX2 : Nat → FieldType := fun k => match k with
  | 0 => .int
  | 1 => .int
  | 2 => .int
  | 3 => .int
  | _ => .int
abbrev wsX20 : List Cond := u_ws RX2 TX2 5
theorem nmX2 : ∀ a, a < 5 → ∀ b, b < 5 → a ≠ b → (TX2 a).2.1 ≠ (TX2 b).2.1 := by decide +kernel
theorem tyX2_ok : ∀ k, k < 5 → parseFieldDescriptor (TX2 k).2.2.1 = some (tyX2 k) := by decide +kernel
abbrev cX2_init : ByteArray := prog_4_method_1_code
def yX2_init : MethodName := ⟨RX2, "<init>", "()V"⟩
abbrev cX2_become : ByteArray := prog_4_method_2_code
def yX2_become : MethodName := ⟨RX2, "become", "(II)V"⟩
def RX3 : String := "HookTrays$LatestAct"
def TX3 : u_T := fun k => match k with
  | 0 => ("HookTrays$LatestAct", "failure", "I", false)
  | 1 => ("HookTrays$LatestAct", "hook", "I", false)
  | 2 => ("HookTrays$LatestAct", "call", "I", false)
  | 3 => ("HookTrays$LatestAct", "handled", "I", false)
  | 4 => ("HookTrays$LatestAct", "actsEver", "I", false)
  | _ => ("HookTrays$LatestAct", "actsThrownAt", "I", false)
def tyX3 : Nat → FieldType := fun k => match k with
  | 0 => .int
  | 1 => .int
  | 2 => .int
  | 3 => .int
  | 4 => .int
  | _ => .int
abbrev wsX30 : List Cond := u_ws RX3 TX3 6
theorem nmX3 : ∀ a, a < 6 → ∀ b, b < 6 → a ≠ b → (TX3 a).2.1 ≠ (TX3 b).2.1 := by decide +kernel
theorem tyX3_ok : ∀ k, k < 6 → parseFieldDescriptor (TX3 k).2.2.1 = some (tyX3 k) := by decide +kernel
abbrev cX3_init : ByteArray := prog_5_method_1_code
def yX3_init : MethodName := ⟨RX3, "<init>", "()V"⟩
abbrev cX3_begin : ByteArray := prog_5_method_2_code
def yX3_begin : MethodName := ⟨RX3, "begin", "()V"⟩
abbrev cX3_fail : ByteArray := prog_5_method_3_code
def yX3_fail : MethodName := ⟨RX3, "fail", "(III)V"⟩
def RX4 : String := "HookTrays$Plans"
def TX4 : u_T := fun k => match k with
  | 0 => ("HookTrays$Plans", "hooks", "[I", true)
  | 1 => ("HookTrays$Plans", "calls", "[I", true)
  | 2 => ("HookTrays$Plans", "effects", "[I", true)
  | _ => ("HookTrays$Plans", "size", "I", false)
def tyX4 : Nat → FieldType := fun k => match k with
  | 0 => .array .int
  | 1 => .array .int
  | 2 => .array .int
  | _ => .int
abbrev wsX40 : List Cond := u_ws RX4 TX4 4
theorem nmX4 : ∀ a, a < 4 → ∀ b, b < 4 → a ≠ b → (TX4 a).2.1 ≠ (TX4 b).2.1 := by decide +kernel
theorem tyX4_ok : ∀ k, k < 4 → parseFieldDescriptor (TX4 k).2.2.1 = some (tyX4 k) := by decide +kernel
abbrev cX4_init : ByteArray := prog_6_method_1_code
def yX4_init : MethodName := ⟨RX4, "<init>", "()V"⟩
abbrev cX4_stand : ByteArray := prog_6_method_2_code
def yX4_stand : MethodName := ⟨RX4, "stand", "(III)I"⟩
abbrev cX4_effectOf : ByteArray := prog_6_method_3_code
def yX4_effectOf : MethodName := ⟨RX4, "effectOf", "(I)I"⟩
abbrev cX4_drop : ByteArray := prog_6_method_4_code
def yX4_drop : MethodName := ⟨RX4, "drop", "(I)V"⟩
abbrev cX4_clear : ByteArray := prog_6_method_5_code
def yX4_clear : MethodName := ⟨RX4, "clear", "()I"⟩
abbrev cX4_standingFor : ByteArray := prog_6_method_6_code
def yX4_standingFor : MethodName := ⟨RX4, "standingFor", "(I)I"⟩
abbrev cX4_indexOf : ByteArray := prog_6_method_7_code
def yX4_indexOf : MethodName := ⟨RX4, "indexOf", "(II)I"⟩
def RX5 : String := "HookTrays$Row"
def TX5 : u_T := fun k => match k with
  | 0 => ("HookTrays$Row", "cards", "[I", true)
  | _ => ("HookTrays$Row", "size", "I", false)
def tyX5 : Nat → FieldType := fun k => match k with
  | 0 => .array .int
  | _ => .int
abbrev wsX50 : List Cond := u_ws RX5 TX5 2
theorem nmX5 : ∀ a, a < 2 → ∀ b, b < 2 → a ≠ b → (TX5 a).2.1 ≠ (TX5 b).2.1 := by decide +kernel
theorem tyX5_ok : ∀ k, k < 2 → parseFieldDescriptor (TX5 k).2.2.1 = some (tyX5 k) := by decide +kernel
abbrev cX5_init : ByteArray := prog_7_method_1_code
def yX5_init : MethodName := ⟨RX5, "<init>", "()V"⟩
abbrev cX5_hasPlace : ByteArray := prog_7_method_2_code
def yX5_hasPlace : MethodName := ⟨RX5, "hasPlace", "(I)Z"⟩
abbrev cX5_cardAt : ByteArray := prog_7_method_3_code
def yX5_cardAt : MethodName := ⟨RX5, "cardAt", "(I)I"⟩
abbrev cX5_isLike : ByteArray := prog_7_method_4_code
def yX5_isLike : MethodName := ⟨RX5, "isLike", "(LHookTrays$Row;)Z"⟩
abbrev cX5_clear : ByteArray := prog_7_method_5_code
def yX5_clear : MethodName := ⟨RX5, "clear", "()V"⟩
abbrev cX5_copy : ByteArray := prog_7_method_6_code
def yX5_copy : MethodName := ⟨RX5, "copy", "(LHookTrays$Row;)V"⟩
abbrev cX5_append : ByteArray := prog_7_method_7_code
def yX5_append : MethodName := ⟨RX5, "append", "(I)V"⟩
abbrev cX5_appendPart : ByteArray := prog_7_method_8_code
def yX5_appendPart : MethodName := ⟨RX5, "appendPart", "(LHookTrays$Row;II)V"⟩
abbrev cX5_replace : ByteArray := prog_7_method_9_code
def yX5_replace : MethodName := ⟨RX5, "replace", "(II)V"⟩
abbrev cX5_swap : ByteArray := prog_7_method_10_code
def yX5_swap : MethodName := ⟨RX5, "swap", "(II)V"⟩
abbrev cX5_insert : ByteArray := prog_7_method_11_code
def yX5_insert : MethodName := ⟨RX5, "insert", "(II)V"⟩
abbrev cX5_remove : ByteArray := prog_7_method_12_code
def yX5_remove : MethodName := ⟨RX5, "remove", "(I)V"⟩
abbrev cX5_placeFor : ByteArray := prog_7_method_13_code
def yX5_placeFor : MethodName := ⟨RX5, "placeFor", "(ILHookTrays$Desk;I)I"⟩
abbrev cX5_rise : ByteArray := prog_7_method_14_code
def yX5_rise : MethodName := ⟨RX5, "rise", "(ILHookTrays$Desk;I)I"⟩
abbrev cX5_sink : ByteArray := prog_7_method_15_code
def yX5_sink : MethodName := ⟨RX5, "sink", "(ILHookTrays$Desk;I)I"⟩
abbrev cX5_appendMerged : ByteArray := prog_7_method_16_code
def yX5_appendMerged : MethodName := ⟨RX5, "appendMerged", "(LHookTrays$Row;IIILHookTrays$Desk;I)Z"⟩
def RX6 : String := "HookTrays$Tray"
def TX6 : u_T := fun k => match k with
  | 0 => ("HookTrays$Tray", "row", "LHookTrays$Row;", true)
  | 1 => ("HookTrays$Tray", "kind", "I", false)
  | _ => ("HookTrays$Tray", "hook", "I", false)
def tyX6 : Nat → FieldType := fun k => match k with
  | 0 => .object "HookTrays$Row"
  | 1 => .int
  | _ => .int
abbrev wsX60 : List Cond := u_ws RX6 TX6 3
theorem nmX6 : ∀ a, a < 3 → ∀ b, b < 3 → a ≠ b → (TX6 a).2.1 ≠ (TX6 b).2.1 := by decide +kernel
theorem tyX6_ok : ∀ k, k < 3 → parseFieldDescriptor (TX6 k).2.2.1 = some (tyX6 k) := by decide +kernel
abbrev cX6_init : ByteArray := prog_8_method_1_code
def yX6_init : MethodName := ⟨RX6, "<init>", "()V"⟩
abbrev cX6_become : ByteArray := prog_8_method_2_code
def yX6_become : MethodName := ⟨RX6, "become", "(II)V"⟩
def RX7 : String := "HookTrays"
def TX7 : u_T := fun k => match k with
  | 0 => ("HookTrays", "desk", "LHookTrays$Desk;", true)
  | 1 => ("HookTrays", "trays", "[LHookTrays$Tray;", true)
  | 2 => ("HookTrays", "trayCount", "I", false)
  | 3 => ("HookTrays", "draft", "LHookTrays$Row;", true)
  | _ => ("HookTrays", "spare", "LHookTrays$Row;", true)
def tyX7 : Nat → FieldType := fun k => match k with
  | 0 => .object "HookTrays$Desk"
  | 1 => .array (.object "HookTrays$Tray")
  | 2 => .int
  | 3 => .object "HookTrays$Row"
  | _ => .object "HookTrays$Row"
abbrev wsX70 : List Cond := u_ws RX7 TX7 5
theorem nmX7 : ∀ a, a < 5 → ∀ b, b < 5 → a ≠ b → (TX7 a).2.1 ≠ (TX7 b).2.1 := by decide +kernel
theorem tyX7_ok : ∀ k, k < 5 → parseFieldDescriptor (TX7 k).2.2.1 = some (tyX7 k) := by decide +kernel
abbrev cX7_init : ByteArray := prog_1_method_1_code
def yX7_init : MethodName := ⟨RX7, "<init>", "()V"⟩
abbrev cX7_card : ByteArray := prog_1_method_2_code
def yX7_card : MethodName := ⟨RX7, "card", "(II)I"⟩
abbrev cX7_told : ByteArray := prog_1_method_3_code
def yX7_told : MethodName := ⟨RX7, "told", "(II)J"⟩
abbrev cX7_hook : ByteArray := prog_1_method_4_code
def yX7_hook : MethodName := ⟨RX7, "hook", "(II)I"⟩
abbrev cX7_plan : ByteArray := prog_1_method_5_code
def yX7_plan : MethodName := ⟨RX7, "plan", "(IIII)I"⟩
abbrev cX7_clearPlans : ByteArray := prog_1_method_6_code
def yX7_clearPlans : MethodName := ⟨RX7, "clearPlans", "()I"⟩
abbrev cX7_about : ByteArray := prog_1_method_7_code
def yX7_about : MethodName := ⟨RX7, "about", "(II)I"⟩
abbrev cX7_tray : ByteArray := prog_1_method_8_code
def yX7_tray : MethodName := ⟨RX7, "tray", "(II)I"⟩
abbrev cX7_put : ByteArray := prog_1_method_9_code
def yX7_put : MethodName := ⟨RX7, "put", "(II)I"⟩
abbrev cX7_take : ByteArray := prog_1_method_10_code
def yX7_take : MethodName := ⟨RX7, "take", "(II)I"⟩
abbrev cX7_first : ByteArray := prog_1_method_11_code
def yX7_first : MethodName := ⟨RX7, "first", "(I)I"⟩
abbrev cX7_find : ByteArray := prog_1_method_12_code
def yX7_find : MethodName := ⟨RX7, "find", "(II)I"⟩
abbrev cX7_sort : ByteArray := prog_1_method_13_code
def yX7_sort : MethodName := ⟨RX7, "sort", "(II)I"⟩
abbrev cX7_filter : ByteArray := prog_1_method_14_code
def yX7_filter : MethodName := ⟨RX7, "filter", "(II)I"⟩
abbrev cX7_change : ByteArray := prog_1_method_15_code
def yX7_change : MethodName := ⟨RX7, "change", "(II)I"⟩
abbrev cX7_all : ByteArray := prog_1_method_16_code
def yX7_all : MethodName := ⟨RX7, "all", "(II)I"⟩
abbrev cX7_at : ByteArray := prog_1_method_17_code
def yX7_at : MethodName := ⟨RX7, "at", "(II)I"⟩
abbrev cX7_whole : ByteArray := prog_1_method_18_code
def yX7_whole : MethodName := ⟨RX7, "whole", "(II)I"⟩
abbrev cX7_same : ByteArray := prog_1_method_19_code
def yX7_same : MethodName := ⟨RX7, "same", "(II)I"⟩
abbrev cX7_thrown : ByteArray := prog_1_method_20_code
def yX7_thrown : MethodName := ⟨RX7, "thrown", "(I)I"⟩
abbrev cX7_count : ByteArray := prog_1_method_21_code
def yX7_count : MethodName := ⟨RX7, "count", "(I)I"⟩
abbrev cX7_isWithin : ByteArray := prog_1_method_22_code
def yX7_isWithin : MethodName := ⟨RX7, "isWithin", "(III)Z"⟩
abbrev cX7_plannedEffect : ByteArray := prog_1_method_23_code
def yX7_plannedEffect : MethodName := ⟨RX7, "plannedEffect", "(II)I"⟩
abbrev cX7_hasTray : ByteArray := prog_1_method_24_code
def yX7_hasTray : MethodName := ⟨RX7, "hasTray", "(I)Z"⟩
abbrev cX7_keepDraft : ByteArray := prog_1_method_25_code
def yX7_keepDraft : MethodName := ⟨RX7, "keepDraft", "(LHookTrays$Tray;Z)I"⟩
abbrev cX7_placeOnDraft : ByteArray := prog_1_method_26_code
def yX7_placeOnDraft : MethodName := ⟨RX7, "placeOnDraft", "(LHookTrays$Tray;I)Z"⟩
abbrev cX7_removeOnDraft : ByteArray := prog_1_method_27_code
def yX7_removeOnDraft : MethodName := ⟨RX7, "removeOnDraft", "(LHookTrays$Tray;I)Z"⟩
abbrev cX7_sortDraftAnew : ByteArray := prog_1_method_28_code
def yX7_sortDraftAnew : MethodName := ⟨RX7, "sortDraftAnew", "(I)Z"⟩
abbrev cX7_judgeOntoDraft : ByteArray := prog_1_method_29_code
def yX7_judgeOntoDraft : MethodName := ⟨RX7, "judgeOntoDraft", "(LHookTrays$Row;I)Z"⟩
abbrev cX7_placeAllOnDraft : ByteArray := prog_1_method_30_code
def yX7_placeAllOnDraft : MethodName := ⟨RX7, "placeAllOnDraft", "(LHookTrays$Tray;LHookTrays$Row;)Z"⟩
abbrev cX7_changeCards : ByteArray := prog_1_method_31_code
def yX7_changeCards : MethodName := ⟨RX7, "changeCards", "(LHookTrays$Row;I)Z"⟩
abbrev cX7_mergeIntoDraft : ByteArray := prog_1_method_32_code
def yX7_mergeIntoDraft : MethodName := ⟨RX7, "mergeIntoDraft", "(LHookTrays$Row;I)Z"⟩
abbrev cX7_isWhole : ByteArray := prog_1_method_33_code
def yX7_isWhole : MethodName := ⟨RX7, "isWhole", "(LHookTrays$Tray;)Z"⟩
def RX8 : String := "HookTraysModel"
def TX8 : u_T := fun k => match k with
  | 0 => ("HookTraysModel", "cards", "I", false)
  | 1 => ("HookTraysModel", "weight", "[I", true)
  | 2 => ("HookTraysModel", "mark", "[I", true)
  | 3 => ("HookTraysModel", "hooks", "I", false)
  | 4 => ("HookTraysModel", "hookKind", "[I", true)
  | 5 => ("HookTraysModel", "hookA", "[I", true)
  | 6 => ("HookTraysModel", "calls", "[I", true)
  | 7 => ("HookTraysModel", "latest", "[I", true)
  | 8 => ("HookTraysModel", "misuses", "[I", true)
  | 9 => ("HookTraysModel", "plans", "I", false)
  | 10 => ("HookTraysModel", "planHook", "[I", true)
  | 11 => ("HookTraysModel", "planCall", "[I", true)
  | 12 => ("HookTraysModel", "planWhat", "[I", true)
  | 13 => ("HookTraysModel", "planF", "[I", true)
  | 14 => ("HookTraysModel", "trays", "I", false)
  | 15 => ("HookTraysModel", "trayKind", "[I", true)
  | 16 => ("HookTraysModel", "trayHook", "[I", true)
  | 17 => ("HookTraysModel", "many", "[I", true)
  | 18 => ("HookTraysModel", "held", "[I", true)
  | 19 => ("HookTraysModel", "acts", "I", false)
  | 20 => ("HookTraysModel", "actsThrown", "I", false)
  | 21 => ("HookTraysModel", "isThrown", "Z", false)
  | 22 => ("HookTraysModel", "thrownBy", "I", false)
  | 23 => ("HookTraysModel", "thrownHook", "I", false)
  | 24 => ("HookTraysModel", "thrownCall", "I", false)
  | 25 => ("HookTraysModel", "done", "I", false)
  | 26 => ("HookTraysModel", "size", "I", false)
  | 27 => ("HookTraysModel", "row", "[I", true)
  | _ => ("HookTraysModel", "other", "[I", true)
def tyX8 : Nat → FieldType := fun k => match k with
  | 0 => .int
  | 1 => .array .int
  | 2 => .array .int
  | 3 => .int
  | 4 => .array .int
  | 5 => .array .int
  | 6 => .array .int
  | 7 => .array .int
  | 8 => .array .int
  | 9 => .int
  | 10 => .array .int
  | 11 => .array .int
  | 12 => .array .int
  | 13 => .array .int
  | 14 => .int
  | 15 => .array .int
  | 16 => .array .int
  | 17 => .array .int
  | 18 => .array .int
  | 19 => .int
  | 20 => .int
  | 21 => .boolean
  | 22 => .int
  | 23 => .int
  | 24 => .int
  | 25 => .int
  | 26 => .int
  | 27 => .array .int
  | _ => .array .int
abbrev wsX80 : List Cond := u_ws RX8 TX8 29
theorem nmX8 : ∀ a, a < 29 → ∀ b, b < 29 → a ≠ b → (TX8 a).2.1 ≠ (TX8 b).2.1 := by decide +kernel
theorem tyX8_ok : ∀ k, k < 29 → parseFieldDescriptor (TX8 k).2.2.1 = some (tyX8 k) := by decide +kernel
abbrev cX8_init : ByteArray := prog_10_method_1_code
def yX8_init : MethodName := ⟨RX8, "<init>", "()V"⟩
abbrev cX8_in : ByteArray := prog_10_method_2_code
def yX8_in : MethodName := ⟨RX8, "in", "(JJJ)Z"⟩
abbrev cX8_isCard : ByteArray := prog_10_method_3_code
def yX8_isCard : MethodName := ⟨RX8, "isCard", "(I)Z"⟩
abbrev cX8_isHook : ByteArray := prog_10_method_4_code
def yX8_isHook : MethodName := ⟨RX8, "isHook", "(I)Z"⟩
abbrev cX8_isTray : ByteArray := prog_10_method_5_code
def yX8_isTray : MethodName := ⟨RX8, "isTray", "(I)Z"⟩
abbrev cX8_compares : ByteArray := prog_10_method_6_code
def yX8_compares : MethodName := ⟨RX8, "compares", "(I)Z"⟩
abbrev cX8_card : ByteArray := prog_10_method_7_code
def yX8_card : MethodName := ⟨RX8, "card", "(II)I"⟩
abbrev cX8_told : ByteArray := prog_10_method_8_code
def yX8_told : MethodName := ⟨RX8, "told", "(II)J"⟩
abbrev cX8_hook : ByteArray := prog_10_method_9_code
def yX8_hook : MethodName := ⟨RX8, "hook", "(II)I"⟩
abbrev cX8_planOf : ByteArray := prog_10_method_10_code
def yX8_planOf : MethodName := ⟨RX8, "planOf", "(II)I"⟩
abbrev cX8_dropPlan : ByteArray := prog_10_method_11_code
def yX8_dropPlan : MethodName := ⟨RX8, "dropPlan", "(I)V"⟩
abbrev cX8_plan : ByteArray := prog_10_method_12_code
def yX8_plan : MethodName := ⟨RX8, "plan", "(IIII)I"⟩
abbrev cX8_clearPlans : ByteArray := prog_10_method_13_code
def yX8_clearPlans : MethodName := ⟨RX8, "clearPlans", "()I"⟩
abbrev cX8_about : ByteArray := prog_10_method_14_code
def yX8_about : MethodName := ⟨RX8, "about", "(II)I"⟩
abbrev cX8_begins : ByteArray := prog_10_method_15_code
def yX8_begins : MethodName := ⟨RX8, "begins", "(I)Z"⟩
abbrev cX8_sign : ByteArray := prog_10_method_16_code
def yX8_sign : MethodName := ⟨RX8, "sign", "(II)I"⟩
abbrev cX8_truth : ByteArray := prog_10_method_17_code
def yX8_truth : MethodName := ⟨RX8, "truth", "(III)I"⟩
abbrev cX8_isAhead : ByteArray := prog_10_method_18_code
def yX8_isAhead : MethodName := ⟨RX8, "isAhead", "(III)Z"⟩
abbrev cX8_tray : ByteArray := prog_10_method_19_code
def yX8_tray : MethodName := ⟨RX8, "tray", "(II)I"⟩
abbrev cX8_beginAct : ByteArray := prog_10_method_20_code
def yX8_beginAct : MethodName := ⟨RX8, "beginAct", "()V"⟩
abbrev cX8_load : ByteArray := prog_10_method_21_code
def yX8_load : MethodName := ⟨RX8, "load", "(I)V"⟩
abbrev cX8_give : ByteArray := prog_10_method_22_code
def yX8_give : MethodName := ⟨RX8, "give", "(I)V"⟩
abbrev cX8_ends : ByteArray := prog_10_method_23_code
def yX8_ends : MethodName := ⟨RX8, "ends", "(I)I"⟩
abbrev cX8_insert : ByteArray := prog_10_method_24_code
def yX8_insert : MethodName := ⟨RX8, "insert", "(II)V"⟩
abbrev cX8_remove : ByteArray := prog_10_method_25_code
def yX8_remove : MethodName := ⟨RX8, "remove", "(I)V"⟩
abbrev cX8_halving : ByteArray := prog_10_method_26_code
def yX8_halving : MethodName := ⟨RX8, "halving", "(II)I"⟩
abbrev cX8_turn : ByteArray := prog_10_method_27_code
def yX8_turn : MethodName := ⟨RX8, "turn", "(II)V"⟩
abbrev cX8_up : ByteArray := prog_10_method_28_code
def yX8_up : MethodName := ⟨RX8, "up", "(II)Z"⟩
abbrev cX8_down : ByteArray := prog_10_method_29_code
def yX8_down : MethodName := ⟨RX8, "down", "(II)V"⟩
abbrev cX8_comes : ByteArray := prog_10_method_30_code
def yX8_comes : MethodName := ⟨RX8, "comes", "(III)V"⟩
abbrev cX8_put : ByteArray := prog_10_method_31_code
def yX8_put : MethodName := ⟨RX8, "put", "(II)I"⟩
abbrev cX8_goes : ByteArray := prog_10_method_32_code
def yX8_goes : MethodName := ⟨RX8, "goes", "(II)V"⟩
abbrev cX8_take : ByteArray := prog_10_method_33_code
def yX8_take : MethodName := ⟨RX8, "take", "(II)I"⟩
abbrev cX8_first : ByteArray := prog_10_method_34_code
def yX8_first : MethodName := ⟨RX8, "first", "(I)I"⟩
abbrev cX8_find : ByteArray := prog_10_method_35_code
def yX8_find : MethodName := ⟨RX8, "find", "(II)I"⟩
abbrev cX8_merge : ByteArray := prog_10_method_36_code
def yX8_merge : MethodName := ⟨RX8, "merge", "(IIII)V"⟩
abbrev cX8_sort : ByteArray := prog_10_method_37_code
def yX8_sort : MethodName := ⟨RX8, "sort", "(II)I"⟩
abbrev cX8_isKept : ByteArray := prog_10_method_38_code
def yX8_isKept : MethodName := ⟨RX8, "isKept", "(II)Z"⟩
abbrev cX8_filter : ByteArray := prog_10_method_39_code
def yX8_filter : MethodName := ⟨RX8, "filter", "(II)I"⟩
abbrev cX8_change : ByteArray := prog_10_method_40_code
def yX8_change : MethodName := ⟨RX8, "change", "(II)I"⟩
abbrev cX8_all : ByteArray := prog_10_method_41_code
def yX8_all : MethodName := ⟨RX8, "all", "(II)I"⟩
abbrev cX8_at : ByteArray := prog_10_method_42_code
def yX8_at : MethodName := ⟨RX8, "at", "(II)I"⟩
abbrev cX8_whole : ByteArray := prog_10_method_43_code
def yX8_whole : MethodName := ⟨RX8, "whole", "(II)I"⟩
abbrev cX8_same : ByteArray := prog_10_method_44_code
def yX8_same : MethodName := ⟨RX8, "same", "(II)I"⟩
abbrev cX8_thrown : ByteArray := prog_10_method_45_code
def yX8_thrown : MethodName := ⟨RX8, "thrown", "(I)I"⟩
abbrev cX8_count : ByteArray := prog_10_method_46_code
def yX8_count : MethodName := ⟨RX8, "count", "(I)I"⟩
def RJ6 : String := "java/lang/Integer"
def TJ6 : u_T := fun k => match k with
  | _ => ("", "", "", false)
def tyJ6 : Nat → FieldType := fun k => match k with
  | _ => .int
abbrev wsJ60 : List Cond := u_ws RJ6 TJ6 0
theorem nmJ6 : ∀ a, a < 0 → ∀ b, b < 0 → a ≠ b → (TJ6 a).2.1 ≠ (TJ6 b).2.1 := by decide +kernel
theorem tyJ6_ok : ∀ k, k < 0 → parseFieldDescriptor (TJ6 k).2.2.1 = some (tyJ6 k) := by decide +kernel
abbrev cJ6_compare_7cf53 : ByteArray := prog_11_method_40_code
def yJ6_compare_7cf53 : MethodName := ⟨RJ6, "compare", "(II)I"⟩
def RJ9 : String := "java/lang/Math"
def TJ9 : u_T := fun k => match k with
  | _ => ("", "", "", false)
def tyJ9 : Nat → FieldType := fun k => match k with
  | _ => .int
abbrev wsJ90 : List Cond := u_ws RJ9 TJ9 0
theorem nmJ9 : ∀ a, a < 0 → ∀ b, b < 0 → a ≠ b → (TJ9 a).2.1 ≠ (TJ9 b).2.1 := by decide +kernel
theorem tyJ9_ok : ∀ k, k < 0 → parseFieldDescriptor (TJ9 k).2.2.1 = some (tyJ9 k) := by decide +kernel
abbrev cJ9_min_7cf53 : ByteArray := prog_12_method_69_code
def yJ9_min_7cf53 : MethodName := ⟨RJ9, "min", "(II)I"⟩
def RL : String := "HookTraysLaw"
abbrev cL_law : ByteArray := code
def yL_law : MethodName := ⟨RL, "law", "([I)Z"⟩
abbrev vwCl : List vw_C := [(RX0, TX0, 3), (RX1, TX1, 5), (RX2, TX2, 5), (RX3, TX3, 6), (RX4, TX4, 4), (RX5, TX5, 2), (RX6, TX6, 3), (RX7, TX7, 5), (RX8, TX8, 29)]
